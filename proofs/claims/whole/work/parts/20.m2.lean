set_option maxRecDepth 20000 in
theorem j_X12_count_j84 {X : FX} {g : WC} {Xo : Nat → va_E} {n : Nat} {kd : Nat → Nat} (C : Cx X g RX12 cX12_count 2) (K : KD n kd) {t : Nat} (ht : kd t = 13) (hR : x_R X = rm 1) {x1 : Int32} {M : Mem} {res : Int32 × Mem} (h : J_X12_count_j84 t x1 M = some res) (B : Bx X g (some .int) 1 n (some (.int res.1)) (ent g Xo kd res.2)) : EW X g (x_s X).heap.size n 2 (ent g Xo kd M) 0 0 84 [(0, .ref (g_N g + t)), (1, .int x1)] [] := by
  rw [J_X12_count_j84] at h
  refine e_aload_n C 0 (dk dX12_count 5 rfl) rfl rfl ?_
  refine gf_X12_told C K ht fl_X12_38 (dk dX12_count 6 rfl) ?_
  refine e_iload_n C 1 (dk dX12_count 7 rfl) rfl rfl ?_
  obtain ⟨v2, hv2, h⟩ := ob h
  refine m_ald C K (kd_X12_told K ht) (dk dX12_count 8 rfl) hv2 ?_
  obtain rfl := Option.some.inj h
  exact e_iret C B (nar1 _) (dk dX12_count 9 rfl)
set_option maxRecDepth 20000 in
theorem j_X12_count_j150 {X : FX} {g : WC} {Xo : Nat → va_E} {n : Nat} {kd : Nat → Nat} (C : Cx X g RX12 cX12_count 2) (K : KD n kd) {t : Nat} (ht : kd t = 13) (hR : x_R X = rm 1) {x1 : Int32} {M : Mem} {res : Int32 × Mem} (h : J_X12_count_j150 t x1 M = some res) (B : Bx X g (some .int) 1 n (some (.int res.1)) (ent g Xo kd res.2)) : EW X g (x_s X).heap.size n 2 (ent g Xo kd M) 0 0 150 [(0, .ref (g_N g + t)), (1, .int x1)] [] := by
  rw [J_X12_count_j150] at h
  refine e_aload_n C 0 (dk dX12_count 47 rfl) rfl rfl ?_
  refine gf_X12_status C K ht fl_X12_65 (dk dX12_count 48 rfl) ?_
  refine e_iload_n C 1 (dk dX12_count 49 rfl) rfl rfl ?_
  refine e_bipush C 13 (dk dX12_count 50 rfl) (by decide) ?_
  refine e_isub C (dk dX12_count 51 rfl) ?_
  obtain ⟨v18, hv18, h⟩ := ob h
  refine m_ald C K (kd_X12_status K ht) (dk dX12_count 52 rfl) hv18 ?_
  obtain rfl := Option.some.inj h
  exact e_iret C B (nar1 _) (dk dX12_count 53 rfl)
set_option maxRecDepth 20000 in
theorem c_X12_count {g : WC} {Xo : Nat → va_E} {n : Nat} {kd : Nat → Nat} (K : KD n kd) {t : Nat} {p0 : Int32} (ht : kd t = 13) {M : Mem} {res : Int32 × Mem} (h : F_X12_count t p0 M = some res) : MC g yX12_count cX12_count 2 (some .int) 1 n [.ref (g_N g + t), .int p0] (ent g Xo kd M) (some (.int res.1)) (ent g Xo kd res.2) := by
  refine MC_of pn_X12 (Nat.le_of_ble_eq_true rfl) (fun X C B => ?_)
  have hR := B.1
  rw [F_X12_count] at h
  refine e_aload_n C 0 (dk dX12_count 0 rfl) rfl rfl ?_
  refine e_iconst C 0 (dk dX12_count 1 rfl) (by decide) ?_
  refine pf_X12_code C K ht fl_X12_156 (dk dX12_count 2 rfl) ?_
  refine e_iload_n C 1 (dk dX12_count 3 rfl) rfl rfl ?_
  by_cases c1 : p0 = 0
  · rw [if_pos c1] at h
    refine e_tsIn C 84 (dk dX12_count 4 rfl) (by rw [c1]; decide) (by rw [c1]; decide) (by rw [c1]; rfl) (by decide) ?_
    exact j_X12_count_j84 C K ht hR h B
  rw [if_neg c1] at h
  by_cases c3 : p0 = 1
  · rw [if_pos c3] at h
    refine e_tsIn C 84 (dk dX12_count 4 rfl) (by rw [c3]; decide) (by rw [c3]; decide) (by rw [c3]; rfl) (by decide) ?_
    exact j_X12_count_j84 C K ht hR h B
  rw [if_neg c3] at h
  by_cases c4 : p0 = 2
  · rw [if_pos c4] at h
    refine e_tsIn C 91 (dk dX12_count 4 rfl) (by rw [c4]; decide) (by rw [c4]; decide) (by rw [c4]; rfl) (by decide) ?_
    refine e_aload_n C 0 (dk dX12_count 10 rfl) rfl rfl ?_
    refine gf_X12_told C K ht fl_X12_38 (dk dX12_count 11 rfl) ?_
    refine e_iconst C 3 (dk dX12_count 12 rfl) (by decide) ?_
    refine m_aldc C K (kd_X12_told K ht) 3 (dk dX12_count 13 rfl) (by decide) (by decide) ?_
    obtain rfl := Option.some.inj h
    exact e_iret C B (nar1 _) (dk dX12_count 14 rfl)
  rw [if_neg c4] at h
  by_cases c5 : p0 = 3
  · rw [if_pos c5] at h
    refine e_tsIn C 98 (dk dX12_count 4 rfl) (by rw [c5]; decide) (by rw [c5]; decide) (by rw [c5]; rfl) (by decide) ?_
    refine e_aload_n C 0 (dk dX12_count 15 rfl) rfl rfl ?_
    refine gf_X12_told C K ht fl_X12_38 (dk dX12_count 16 rfl) ?_
    refine e_iconst C 2 (dk dX12_count 17 rfl) (by decide) ?_
    refine m_aldc C K (kd_X12_told K ht) 2 (dk dX12_count 18 rfl) (by decide) (by decide) ?_
    obtain rfl := Option.some.inj h
    exact e_iret C B (nar1 _) (dk dX12_count 19 rfl)
  rw [if_neg c5] at h
  by_cases c6 : p0 = 4
  · rw [if_pos c6] at h
    refine e_tsIn C 105 (dk dX12_count 4 rfl) (by rw [c6]; decide) (by rw [c6]; decide) (by rw [c6]; rfl) (by decide) ?_
    refine e_aload_n C 0 (dk dX12_count 20 rfl) rfl rfl ?_
    refine gf_X12_night C K ht fl_X12_331 (dk dX12_count 21 rfl) ?_
    obtain rfl := Option.some.inj h
    exact e_iret C B (nar1 _) (dk dX12_count 22 rfl)
  rw [if_neg c6] at h
  by_cases c7 : p0 = 5
  · rw [if_pos c7] at h
    refine e_tsIn C 110 (dk dX12_count 4 rfl) (by rw [c7]; decide) (by rw [c7]; decide) (by rw [c7]; rfl) (by decide) ?_
    refine e_aload_n C 0 (dk dX12_count 23 rfl) rfl rfl ?_
    obtain ⟨q8, hq8, h⟩ := ob h
    refine e_callV (ci := 12) C cal_X12_fogOf im_X12_fogOf se_X12_fogOf ml_X12_348 rfl hR (by decide) (dk dX12_count 24 rfl) (K.1 _ (by rw [ht]; decide)) (ent_o12 ht) (c_X12_fogOf K ht hq8) ⟨Nat.zero_le _, Nat.zero_le _⟩ (Nat.le_of_ble_eq_true rfl) rfl ?_
    obtain rfl := Option.some.inj h
    exact e_iret C B (nar1 _) (dk dX12_count 25 rfl)
  rw [if_neg c7] at h
  by_cases c9 : p0 = 6
  · rw [if_pos c9] at h
    refine e_tsIn C 115 (dk dX12_count 4 rfl) (by rw [c9]; decide) (by rw [c9]; decide) (by rw [c9]; rfl) (by decide) ?_
    refine e_aload_n C 0 (dk dX12_count 26 rfl) rfl rfl ?_
    refine gf_X12_held C K ht fl_X12_153 (dk dX12_count 27 rfl) ?_
    obtain rfl := Option.some.inj h
    exact e_iret C B (nar1 _) (dk dX12_count 28 rfl)
  rw [if_neg c9] at h
  by_cases c10 : p0 = 7
  · rw [if_pos c10] at h
    refine e_tsIn C 120 (dk dX12_count 4 rfl) (by rw [c10]; decide) (by rw [c10]; decide) (by rw [c10]; rfl) (by decide) ?_
    refine e_aload_n C 0 (dk dX12_count 29 rfl) rfl rfl ?_
    refine gf_X12_darkness C K ht fl_X12_333 (dk dX12_count 30 rfl) ?_
    obtain rfl := Option.some.inj h
    exact e_iret C B (nar1 _) (dk dX12_count 31 rfl)
  rw [if_neg c10] at h
  by_cases c11 : p0 = 8
  · rw [if_pos c11] at h
    refine e_tsIn C 125 (dk dX12_count 4 rfl) (by rw [c11]; decide) (by rw [c11]; decide) (by rw [c11]; rfl) (by decide) ?_
    refine e_aload_n C 0 (dk dX12_count 32 rfl) rfl rfl ?_
    refine gf_X12_bribing C K ht fl_X12_336 (dk dX12_count 33 rfl) ?_
    obtain rfl := Option.some.inj h
    exact e_iret C B (nar1 _) (dk dX12_count 34 rfl)
  rw [if_neg c11] at h
  by_cases c12 : p0 = 9
  · rw [if_pos c12] at h
    refine e_tsIn C 130 (dk dX12_count 4 rfl) (by rw [c12]; decide) (by rw [c12]; decide) (by rw [c12]; rfl) (by decide) ?_
    refine e_aload_n C 0 (dk dX12_count 35 rfl) rfl rfl ?_
    obtain ⟨q13, hq13, h⟩ := ob h
    refine e_callV (ci := 12) C cal_X12_allCoins im_X12_allCoins se_X12_allCoins ml_X12_393 rfl hR (by decide) (dk dX12_count 36 rfl) (K.1 _ (by rw [ht]; decide)) (ent_o12 ht) (c_X12_allCoins K ht hq13) ⟨Nat.zero_le _, Nat.zero_le _⟩ (Nat.le_of_ble_eq_true rfl) rfl ?_
    obtain rfl := Option.some.inj h
    exact e_iret C B (nar1 _) (dk dX12_count 37 rfl)
  rw [if_neg c12] at h
  by_cases c14 : p0 = 10
  · rw [if_pos c14] at h
    refine e_tsIn C 135 (dk dX12_count 4 rfl) (by rw [c14]; decide) (by rw [c14]; decide) (by rw [c14]; rfl) (by decide) ?_
    refine e_aload_n C 0 (dk dX12_count 38 rfl) rfl rfl ?_
    refine gf_X12_acts C K ht fl_X12_339 (dk dX12_count 39 rfl) ?_
    obtain rfl := Option.some.inj h
    exact e_iret C B (nar1 _) (dk dX12_count 40 rfl)
  rw [if_neg c14] at h
  by_cases c15 : p0 = 11
  · rw [if_pos c15] at h
    refine e_tsIn C 140 (dk dX12_count 4 rfl) (by rw [c15]; decide) (by rw [c15]; decide) (by rw [c15]; rfl) (by decide) ?_
    refine e_aload_n C 0 (dk dX12_count 41 rfl) rfl rfl ?_
    refine gf_X12_tellings C K ht fl_X12_342 (dk dX12_count 42 rfl) ?_
    obtain rfl := Option.some.inj h
    exact e_iret C B (nar1 _) (dk dX12_count 43 rfl)
  rw [if_neg c15] at h
  by_cases c16 : p0 = 12
  · rw [if_pos c16] at h
    refine e_tsIn C 145 (dk dX12_count 4 rfl) (by rw [c16]; decide) (by rw [c16]; decide) (by rw [c16]; rfl) (by decide) ?_
    refine e_aload_n C 0 (dk dX12_count 44 rfl) rfl rfl ?_
    refine gf_X12_taped C K ht fl_X12_163 (dk dX12_count 45 rfl) ?_
    obtain rfl := Option.some.inj h
    exact e_iret C B (nar1 _) (dk dX12_count 46 rfl)
  rw [if_neg c16] at h
  by_cases c17 : p0 = 13
  · rw [if_pos c17] at h
    refine e_tsIn C 150 (dk dX12_count 4 rfl) (by rw [c17]; decide) (by rw [c17]; decide) (by rw [c17]; rfl) (by decide) ?_
    exact j_X12_count_j150 C K ht hR h B
  rw [if_neg c17] at h
  by_cases c19 : p0 = 14
  · rw [if_pos c19] at h
    refine e_tsIn C 150 (dk dX12_count 4 rfl) (by rw [c19]; decide) (by rw [c19]; decide) (by rw [c19]; rfl) (by decide) ?_
    exact j_X12_count_j150 C K ht hR h B
  rw [if_neg c19] at h
  by_cases c20 : p0 = 15
  · rw [if_pos c20] at h
    refine e_tsIn C 150 (dk dX12_count 4 rfl) (by rw [c20]; decide) (by rw [c20]; decide) (by rw [c20]; rfl) (by decide) ?_
    exact j_X12_count_j150 C K ht hR h B
  rw [if_neg c20] at h
  refine e_tsOut C 160 (dk dX12_count 4 rfl) (ts_out (0) (15) (by decide) (fun v h1 h2 => ?_)) (by decide) ?_
  · intro o21
    have hv : v = (0 : Int) ∨ v = (1 : Int) ∨ v = (2 : Int) ∨ v = (3 : Int) ∨ v = (4 : Int) ∨ v = (5 : Int) ∨ v = (6 : Int) ∨ v = (7 : Int) ∨ v = (8 : Int) ∨ v = (9 : Int) ∨ v = (10 : Int) ∨ v = (11 : Int) ∨ v = (12 : Int) ∨ v = (13 : Int) ∨ v = (14 : Int) ∨ v = (15 : Int) := by omega
    rcases hv with rfl | rfl | rfl | rfl | rfl | rfl | rfl | rfl | rfl | rfl | rfl | rfl | rfl | rfl | rfl | rfl
    · exact c1 (Int32.toInt_inj.mp (by rw [o21]; rfl))
    · exact c3 (Int32.toInt_inj.mp (by rw [o21]; rfl))
    · exact c4 (Int32.toInt_inj.mp (by rw [o21]; rfl))
    · exact c5 (Int32.toInt_inj.mp (by rw [o21]; rfl))
    · exact c6 (Int32.toInt_inj.mp (by rw [o21]; rfl))
    · exact c7 (Int32.toInt_inj.mp (by rw [o21]; rfl))
    · exact c9 (Int32.toInt_inj.mp (by rw [o21]; rfl))
    · exact c10 (Int32.toInt_inj.mp (by rw [o21]; rfl))
    · exact c11 (Int32.toInt_inj.mp (by rw [o21]; rfl))
    · exact c12 (Int32.toInt_inj.mp (by rw [o21]; rfl))
    · exact c14 (Int32.toInt_inj.mp (by rw [o21]; rfl))
    · exact c15 (Int32.toInt_inj.mp (by rw [o21]; rfl))
    · exact c16 (Int32.toInt_inj.mp (by rw [o21]; rfl))
    · exact c17 (Int32.toInt_inj.mp (by rw [o21]; rfl))
    · exact c19 (Int32.toInt_inj.mp (by rw [o21]; rfl))
    · exact c20 (Int32.toInt_inj.mp (by rw [o21]; rfl))
  refine e_aload_n C 0 (dk dX12_count 54 rfl) rfl rfl ?_
  refine e_iconst C 1 (dk dX12_count 55 rfl) (by decide) ?_
  refine e_callV (ci := 12) C cal_X12_fail im_X12_fail se_X12_fail ml_X12_318 rfl hR (by decide) (dk dX12_count 56 rfl) (K.1 _ (by rw [ht]; decide)) (ent_o12 ht) (c_X12_fail K ht (rfl : F_X12_fail t 1 (up M t 2 0) = _)) ⟨Nat.zero_le _, Nat.zero_le _⟩ (Nat.le_of_ble_eq_true rfl) rfl ?_
  obtain rfl := Option.some.inj h
  exact e_iret C B (nar1 _) (dk dX12_count 57 rfl)
set_option maxRecDepth 20000 in
theorem c_X12_paths {g : WC} {Xo : Nat → va_E} {n : Nat} {kd : Nat → Nat} (K : KD n kd) {t : Nat} {p0 : Int32} (ht : kd t = 13) {M : Mem} {res : Int32 × Mem} (h : F_X12_paths t p0 M = some res) : MC g yX12_paths cX12_paths 2 (some .int) 2 n [.ref (g_N g + t), .int p0] (ent g Xo kd M) (some (.int res.1)) (ent g Xo kd res.2) := by
  refine MC_of pn_X12 (Nat.le_of_ble_eq_true rfl) (fun X C B => ?_)
  have hR := B.1
  rw [F_X12_paths] at h
  refine e_aload_n C 0 (dk dX12_paths 0 rfl) rfl rfl ?_
  refine e_iconst C 0 (dk dX12_paths 1 rfl) (by decide) ?_
  refine pf_X12_code C K ht fl_X12_156 (dk dX12_paths 2 rfl) ?_
  refine e_aload_n C 0 (dk dX12_paths 3 rfl) rfl rfl ?_
  refine e_iload_n C 1 (dk dX12_paths 4 rfl) rfl rfl ?_
  refine e_callV (ci := 12) C cal_X12_isStreet im_X12_isStreet se_X12_isStreet ml_X12_396 rfl hR (by decide) (dk dX12_paths 5 rfl) (K.1 _ (by rw [ht]; decide)) (ent_o12 ht) (c_X12_isStreet K ht (rfl : F_X12_isStreet t p0 (up M t 2 0) = _)) ⟨Nat.zero_le _, Nat.zero_le _⟩ (Nat.le_of_ble_eq_true rfl) rfl ?_
  refine e_if_eq C 22 (dk dX12_paths 6 rfl) (by decide) (fun c1 => ?_) (fun c1 => ?_)
  · rw [if_pos c1] at h
    refine e_aload_n C 0 (dk dX12_paths 12 rfl) rfl rfl ?_
    refine e_iconst C 1 (dk dX12_paths 13 rfl) (by decide) ?_
    refine e_callV (ci := 12) C cal_X12_fail im_X12_fail se_X12_fail ml_X12_318 rfl hR (by decide) (dk dX12_paths 14 rfl) (K.1 _ (by rw [ht]; decide)) (ent_o12 ht) (c_X12_fail K ht (rfl : F_X12_fail t 1 (up M t 2 0) = _)) ⟨Nat.zero_le _, Nat.zero_le _⟩ (Nat.le_of_ble_eq_true rfl) rfl ?_
    obtain rfl := Option.some.inj h
    exact e_iret C B (nar1 _) (dk dX12_paths 15 rfl)
  · rw [if_neg c1] at h
    refine e_aload_n C 0 (dk dX12_paths 7 rfl) rfl rfl ?_
    refine gf_X12_pathTold C K ht fl_X12_42 (dk dX12_paths 8 rfl) ?_
    refine e_iload_n C 1 (dk dX12_paths 9 rfl) rfl rfl ?_
    obtain ⟨v2, hv2, h⟩ := ob h
    refine m_ald C K (kd_X12_pathTold K ht) (dk dX12_paths 10 rfl) hv2 ?_
    refine e_goto C 27 (dk dX12_paths 11 rfl) (by decide) ?_
    obtain rfl := Option.some.inj h
    exact e_iret C B (nar1 _) (dk dX12_paths 15 rfl)
set_option maxRecDepth 20000 in
theorem c_X12_person {g : WC} {Xo : Nat → va_E} {n : Nat} {kd : Nat → Nat} (K : KD n kd) {t : Nat} {p0 : Int32} {p1 : Int32} (ht : kd t = 13) {M : Mem} {res : Int32 × Mem} (h : F_X12_person t p0 p1 M = some res) : MC g yX12_person cX12_person 3 (some .int) 2 n [.ref (g_N g + t), .int p0, .int p1] (ent g Xo kd M) (some (.int res.1)) (ent g Xo kd res.2) := by
  refine MC_of pn_X12 (Nat.le_of_ble_eq_true rfl) (fun X C B => ?_)
  have hR := B.1
  rw [F_X12_person] at h
  refine e_aload_n C 0 (dk dX12_person 0 rfl) rfl rfl ?_
  refine e_iconst C 0 (dk dX12_person 1 rfl) (by decide) ?_
  refine pf_X12_code C K ht fl_X12_156 (dk dX12_person 2 rfl) ?_
  refine e_aload_n C 0 (dk dX12_person 3 rfl) rfl rfl ?_
  refine e_iload_n C 1 (dk dX12_person 4 rfl) rfl rfl ?_
  refine e_callV (ci := 12) C cal_X12_isPerson im_X12_isPerson se_X12_isPerson ml_X12_399 rfl hR (by decide) (dk dX12_person 5 rfl) (K.1 _ (by rw [ht]; decide)) (ent_o12 ht) (c_X12_isPerson K ht (rfl : F_X12_isPerson t p0 (up M t 2 0) = _)) ⟨Nat.zero_le _, Nat.zero_le _⟩ (Nat.le_of_ble_eq_true rfl) rfl ?_
  refine e_if_ne C 19 (dk dX12_person 6 rfl) (by decide) (fun c1 => ?_) (fun c1 => ?_)
  · rw [if_neg c1] at h
    refine e_iload_n C 2 (dk dX12_person 11 rfl) rfl rfl ?_
    by_cases c2 : p1 = 0
    · rw [if_pos c2] at h
      refine e_tsIn C 56 (dk dX12_person 12 rfl) (by rw [c2]; decide) (by rw [c2]; decide) (by rw [c2]; rfl) (by decide) ?_
      refine e_aload_n C 0 (dk dX12_person 13 rfl) rfl rfl ?_
      refine gf_X12_purse C K ht fl_X12_75 (dk dX12_person 14 rfl) ?_
      refine e_iload_n C 1 (dk dX12_person 15 rfl) rfl rfl ?_
      obtain ⟨v3, hv3, h⟩ := ob h
      refine m_ald C K (kd_X12_purse K ht) (dk dX12_person 16 rfl) hv3 ?_
      obtain rfl := Option.some.inj h
      exact e_iret C B (nar1 _) (dk dX12_person 17 rfl)
    rw [if_neg c2] at h
    by_cases c4 : p1 = 1
    · rw [if_pos c4] at h
      refine e_tsIn C 63 (dk dX12_person 12 rfl) (by rw [c4]; decide) (by rw [c4]; decide) (by rw [c4]; rfl) (by decide) ?_
      refine e_aload_n C 0 (dk dX12_person 18 rfl) rfl rfl ?_
      refine gf_X12_places C K ht fl_X12_53 (dk dX12_person 19 rfl) ?_
      refine e_iload_n C 1 (dk dX12_person 20 rfl) rfl rfl ?_
      obtain ⟨v5, hv5, h⟩ := ob h
      refine m_ald C K (kd_X12_places K ht) (dk dX12_person 21 rfl) hv5 ?_
      obtain rfl := Option.some.inj h
      exact e_iret C B (nar1 _) (dk dX12_person 22 rfl)
    rw [if_neg c4] at h
    by_cases c6 : p1 = 2
    · rw [if_pos c6] at h
      refine e_tsIn C 70 (dk dX12_person 12 rfl) (by rw [c6]; decide) (by rw [c6]; decide) (by rw [c6]; rfl) (by decide) ?_
      refine e_aload_n C 0 (dk dX12_person 23 rfl) rfl rfl ?_
      refine gf_X12_knows C K ht fl_X12_78 (dk dX12_person 24 rfl) ?_
      refine e_iload_n C 1 (dk dX12_person 25 rfl) rfl rfl ?_
      obtain ⟨v7, hv7, h⟩ := ob h
      refine m_ald C K (kd_X12_knows K ht) (dk dX12_person 26 rfl) hv7 ?_
      obtain rfl := Option.some.inj h
      exact e_iret C B (nar1 _) (dk dX12_person 27 rfl)
    rw [if_neg c6] at h
    by_cases c8 : p1 = 3
    · rw [if_pos c8] at h
      refine e_tsIn C 77 (dk dX12_person 12 rfl) (by rw [c8]; decide) (by rw [c8]; decide) (by rw [c8]; rfl) (by decide) ?_
      refine e_aload_n C 0 (dk dX12_person 28 rfl) rfl rfl ?_
      refine gf_X12_bishop C K ht fl_X12_48 (dk dX12_person 29 rfl) ?_
      refine e_iload_n C 1 (dk dX12_person 30 rfl) rfl rfl ?_
      obtain ⟨v9, hv9, h⟩ := ob h
      refine m_ald C K (kd_X12_bishop K ht) (dk dX12_person 31 rfl) hv9 ?_
      obtain rfl := Option.some.inj h
      exact e_iret C B (nar1 _) (dk dX12_person 32 rfl)
    rw [if_neg c8] at h
    by_cases c10 : p1 = 4
    · rw [if_pos c10] at h
      refine e_tsIn C 84 (dk dX12_person 12 rfl) (by rw [c10]; decide) (by rw [c10]; decide) (by rw [c10]; rfl) (by decide) ?_
      refine e_aload_n C 0 (dk dX12_person 33 rfl) rfl rfl ?_
      refine e_iload_n C 1 (dk dX12_person 34 rfl) rfl rfl ?_
      obtain ⟨q11, hq11, h⟩ := ob h
      refine e_callV (ci := 12) C cal_X12_seenHours im_X12_seenHours se_X12_seenHours ml_X12_357 rfl hR (by decide) (dk dX12_person 35 rfl) (K.1 _ (by rw [ht]; decide)) (ent_o12 ht) (c_X12_seenHours K ht hq11) ⟨Nat.zero_le _, Nat.zero_le _⟩ (Nat.le_of_ble_eq_true rfl) rfl ?_
      obtain rfl := Option.some.inj h
      exact e_iret C B (nar1 _) (dk dX12_person 36 rfl)
    rw [if_neg c10] at h
    refine e_tsOut C 90 (dk dX12_person 12 rfl) (ts_out (0) (4) (by decide) (fun v h1 h2 => ?_)) (by decide) ?_
    · intro o12
      have hv : v = (0 : Int) ∨ v = (1 : Int) ∨ v = (2 : Int) ∨ v = (3 : Int) ∨ v = (4 : Int) := by omega
      rcases hv with rfl | rfl | rfl | rfl | rfl
      · exact c2 (Int32.toInt_inj.mp (by rw [o12]; rfl))
      · exact c4 (Int32.toInt_inj.mp (by rw [o12]; rfl))
      · exact c6 (Int32.toInt_inj.mp (by rw [o12]; rfl))
      · exact c8 (Int32.toInt_inj.mp (by rw [o12]; rfl))
      · exact c10 (Int32.toInt_inj.mp (by rw [o12]; rfl))
    refine e_aload_n C 0 (dk dX12_person 37 rfl) rfl rfl ?_
    refine e_iconst C 1 (dk dX12_person 38 rfl) (by decide) ?_
    refine e_callV (ci := 12) C cal_X12_fail im_X12_fail se_X12_fail ml_X12_318 rfl hR (by decide) (dk dX12_person 39 rfl) (K.1 _ (by rw [ht]; decide)) (ent_o12 ht) (c_X12_fail K ht (rfl : F_X12_fail t 1 (up M t 2 0) = _)) ⟨Nat.zero_le _, Nat.zero_le _⟩ (Nat.le_of_ble_eq_true rfl) rfl ?_
    obtain rfl := Option.some.inj h
    exact e_iret C B (nar1 _) (dk dX12_person 40 rfl)
  · rw [if_pos c1] at h
    refine e_aload_n C 0 (dk dX12_person 7 rfl) rfl rfl ?_
    refine e_iconst C 1 (dk dX12_person 8 rfl) (by decide) ?_
    refine e_callV (ci := 12) C cal_X12_fail im_X12_fail se_X12_fail ml_X12_318 rfl hR (by decide) (dk dX12_person 9 rfl) (K.1 _ (by rw [ht]; decide)) (ent_o12 ht) (c_X12_fail K ht (rfl : F_X12_fail t 1 (up M t 2 0) = _)) ⟨Nat.zero_le _, Nat.zero_le _⟩ (Nat.le_of_ble_eq_true rfl) rfl ?_
    obtain rfl := Option.some.inj h
    exact e_iret C B (nar1 _) (dk dX12_person 10 rfl)
set_option maxRecDepth 20000 in
theorem j_X12_walk_j45 {X : FX} {g : WC} {Xo : Nat → va_E} {n : Nat} {kd : Nat → Nat} (C : Cx X g RX12 cX12_walk 3) (K : KD n kd) {t : Nat} (ht : kd t = 13) (hR : x_R X = rm 2) {M : Mem} {res : Int32 × Mem} (h : J_X12_walk_j45 t M = some res) (B : Bx X g (some .int) 2 n (some (.int res.1)) (ent g Xo kd res.2)) : EW X g (x_s X).heap.size n 3 (ent g Xo kd M) 0 0 45 [(0, .ref (g_N g + t))] [] := by
  rw [J_X12_walk_j45] at h
  refine e_aload_n C 0 (dk dX12_walk 28 rfl) rfl rfl ?_
  refine e_iconst C 1 (dk dX12_walk 29 rfl) (by decide) ?_
  refine e_callV (ci := 12) C cal_X12_fail im_X12_fail se_X12_fail ml_X12_318 rfl hR (by decide) (dk dX12_walk 30 rfl) (K.1 _ (by rw [ht]; decide)) (ent_o12 ht) (c_X12_fail K ht (rfl : F_X12_fail t 1 M = _)) ⟨Nat.zero_le _, Nat.zero_le _⟩ (Nat.le_of_ble_eq_true rfl) rfl ?_
  obtain rfl := Option.some.inj h
  exact e_iret C B (nar1 _) (dk dX12_walk 31 rfl)
set_option maxRecDepth 20000 in
theorem c_X12_walk {g : WC} {Xo : Nat → va_E} {n : Nat} {kd : Nat → Nat} (K : KD n kd) {t : Nat} {p0 : Int32} {p1 : Int32} (ht : kd t = 13) {M : Mem} {res : Int32 × Mem} (h : F_X12_walk t p0 p1 M = some res) : MC g yX12_walk cX12_walk 3 (some .int) 2 n [.ref (g_N g + t), .int p0, .int p1] (ent g Xo kd M) (some (.int res.1)) (ent g Xo kd res.2) := by
  refine MC_of pn_X12 (Nat.le_of_ble_eq_true rfl) (fun X C B => ?_)
  have hR := B.1
  rw [F_X12_walk] at h
  refine e_aload_n C 0 (dk dX12_walk 0 rfl) rfl rfl ?_
  refine e_iconst C 0 (dk dX12_walk 1 rfl) (by decide) ?_
  refine pf_X12_code C K ht fl_X12_156 (dk dX12_walk 2 rfl) ?_
  refine e_aload_n C 0 (dk dX12_walk 3 rfl) rfl rfl ?_
  refine e_iload_n C 1 (dk dX12_walk 4 rfl) rfl rfl ?_
  refine e_callV (ci := 12) C cal_X12_isPerson im_X12_isPerson se_X12_isPerson ml_X12_399 rfl hR (by decide) (dk dX12_walk 5 rfl) (K.1 _ (by rw [ht]; decide)) (ent_o12 ht) (c_X12_isPerson K ht (rfl : F_X12_isPerson t p0 (up M t 2 0) = _)) ⟨Nat.zero_le _, Nat.zero_le _⟩ (Nat.le_of_ble_eq_true rfl) rfl ?_
  refine e_if_eq C 45 (dk dX12_walk 6 rfl) (by decide) (fun c1 => ?_) (fun c1 => ?_)
  · rw [if_pos c1] at h
    refine e_lv [0] rfl ?_
    exact j_X12_walk_j45 C K ht hR h B
  · rw [if_neg c1] at h
    refine e_iload_n C 2 (dk dX12_walk 7 rfl) rfl rfl ?_
    refine e_i2l C (dk dX12_walk 8 rfl) ?_
    refine e_lconst C 0 (dk dX12_walk 9 rfl) (by decide) ?_
    refine e_aload_n C 0 (dk dX12_walk 10 rfl) rfl rfl ?_
    refine gf_X12_places C K ht fl_X12_53 (dk dX12_walk 11 rfl) ?_
    refine e_iload_n C 1 (dk dX12_walk 12 rfl) rfl rfl ?_
    obtain ⟨v2, hv2, h⟩ := ob h
    refine m_ald C K (kd_X12_places K ht) (dk dX12_walk 13 rfl) hv2 ?_
    refine e_iconst C 1 (dk dX12_walk 14 rfl) (by decide) ?_
    refine e_isub C (dk dX12_walk 15 rfl) ?_
    refine e_i2l C (dk dX12_walk 16 rfl) ?_
    refine e_callS C cal_X12_isIn sm_X12_isIn ml_X12_159 hR (by decide) (dk dX12_walk 17 rfl) (c_X12_isIn K (rfl : F_X12_isIn p1.toInt64 0 ((v2 - 1).toInt64) = _)) ⟨Nat.zero_le _, Nat.zero_le _⟩ (Nat.le_of_ble_eq_true rfl) rfl ?_
    refine e_if_eq C 45 (dk dX12_walk 18 rfl) (by decide) (fun c3 => ?_) (fun c3 => ?_)
    · rw [if_pos c3] at h
      refine e_lv [0] rfl ?_
      exact j_X12_walk_j45 C K ht hR h B
    · rw [if_neg c3] at h
      refine e_aload_n C 0 (dk dX12_walk 19 rfl) rfl rfl ?_
      refine gf_X12_walks C K ht fl_X12_80 (dk dX12_walk 20 rfl) ?_
      refine e_bipush C 6 (dk dX12_walk 21 rfl) (by decide) ?_
      refine e_iload_n C 1 (dk dX12_walk 22 rfl) rfl rfl ?_
      refine e_imul C (dk dX12_walk 23 rfl) ?_
      refine e_iload_n C 2 (dk dX12_walk 24 rfl) rfl rfl ?_
      refine e_iadd C (dk dX12_walk 25 rfl) ?_
      obtain ⟨v4, hv4, h⟩ := ob h
      refine m_ald C K (kd_X12_walks K ht) (dk dX12_walk 26 rfl) hv4 ?_
      refine e_goto C 50 (dk dX12_walk 27 rfl) (by decide) ?_
      obtain rfl := Option.some.inj h
      exact e_iret C B (nar1 _) (dk dX12_walk 31 rfl)
set_option maxRecDepth 20000 in
theorem c_X12_refuse {g : WC} {Xo : Nat → va_E} {n : Nat} {kd : Nat → Nat} (K : KD n kd) {t : Nat} {p0 : Int32} (ht : kd t = 13) {M : Mem} {res : Int32 × Mem} (h : F_X12_refuse t p0 M = some res) : MC g yX12_refuse cX12_refuse 2 (some .int) 0 n [.ref (g_N g + t), .int p0] (ent g Xo kd M) (some (.int res.1)) (ent g Xo kd res.2) := by
  refine MC_of pn_X12 (Nat.le_of_ble_eq_true rfl) (fun X C B => ?_)
  have hR := B.1
  rw [F_X12_refuse] at h
  refine e_aload_n C 0 (dk dX12_refuse 0 rfl) rfl rfl ?_
  refine gf_X12_status C K ht fl_X12_65 (dk dX12_refuse 1 rfl) ?_
  refine e_iload_n C 1 (dk dX12_refuse 2 rfl) rfl rfl ?_
  refine e_dup2 C (dk dX12_refuse 3 rfl) rfl rfl ?_
  obtain ⟨v1, hv1, h⟩ := ob h
  refine m_ald C K (kd_X12_status K ht) (dk dX12_refuse 4 rfl) hv1 ?_
  refine e_iconst C 1 (dk dX12_refuse 5 rfl) (by decide) ?_
  refine e_iadd C (dk dX12_refuse 6 rfl) ?_
  obtain ⟨M2, hM2, h⟩ := ob h
  refine m_ast C K (kd_X12_status K ht) (dk dX12_refuse 7 rfl) hM2 ?_
  refine e_iconst C (-1) (dk dX12_refuse 8 rfl) (by decide) ?_
  obtain rfl := Option.some.inj h
  exact e_iret C B (nar1 _) (dk dX12_refuse 9 rfl)
set_option maxRecDepth 20000 in
theorem j_X12_keep_j52 {X : FX} {g : WC} {Xo : Nat → va_E} {n : Nat} {kd : Nat → Nat} (C : Cx X g RX12 cX12_keep 2) (K : KD n kd) {t : Nat} (ht : kd t = 13) (hR : x_R X = rm 1) {M : Mem} {res : Mem} (h : J_X12_keep_j52 t M = some res) (B : Bx X g none 1 n none (ent g Xo kd res)) : EW X g (x_s X).heap.size n 2 (ent g Xo kd M) 0 0 52 [(0, .ref (g_N g + t))] [] := by
  rw [J_X12_keep_j52] at h
  refine e_aload_n C 0 (dk dX12_keep 29 rfl) rfl rfl ?_
  refine e_aload_n C 0 (dk dX12_keep 30 rfl) rfl rfl ?_
  refine gf_X12_past C K ht fl_X12_83 (dk dX12_keep 31 rfl) ?_
  refine e_bipush C 60 (dk dX12_keep 32 rfl) (by decide) ?_
  refine e_aload_n C 0 (dk dX12_keep 33 rfl) rfl rfl ?_
  refine gf_X12_acts C K ht fl_X12_339 (dk dX12_keep 34 rfl) ?_
  refine e_imul C (dk dX12_keep 35 rfl) ?_
  obtain ⟨q2, hq2, h⟩ := ob h
  refine e_callV (ci := 12) C cal_X12_pack im_X12_pack se_X12_pack ml_X12_402 rfl hR (by decide) (dk dX12_keep 36 rfl) (K.1 _ (by rw [ht]; decide)) (ent_o12 ht) (c_X12_pack K ht (kd_X12_past K ht) hq2) ⟨Nat.zero_le _, Nat.zero_le _⟩ (Nat.le_of_ble_eq_true rfl) rfl ?_
  refine e_aload_n C 0 (dk dX12_keep 37 rfl) rfl rfl ?_
  refine e_dup C (dk dX12_keep 38 rfl) rfl ?_
  refine gf_X12_acts C K ht fl_X12_339 (dk dX12_keep 39 rfl) ?_
  refine e_iconst C 1 (dk dX12_keep 40 rfl) (by decide) ?_
  refine e_iadd C (dk dX12_keep 41 rfl) ?_
  refine pf_X12_acts C K ht fl_X12_339 (dk dX12_keep 42 rfl) ?_
  obtain rfl := Option.some.inj h
  exact e_vret C B (dk dX12_keep 43 rfl)
set_option maxRecDepth 20000 in
theorem l_X12_keep_12 {X : FX} {g : WC} {Xo : Nat → va_E} {n : Nat} {kd : Nat → Nat} (C : Cx X g RX12 cX12_keep 2) (K : KD n kd) {t : Nat} (ht : kd t = 13) (hR : x_R X = rm 1) {OK : Mem → Prop} (hx : ∀ s, OK s → EW X g (x_s X).heap.size n 2 (ent g Xo kd s) 0 0 42 [(0, .ref (g_N g + t))] []) : ∀ (N9 : Nat) (x1 : Int32) (M : Mem) (q : Mem), L_X12_keep_12 t N9 x1 M = some q → OK q → EW X g (x_s X).heap.size n 2 (ent g Xo kd M) 0 0 12 [(0, .ref (g_N g + t)), (1, .int x1)] [] := by
  intro N9
  induction N9 with
  | zero =>
    intro x1 M q h
    rw [L_X12_keep_12.eq_1] at h
    cases h
  | succ m9 ih =>
    intro x1 M q h hOK
    rw [L_X12_keep_12.eq_2] at h
    refine e_iload_n C 1 (dk dX12_keep 6 rfl) rfl rfl ?_
    refine e_aload_n C 0 (dk dX12_keep 7 rfl) rfl rfl ?_
    refine gf_X12_past C K ht fl_X12_83 (dk dX12_keep 8 rfl) ?_
    refine m_alen C K (kd_X12_past K ht) 2400 (by decide) (dk dX12_keep 9 rfl) ?_
    refine e_icmp_ge C 42 (dk dX12_keep 10 rfl) (by decide) (fun c3 => ?_) (fun c3 => ?_)
    · rw [if_pos c3] at h
      obtain rfl := Option.some.inj h
      refine e_lv [0] rfl ?_
      exact hx _ hOK
    · rw [if_neg c3] at h
      refine e_aload_n C 0 (dk dX12_keep 11 rfl) rfl rfl ?_
      refine gf_X12_past C K ht fl_X12_83 (dk dX12_keep 12 rfl) ?_
      refine e_iload_n C 1 (dk dX12_keep 13 rfl) rfl rfl ?_
      refine e_bipush C 60 (dk dX12_keep 14 rfl) (by decide) ?_
      refine e_isub C (dk dX12_keep 15 rfl) ?_
      refine e_aload_n C 0 (dk dX12_keep 16 rfl) rfl rfl ?_
      refine gf_X12_past C K ht fl_X12_83 (dk dX12_keep 17 rfl) ?_
      refine e_iload_n C 1 (dk dX12_keep 18 rfl) rfl rfl ?_
      obtain ⟨v4, hv4, h⟩ := ob h
      refine m_ald C K (kd_X12_past K ht) (dk dX12_keep 19 rfl) hv4 ?_
      obtain ⟨M5, hM5, h⟩ := ob h
      refine m_ast C K (kd_X12_past K ht) (dk dX12_keep 20 rfl) hM5 ?_
      refine e_iinc C [(1, .int (x1 + 1)), (0, .ref (g_N g + t))] 1 1 (dk dX12_keep 21 rfl) rfl (by decide) (by decide) rfl ?_
      refine e_goto C 12 (dk dX12_keep 22 rfl) (by decide) ?_
      refine e_lv [1, 0] rfl ?_
      exact ih _ _ _ h hOK
set_option maxRecDepth 20000 in
theorem lb_X12_keep_12 {X : FX} {g : WC} {Xo : Nat → va_E} {n : Nat} {kd : Nat → Nat} (C : Cx X g RX12 cX12_keep 2) (K : KD n kd) {t : Nat} (ht : kd t = 13) (hR : x_R X = rm 1) {T9 : Type} {f9 : Mem → Option T9} {b9 : T9} (hx : ∀ s, f9 s = some b9 → EW X g (x_s X).heap.size n 2 (ent g Xo kd s) 0 0 42 [(0, .ref (g_N g + t))] []) {x1 : Int32} {M : Mem} (h : (L_X12_keep_12 t FU x1 M).bind f9 = some b9) : EW X g (x_s X).heap.size n 2 (ent g Xo kd M) 0 0 12 [(0, .ref (g_N g + t)), (1, .int x1)] [] := by
  obtain ⟨q, hq, h⟩ := ob h
  exact l_X12_keep_12 C K ht hR (OK := fun q => f9 q = some b9) hx FU x1 M q hq h
set_option maxRecDepth 20000 in
theorem c_X12_keep {g : WC} {Xo : Nat → va_E} {n : Nat} {kd : Nat → Nat} (K : KD n kd) {t : Nat} (ht : kd t = 13) {M : Mem} {res : Mem} (h : F_X12_keep t M = some res) : MC g yX12_keep cX12_keep 2 none 1 n [.ref (g_N g + t)] (ent g Xo kd M) none (ent g Xo kd res) := by
  refine MC_of pn_X12 (Nat.le_of_ble_eq_true rfl) (fun X C B => ?_)
  have hR := B.1
  rw [F_X12_keep] at h
  refine e_aload_n C 0 (dk dX12_keep 0 rfl) rfl rfl ?_
  refine gf_X12_acts C K ht fl_X12_339 (dk dX12_keep 1 rfl) ?_
  refine e_bipush C 40 (dk dX12_keep 2 rfl) (by decide) ?_
  refine e_icmp_ne C 52 (dk dX12_keep 3 rfl) (by decide) (fun c1 => ?_) (fun c1 => ?_)
  · rw [if_neg c1] at h
    exact j_X12_keep_j52 C K ht hR h B
  · rw [if_pos c1] at h
    refine e_bipush C 60 (dk dX12_keep 4 rfl) (by decide) ?_
    refine e_istore_n C [(1, .int 60), (0, .ref (g_N g + t))] (dk dX12_keep 5 rfl) rfl (by decide) rfl ?_
    refine e_lv [1, 0] rfl ?_
    refine lb_X12_keep_12 C K ht hR (fun s7 h => ?_) h
    refine e_aload_n C 0 (dk dX12_keep 23 rfl) rfl rfl ?_
    refine e_dup C (dk dX12_keep 24 rfl) rfl ?_
    refine gf_X12_acts C K ht fl_X12_339 (dk dX12_keep 25 rfl) ?_
    refine e_iconst C 1 (dk dX12_keep 26 rfl) (by decide) ?_
    refine e_isub C (dk dX12_keep 27 rfl) ?_
    refine pf_X12_acts C K ht fl_X12_339 (dk dX12_keep 28 rfl) ?_
    exact j_X12_keep_j52 C K ht hR h B
set_option maxRecDepth 20000 in
theorem j_X12_nights_j29 {X : FX} {g : WC} {Xo : Nat → va_E} {n : Nat} {kd : Nat → Nat} (C : Cx X g RX12 cX12_nights 2) (K : KD n kd) {t : Nat} (ht : kd t = 13) (hR : x_R X = rm 6) {M : Mem} {res : Int32 × Mem} (h : J_X12_nights_j29 t M = some res) (B : Bx X g (some .int) 6 n (some (.int res.1)) (ent g Xo kd res.2)) : EW X g (x_s X).heap.size n 2 (ent g Xo kd M) 0 0 29 [(0, .ref (g_N g + t))] [] := by
  rw [J_X12_nights_j29] at h
  refine e_aload_n C 0 (dk dX12_nights 15 rfl) rfl rfl ?_
  refine e_iconst C 1 (dk dX12_nights 16 rfl) (by decide) ?_
  obtain ⟨q2, hq2, h⟩ := ob h
  refine e_callV (ci := 12) C cal_X12_refuse im_X12_refuse se_X12_refuse ml_X12_408 rfl hR (by decide) (dk dX12_nights 17 rfl) (K.1 _ (by rw [ht]; decide)) (ent_o12 ht) (c_X12_refuse K ht hq2) ⟨Nat.zero_le _, Nat.zero_le _⟩ (Nat.le_of_ble_eq_true rfl) rfl ?_
  obtain rfl := Option.some.inj h
  exact e_iret C B (nar1 _) (dk dX12_nights 18 rfl)
set_option maxRecDepth 20000 in
theorem c_X12_nights {g : WC} {Xo : Nat → va_E} {n : Nat} {kd : Nat → Nat} (K : KD n kd) {t : Nat} {p0 : Int32} (ht : kd t = 13) {M : Mem} {res : Int32 × Mem} (h : F_X12_nights t p0 M = some res) : MC g yX12_nights cX12_nights 2 (some .int) 6 n [.ref (g_N g + t), .int p0] (ent g Xo kd M) (some (.int res.1)) (ent g Xo kd res.2) := by
  refine MC_of pn_X12 (Nat.le_of_ble_eq_true rfl) (fun X C B => ?_)
  have hR := B.1
  rw [F_X12_nights] at h
  refine e_aload_n C 0 (dk dX12_nights 0 rfl) rfl rfl ?_
  refine e_iconst C 0 (dk dX12_nights 1 rfl) (by decide) ?_
  refine pf_X12_code C K ht fl_X12_156 (dk dX12_nights 2 rfl) ?_
  refine e_iload_n C 1 (dk dX12_nights 3 rfl) rfl rfl ?_
  refine e_i2l C (dk dX12_nights 4 rfl) ?_
  refine e_lconst C 1 (dk dX12_nights 5 rfl) (by decide) ?_
  refine e_ldc2 C kl_X12_406 (dk dX12_nights 6 rfl) ?_
  refine e_callS C cal_X12_isIn sm_X12_isIn ml_X12_159 hR (by decide) (dk dX12_nights 7 rfl) (c_X12_isIn K (rfl : F_X12_isIn p0.toInt64 1 20 = _)) ⟨Nat.zero_le _, Nat.zero_le _⟩ (Nat.le_of_ble_eq_true rfl) rfl ?_
  refine e_if_eq C 29 (dk dX12_nights 8 rfl) (by decide) (fun c1 => ?_) (fun c1 => ?_)
  · rw [if_pos c1] at h
    refine e_lv [0] rfl ?_
    exact j_X12_nights_j29 C K ht hR h B
  · rw [if_neg c1] at h
    refine e_aload_n C 0 (dk dX12_nights 9 rfl) rfl rfl ?_
    refine gf_X12_night C K ht fl_X12_331 (dk dX12_nights 10 rfl) ?_
    refine e_iload_n C 1 (dk dX12_nights 11 rfl) rfl rfl ?_
    refine e_iadd C (dk dX12_nights 12 rfl) ?_
    refine e_sipush C 999 (dk dX12_nights 13 rfl) (by decide) ?_
    refine e_icmp_le C 35 (dk dX12_nights 14 rfl) (by decide) (fun c3 => ?_) (fun c3 => ?_)
    · rw [if_pos c3] at h
      refine e_aload_n C 0 (dk dX12_nights 19 rfl) rfl rfl ?_
      obtain ⟨q4, hq4, h⟩ := ob h
      refine e_callV (ci := 12) C cal_X12_keep im_X12_keep se_X12_keep ml_X12_411 rfl hR (by decide) (dk dX12_nights 20 rfl) (K.1 _ (by rw [ht]; decide)) (ent_o12 ht) (c_X12_keep K ht hq4) ⟨Nat.zero_le _, Nat.zero_le _⟩ (Nat.le_of_ble_eq_true rfl) rfl ?_
      refine e_aload_n C 0 (dk dX12_nights 21 rfl) rfl rfl ?_
      refine e_iload_n C 1 (dk dX12_nights 22 rfl) rfl rfl ?_
      obtain ⟨q5, hq5, h⟩ := ob h
      refine e_callV (ci := 12) C cal_X12_goOn im_X12_goOn se_X12_goOn ml_X12_414 rfl hR (by decide) (dk dX12_nights 23 rfl) (K.1 _ (by rw [ht]; decide)) (ent_o12 ht) (c_X12_goOn K ht hq5) ⟨Nat.zero_le _, Nat.zero_le _⟩ (Nat.le_of_ble_eq_true rfl) rfl ?_
      refine e_aload_n C 0 (dk dX12_nights 24 rfl) rfl rfl ?_
      refine gf_X12_night C K ht fl_X12_331 (dk dX12_nights 25 rfl) ?_
      obtain rfl := Option.some.inj h
      exact e_iret C B (nar1 _) (dk dX12_nights 26 rfl)
    · rw [if_neg c3] at h
      refine e_lv [0] rfl ?_
      exact j_X12_nights_j29 C K ht hR h B
set_option maxRecDepth 20000 in
theorem c_X12_canBribe {g : WC} {Xo : Nat → va_E} {n : Nat} {kd : Nat → Nat} (K : KD n kd) {t : Nat} {p0 : Int32} (ht : kd t = 13) {M : Mem} {res : Bool} (h : F_X12_canBribe t p0 M = some res) : MC g yX12_canBribe cX12_canBribe 2 (some .boolean) 1 n [.ref (g_N g + t), .int p0] (ent g Xo kd M) (some (.int (bi res))) (ent g Xo kd M) := by
  refine MC_of pn_X12 (Nat.le_of_ble_eq_true rfl) (fun X C B => ?_)
  have hR := B.1
  rw [F_X12_canBribe] at h
  refine e_aload_n C 0 (dk dX12_canBribe 0 rfl) rfl rfl ?_
  refine gf_X12_bribing C K ht fl_X12_336 (dk dX12_canBribe 1 rfl) ?_
  refine e_iload_n C 1 (dk dX12_canBribe 2 rfl) rfl rfl ?_
  refine e_callS C cal_X12_isOf sm_X12_isOf ml_X12_287 hR (by decide) (dk dX12_canBribe 3 rfl) (c_X12_isOf K (rfl : F_X12_isOf (M t 32) p0 = _)) ⟨Nat.zero_le _, Nat.zero_le _⟩ (Nat.le_of_ble_eq_true rfl) rfl ?_
  refine e_if_ne C 25 (dk dX12_canBribe 4 rfl) (by decide) (fun c1 => ?_) (fun c1 => ?_)
  · rw [if_neg c1] at h
    refine e_iconst C 0 (dk dX12_canBribe 13 rfl) (by decide) ?_
    obtain rfl := Option.some.inj h
    exact e_iret (v := bi false) C B (nar_bi _) (dk dX12_canBribe 14 rfl)
  · rw [if_pos c1] at h
    refine e_aload_n C 0 (dk dX12_canBribe 5 rfl) rfl rfl ?_
    refine gf_X12_purse C K ht fl_X12_75 (dk dX12_canBribe 6 rfl) ?_
    refine e_iload_n C 1 (dk dX12_canBribe 7 rfl) rfl rfl ?_
    obtain ⟨v2, hv2, h⟩ := ob h
    refine m_ald C K (kd_X12_purse K ht) (dk dX12_canBribe 8 rfl) hv2 ?_
    refine e_iconst C 5 (dk dX12_canBribe 9 rfl) (by decide) ?_
    refine e_icmp_lt C 25 (dk dX12_canBribe 10 rfl) (by decide) (fun c3 => ?_) (fun c3 => ?_)
    · rw [if_pos c3] at h
      refine e_iconst C 0 (dk dX12_canBribe 13 rfl) (by decide) ?_
      obtain rfl := Option.some.inj h
      exact e_iret (v := bi false) C B (nar_bi _) (dk dX12_canBribe 14 rfl)
    · rw [if_neg c3] at h
      refine e_iconst C 1 (dk dX12_canBribe 11 rfl) (by decide) ?_
      refine e_goto C 26 (dk dX12_canBribe 12 rfl) (by decide) ?_
      obtain rfl := Option.some.inj h
      exact e_iret (v := bi true) C B (nar_bi _) (dk dX12_canBribe 14 rfl)
set_option maxRecDepth 20000 in
theorem c_X12_doBribe {g : WC} {Xo : Nat → va_E} {n : Nat} {kd : Nat → Nat} (K : KD n kd) {t : Nat} {p0 : Int32} (ht : kd t = 13) {M : Mem} {res : Mem} (h : F_X12_doBribe t p0 M = some res) : MC g yX12_doBribe cX12_doBribe 2 none 0 n [.ref (g_N g + t), .int p0] (ent g Xo kd M) none (ent g Xo kd res) := by
  refine MC_of pn_X12 (Nat.le_of_ble_eq_true rfl) (fun X C B => ?_)
  have hR := B.1
  rw [F_X12_doBribe] at h
  refine e_aload_n C 0 (dk dX12_doBribe 0 rfl) rfl rfl ?_
  refine gf_X12_purse C K ht fl_X12_75 (dk dX12_doBribe 1 rfl) ?_
  refine e_iload_n C 1 (dk dX12_doBribe 2 rfl) rfl rfl ?_
  refine e_dup2 C (dk dX12_doBribe 3 rfl) rfl rfl ?_
  obtain ⟨v1, hv1, h⟩ := ob h
  refine m_ald C K (kd_X12_purse K ht) (dk dX12_doBribe 4 rfl) hv1 ?_
  refine e_iconst C 5 (dk dX12_doBribe 5 rfl) (by decide) ?_
  refine e_isub C (dk dX12_doBribe 6 rfl) ?_
  obtain ⟨M2, hM2, h⟩ := ob h
  refine m_ast C K (kd_X12_purse K ht) (dk dX12_doBribe 7 rfl) hM2 ?_
  refine e_aload_n C 0 (dk dX12_doBribe 8 rfl) rfl rfl ?_
  refine e_dup C (dk dX12_doBribe 9 rfl) rfl ?_
  refine gf_X12_bribing C K ht fl_X12_336 (dk dX12_doBribe 10 rfl) ?_
  refine e_iconst C 1 (dk dX12_doBribe 11 rfl) (by decide) ?_
  refine e_iload_n C 1 (dk dX12_doBribe 12 rfl) rfl rfl ?_
  refine e_ishl C (dk dX12_doBribe 13 rfl) ?_
  refine e_ior C (dk dX12_doBribe 14 rfl) ?_
  refine pf_X12_bribing C K ht fl_X12_336 (dk dX12_doBribe 15 rfl) ?_
  obtain rfl := Option.some.inj h
  exact e_vret C B (dk dX12_doBribe 16 rfl)
set_option maxRecDepth 20000 in
theorem c_X12_bribe {g : WC} {Xo : Nat → va_E} {n : Nat} {kd : Nat → Nat} (K : KD n kd) {t : Nat} {p0 : Int32} (ht : kd t = 13) {M : Mem} {res : Int32 × Mem} (h : F_X12_bribe t p0 M = some res) : MC g yX12_bribe cX12_bribe 2 (some .int) 2 n [.ref (g_N g + t), .int p0] (ent g Xo kd M) (some (.int res.1)) (ent g Xo kd res.2) := by
  refine MC_of pn_X12 (Nat.le_of_ble_eq_true rfl) (fun X C B => ?_)
  have hR := B.1
  rw [F_X12_bribe] at h
  refine e_aload_n C 0 (dk dX12_bribe 0 rfl) rfl rfl ?_
  refine e_iconst C 0 (dk dX12_bribe 1 rfl) (by decide) ?_
  refine pf_X12_code C K ht fl_X12_156 (dk dX12_bribe 2 rfl) ?_
  refine e_aload_n C 0 (dk dX12_bribe 3 rfl) rfl rfl ?_
  refine e_iload_n C 1 (dk dX12_bribe 4 rfl) rfl rfl ?_
  refine e_callV (ci := 12) C cal_X12_isPerson im_X12_isPerson se_X12_isPerson ml_X12_399 rfl hR (by decide) (dk dX12_bribe 5 rfl) (K.1 _ (by rw [ht]; decide)) (ent_o12 ht) (c_X12_isPerson K ht (rfl : F_X12_isPerson t p0 (up M t 2 0) = _)) ⟨Nat.zero_le _, Nat.zero_le _⟩ (Nat.le_of_ble_eq_true rfl) rfl ?_
  refine e_if_ne C 19 (dk dX12_bribe 6 rfl) (by decide) (fun c1 => ?_) (fun c1 => ?_)
  · rw [if_neg c1] at h
    refine e_aload_n C 0 (dk dX12_bribe 11 rfl) rfl rfl ?_
    refine e_iload_n C 1 (dk dX12_bribe 12 rfl) rfl rfl ?_
    obtain ⟨q2, hq2, h⟩ := ob h
    refine e_callV (ci := 12) C cal_X12_canBribe im_X12_canBribe se_X12_canBribe ml_X12_417 rfl hR (by decide) (dk dX12_bribe 13 rfl) (K.1 _ (by rw [ht]; decide)) (ent_o12 ht) (c_X12_canBribe K ht hq2) ⟨Nat.zero_le _, Nat.zero_le _⟩ (Nat.le_of_ble_eq_true rfl) rfl ?_
    refine e_if_ne C 33 (dk dX12_bribe 14 rfl) (by decide) (fun c3 => ?_) (fun c3 => ?_)
    · rw [if_neg c3] at h
      refine e_aload_n C 0 (dk dX12_bribe 19 rfl) rfl rfl ?_
      obtain ⟨q4, hq4, h⟩ := ob h
      refine e_callV (ci := 12) C cal_X12_keep im_X12_keep se_X12_keep ml_X12_411 rfl hR (by decide) (dk dX12_bribe 20 rfl) (K.1 _ (by rw [ht]; decide)) (ent_o12 ht) (c_X12_keep K ht hq4) ⟨Nat.zero_le _, Nat.zero_le _⟩ (Nat.le_of_ble_eq_true rfl) rfl ?_
      refine e_aload_n C 0 (dk dX12_bribe 21 rfl) rfl rfl ?_
      refine e_iload_n C 1 (dk dX12_bribe 22 rfl) rfl rfl ?_
      obtain ⟨q5, hq5, h⟩ := ob h
      refine e_callV (ci := 12) C cal_X12_doBribe im_X12_doBribe se_X12_doBribe ml_X12_420 rfl hR (by decide) (dk dX12_bribe 23 rfl) (K.1 _ (by rw [ht]; decide)) (ent_o12 ht) (c_X12_doBribe K ht hq5) ⟨Nat.zero_le _, Nat.zero_le _⟩ (Nat.le_of_ble_eq_true rfl) rfl ?_
      refine e_aload_n C 0 (dk dX12_bribe 24 rfl) rfl rfl ?_
      refine gf_X12_purse C K ht fl_X12_75 (dk dX12_bribe 25 rfl) ?_
      refine e_iload_n C 1 (dk dX12_bribe 26 rfl) rfl rfl ?_
      obtain ⟨v6, hv6, h⟩ := ob h
      refine m_ald C K (kd_X12_purse K ht) (dk dX12_bribe 27 rfl) hv6 ?_
      obtain rfl := Option.some.inj h
      exact e_iret C B (nar1 _) (dk dX12_bribe 28 rfl)
    · rw [if_pos c3] at h
      refine e_aload_n C 0 (dk dX12_bribe 15 rfl) rfl rfl ?_
      refine e_iconst C 1 (dk dX12_bribe 16 rfl) (by decide) ?_
      obtain ⟨q7, hq7, h⟩ := ob h
      refine e_callV (ci := 12) C cal_X12_refuse im_X12_refuse se_X12_refuse ml_X12_408 rfl hR (by decide) (dk dX12_bribe 17 rfl) (K.1 _ (by rw [ht]; decide)) (ent_o12 ht) (c_X12_refuse K ht hq7) ⟨Nat.zero_le _, Nat.zero_le _⟩ (Nat.le_of_ble_eq_true rfl) rfl ?_
      obtain rfl := Option.some.inj h
      exact e_iret C B (nar1 _) (dk dX12_bribe 18 rfl)
  · rw [if_pos c1] at h
    refine e_aload_n C 0 (dk dX12_bribe 7 rfl) rfl rfl ?_
    refine e_iconst C 1 (dk dX12_bribe 8 rfl) (by decide) ?_
    refine e_callV (ci := 12) C cal_X12_fail im_X12_fail se_X12_fail ml_X12_318 rfl hR (by decide) (dk dX12_bribe 9 rfl) (K.1 _ (by rw [ht]; decide)) (ent_o12 ht) (c_X12_fail K ht (rfl : F_X12_fail t 1 (up M t 2 0) = _)) ⟨Nat.zero_le _, Nat.zero_le _⟩ (Nat.le_of_ble_eq_true rfl) rfl ?_
    obtain rfl := Option.some.inj h
    exact e_iret C B (nar1 _) (dk dX12_bribe 10 rfl)
set_option maxRecDepth 20000 in
theorem j_X12_wander_j39 {X : FX} {g : WC} {Xo : Nat → va_E} {n : Nat} {kd : Nat → Nat} (C : Cx X g RX12 cX12_wander 5) (K : KD n kd) {t : Nat} (ht : kd t = 13) (hR : x_R X = rm 2) {M : Mem} {res : Int32 × Mem} (h : J_X12_wander_j39 t M = some res) (B : Bx X g (some .int) 2 n (some (.int res.1)) (ent g Xo kd res.2)) : EW X g (x_s X).heap.size n 5 (ent g Xo kd M) 0 0 39 [(0, .ref (g_N g + t))] [] := by
  rw [J_X12_wander_j39] at h
  refine e_aload_n C 0 (dk dX12_wander 23 rfl) rfl rfl ?_
  refine e_iconst C 1 (dk dX12_wander 24 rfl) (by decide) ?_
  refine e_callV (ci := 12) C cal_X12_fail im_X12_fail se_X12_fail ml_X12_318 rfl hR (by decide) (dk dX12_wander 25 rfl) (K.1 _ (by rw [ht]; decide)) (ent_o12 ht) (c_X12_fail K ht (rfl : F_X12_fail t 1 M = _)) ⟨Nat.zero_le _, Nat.zero_le _⟩ (Nat.le_of_ble_eq_true rfl) rfl ?_
  obtain rfl := Option.some.inj h
  exact e_iret C B (nar1 _) (dk dX12_wander 26 rfl)
set_option maxRecDepth 20000 in
theorem c_X12_wander {g : WC} {Xo : Nat → va_E} {n : Nat} {kd : Nat → Nat} (K : KD n kd) {t : Nat} {p0 : Int32} {p1 : Int32} {p2 : Int32} (ht : kd t = 13) {M : Mem} {res : Int32 × Mem} (h : F_X12_wander t p0 p1 p2 M = some res) : MC g yX12_wander cX12_wander 5 (some .int) 2 n [.ref (g_N g + t), .int p0, .int p1, .int p2] (ent g Xo kd M) (some (.int res.1)) (ent g Xo kd res.2) := by
  refine MC_of pn_X12 (Nat.le_of_ble_eq_true rfl) (fun X C B => ?_)
  have hR := B.1
  rw [F_X12_wander] at h
  refine e_aload_n C 0 (dk dX12_wander 0 rfl) rfl rfl ?_
  refine e_iconst C 0 (dk dX12_wander 1 rfl) (by decide) ?_
  refine pf_X12_code C K ht fl_X12_156 (dk dX12_wander 2 rfl) ?_
  refine e_aload_n C 0 (dk dX12_wander 3 rfl) rfl rfl ?_
  refine e_iload_n C 1 (dk dX12_wander 4 rfl) rfl rfl ?_
  refine e_callV (ci := 12) C cal_X12_isPerson im_X12_isPerson se_X12_isPerson ml_X12_399 rfl hR (by decide) (dk dX12_wander 5 rfl) (K.1 _ (by rw [ht]; decide)) (ent_o12 ht) (c_X12_isPerson K ht (rfl : F_X12_isPerson t p0 (up M t 2 0) = _)) ⟨Nat.zero_le _, Nat.zero_le _⟩ (Nat.le_of_ble_eq_true rfl) rfl ?_
  refine e_if_eq C 39 (dk dX12_wander 6 rfl) (by decide) (fun c1 => ?_) (fun c1 => ?_)
  · rw [if_pos c1] at h
    refine e_lv [0] rfl ?_
    exact j_X12_wander_j39 C K ht hR h B
  · rw [if_neg c1] at h
    refine e_iload_n C 2 (dk dX12_wander 7 rfl) rfl rfl ?_
    refine e_i2l C (dk dX12_wander 8 rfl) ?_
    refine e_lconst C 0 (dk dX12_wander 9 rfl) (by decide) ?_
    refine e_aload_n C 0 (dk dX12_wander 10 rfl) rfl rfl ?_
    refine gf_X12_places C K ht fl_X12_53 (dk dX12_wander 11 rfl) ?_
    refine e_iload_n C 1 (dk dX12_wander 12 rfl) rfl rfl ?_
    obtain ⟨v2, hv2, h⟩ := ob h
    refine m_ald C K (kd_X12_places K ht) (dk dX12_wander 13 rfl) hv2 ?_
    refine e_iconst C 1 (dk dX12_wander 14 rfl) (by decide) ?_
    refine e_isub C (dk dX12_wander 15 rfl) ?_
    refine e_i2l C (dk dX12_wander 16 rfl) ?_
    refine e_callS C cal_X12_isIn sm_X12_isIn ml_X12_159 hR (by decide) (dk dX12_wander 17 rfl) (c_X12_isIn K (rfl : F_X12_isIn p1.toInt64 0 ((v2 - 1).toInt64) = _)) ⟨Nat.zero_le _, Nat.zero_le _⟩ (Nat.le_of_ble_eq_true rfl) rfl ?_
    refine e_if_eq C 39 (dk dX12_wander 18 rfl) (by decide) (fun c3 => ?_) (fun c3 => ?_)
    · rw [if_pos c3] at h
      refine e_lv [0] rfl ?_
      exact j_X12_wander_j39 C K ht hR h B
    · rw [if_neg c3] at h
      refine e_aload_n C 0 (dk dX12_wander 19 rfl) rfl rfl ?_
      refine e_iload_n C 3 (dk dX12_wander 20 rfl) rfl rfl ?_
      refine e_callV (ci := 12) C cal_X12_isStreet im_X12_isStreet se_X12_isStreet ml_X12_396 rfl hR (by decide) (dk dX12_wander 21 rfl) (K.1 _ (by rw [ht]; decide)) (ent_o12 ht) (c_X12_isStreet K ht (rfl : F_X12_isStreet t p2 (up M t 2 0) = _)) ⟨Nat.zero_le _, Nat.zero_le _⟩ (Nat.le_of_ble_eq_true rfl) rfl ?_
      refine e_if_ne C 45 (dk dX12_wander 22 rfl) (by decide) (fun c4 => ?_) (fun c4 => ?_)
      · rw [if_neg c4] at h
        refine e_aload_n C 0 (dk dX12_wander 27 rfl) rfl rfl ?_
        refine gf_X12_walks C K ht fl_X12_80 (dk dX12_wander 28 rfl) ?_
        refine e_bipush C 6 (dk dX12_wander 29 rfl) (by decide) ?_
        refine e_iload_n C 1 (dk dX12_wander 30 rfl) rfl rfl ?_
        refine e_imul C (dk dX12_wander 31 rfl) ?_
        refine e_iload_n C 2 (dk dX12_wander 32 rfl) rfl rfl ?_
        refine e_iadd C (dk dX12_wander 33 rfl) ?_
        obtain ⟨v5, hv5, h⟩ := ob h
        refine m_ald C K (kd_X12_walks K ht) (dk dX12_wander 34 rfl) hv5 ?_
        refine e_istore C [(4, .int v5), (0, .ref (g_N g + t)), (1, .int p0), (2, .int p1), (3, .int p2)] (dk dX12_wander 35 rfl) (by decide) rfl ?_
        refine e_iload C 0 (dk dX12_wander 36 rfl) rfl ?_
        refine e_iload_n C 4 (dk dX12_wander 37 rfl) rfl rfl ?_
        refine e_icmp_ne C 70 (dk dX12_wander 38 rfl) (by decide) (fun c6 => ?_) (fun c6 => ?_)
        · rw [if_neg c6] at h
          refine e_aload_n C 1 (dk dX12_wander 43 rfl) rfl rfl ?_
          obtain ⟨q7, hq7, h⟩ := ob h
          refine e_callV (ci := 12) C cal_X12_keep im_X12_keep se_X12_keep ml_X12_411 rfl hR (by decide) (dk dX12_wander 44 rfl) (K.1 _ (by rw [ht]; decide)) (ent_o12 ht) (c_X12_keep K ht hq7) ⟨Nat.zero_le _, Nat.zero_le _⟩ (Nat.le_of_ble_eq_true rfl) rfl ?_
          refine e_aload_n C 1 (dk dX12_wander 45 rfl) rfl rfl ?_
          refine gf_X12_walks C K ht fl_X12_80 (dk dX12_wander 46 rfl) ?_
          refine e_bipush C 6 (dk dX12_wander 47 rfl) (by decide) ?_
          refine e_iload_n C 2 (dk dX12_wander 48 rfl) rfl rfl ?_
          refine e_imul C (dk dX12_wander 49 rfl) ?_
          refine e_iload_n C 3 (dk dX12_wander 50 rfl) rfl rfl ?_
          refine e_iadd C (dk dX12_wander 51 rfl) ?_
          refine e_iload_n C 4 (dk dX12_wander 52 rfl) rfl rfl ?_
          obtain ⟨M8, hM8, h⟩ := ob h
          refine m_ast C K (kd_X12_walks K ht) (dk dX12_wander 53 rfl) hM8 ?_
          refine e_iload C 0 (dk dX12_wander 54 rfl) rfl ?_
          obtain rfl := Option.some.inj h
          exact e_iret C B (nar1 _) (dk dX12_wander 55 rfl)
        · rw [if_pos c6] at h
          refine e_aload_n C 1 (dk dX12_wander 39 rfl) rfl rfl ?_
          refine e_iconst C 1 (dk dX12_wander 40 rfl) (by decide) ?_
          obtain ⟨q9, hq9, h⟩ := ob h
          refine e_callV (ci := 12) C cal_X12_refuse im_X12_refuse se_X12_refuse ml_X12_408 rfl hR (by decide) (dk dX12_wander 41 rfl) (K.1 _ (by rw [ht]; decide)) (ent_o12 ht) (c_X12_refuse K ht hq9) ⟨Nat.zero_le _, Nat.zero_le _⟩ (Nat.le_of_ble_eq_true rfl) rfl ?_
          obtain rfl := Option.some.inj h
          exact e_iret C B (nar1 _) (dk dX12_wander 42 rfl)
      · rw [if_pos c4] at h
        refine e_lv [0] rfl ?_
        exact j_X12_wander_j39 C K ht hR h B
set_option maxRecDepth 20000 in
theorem c_X12_earn {g : WC} {Xo : Nat → va_E} {n : Nat} {kd : Nat → Nat} (K : KD n kd) {t : Nat} {p0 : Int32} {p1 : Int32} (ht : kd t = 13) {M : Mem} {res : Int32 × Mem} (h : F_X12_earn t p0 p1 M = some res) : MC g yX12_earn cX12_earn 3 (some .int) 2 n [.ref (g_N g + t), .int p0, .int p1] (ent g Xo kd M) (some (.int res.1)) (ent g Xo kd res.2) := by
  refine MC_of pn_X12 (Nat.le_of_ble_eq_true rfl) (fun X C B => ?_)
  have hR := B.1
  rw [F_X12_earn] at h
  refine e_aload_n C 0 (dk dX12_earn 0 rfl) rfl rfl ?_
  refine e_iconst C 0 (dk dX12_earn 1 rfl) (by decide) ?_
  refine pf_X12_code C K ht fl_X12_156 (dk dX12_earn 2 rfl) ?_
  refine e_aload_n C 0 (dk dX12_earn 3 rfl) rfl rfl ?_
  refine e_iload_n C 1 (dk dX12_earn 4 rfl) rfl rfl ?_
  refine e_callV (ci := 12) C cal_X12_isPerson im_X12_isPerson se_X12_isPerson ml_X12_399 rfl hR (by decide) (dk dX12_earn 5 rfl) (K.1 _ (by rw [ht]; decide)) (ent_o12 ht) (c_X12_isPerson K ht (rfl : F_X12_isPerson t p0 (up M t 2 0) = _)) ⟨Nat.zero_le _, Nat.zero_le _⟩ (Nat.le_of_ble_eq_true rfl) rfl ?_
  refine e_if_ne C 19 (dk dX12_earn 6 rfl) (by decide) (fun c1 => ?_) (fun c1 => ?_)
  · rw [if_neg c1] at h
    refine e_iload_n C 2 (dk dX12_earn 11 rfl) rfl rfl ?_
    refine e_i2l C (dk dX12_earn 12 rfl) ?_
    refine e_lconst C 1 (dk dX12_earn 13 rfl) (by decide) ?_
    refine e_ldc2 C kl_X12_423 (dk dX12_earn 14 rfl) ?_
    refine e_callS C cal_X12_isIn sm_X12_isIn ml_X12_159 hR (by decide) (dk dX12_earn 15 rfl) (c_X12_isIn K (rfl : F_X12_isIn p1.toInt64 1 99 = _)) ⟨Nat.zero_le _, Nat.zero_le _⟩ (Nat.le_of_ble_eq_true rfl) rfl ?_
    refine e_if_ne C 37 (dk dX12_earn 16 rfl) (by decide) (fun c2 => ?_) (fun c2 => ?_)
    · rw [if_neg c2] at h
      refine e_aload_n C 0 (dk dX12_earn 21 rfl) rfl rfl ?_
      obtain ⟨q3, hq3, h⟩ := ob h
      refine e_callV (ci := 12) C cal_X12_keep im_X12_keep se_X12_keep ml_X12_411 rfl hR (by decide) (dk dX12_earn 22 rfl) (K.1 _ (by rw [ht]; decide)) (ent_o12 ht) (c_X12_keep K ht hq3) ⟨Nat.zero_le _, Nat.zero_le _⟩ (Nat.le_of_ble_eq_true rfl) rfl ?_
      refine e_aload_n C 0 (dk dX12_earn 23 rfl) rfl rfl ?_
      refine gf_X12_purse C K ht fl_X12_75 (dk dX12_earn 24 rfl) ?_
      refine e_iload_n C 1 (dk dX12_earn 25 rfl) rfl rfl ?_
      refine e_sipush C 999 (dk dX12_earn 26 rfl) (by decide) ?_
      refine e_aload_n C 0 (dk dX12_earn 27 rfl) rfl rfl ?_
      refine gf_X12_purse C K ht fl_X12_75 (dk dX12_earn 28 rfl) ?_
      refine e_iload_n C 1 (dk dX12_earn 29 rfl) rfl rfl ?_
      obtain ⟨v4, hv4, h⟩ := ob h
      refine m_ald C K (kd_X12_purse K ht) (dk dX12_earn 30 rfl) hv4 ?_
      refine e_iload_n C 2 (dk dX12_earn 31 rfl) rfl rfl ?_
      refine e_iadd C (dk dX12_earn 32 rfl) ?_
      refine e_mmin C hR ml_X12_193 (dk dX12_earn 33 rfl) (Nat.le_of_ble_eq_true rfl) ?_
      obtain ⟨M5, hM5, h⟩ := ob h
      refine m_ast C K (kd_X12_purse K ht) (dk dX12_earn 34 rfl) hM5 ?_
      refine e_aload_n C 0 (dk dX12_earn 35 rfl) rfl rfl ?_
      refine gf_X12_purse C K ht fl_X12_75 (dk dX12_earn 36 rfl) ?_
      refine e_iload_n C 1 (dk dX12_earn 37 rfl) rfl rfl ?_
      obtain ⟨v6, hv6, h⟩ := ob h
      refine m_ald C K (kd_X12_purse K ht) (dk dX12_earn 38 rfl) hv6 ?_
      obtain rfl := Option.some.inj h
      exact e_iret C B (nar1 _) (dk dX12_earn 39 rfl)
    · rw [if_pos c2] at h
      refine e_aload_n C 0 (dk dX12_earn 17 rfl) rfl rfl ?_
      refine e_iconst C 1 (dk dX12_earn 18 rfl) (by decide) ?_
      obtain ⟨q7, hq7, h⟩ := ob h
      refine e_callV (ci := 12) C cal_X12_refuse im_X12_refuse se_X12_refuse ml_X12_408 rfl hR (by decide) (dk dX12_earn 19 rfl) (K.1 _ (by rw [ht]; decide)) (ent_o12 ht) (c_X12_refuse K ht hq7) ⟨Nat.zero_le _, Nat.zero_le _⟩ (Nat.le_of_ble_eq_true rfl) rfl ?_
      obtain rfl := Option.some.inj h
      exact e_iret C B (nar1 _) (dk dX12_earn 20 rfl)
  · rw [if_pos c1] at h
    refine e_aload_n C 0 (dk dX12_earn 7 rfl) rfl rfl ?_
    refine e_iconst C 1 (dk dX12_earn 8 rfl) (by decide) ?_
    refine e_callV (ci := 12) C cal_X12_fail im_X12_fail se_X12_fail ml_X12_318 rfl hR (by decide) (dk dX12_earn 9 rfl) (K.1 _ (by rw [ht]; decide)) (ent_o12 ht) (c_X12_fail K ht (rfl : F_X12_fail t 1 (up M t 2 0) = _)) ⟨Nat.zero_le _, Nat.zero_le _⟩ (Nat.le_of_ble_eq_true rfl) rfl ?_
    obtain rfl := Option.some.inj h
    exact e_iret C B (nar1 _) (dk dX12_earn 10 rfl)
set_option maxRecDepth 20000 in
theorem c_X12_reserve {g : WC} {Xo : Nat → va_E} {n : Nat} {kd : Nat → Nat} (K : KD n kd) {t : Nat} {p0 : Int32} (ht : kd t = 13) {M : Mem} {res : Int32 × Mem} (h : F_X12_reserve t p0 M = some res) : MC g yX12_reserve cX12_reserve 3 (some .int) 2 n [.ref (g_N g + t), .int p0] (ent g Xo kd M) (some (.int res.1)) (ent g Xo kd res.2) := by
  refine MC_of pn_X12 (Nat.le_of_ble_eq_true rfl) (fun X C B => ?_)
  have hR := B.1
  rw [F_X12_reserve] at h
  refine e_aload_n C 0 (dk dX12_reserve 0 rfl) rfl rfl ?_
  refine e_iconst C 0 (dk dX12_reserve 1 rfl) (by decide) ?_
  refine pf_X12_code C K ht fl_X12_156 (dk dX12_reserve 2 rfl) ?_
  refine e_iload_n C 1 (dk dX12_reserve 3 rfl) rfl rfl ?_
  refine e_i2l C (dk dX12_reserve 4 rfl) ?_
  refine e_lconst C 0 (dk dX12_reserve 5 rfl) (by decide) ?_
  refine e_ldc2 C kl_X12_423 (dk dX12_reserve 6 rfl) ?_
  refine e_callS C cal_X12_isIn sm_X12_isIn ml_X12_159 hR (by decide) (dk dX12_reserve 7 rfl) (c_X12_isIn K (rfl : F_X12_isIn p0.toInt64 0 99 = _)) ⟨Nat.zero_le _, Nat.zero_le _⟩ (Nat.le_of_ble_eq_true rfl) rfl ?_
  refine e_if_ne C 23 (dk dX12_reserve 8 rfl) (by decide) (fun c1 => ?_) (fun c1 => ?_)
  · rw [if_neg c1] at h
    refine e_aload_n C 0 (dk dX12_reserve 13 rfl) rfl rfl ?_
    obtain ⟨q2, hq2, h⟩ := ob h
    refine e_callV (ci := 12) C cal_X12_keep im_X12_keep se_X12_keep ml_X12_411 rfl hR (by decide) (dk dX12_reserve 14 rfl) (K.1 _ (by rw [ht]; decide)) (ent_o12 ht) (c_X12_keep K ht hq2) ⟨Nat.zero_le _, Nat.zero_le _⟩ (Nat.le_of_ble_eq_true rfl) rfl ?_
    refine e_aload_n C 0 (dk dX12_reserve 15 rfl) rfl rfl ?_
    refine gf_X12_held C K ht fl_X12_153 (dk dX12_reserve 16 rfl) ?_
    refine e_istore_n C [(2, .int (q2 t 31)), (0, .ref (g_N g + t)), (1, .int p0)] (dk dX12_reserve 17 rfl) rfl (by decide) rfl ?_
    refine e_aload_n C 1 (dk dX12_reserve 18 rfl) rfl rfl ?_
    refine e_iload_n C 2 (dk dX12_reserve 19 rfl) rfl rfl ?_
    refine pf_X12_held C K ht fl_X12_153 (dk dX12_reserve 20 rfl) ?_
    refine e_iload_n C 0 (dk dX12_reserve 21 rfl) rfl rfl ?_
    obtain rfl := Option.some.inj h
    exact e_iret C B (nar1 _) (dk dX12_reserve 22 rfl)
  · rw [if_pos c1] at h
    refine e_aload_n C 0 (dk dX12_reserve 9 rfl) rfl rfl ?_
    refine e_iconst C 1 (dk dX12_reserve 10 rfl) (by decide) ?_
    obtain ⟨q3, hq3, h⟩ := ob h
    refine e_callV (ci := 12) C cal_X12_refuse im_X12_refuse se_X12_refuse ml_X12_408 rfl hR (by decide) (dk dX12_reserve 11 rfl) (K.1 _ (by rw [ht]; decide)) (ent_o12 ht) (c_X12_refuse K ht hq3) ⟨Nat.zero_le _, Nat.zero_le _⟩ (Nat.le_of_ble_eq_true rfl) rfl ?_
    obtain rfl := Option.some.inj h
    exact e_iret C B (nar1 _) (dk dX12_reserve 12 rfl)
set_option maxRecDepth 20000 in
theorem c_X12_undo {g : WC} {Xo : Nat → va_E} {n : Nat} {kd : Nat → Nat} (K : KD n kd) {t : Nat} (ht : kd t = 13) {M : Mem} {res : Int32 × Mem} (h : F_X12_undo t M = some res) : MC g yX12_undo cX12_undo 1 (some .int) 1 n [.ref (g_N g + t)] (ent g Xo kd M) (some (.int res.1)) (ent g Xo kd res.2) := by
  refine MC_of pn_X12 (Nat.le_of_ble_eq_true rfl) (fun X C B => ?_)
  have hR := B.1
  rw [F_X12_undo] at h
  refine e_aload_n C 0 (dk dX12_undo 0 rfl) rfl rfl ?_
  refine e_iconst C 0 (dk dX12_undo 1 rfl) (by decide) ?_
  refine pf_X12_code C K ht fl_X12_156 (dk dX12_undo 2 rfl) ?_
  refine e_aload_n C 0 (dk dX12_undo 3 rfl) rfl rfl ?_
  refine gf_X12_acts C K ht fl_X12_339 (dk dX12_undo 4 rfl) ?_
  refine e_if_ne C 14 (dk dX12_undo 5 rfl) (by decide) (fun c1 => ?_) (fun c1 => ?_)
  · rw [if_neg c1] at h
    refine e_aload_n C 0 (dk dX12_undo 8 rfl) rfl rfl ?_
    refine e_dup C (dk dX12_undo 9 rfl) rfl ?_
    refine gf_X12_acts C K ht fl_X12_339 (dk dX12_undo 10 rfl) ?_
    refine e_iconst C 1 (dk dX12_undo 11 rfl) (by decide) ?_
    refine e_isub C (dk dX12_undo 12 rfl) ?_
    refine pf_X12_acts C K ht fl_X12_339 (dk dX12_undo 13 rfl) ?_
    refine e_aload_n C 0 (dk dX12_undo 14 rfl) rfl rfl ?_
    refine e_aload_n C 0 (dk dX12_undo 15 rfl) rfl rfl ?_
    refine gf_X12_past C K ht fl_X12_83 (dk dX12_undo 16 rfl) ?_
    refine e_bipush C 60 (dk dX12_undo 17 rfl) (by decide) ?_
    refine e_aload_n C 0 (dk dX12_undo 18 rfl) rfl rfl ?_
    refine gf_X12_acts C K ht fl_X12_339 (dk dX12_undo 19 rfl) ?_
    refine e_imul C (dk dX12_undo 20 rfl) ?_
    obtain ⟨q2, hq2, h⟩ := ob h
    refine e_callV (ci := 12) C cal_X12_unpack im_X12_unpack se_X12_unpack ml_X12_425 rfl hR (by decide) (dk dX12_undo 21 rfl) (K.1 _ (by rw [ht]; decide)) (ent_o12 ht) (c_X12_unpack K ht (kd_X12_past K ht) hq2) ⟨Nat.zero_le _, Nat.zero_le _⟩ (Nat.le_of_ble_eq_true rfl) rfl ?_
    refine e_aload_n C 0 (dk dX12_undo 22 rfl) rfl rfl ?_
    refine gf_X12_acts C K ht fl_X12_339 (dk dX12_undo 23 rfl) ?_
    obtain rfl := Option.some.inj h
    exact e_iret C B (nar1 _) (dk dX12_undo 24 rfl)
  · rw [if_pos c1] at h
    refine e_iconst C (-1) (dk dX12_undo 6 rfl) (by decide) ?_
    obtain rfl := Option.some.inj h
    exact e_iret C B (nar1 _) (dk dX12_undo 7 rfl)
set_option maxRecDepth 20000 in
theorem c_X12_lots {g : WC} {Xo : Nat → va_E} {n : Nat} {kd : Nat → Nat} (K : KD n kd) {t : Nat} {p0 : Int32} (ht : kd t = 13) {M : Mem} {res : Int32 × Mem} (h : F_X12_lots t p0 M = some res) : MC g yX12_lots cX12_lots 2 (some .int) 6 n [.ref (g_N g + t), .int p0] (ent g Xo kd M) (some (.int res.1)) (ent g Xo kd res.2) := by
  refine MC_of pn_X12 (Nat.le_of_ble_eq_true rfl) (fun X C B => ?_)
  have hR := B.1
  rw [F_X12_lots] at h
  refine e_aload_n C 0 (dk dX12_lots 0 rfl) rfl rfl ?_
  refine e_iconst C 0 (dk dX12_lots 1 rfl) (by decide) ?_
  refine pf_X12_code C K ht fl_X12_156 (dk dX12_lots 2 rfl) ?_
  refine e_iload_n C 1 (dk dX12_lots 3 rfl) rfl rfl ?_
  refine e_i2l C (dk dX12_lots 4 rfl) ?_
  refine e_lconst C 1 (dk dX12_lots 5 rfl) (by decide) ?_
  refine e_ldc2 C kl_X12_428 (dk dX12_lots 6 rfl) ?_
  refine e_callS C cal_X12_isIn sm_X12_isIn ml_X12_159 hR (by decide) (dk dX12_lots 7 rfl) (c_X12_isIn K (rfl : F_X12_isIn p0.toInt64 1 40 = _)) ⟨Nat.zero_le _, Nat.zero_le _⟩ (Nat.le_of_ble_eq_true rfl) rfl ?_
  refine e_if_ne C 23 (dk dX12_lots 8 rfl) (by decide) (fun c1 => ?_) (fun c1 => ?_)
  · rw [if_neg c1] at h
    refine e_aload_n C 0 (dk dX12_lots 13 rfl) rfl rfl ?_
    refine e_aload_n C 0 (dk dX12_lots 14 rfl) rfl rfl ?_
    refine gf_X12_rowThen C K ht fl_X12_104 (dk dX12_lots 15 rfl) ?_
    refine e_iconst C 0 (dk dX12_lots 16 rfl) (by decide) ?_
    obtain ⟨q2, hq2, h⟩ := ob h
    refine e_callV (ci := 12) C cal_X12_pack im_X12_pack se_X12_pack ml_X12_402 rfl hR (by decide) (dk dX12_lots 17 rfl) (K.1 _ (by rw [ht]; decide)) (ent_o12 ht) (c_X12_pack K ht (kd_X12_rowThen K ht) hq2) ⟨Nat.zero_le _, Nat.zero_le _⟩ (Nat.le_of_ble_eq_true rfl) rfl ?_
    refine e_aload_n C 0 (dk dX12_lots 18 rfl) rfl rfl ?_
    refine e_iload_n C 1 (dk dX12_lots 19 rfl) rfl rfl ?_
    obtain ⟨q3, hq3, h⟩ := ob h
    refine e_callV (ci := 12) C cal_X12_goOn im_X12_goOn se_X12_goOn ml_X12_414 rfl hR (by decide) (dk dX12_lots 20 rfl) (K.1 _ (by rw [ht]; decide)) (ent_o12 ht) (c_X12_goOn K ht hq3) ⟨Nat.zero_le _, Nat.zero_le _⟩ (Nat.le_of_ble_eq_true rfl) rfl ?_
    refine e_aload_n C 0 (dk dX12_lots 21 rfl) rfl rfl ?_
    refine e_aload_n C 0 (dk dX12_lots 22 rfl) rfl rfl ?_
    refine gf_X12_rowThen C K ht fl_X12_104 (dk dX12_lots 23 rfl) ?_
    refine e_iconst C 0 (dk dX12_lots 24 rfl) (by decide) ?_
    obtain ⟨q4, hq4, h⟩ := ob h
    refine e_callV (ci := 12) C cal_X12_unpack im_X12_unpack se_X12_unpack ml_X12_425 rfl hR (by decide) (dk dX12_lots 25 rfl) (K.1 _ (by rw [ht]; decide)) (ent_o12 ht) (c_X12_unpack K ht (kd_X12_rowThen K ht) hq4) ⟨Nat.zero_le _, Nat.zero_le _⟩ (Nat.le_of_ble_eq_true rfl) rfl ?_
    refine e_aload_n C 0 (dk dX12_lots 26 rfl) rfl rfl ?_
    refine gf_X12_lots C K ht fl_X12_364 (dk dX12_lots 27 rfl) ?_
    obtain rfl := Option.some.inj h
    exact e_iret C B (nar1 _) (dk dX12_lots 28 rfl)
  · rw [if_pos c1] at h
    refine e_aload_n C 0 (dk dX12_lots 9 rfl) rfl rfl ?_
    refine e_iconst C 1 (dk dX12_lots 10 rfl) (by decide) ?_
    refine e_callV (ci := 12) C cal_X12_fail im_X12_fail se_X12_fail ml_X12_318 rfl hR (by decide) (dk dX12_lots 11 rfl) (K.1 _ (by rw [ht]; decide)) (ent_o12 ht) (c_X12_fail K ht (rfl : F_X12_fail t 1 (up M t 2 0) = _)) ⟨Nat.zero_le _, Nat.zero_le _⟩ (Nat.le_of_ble_eq_true rfl) rfl ?_
    obtain rfl := Option.some.inj h
    exact e_iret C B (nar1 _) (dk dX12_lots 12 rfl)
set_option maxRecDepth 20000 in
theorem j_X12_sold_j22 {X : FX} {g : WC} {Xo : Nat → va_E} {n : Nat} {kd : Nat → Nat} (C : Cx X g RX12 cX12_sold 4) (K : KD n kd) {t : Nat} (ht : kd t = 13) (hR : x_R X = rm 6) {M : Mem} {res : Int32 × Mem} (h : J_X12_sold_j22 t M = some res) (B : Bx X g (some .int) 6 n (some (.int res.1)) (ent g Xo kd res.2)) : EW X g (x_s X).heap.size n 4 (ent g Xo kd M) 0 0 22 [(0, .ref (g_N g + t))] [] := by
  rw [J_X12_sold_j22] at h
  refine e_aload_n C 0 (dk dX12_sold 12 rfl) rfl rfl ?_
  refine e_iconst C 1 (dk dX12_sold 13 rfl) (by decide) ?_
  refine e_callV (ci := 12) C cal_X12_fail im_X12_fail se_X12_fail ml_X12_318 rfl hR (by decide) (dk dX12_sold 14 rfl) (K.1 _ (by rw [ht]; decide)) (ent_o12 ht) (c_X12_fail K ht (rfl : F_X12_fail t 1 M = _)) ⟨Nat.zero_le _, Nat.zero_le _⟩ (Nat.le_of_ble_eq_true rfl) rfl ?_
  obtain rfl := Option.some.inj h
  exact e_iret C B (nar1 _) (dk dX12_sold 15 rfl)
set_option maxRecDepth 20000 in
theorem c_X12_sold {g : WC} {Xo : Nat → va_E} {n : Nat} {kd : Nat → Nat} (K : KD n kd) {t : Nat} {p0 : Int32} {p1 : Int32} {p2 : Int32} (ht : kd t = 13) {M : Mem} {res : Int32 × Mem} (h : F_X12_sold t p0 p1 p2 M = some res) : MC g yX12_sold cX12_sold 4 (some .int) 6 n [.ref (g_N g + t), .int p0, .int p1, .int p2] (ent g Xo kd M) (some (.int res.1)) (ent g Xo kd res.2) := by
  refine MC_of pn_X12 (Nat.le_of_ble_eq_true rfl) (fun X C B => ?_)
  have hR := B.1
  rw [F_X12_sold] at h
  refine e_aload_n C 0 (dk dX12_sold 0 rfl) rfl rfl ?_
  refine e_iconst C 0 (dk dX12_sold 1 rfl) (by decide) ?_
  refine pf_X12_code C K ht fl_X12_156 (dk dX12_sold 2 rfl) ?_
  refine e_aload_n C 0 (dk dX12_sold 3 rfl) rfl rfl ?_
  refine e_iload_n C 1 (dk dX12_sold 4 rfl) rfl rfl ?_
  refine e_callV (ci := 12) C cal_X12_isPerson im_X12_isPerson se_X12_isPerson ml_X12_399 rfl hR (by decide) (dk dX12_sold 5 rfl) (K.1 _ (by rw [ht]; decide)) (ent_o12 ht) (c_X12_isPerson K ht (rfl : F_X12_isPerson t p0 (up M t 2 0) = _)) ⟨Nat.zero_le _, Nat.zero_le _⟩ (Nat.le_of_ble_eq_true rfl) rfl ?_
  refine e_if_eq C 22 (dk dX12_sold 6 rfl) (by decide) (fun c1 => ?_) (fun c1 => ?_)
  · rw [if_pos c1] at h
    refine e_lv [0] rfl ?_
    exact j_X12_sold_j22 C K ht hR h B
  · rw [if_neg c1] at h
    refine e_iload_n C 3 (dk dX12_sold 7 rfl) rfl rfl ?_
    refine e_if_lt C 22 (dk dX12_sold 8 rfl) (by decide) (fun c2 => ?_) (fun c2 => ?_)
    · rw [if_pos c2] at h
      refine e_lv [0] rfl ?_
      exact j_X12_sold_j22 C K ht hR h B
    · rw [if_neg c2] at h
      refine e_iload_n C 3 (dk dX12_sold 9 rfl) rfl rfl ?_
      refine e_iconst C 1 (dk dX12_sold 10 rfl) (by decide) ?_
      refine e_icmp_le C 28 (dk dX12_sold 11 rfl) (by decide) (fun c3 => ?_) (fun c3 => ?_)
      · rw [if_pos c3] at h
        refine e_iload_n C 2 (dk dX12_sold 16 rfl) rfl rfl ?_
        refine e_i2l C (dk dX12_sold 17 rfl) ?_
        refine e_lconst C 1 (dk dX12_sold 18 rfl) (by decide) ?_
        refine e_ldc2 C kl_X12_428 (dk dX12_sold 19 rfl) ?_
        refine e_callS C cal_X12_isIn sm_X12_isIn ml_X12_159 hR (by decide) (dk dX12_sold 20 rfl) (c_X12_isIn K (rfl : F_X12_isIn p1.toInt64 1 40 = _)) ⟨Nat.zero_le _, Nat.zero_le _⟩ (Nat.le_of_ble_eq_true rfl) rfl ?_
        refine e_if_ne C 46 (dk dX12_sold 21 rfl) (by decide) (fun c4 => ?_) (fun c4 => ?_)
        · rw [if_neg c4] at h
          refine e_aload_n C 0 (dk dX12_sold 26 rfl) rfl rfl ?_
          refine e_aload_n C 0 (dk dX12_sold 27 rfl) rfl rfl ?_
          refine gf_X12_rowThen C K ht fl_X12_104 (dk dX12_sold 28 rfl) ?_
          refine e_iconst C 0 (dk dX12_sold 29 rfl) (by decide) ?_
          obtain ⟨q5, hq5, h⟩ := ob h
          refine e_callV (ci := 12) C cal_X12_pack im_X12_pack se_X12_pack ml_X12_402 rfl hR (by decide) (dk dX12_sold 30 rfl) (K.1 _ (by rw [ht]; decide)) (ent_o12 ht) (c_X12_pack K ht (kd_X12_rowThen K ht) hq5) ⟨Nat.zero_le _, Nat.zero_le _⟩ (Nat.le_of_ble_eq_true rfl) rfl ?_
          refine e_aload_n C 0 (dk dX12_sold 31 rfl) rfl rfl ?_
          refine e_iload_n C 2 (dk dX12_sold 32 rfl) rfl rfl ?_
          obtain ⟨q6, hq6, h⟩ := ob h
          refine e_callV (ci := 12) C cal_X12_goOn im_X12_goOn se_X12_goOn ml_X12_414 rfl hR (by decide) (dk dX12_sold 33 rfl) (K.1 _ (by rw [ht]; decide)) (ent_o12 ht) (c_X12_goOn K ht hq6) ⟨Nat.zero_le _, Nat.zero_le _⟩ (Nat.le_of_ble_eq_true rfl) rfl ?_
          refine e_aload_n C 0 (dk dX12_sold 34 rfl) rfl rfl ?_
          refine e_aload_n C 0 (dk dX12_sold 35 rfl) rfl rfl ?_
          refine gf_X12_rowThen C K ht fl_X12_104 (dk dX12_sold 36 rfl) ?_
          refine e_iconst C 0 (dk dX12_sold 37 rfl) (by decide) ?_
          obtain ⟨q7, hq7, h⟩ := ob h
          refine e_callV (ci := 12) C cal_X12_unpack im_X12_unpack se_X12_unpack ml_X12_425 rfl hR (by decide) (dk dX12_sold 38 rfl) (K.1 _ (by rw [ht]; decide)) (ent_o12 ht) (c_X12_unpack K ht (kd_X12_rowThen K ht) hq7) ⟨Nat.zero_le _, Nat.zero_le _⟩ (Nat.le_of_ble_eq_true rfl) rfl ?_
          refine e_iload_n C 3 (dk dX12_sold 39 rfl) rfl rfl ?_
          refine e_if_ne C 82 (dk dX12_sold 40 rfl) (by decide) (fun c8 => ?_) (fun c8 => ?_)
          · rw [if_neg c8] at h
            refine e_aload_n C 0 (dk dX12_sold 46 rfl) rfl rfl ?_
            refine gf_X12_prices C K ht fl_X12_101 (dk dX12_sold 47 rfl) ?_
            refine e_iload_n C 1 (dk dX12_sold 48 rfl) rfl rfl ?_
            obtain ⟨v9, hv9, h⟩ := ob h
            refine m_ald C K (kd_X12_prices K ht) (dk dX12_sold 49 rfl) hv9 ?_
            obtain rfl := Option.some.inj h
            exact e_iret C B (nar1 _) (dk dX12_sold 50 rfl)
          · rw [if_pos c8] at h
            refine e_aload_n C 0 (dk dX12_sold 41 rfl) rfl rfl ?_
            refine gf_X12_buyers C K ht fl_X12_98 (dk dX12_sold 42 rfl) ?_
            refine e_iload_n C 1 (dk dX12_sold 43 rfl) rfl rfl ?_
            obtain ⟨v10, hv10, h⟩ := ob h
            refine m_ald C K (kd_X12_buyers K ht) (dk dX12_sold 44 rfl) hv10 ?_
            refine e_goto C 88 (dk dX12_sold 45 rfl) (by decide) ?_
            obtain rfl := Option.some.inj h
            exact e_iret C B (nar1 _) (dk dX12_sold 50 rfl)
        · rw [if_pos c4] at h
          refine e_aload_n C 0 (dk dX12_sold 22 rfl) rfl rfl ?_
          refine e_iconst C 2 (dk dX12_sold 23 rfl) (by decide) ?_
          refine e_callV (ci := 12) C cal_X12_fail im_X12_fail se_X12_fail ml_X12_318 rfl hR (by decide) (dk dX12_sold 24 rfl) (K.1 _ (by rw [ht]; decide)) (ent_o12 ht) (c_X12_fail K ht (rfl : F_X12_fail t 2 (up M t 2 0) = _)) ⟨Nat.zero_le _, Nat.zero_le _⟩ (Nat.le_of_ble_eq_true rfl) rfl ?_
          obtain rfl := Option.some.inj h
          exact e_iret C B (nar1 _) (dk dX12_sold 25 rfl)
      · rw [if_neg c3] at h
        refine e_lv [0] rfl ?_
        exact j_X12_sold_j22 C K ht hR h B
set_option maxRecDepth 20000 in
theorem j_X12_then_j22 {X : FX} {g : WC} {Xo : Nat → va_E} {n : Nat} {kd : Nat → Nat} (C : Cx X g RX12 cX12_then 5) (K : KD n kd) {t : Nat} (ht : kd t = 13) (hR : x_R X = rm 6) {M : Mem} {res : Int32 × Mem} (h : J_X12_then_j22 t M = some res) (B : Bx X g (some .int) 6 n (some (.int res.1)) (ent g Xo kd res.2)) : EW X g (x_s X).heap.size n 5 (ent g Xo kd M) 0 0 22 [(0, .ref (g_N g + t))] [] := by
  rw [J_X12_then_j22] at h
  refine e_aload_n C 0 (dk dX12_then 12 rfl) rfl rfl ?_
  refine e_iconst C 1 (dk dX12_then 13 rfl) (by decide) ?_
  refine e_callV (ci := 12) C cal_X12_fail im_X12_fail se_X12_fail ml_X12_318 rfl hR (by decide) (dk dX12_then 14 rfl) (K.1 _ (by rw [ht]; decide)) (ent_o12 ht) (c_X12_fail K ht (rfl : F_X12_fail t 1 M = _)) ⟨Nat.zero_le _, Nat.zero_le _⟩ (Nat.le_of_ble_eq_true rfl) rfl ?_
  obtain rfl := Option.some.inj h
  exact e_iret C B (nar1 _) (dk dX12_then 15 rfl)
set_option maxRecDepth 20000 in
theorem j_X12_then_j79 {X : FX} {g : WC} {Xo : Nat → va_E} {n : Nat} {kd : Nat → Nat} (C : Cx X g RX12 cX12_then 5) (K : KD n kd) {t : Nat} (ht : kd t = 13) (hR : x_R X = rm 6) {y0 : Int32} {M : Mem} {res : Int32 × Mem} (h : J_X12_then_j79 t y0 M = some res) (B : Bx X g (some .int) 6 n (some (.int res.1)) (ent g Xo kd res.2)) : EW X g (x_s X).heap.size n 5 (ent g Xo kd M) 0 0 79 [(0, .ref (g_N g + t))] [.int y0] := by
  rw [J_X12_then_j79] at h
  refine e_istore C [(4, .int y0), (0, .ref (g_N g + t))] (dk dX12_then 45 rfl) (by decide) rfl ?_
  refine e_aload_n C 1 (dk dX12_then 46 rfl) rfl rfl ?_
  refine e_aload_n C 1 (dk dX12_then 47 rfl) rfl rfl ?_
  refine gf_X12_rowThen C K ht fl_X12_104 (dk dX12_then 48 rfl) ?_
  refine e_iconst C 0 (dk dX12_then 49 rfl) (by decide) ?_
  obtain ⟨q9, hq9, h⟩ := ob h
  refine e_callV (ci := 12) C cal_X12_unpack im_X12_unpack se_X12_unpack ml_X12_425 rfl hR (by decide) (dk dX12_then 50 rfl) (K.1 _ (by rw [ht]; decide)) (ent_o12 ht) (c_X12_unpack K ht (kd_X12_rowThen K ht) hq9) ⟨Nat.zero_le _, Nat.zero_le _⟩ (Nat.le_of_ble_eq_true rfl) rfl ?_
  refine e_iload C 0 (dk dX12_then 51 rfl) rfl ?_
  obtain rfl := Option.some.inj h
  exact e_iret C B (nar1 _) (dk dX12_then 52 rfl)
set_option maxRecDepth 20000 in
theorem c_X12_then {g : WC} {Xo : Nat → va_E} {n : Nat} {kd : Nat → Nat} (K : KD n kd) {t : Nat} {p0 : Int32} {p1 : Int32} {p2 : Int32} (ht : kd t = 13) {M : Mem} {res : Int32 × Mem} (h : F_X12_then t p0 p1 p2 M = some res) : MC g yX12_then cX12_then 5 (some .int) 6 n [.ref (g_N g + t), .int p0, .int p1, .int p2] (ent g Xo kd M) (some (.int res.1)) (ent g Xo kd res.2) := by
  refine MC_of pn_X12 (Nat.le_of_ble_eq_true rfl) (fun X C B => ?_)
  have hR := B.1
  rw [F_X12_then] at h
  refine e_aload_n C 0 (dk dX12_then 0 rfl) rfl rfl ?_
  refine e_iconst C 0 (dk dX12_then 1 rfl) (by decide) ?_
  refine pf_X12_code C K ht fl_X12_156 (dk dX12_then 2 rfl) ?_
  refine e_aload_n C 0 (dk dX12_then 3 rfl) rfl rfl ?_
  refine e_iload_n C 1 (dk dX12_then 4 rfl) rfl rfl ?_
  refine e_callV (ci := 12) C cal_X12_isPerson im_X12_isPerson se_X12_isPerson ml_X12_399 rfl hR (by decide) (dk dX12_then 5 rfl) (K.1 _ (by rw [ht]; decide)) (ent_o12 ht) (c_X12_isPerson K ht (rfl : F_X12_isPerson t p0 (up M t 2 0) = _)) ⟨Nat.zero_le _, Nat.zero_le _⟩ (Nat.le_of_ble_eq_true rfl) rfl ?_
  refine e_if_eq C 22 (dk dX12_then 6 rfl) (by decide) (fun c1 => ?_) (fun c1 => ?_)
  · rw [if_pos c1] at h
    refine e_lv [0] rfl ?_
    exact j_X12_then_j22 C K ht hR h B
  · rw [if_neg c1] at h
    refine e_iload_n C 3 (dk dX12_then 7 rfl) rfl rfl ?_
    refine e_if_lt C 22 (dk dX12_then 8 rfl) (by decide) (fun c2 => ?_) (fun c2 => ?_)
    · rw [if_pos c2] at h
      refine e_lv [0] rfl ?_
      exact j_X12_then_j22 C K ht hR h B
    · rw [if_neg c2] at h
      refine e_iload_n C 3 (dk dX12_then 9 rfl) rfl rfl ?_
      refine e_iconst C 1 (dk dX12_then 10 rfl) (by decide) ?_
      refine e_icmp_le C 28 (dk dX12_then 11 rfl) (by decide) (fun c3 => ?_) (fun c3 => ?_)
      · rw [if_pos c3] at h
        refine e_iload_n C 2 (dk dX12_then 16 rfl) rfl rfl ?_
        refine e_i2l C (dk dX12_then 17 rfl) ?_
        refine e_lconst C 0 (dk dX12_then 18 rfl) (by decide) ?_
        refine e_ldc2 C kl_X12_428 (dk dX12_then 19 rfl) ?_
        refine e_callS C cal_X12_isIn sm_X12_isIn ml_X12_159 hR (by decide) (dk dX12_then 20 rfl) (c_X12_isIn K (rfl : F_X12_isIn p1.toInt64 0 40 = _)) ⟨Nat.zero_le _, Nat.zero_le _⟩ (Nat.le_of_ble_eq_true rfl) rfl ?_
        refine e_if_ne C 46 (dk dX12_then 21 rfl) (by decide) (fun c4 => ?_) (fun c4 => ?_)
        · rw [if_neg c4] at h
          refine e_aload_n C 0 (dk dX12_then 26 rfl) rfl rfl ?_
          refine e_aload_n C 0 (dk dX12_then 27 rfl) rfl rfl ?_
          refine gf_X12_rowThen C K ht fl_X12_104 (dk dX12_then 28 rfl) ?_
          refine e_iconst C 0 (dk dX12_then 29 rfl) (by decide) ?_
          obtain ⟨q5, hq5, h⟩ := ob h
          refine e_callV (ci := 12) C cal_X12_pack im_X12_pack se_X12_pack ml_X12_402 rfl hR (by decide) (dk dX12_then 30 rfl) (K.1 _ (by rw [ht]; decide)) (ent_o12 ht) (c_X12_pack K ht (kd_X12_rowThen K ht) hq5) ⟨Nat.zero_le _, Nat.zero_le _⟩ (Nat.le_of_ble_eq_true rfl) rfl ?_
          refine e_aload_n C 0 (dk dX12_then 31 rfl) rfl rfl ?_
          refine e_iload_n C 2 (dk dX12_then 32 rfl) rfl rfl ?_
          obtain ⟨q6, hq6, h⟩ := ob h
          refine e_callV (ci := 12) C cal_X12_goOn im_X12_goOn se_X12_goOn ml_X12_414 rfl hR (by decide) (dk dX12_then 33 rfl) (K.1 _ (by rw [ht]; decide)) (ent_o12 ht) (c_X12_goOn K ht hq6) ⟨Nat.zero_le _, Nat.zero_le _⟩ (Nat.le_of_ble_eq_true rfl) rfl ?_
          refine e_iload_n C 3 (dk dX12_then 34 rfl) rfl rfl ?_
          refine e_if_ne C 73 (dk dX12_then 35 rfl) (by decide) (fun c7 => ?_) (fun c7 => ?_)
          · rw [if_neg c7] at h
            refine e_aload_n C 0 (dk dX12_then 41 rfl) rfl rfl ?_
            refine gf_X12_knows C K ht fl_X12_78 (dk dX12_then 42 rfl) ?_
            refine e_iload_n C 1 (dk dX12_then 43 rfl) rfl rfl ?_
            obtain ⟨v8, hv8, h⟩ := ob h
            refine m_ald C K (kd_X12_knows K ht) (dk dX12_then 44 rfl) hv8 ?_
            refine e_lv [0] rfl ?_
            exact j_X12_then_j79 C K ht hR h B
          · rw [if_pos c7] at h
            refine e_aload_n C 0 (dk dX12_then 36 rfl) rfl rfl ?_
            refine gf_X12_purse C K ht fl_X12_75 (dk dX12_then 37 rfl) ?_
            refine e_iload_n C 1 (dk dX12_then 38 rfl) rfl rfl ?_
            obtain ⟨v10, hv10, h⟩ := ob h
            refine m_ald C K (kd_X12_purse K ht) (dk dX12_then 39 rfl) hv10 ?_
            refine e_goto C 79 (dk dX12_then 40 rfl) (by decide) ?_
            refine e_lv [0] rfl ?_
            exact j_X12_then_j79 C K ht hR h B
        · rw [if_pos c4] at h
          refine e_aload_n C 0 (dk dX12_then 22 rfl) rfl rfl ?_
          refine e_iconst C 2 (dk dX12_then 23 rfl) (by decide) ?_
          refine e_callV (ci := 12) C cal_X12_fail im_X12_fail se_X12_fail ml_X12_318 rfl hR (by decide) (dk dX12_then 24 rfl) (K.1 _ (by rw [ht]; decide)) (ent_o12 ht) (c_X12_fail K ht (rfl : F_X12_fail t 2 (up M t 2 0) = _)) ⟨Nat.zero_le _, Nat.zero_le _⟩ (Nat.le_of_ble_eq_true rfl) rfl ?_
          obtain rfl := Option.some.inj h
          exact e_iret C B (nar1 _) (dk dX12_then 25 rfl)
      · rw [if_neg c3] at h
        refine e_lv [0] rfl ?_
        exact j_X12_then_j22 C K ht hR h B
set_option maxRecDepth 20000 in
theorem c_X12_dark {g : WC} {Xo : Nat → va_E} {n : Nat} {kd : Nat → Nat} (K : KD n kd) {t : Nat} {p0 : Int32} (ht : kd t = 13) {M : Mem} {res : Int32 × Mem} (h : F_X12_dark t p0 M = some res) : MC g yX12_dark cX12_dark 3 (some .int) 6 n [.ref (g_N g + t), .int p0] (ent g Xo kd M) (some (.int res.1)) (ent g Xo kd res.2) := by
  refine MC_of pn_X12 (Nat.le_of_ble_eq_true rfl) (fun X C B => ?_)
  have hR := B.1
  rw [F_X12_dark] at h
  refine e_aload_n C 0 (dk dX12_dark 0 rfl) rfl rfl ?_
  refine e_iconst C 0 (dk dX12_dark 1 rfl) (by decide) ?_
  refine pf_X12_code C K ht fl_X12_156 (dk dX12_dark 2 rfl) ?_
  refine e_iload_n C 1 (dk dX12_dark 3 rfl) rfl rfl ?_
  refine e_i2l C (dk dX12_dark 4 rfl) ?_
  refine e_lconst C 0 (dk dX12_dark 5 rfl) (by decide) ?_
  refine e_ldc2 C kl_X12_428 (dk dX12_dark 6 rfl) ?_
  refine e_callS C cal_X12_isIn sm_X12_isIn ml_X12_159 hR (by decide) (dk dX12_dark 7 rfl) (c_X12_isIn K (rfl : F_X12_isIn p0.toInt64 0 40 = _)) ⟨Nat.zero_le _, Nat.zero_le _⟩ (Nat.le_of_ble_eq_true rfl) rfl ?_
  refine e_if_ne C 23 (dk dX12_dark 8 rfl) (by decide) (fun c1 => ?_) (fun c1 => ?_)
  · rw [if_neg c1] at h
    refine e_aload_n C 0 (dk dX12_dark 13 rfl) rfl rfl ?_
    refine e_aload_n C 0 (dk dX12_dark 14 rfl) rfl rfl ?_
    refine gf_X12_rowThen C K ht fl_X12_104 (dk dX12_dark 15 rfl) ?_
    refine e_iconst C 0 (dk dX12_dark 16 rfl) (by decide) ?_
    obtain ⟨q2, hq2, h⟩ := ob h
    refine e_callV (ci := 12) C cal_X12_pack im_X12_pack se_X12_pack ml_X12_402 rfl hR (by decide) (dk dX12_dark 17 rfl) (K.1 _ (by rw [ht]; decide)) (ent_o12 ht) (c_X12_pack K ht (kd_X12_rowThen K ht) hq2) ⟨Nat.zero_le _, Nat.zero_le _⟩ (Nat.le_of_ble_eq_true rfl) rfl ?_
    refine e_aload_n C 0 (dk dX12_dark 18 rfl) rfl rfl ?_
    refine e_iload_n C 1 (dk dX12_dark 19 rfl) rfl rfl ?_
    obtain ⟨q3, hq3, h⟩ := ob h
    refine e_callV (ci := 12) C cal_X12_goOn im_X12_goOn se_X12_goOn ml_X12_414 rfl hR (by decide) (dk dX12_dark 20 rfl) (K.1 _ (by rw [ht]; decide)) (ent_o12 ht) (c_X12_goOn K ht hq3) ⟨Nat.zero_le _, Nat.zero_le _⟩ (Nat.le_of_ble_eq_true rfl) rfl ?_
    refine e_aload_n C 0 (dk dX12_dark 21 rfl) rfl rfl ?_
    refine gf_X12_darkness C K ht fl_X12_333 (dk dX12_dark 22 rfl) ?_
    refine e_istore_n C [(2, .int (q3 t 30)), (0, .ref (g_N g + t)), (1, .int p0)] (dk dX12_dark 23 rfl) rfl (by decide) rfl ?_
    refine e_aload_n C 1 (dk dX12_dark 24 rfl) rfl rfl ?_
    refine e_aload_n C 1 (dk dX12_dark 25 rfl) rfl rfl ?_
    refine gf_X12_rowThen C K ht fl_X12_104 (dk dX12_dark 26 rfl) ?_
    refine e_iconst C 0 (dk dX12_dark 27 rfl) (by decide) ?_
    obtain ⟨q4, hq4, h⟩ := ob h
    refine e_callV (ci := 12) C cal_X12_unpack im_X12_unpack se_X12_unpack ml_X12_425 rfl hR (by decide) (dk dX12_dark 28 rfl) (K.1 _ (by rw [ht]; decide)) (ent_o12 ht) (c_X12_unpack K ht (kd_X12_rowThen K ht) hq4) ⟨Nat.zero_le _, Nat.zero_le _⟩ (Nat.le_of_ble_eq_true rfl) rfl ?_
    refine e_iload_n C 0 (dk dX12_dark 29 rfl) rfl rfl ?_
    obtain rfl := Option.some.inj h
    exact e_iret C B (nar1 _) (dk dX12_dark 30 rfl)
  · rw [if_pos c1] at h
    refine e_aload_n C 0 (dk dX12_dark 9 rfl) rfl rfl ?_
    refine e_iconst C 1 (dk dX12_dark 10 rfl) (by decide) ?_
    refine e_callV (ci := 12) C cal_X12_fail im_X12_fail se_X12_fail ml_X12_318 rfl hR (by decide) (dk dX12_dark 11 rfl) (K.1 _ (by rw [ht]; decide)) (ent_o12 ht) (c_X12_fail K ht (rfl : F_X12_fail t 1 (up M t 2 0) = _)) ⟨Nat.zero_le _, Nat.zero_le _⟩ (Nat.le_of_ble_eq_true rfl) rfl ?_
    obtain rfl := Option.some.inj h
    exact e_iret C B (nar1 _) (dk dX12_dark 12 rfl)
set_option maxRecDepth 20000 in
theorem j_X12_spends_j98 {X : FX} {g : WC} {Xo : Nat → va_E} {n : Nat} {kd : Nat → Nat} (C : Cx X g RX12 cX12_spends 6) (K : KD n kd) {t : Nat} (ht : kd t = 13) {x1 : Int32} {x2 : Int32} {x4 : Int32} {M : Mem} (hR : x_R X = rm 5) {OK : Int32 → Prop} (hx : ∀ s, OK s → EW X g (x_s X).heap.size n 6 (ent g Xo kd M) 0 0 106 [(0, .ref (g_N g + t)), (1, .int x1), (2, .int x2), (3, .int s), (4, .int x4)] []) {rec : Int32 → Int32 → Option (Int32)} (hrec : ∀ (x3 : Int32) (x5 : Int32) (q : Int32), rec x3 x5 = some q → OK q → EW X g (x_s X).heap.size n 6 (ent g Xo kd M) 0 0 64 [(0, .ref (g_N g + t)), (1, .int x1), (2, .int x2), (3, .int x3), (4, .int x4), (5, .int x5)] []) {x5 : Int32} {y0 : Int32} {y1 : Int32} (q : Int32) (h : J_X12_spends_j98 t rec x1 x2 x4 x5 y0 y1 M = some q) (hOK : OK q) : EW X g (x_s X).heap.size n 6 (ent g Xo kd M) 0 0 98 [(0, .ref (g_N g + t)), (1, .int x1), (2, .int x2), (4, .int x4), (5, .int x5)] [.int y1, .int y0] := by
  rw [J_X12_spends_j98] at h
  refine e_iadd C (dk dX12_spends_0 56 rfl) ?_
  refine e_istore_n C [(3, .int (y0 + y1)), (0, .ref (g_N g + t)), (1, .int x1), (2, .int x2), (4, .int x4), (5, .int x5)] (dk dX12_spends_0 57 rfl) rfl (by decide) rfl ?_
  refine e_iinc C [(5, .int (x5 + 1)), (3, .int (y0 + y1)), (0, .ref (g_N g + t)), (1, .int x1), (2, .int x2), (4, .int x4)] 5 1 (dk dX12_spends_0 58 rfl) rfl (by decide) (by decide) rfl ?_
  refine e_goto C 64 (dk dX12_spends_0 59 rfl) (by decide) ?_
  refine e_lv [2, 3, 4, 1, 5, 0] rfl ?_
  exact hrec _ _ _ h hOK
set_option maxRecDepth 20000 in
theorem l_X12_spends_64 {X : FX} {g : WC} {Xo : Nat → va_E} {n : Nat} {kd : Nat → Nat} (C : Cx X g RX12 cX12_spends 6) (K : KD n kd) {t : Nat} (ht : kd t = 13) {x1 : Int32} {x2 : Int32} {x4 : Int32} {M : Mem} (hR : x_R X = rm 5) {OK : Int32 → Prop} (hx : ∀ s, OK s → EW X g (x_s X).heap.size n 6 (ent g Xo kd M) 0 0 106 [(0, .ref (g_N g + t)), (1, .int x1), (2, .int x2), (3, .int s), (4, .int x4)] []) : ∀ (N9 : Nat) (x3 : Int32) (x5 : Int32) (q : Int32), L_X12_spends_64 t x1 x2 x4 M N9 x3 x5 = some q → OK q → EW X g (x_s X).heap.size n 6 (ent g Xo kd M) 0 0 64 [(0, .ref (g_N g + t)), (1, .int x1), (2, .int x2), (3, .int x3), (4, .int x4), (5, .int x5)] [] := by
  intro N9
  induction N9 with
  | zero =>
    intro x3 x5 q h
    rw [L_X12_spends_64.eq_1] at h
    cases h
  | succ m9 ih =>
    intro x3 x5 q h hOK
    rw [L_X12_spends_64.eq_2] at h
    refine e_iload C 5 (dk dX12_spends_0 37 rfl) rfl ?_
    refine e_aload_n C 0 (dk dX12_spends_0 38 rfl) rfl rfl ?_
    refine gf_X12_told C K ht fl_X12_38 (dk dX12_spends_0 39 rfl) ?_
    refine e_iconst C 3 (dk dX12_spends_0 40 rfl) (by decide) ?_
    refine m_aldc C K (kd_X12_told K ht) 3 (dk dX12_spends_0 41 rfl) (by decide) (by decide) ?_
    refine e_icmp_ge C 106 (dk dX12_spends_0 42 rfl) (by decide) (fun c6 => ?_) (fun c6 => ?_)
    · rw [if_pos c6] at h
      obtain rfl := Option.some.inj h
      refine e_lv [0, 1, 2, 3, 4] rfl ?_
      exact hx _ hOK
    · rw [if_neg c6] at h
      refine e_iload_n C 3 (dk dX12_spends_0 43 rfl) rfl rfl ?_
      refine e_aload_n C 0 (dk dX12_spends_0 44 rfl) rfl rfl ?_
      refine gf_X12_buyers C K ht fl_X12_98 (dk dX12_spends_0 45 rfl) ?_
      refine e_iload C 5 (dk dX12_spends_0 46 rfl) rfl ?_
      obtain ⟨v7, hv7, h⟩ := ob h
      refine m_ald C K (kd_X12_buyers K ht) (dk dX12_spends_0 47 rfl) hv7 ?_
      refine e_iload_n C 1 (dk dX12_spends_0 48 rfl) rfl rfl ?_
      refine e_icmp_ne C 97 (dk dX12_spends_0 49 rfl) (by decide) (fun c8 => ?_) (fun c8 => ?_)
      · rw [if_neg c8] at h
        refine e_iconst C 0 (dk dX12_spends_0 55 rfl) (by decide) ?_
        refine e_lv [0, 1, 2, 4, 5] rfl ?_
        exact j_X12_spends_j98 C K ht hR hx ih _ h hOK
      · rw [if_pos c8] at h
        refine e_aload_n C 0 (dk dX12_spends_0 50 rfl) rfl rfl ?_
        refine gf_X12_prices C K ht fl_X12_101 (dk dX12_spends_0 51 rfl) ?_
        refine e_iload C 5 (dk dX12_spends_0 52 rfl) rfl ?_
        obtain ⟨v9, hv9, h⟩ := ob h
        refine m_ald C K (kd_X12_prices K ht) (dk dX12_spends_0 53 rfl) hv9 ?_
        refine e_goto C 98 (dk dX12_spends_0 54 rfl) (by decide) ?_
        refine e_lv [0, 1, 2, 4, 5] rfl ?_
        exact j_X12_spends_j98 C K ht hR hx ih _ h hOK
set_option maxRecDepth 20000 in
theorem lb_X12_spends_64 {X : FX} {g : WC} {Xo : Nat → va_E} {n : Nat} {kd : Nat → Nat} (C : Cx X g RX12 cX12_spends 6) (K : KD n kd) {t : Nat} (ht : kd t = 13) {x1 : Int32} {x2 : Int32} {x4 : Int32} {M : Mem} (hR : x_R X = rm 5) {T9 : Type} {f9 : Int32 → Option T9} {b9 : T9} (hx : ∀ s, f9 s = some b9 → EW X g (x_s X).heap.size n 6 (ent g Xo kd M) 0 0 106 [(0, .ref (g_N g + t)), (1, .int x1), (2, .int x2), (3, .int s), (4, .int x4)] []) {x3 : Int32} {x5 : Int32} (h : (L_X12_spends_64 t x1 x2 x4 M FU x3 x5).bind f9 = some b9) : EW X g (x_s X).heap.size n 6 (ent g Xo kd M) 0 0 64 [(0, .ref (g_N g + t)), (1, .int x1), (2, .int x2), (3, .int x3), (4, .int x4), (5, .int x5)] [] := by
  obtain ⟨q, hq, h⟩ := ob h
  exact l_X12_spends_64 C K ht hR (OK := fun q => f9 q = some b9) hx FU x3 x5 q hq h
set_option maxRecDepth 20000 in
theorem l_X12_spends_51 {X : FX} {g : WC} {Xo : Nat → va_E} {n : Nat} {kd : Nat → Nat} (C : Cx X g RX12 cX12_spends 6) (K : KD n kd) {t : Nat} (ht : kd t = 13) {x1 : Int32} {x2 : Int32} (hR : x_R X = rm 5) {OK : Int32 × Mem → Prop} (hx : ∀ s, OK s → EW X g (x_s X).heap.size n 6 (ent g Xo kd s.2) 0 0 112 [(0, .ref (g_N g + t)), (3, .int s.1)] []) : ∀ (N9 : Nat) (x3 : Int32) (x4 : Int32) (M : Mem) (q : Int32 × Mem), L_X12_spends_51 t x1 x2 N9 x3 x4 M = some q → OK q → EW X g (x_s X).heap.size n 6 (ent g Xo kd M) 0 0 51 [(0, .ref (g_N g + t)), (1, .int x1), (2, .int x2), (3, .int x3), (4, .int x4)] [] := by
  intro N9
  induction N9 with
  | zero =>
    intro x3 x4 M q h
    rw [L_X12_spends_51.eq_1] at h
    cases h
  | succ m9 ih =>
    intro x3 x4 M q h hOK
    rw [L_X12_spends_51.eq_2] at h
    refine e_iload C 4 (dk dX12_spends_0 30 rfl) rfl ?_
    refine e_iload_n C 2 (dk dX12_spends_0 31 rfl) rfl rfl ?_
    refine e_icmp_ge C 112 (dk dX12_spends_0 32 rfl) (by decide) (fun c4 => ?_) (fun c4 => ?_)
    · rw [if_pos c4] at h
      obtain rfl := Option.some.inj h
      refine e_lv [0, 3] rfl ?_
      exact hx _ hOK
    · rw [if_neg c4] at h
      refine e_aload_n C 0 (dk dX12_spends_0 33 rfl) rfl rfl ?_
      obtain ⟨q5, hq5, h⟩ := ob h
      refine e_callV (ci := 12) C cal_X12_aNight im_X12_aNight se_X12_aNight ml_X12_390 rfl hR (by decide) (dk dX12_spends_0 34 rfl) (K.1 _ (by rw [ht]; decide)) (ent_o12 ht) (c_X12_aNight K ht hq5) ⟨Nat.zero_le _, Nat.zero_le _⟩ (Nat.le_of_ble_eq_true rfl) rfl ?_
      refine e_iconst C 0 (dk dX12_spends_0 35 rfl) (by decide) ?_
      refine e_istore C [(5, .int 0), (0, .ref (g_N g + t)), (1, .int x1), (2, .int x2), (3, .int x3), (4, .int x4)] (dk dX12_spends_0 36 rfl) (by decide) rfl ?_
      refine e_lv [1, 2, 3, 4, 5, 0] rfl ?_
      refine lb_X12_spends_64 C K ht hR (fun s11 h => ?_) h
      refine e_iinc C [(4, .int (x4 + 1)), (0, .ref (g_N g + t)), (1, .int x1), (2, .int x2), (3, .int s11)] 4 1 (dk dX12_spends_1 0 rfl) rfl (by decide) (by decide) rfl ?_
      refine e_goto C 51 (dk dX12_spends_1 1 rfl) (by decide) ?_
      refine e_lv [1, 2, 3, 4, 0] rfl ?_
      exact ih _ _ _ _ h hOK
set_option maxRecDepth 20000 in
theorem lb_X12_spends_51 {X : FX} {g : WC} {Xo : Nat → va_E} {n : Nat} {kd : Nat → Nat} (C : Cx X g RX12 cX12_spends 6) (K : KD n kd) {t : Nat} (ht : kd t = 13) {x1 : Int32} {x2 : Int32} (hR : x_R X = rm 5) {T9 : Type} {f9 : Int32 × Mem → Option T9} {b9 : T9} (hx : ∀ s, f9 s = some b9 → EW X g (x_s X).heap.size n 6 (ent g Xo kd s.2) 0 0 112 [(0, .ref (g_N g + t)), (3, .int s.1)] []) {x3 : Int32} {x4 : Int32} {M : Mem} (h : (L_X12_spends_51 t x1 x2 FU x3 x4 M).bind f9 = some b9) : EW X g (x_s X).heap.size n 6 (ent g Xo kd M) 0 0 51 [(0, .ref (g_N g + t)), (1, .int x1), (2, .int x2), (3, .int x3), (4, .int x4)] [] := by
  obtain ⟨q, hq, h⟩ := ob h
  exact l_X12_spends_51 C K ht hR (OK := fun q => f9 q = some b9) hx FU x3 x4 M q hq h
set_option maxRecDepth 20000 in
theorem c_X12_spends {g : WC} {Xo : Nat → va_E} {n : Nat} {kd : Nat → Nat} (K : KD n kd) {t : Nat} {p0 : Int32} {p1 : Int32} (ht : kd t = 13) {M : Mem} {res : Int32 × Mem} (h : F_X12_spends t p0 p1 M = some res) : MC g yX12_spends cX12_spends 6 (some .int) 5 n [.ref (g_N g + t), .int p0, .int p1] (ent g Xo kd M) (some (.int res.1)) (ent g Xo kd res.2) := by
  refine MC_of pn_X12 (Nat.le_of_ble_eq_true rfl) (fun X C B => ?_)
  have hR := B.1
  rw [F_X12_spends] at h
  refine e_aload_n C 0 (dk dX12_spends_0 0 rfl) rfl rfl ?_
  refine e_iconst C 0 (dk dX12_spends_0 1 rfl) (by decide) ?_
  refine pf_X12_code C K ht fl_X12_156 (dk dX12_spends_0 2 rfl) ?_
  refine e_aload_n C 0 (dk dX12_spends_0 3 rfl) rfl rfl ?_
  refine e_iload_n C 1 (dk dX12_spends_0 4 rfl) rfl rfl ?_
  refine e_callV (ci := 12) C cal_X12_isPerson im_X12_isPerson se_X12_isPerson ml_X12_399 rfl hR (by decide) (dk dX12_spends_0 5 rfl) (K.1 _ (by rw [ht]; decide)) (ent_o12 ht) (c_X12_isPerson K ht (rfl : F_X12_isPerson t p0 (up M t 2 0) = _)) ⟨Nat.zero_le _, Nat.zero_le _⟩ (Nat.le_of_ble_eq_true rfl) rfl ?_
  refine e_if_ne C 19 (dk dX12_spends_0 6 rfl) (by decide) (fun c1 => ?_) (fun c1 => ?_)
  · rw [if_neg c1] at h
    refine e_iload_n C 2 (dk dX12_spends_0 11 rfl) rfl rfl ?_
    refine e_i2l C (dk dX12_spends_0 12 rfl) ?_
    refine e_lconst C 0 (dk dX12_spends_0 13 rfl) (by decide) ?_
    refine e_ldc2 C kl_X12_428 (dk dX12_spends_0 14 rfl) ?_
    refine e_callS C cal_X12_isIn sm_X12_isIn ml_X12_159 hR (by decide) (dk dX12_spends_0 15 rfl) (c_X12_isIn K (rfl : F_X12_isIn p1.toInt64 0 40 = _)) ⟨Nat.zero_le _, Nat.zero_le _⟩ (Nat.le_of_ble_eq_true rfl) rfl ?_
    refine e_if_ne C 37 (dk dX12_spends_0 16 rfl) (by decide) (fun c2 => ?_) (fun c2 => ?_)
    · rw [if_neg c2] at h
      refine e_aload_n C 0 (dk dX12_spends_0 21 rfl) rfl rfl ?_
      refine e_aload_n C 0 (dk dX12_spends_0 22 rfl) rfl rfl ?_
      refine gf_X12_rowThen C K ht fl_X12_104 (dk dX12_spends_0 23 rfl) ?_
      refine e_iconst C 0 (dk dX12_spends_0 24 rfl) (by decide) ?_
      obtain ⟨q3, hq3, h⟩ := ob h
      refine e_callV (ci := 12) C cal_X12_pack im_X12_pack se_X12_pack ml_X12_402 rfl hR (by decide) (dk dX12_spends_0 25 rfl) (K.1 _ (by rw [ht]; decide)) (ent_o12 ht) (c_X12_pack K ht (kd_X12_rowThen K ht) hq3) ⟨Nat.zero_le _, Nat.zero_le _⟩ (Nat.le_of_ble_eq_true rfl) rfl ?_
      refine e_iconst C 0 (dk dX12_spends_0 26 rfl) (by decide) ?_
      refine e_istore_n C [(3, .int 0), (0, .ref (g_N g + t)), (1, .int p0), (2, .int p1)] (dk dX12_spends_0 27 rfl) rfl (by decide) rfl ?_
      refine e_iconst C 0 (dk dX12_spends_0 28 rfl) (by decide) ?_
      refine e_istore C [(4, .int 0), (3, .int 0), (0, .ref (g_N g + t)), (1, .int p0), (2, .int p1)] (dk dX12_spends_0 29 rfl) (by decide) rfl ?_
      refine e_lv [2, 3, 4, 1, 0] rfl ?_
      refine lb_X12_spends_51 C K ht hR (fun s13 h => ?_) h
      refine e_aload_n C 0 (dk dX12_spends_1 2 rfl) rfl rfl ?_
      refine e_aload_n C 0 (dk dX12_spends_1 3 rfl) rfl rfl ?_
      refine gf_X12_rowThen C K ht fl_X12_104 (dk dX12_spends_1 4 rfl) ?_
      refine e_iconst C 0 (dk dX12_spends_1 5 rfl) (by decide) ?_
      obtain ⟨q14, hq14, h⟩ := ob h
      refine e_callV (ci := 12) C cal_X12_unpack im_X12_unpack se_X12_unpack ml_X12_425 rfl hR (by decide) (dk dX12_spends_1 6 rfl) (K.1 _ (by rw [ht]; decide)) (ent_o12 ht) (c_X12_unpack K ht (kd_X12_rowThen K ht) hq14) ⟨Nat.zero_le _, Nat.zero_le _⟩ (Nat.le_of_ble_eq_true rfl) rfl ?_
      refine e_iload_n C 1 (dk dX12_spends_1 7 rfl) rfl rfl ?_
      obtain rfl := Option.some.inj h
      exact e_iret C B (nar1 _) (dk dX12_spends_1 8 rfl)
    · rw [if_pos c2] at h
      refine e_aload_n C 0 (dk dX12_spends_0 17 rfl) rfl rfl ?_
      refine e_iconst C 2 (dk dX12_spends_0 18 rfl) (by decide) ?_
      refine e_callV (ci := 12) C cal_X12_fail im_X12_fail se_X12_fail ml_X12_318 rfl hR (by decide) (dk dX12_spends_0 19 rfl) (K.1 _ (by rw [ht]; decide)) (ent_o12 ht) (c_X12_fail K ht (rfl : F_X12_fail t 2 (up M t 2 0) = _)) ⟨Nat.zero_le _, Nat.zero_le _⟩ (Nat.le_of_ble_eq_true rfl) rfl ?_
      obtain rfl := Option.some.inj h
      exact e_iret C B (nar1 _) (dk dX12_spends_0 20 rfl)
  · rw [if_pos c1] at h
    refine e_aload_n C 0 (dk dX12_spends_0 7 rfl) rfl rfl ?_
    refine e_iconst C 1 (dk dX12_spends_0 8 rfl) (by decide) ?_
    refine e_callV (ci := 12) C cal_X12_fail im_X12_fail se_X12_fail ml_X12_318 rfl hR (by decide) (dk dX12_spends_0 9 rfl) (K.1 _ (by rw [ht]; decide)) (ent_o12 ht) (c_X12_fail K ht (rfl : F_X12_fail t 1 (up M t 2 0) = _)) ⟨Nat.zero_le _, Nat.zero_le _⟩ (Nat.le_of_ble_eq_true rfl) rfl ?_
    obtain rfl := Option.some.inj h
    exact e_iret C B (nar1 _) (dk dX12_spends_0 10 rfl)
set_option maxRecDepth 20000 in
theorem l_X12_firstOf_13 {X : FX} {g : WC} {Xo : Nat → va_E} {n : Nat} {kd : Nat → Nat} (C : Cx X g RX12 cX12_firstOf 4) (K : KD n kd) {t : Nat} (ht : kd t = 13) {x1 : Int32} (hR : x_R X = rm 5) {OK : Int32 × Mem → Prop} (hx : ∀ s, OK s → EW X g (x_s X).heap.size n 4 (ent g Xo kd s.2) 0 0 47 [(0, .ref (g_N g + t)), (2, .int s.1)] []) : ∀ (N9 : Nat) (x2 : Int32) (x3 : Int32) (M : Mem) (q : Int32 × Mem), L_X12_firstOf_13 t x1 N9 x2 x3 M = some q → OK q → EW X g (x_s X).heap.size n 4 (ent g Xo kd M) 0 0 13 [(0, .ref (g_N g + t)), (1, .int x1), (2, .int x2), (3, .int x3)] [] := by
  intro N9
  induction N9 with
  | zero =>
    intro x2 x3 M q h
    rw [L_X12_firstOf_13.eq_1] at h
    cases h
  | succ m9 ih =>
    intro x2 x3 M q h hOK
    rw [L_X12_firstOf_13.eq_2] at h
    refine e_iload_n C 3 (dk dX12_firstOf 9 rfl) rfl rfl ?_
    refine e_bipush C 40 (dk dX12_firstOf 10 rfl) (by decide) ?_
    refine e_icmp_gt C 47 (dk dX12_firstOf 11 rfl) (by decide) (fun c2 => ?_) (fun c2 => ?_)
    · rw [if_pos c2] at h
      obtain rfl := Option.some.inj h
      refine e_lv [0, 2] rfl ?_
      exact hx _ hOK
    · rw [if_neg c2] at h
      refine e_iload_n C 2 (dk dX12_firstOf 12 rfl) rfl rfl ?_
      refine e_iconst C (-1) (dk dX12_firstOf 13 rfl) (by decide) ?_
      refine e_icmp_ne C 47 (dk dX12_firstOf 14 rfl) (by decide) (fun c3 => ?_) (fun c3 => ?_)
      · rw [if_neg c3] at h
        obtain rfl := Option.some.inj h
        refine e_lv [0, 2] rfl ?_
        exact hx _ hOK
      · rw [if_pos c3] at h
        refine e_aload_n C 0 (dk dX12_firstOf 15 rfl) rfl rfl ?_
        obtain ⟨q4, hq4, h⟩ := ob h
        refine e_callV (ci := 12) C cal_X12_aNight im_X12_aNight se_X12_aNight ml_X12_390 rfl hR (by decide) (dk dX12_firstOf 16 rfl) (K.1 _ (by rw [ht]; decide)) (ent_o12 ht) (c_X12_aNight K ht hq4) ⟨Nat.zero_le _, Nat.zero_le _⟩ (Nat.le_of_ble_eq_true rfl) rfl ?_
        refine e_aload_n C 0 (dk dX12_firstOf 17 rfl) rfl rfl ?_
        refine gf_X12_lots C K ht fl_X12_364 (dk dX12_firstOf 18 rfl) ?_
        refine e_iload_n C 1 (dk dX12_firstOf 19 rfl) rfl rfl ?_
        refine e_callS C cal_X12_isOf sm_X12_isOf ml_X12_287 hR (by decide) (dk dX12_firstOf 20 rfl) (c_X12_isOf K (rfl : F_X12_isOf (q4 t 39) x1 = _)) ⟨Nat.zero_le _, Nat.zero_le _⟩ (Nat.le_of_ble_eq_true rfl) rfl ?_
        refine e_if_eq C 41 (dk dX12_firstOf 21 rfl) (by decide) (fun c5 => ?_) (fun c5 => ?_)
        · rw [if_pos c5] at h
          refine e_iinc C [(3, .int (x3 + 1)), (0, .ref (g_N g + t)), (1, .int x1), (2, .int x2)] 3 1 (dk dX12_firstOf 24 rfl) rfl (by decide) (by decide) rfl ?_
          refine e_goto C 13 (dk dX12_firstOf 25 rfl) (by decide) ?_
          refine e_lv [1, 2, 3, 0] rfl ?_
          exact ih _ _ _ _ h hOK
        · rw [if_neg c5] at h
          refine e_iload_n C 3 (dk dX12_firstOf 22 rfl) rfl rfl ?_
          refine e_istore_n C [(2, .int x3), (0, .ref (g_N g + t)), (1, .int x1), (3, .int x3)] (dk dX12_firstOf 23 rfl) rfl (by decide) rfl ?_
          refine e_iinc C [(3, .int (x3 + 1)), (2, .int x3), (0, .ref (g_N g + t)), (1, .int x1)] 3 1 (dk dX12_firstOf 24 rfl) rfl (by decide) (by decide) rfl ?_
          refine e_goto C 13 (dk dX12_firstOf 25 rfl) (by decide) ?_
          refine e_lv [2, 3, 1, 0] rfl ?_
          exact ih _ _ _ _ h hOK
set_option maxRecDepth 20000 in
theorem lb_X12_firstOf_13 {X : FX} {g : WC} {Xo : Nat → va_E} {n : Nat} {kd : Nat → Nat} (C : Cx X g RX12 cX12_firstOf 4) (K : KD n kd) {t : Nat} (ht : kd t = 13) {x1 : Int32} (hR : x_R X = rm 5) {T9 : Type} {f9 : Int32 × Mem → Option T9} {b9 : T9} (hx : ∀ s, f9 s = some b9 → EW X g (x_s X).heap.size n 4 (ent g Xo kd s.2) 0 0 47 [(0, .ref (g_N g + t)), (2, .int s.1)] []) {x2 : Int32} {x3 : Int32} {M : Mem} (h : (L_X12_firstOf_13 t x1 FU x2 x3 M).bind f9 = some b9) : EW X g (x_s X).heap.size n 4 (ent g Xo kd M) 0 0 13 [(0, .ref (g_N g + t)), (1, .int x1), (2, .int x2), (3, .int x3)] [] := by
  obtain ⟨q, hq, h⟩ := ob h
  exact l_X12_firstOf_13 C K ht hR (OK := fun q => f9 q = some b9) hx FU x2 x3 M q hq h
set_option maxRecDepth 20000 in
theorem j_X12_firstOf_j47 {X : FX} {g : WC} {Xo : Nat → va_E} {n : Nat} {kd : Nat → Nat} (C : Cx X g RX12 cX12_firstOf 4) (K : KD n kd) {t : Nat} (ht : kd t = 13) (hR : x_R X = rm 5) {x2 : Int32} {M : Mem} {res : Int32 × Mem} (h : J_X12_firstOf_j47 t x2 M = some res) (B : Bx X g (some .int) 5 n (some (.int res.1)) (ent g Xo kd res.2)) : EW X g (x_s X).heap.size n 4 (ent g Xo kd M) 0 0 47 [(0, .ref (g_N g + t)), (2, .int x2)] [] := by
  rw [J_X12_firstOf_j47] at h
  refine e_aload_n C 0 (dk dX12_firstOf 26 rfl) rfl rfl ?_
  refine e_aload_n C 0 (dk dX12_firstOf 27 rfl) rfl rfl ?_
  refine gf_X12_rowThen C K ht fl_X12_104 (dk dX12_firstOf 28 rfl) ?_
  refine e_iconst C 0 (dk dX12_firstOf 29 rfl) (by decide) ?_
  obtain ⟨q8, hq8, h⟩ := ob h
  refine e_callV (ci := 12) C cal_X12_unpack im_X12_unpack se_X12_unpack ml_X12_425 rfl hR (by decide) (dk dX12_firstOf 30 rfl) (K.1 _ (by rw [ht]; decide)) (ent_o12 ht) (c_X12_unpack K ht (kd_X12_rowThen K ht) hq8) ⟨Nat.zero_le _, Nat.zero_le _⟩ (Nat.le_of_ble_eq_true rfl) rfl ?_
  refine e_iload_n C 1 (dk dX12_firstOf 31 rfl) rfl rfl ?_
  obtain rfl := Option.some.inj h
  exact e_iret C B (nar1 _) (dk dX12_firstOf 32 rfl)
set_option maxRecDepth 20000 in
theorem c_X12_firstOf {g : WC} {Xo : Nat → va_E} {n : Nat} {kd : Nat → Nat} (K : KD n kd) {t : Nat} {p0 : Int32} (ht : kd t = 13) {M : Mem} {res : Int32 × Mem} (h : F_X12_firstOf t p0 M = some res) : MC g yX12_firstOf cX12_firstOf 4 (some .int) 5 n [.ref (g_N g + t), .int p0] (ent g Xo kd M) (some (.int res.1)) (ent g Xo kd res.2) := by
  refine MC_of pn_X12 (Nat.le_of_ble_eq_true rfl) (fun X C B => ?_)
  have hR := B.1
  rw [F_X12_firstOf] at h
  refine e_aload_n C 0 (dk dX12_firstOf 0 rfl) rfl rfl ?_
  refine e_aload_n C 0 (dk dX12_firstOf 1 rfl) rfl rfl ?_
  refine gf_X12_rowThen C K ht fl_X12_104 (dk dX12_firstOf 2 rfl) ?_
  refine e_iconst C 0 (dk dX12_firstOf 3 rfl) (by decide) ?_
  obtain ⟨q1, hq1, h⟩ := ob h
  refine e_callV (ci := 12) C cal_X12_pack im_X12_pack se_X12_pack ml_X12_402 rfl hR (by decide) (dk dX12_firstOf 4 rfl) (K.1 _ (by rw [ht]; decide)) (ent_o12 ht) (c_X12_pack K ht (kd_X12_rowThen K ht) hq1) ⟨Nat.zero_le _, Nat.zero_le _⟩ (Nat.le_of_ble_eq_true rfl) rfl ?_
  refine e_iconst C (-1) (dk dX12_firstOf 5 rfl) (by decide) ?_
  refine e_istore_n C [(2, .int (-1)), (0, .ref (g_N g + t)), (1, .int p0)] (dk dX12_firstOf 6 rfl) rfl (by decide) rfl ?_
  refine e_iconst C 1 (dk dX12_firstOf 7 rfl) (by decide) ?_
  refine e_istore_n C [(3, .int 1), (2, .int (-1)), (0, .ref (g_N g + t)), (1, .int p0)] (dk dX12_firstOf 8 rfl) rfl (by decide) rfl ?_
  refine e_lv [2, 3, 1, 0] rfl ?_
  refine lb_X12_firstOf_13 C K ht hR (fun s7 h => ?_) h
  exact j_X12_firstOf_j47 C K ht hR h B
set_option maxRecDepth 20000 in
theorem c_X12_first {g : WC} {Xo : Nat → va_E} {n : Nat} {kd : Nat → Nat} (K : KD n kd) {t : Nat} {p0 : Int32} (ht : kd t = 13) {M : Mem} {res : Int32 × Mem} (h : F_X12_first t p0 M = some res) : MC g yX12_first cX12_first 2 (some .int) 6 n [.ref (g_N g + t), .int p0] (ent g Xo kd M) (some (.int res.1)) (ent g Xo kd res.2) := by
  refine MC_of pn_X12 (Nat.le_of_ble_eq_true rfl) (fun X C B => ?_)
  have hR := B.1
  rw [F_X12_first] at h
  refine e_aload_n C 0 (dk dX12_first 0 rfl) rfl rfl ?_
  refine e_iconst C 0 (dk dX12_first 1 rfl) (by decide) ?_
  refine pf_X12_code C K ht fl_X12_156 (dk dX12_first 2 rfl) ?_
  refine e_aload_n C 0 (dk dX12_first 3 rfl) rfl rfl ?_
  refine e_iload_n C 1 (dk dX12_first 4 rfl) rfl rfl ?_
  refine e_callV (ci := 12) C cal_X12_isPerson im_X12_isPerson se_X12_isPerson ml_X12_399 rfl hR (by decide) (dk dX12_first 5 rfl) (K.1 _ (by rw [ht]; decide)) (ent_o12 ht) (c_X12_isPerson K ht (rfl : F_X12_isPerson t p0 (up M t 2 0) = _)) ⟨Nat.zero_le _, Nat.zero_le _⟩ (Nat.le_of_ble_eq_true rfl) rfl ?_
  refine e_if_eq C 21 (dk dX12_first 6 rfl) (by decide) (fun c1 => ?_) (fun c1 => ?_)
  · rw [if_pos c1] at h
    refine e_aload_n C 0 (dk dX12_first 11 rfl) rfl rfl ?_
    refine e_iconst C 1 (dk dX12_first 12 rfl) (by decide) ?_
    refine e_callV (ci := 12) C cal_X12_fail im_X12_fail se_X12_fail ml_X12_318 rfl hR (by decide) (dk dX12_first 13 rfl) (K.1 _ (by rw [ht]; decide)) (ent_o12 ht) (c_X12_fail K ht (rfl : F_X12_fail t 1 (up M t 2 0) = _)) ⟨Nat.zero_le _, Nat.zero_le _⟩ (Nat.le_of_ble_eq_true rfl) rfl ?_
    obtain rfl := Option.some.inj h
    exact e_iret C B (nar1 _) (dk dX12_first 14 rfl)
  · rw [if_neg c1] at h
    refine e_aload_n C 0 (dk dX12_first 7 rfl) rfl rfl ?_
    refine e_iload_n C 1 (dk dX12_first 8 rfl) rfl rfl ?_
    obtain ⟨q2, hq2, h⟩ := ob h
    refine e_callV (ci := 12) C cal_X12_firstOf im_X12_firstOf se_X12_firstOf ml_X12_430 rfl hR (by decide) (dk dX12_first 9 rfl) (K.1 _ (by rw [ht]; decide)) (ent_o12 ht) (c_X12_firstOf K ht hq2) ⟨Nat.zero_le _, Nat.zero_le _⟩ (Nat.le_of_ble_eq_true rfl) rfl ?_
    refine e_goto C 26 (dk dX12_first 10 rfl) (by decide) ?_
    obtain rfl := Option.some.inj h
    exact e_iret C B (nar1 _) (dk dX12_first 14 rfl)
set_option maxRecDepth 20000 in
theorem l_X12_secret_9 {X : FX} {g : WC} {Xo : Nat → va_E} {n : Nat} {kd : Nat → Nat} (C : Cx X g RX12 cX12_secret 3) (K : KD n kd) {t : Nat} (ht : kd t = 13) (hR : x_R X = rm 6) {OK : Int32 × Mem → Prop} (hx : ∀ s, OK s → EW X g (x_s X).heap.size n 3 (ent g Xo kd s.2) 0 0 44 [(1, .int s.1)] []) : ∀ (N9 : Nat) (x1 : Int32) (x2 : Int32) (M : Mem) (q : Int32 × Mem), L_X12_secret_9 t N9 x1 x2 M = some q → OK q → EW X g (x_s X).heap.size n 3 (ent g Xo kd M) 0 0 9 [(0, .ref (g_N g + t)), (1, .int x1), (2, .int x2)] [] := by
  intro N9
  induction N9 with
  | zero =>
    intro x1 x2 M q h
    rw [L_X12_secret_9.eq_1] at h
    cases h
  | succ m9 ih =>
    intro x1 x2 M q h hOK
    rw [L_X12_secret_9.eq_2] at h
    refine e_iload_n C 2 (dk dX12_secret 7 rfl) rfl rfl ?_
    refine e_aload_n C 0 (dk dX12_secret 8 rfl) rfl rfl ?_
    refine gf_X12_told C K ht fl_X12_38 (dk dX12_secret 9 rfl) ?_
    refine e_iconst C 3 (dk dX12_secret 10 rfl) (by decide) ?_
    refine m_aldc C K (kd_X12_told K ht) 3 (dk dX12_secret 11 rfl) (by decide) (by decide) ?_
    refine e_icmp_ge C 44 (dk dX12_secret 12 rfl) (by decide) (fun c1 => ?_) (fun c1 => ?_)
    · rw [if_pos c1] at h
      obtain rfl := Option.some.inj h
      refine e_lv [1] rfl ?_
      exact hx _ hOK
    · rw [if_neg c1] at h
      refine e_iload_n C 1 (dk dX12_secret 13 rfl) rfl rfl ?_
      refine e_aload_n C 0 (dk dX12_secret 14 rfl) rfl rfl ?_
      refine e_iload_n C 2 (dk dX12_secret 15 rfl) rfl rfl ?_
      obtain ⟨q2, hq2, h⟩ := ob h
      refine e_callV (ci := 12) C cal_X12_firstOf im_X12_firstOf se_X12_firstOf ml_X12_430 rfl hR (by decide) (dk dX12_secret 16 rfl) (K.1 _ (by rw [ht]; decide)) (ent_o12 ht) (c_X12_firstOf K ht hq2) ⟨Nat.zero_le _, Nat.zero_le _⟩ (Nat.le_of_ble_eq_true rfl) rfl ?_
      refine e_iconst C (-1) (dk dX12_secret 17 rfl) (by decide) ?_
      suffices hm4 : EW X g (x_s X).heap.size n 3 (ent g Xo kd q2.2) 0 0 36 [(0, .ref (g_N g + t)), (1, .int x1), (2, .int x2)] [.int (if q2.1 = (-1) then ((1 : Int32) <<< (x2 &&& 31)) else (0 : Int32)), .int x1] from (by
        refine e_icmp_ne C 35 (dk dX12_secret 18 rfl) (by decide) (fun c3 => ?_) (fun c3 => ?_)
        · rw [show (if q2.1 = (-1) then ((1 : Int32) <<< (x2 &&& 31)) else (0 : Int32)) = (0 : Int32) from if_neg c3] at hm4
          refine e_iconst C 0 (dk dX12_secret 23 rfl) (by decide) ?_
          exact hm4
        · rw [show (if q2.1 = (-1) then ((1 : Int32) <<< (x2 &&& 31)) else (0 : Int32)) = ((1 : Int32) <<< (x2 &&& 31)) from if_pos c3] at hm4
          refine e_iconst C 1 (dk dX12_secret 19 rfl) (by decide) ?_
          refine e_iload_n C 2 (dk dX12_secret 20 rfl) rfl rfl ?_
          refine e_ishl C (dk dX12_secret 21 rfl) ?_
          refine e_goto C 36 (dk dX12_secret 22 rfl) (by decide) ?_
          exact hm4)
      refine e_ior C (dk dX12_secret 24 rfl) ?_
      refine e_istore_n C [(1, .int (x1 ||| (if q2.1 = (-1) then ((1 : Int32) <<< (x2 &&& 31)) else (0 : Int32)))), (0, .ref (g_N g + t)), (2, .int x2)] (dk dX12_secret 25 rfl) rfl (by decide) rfl ?_
      refine e_iinc C [(2, .int (x2 + 1)), (1, .int (x1 ||| (if q2.1 = (-1) then ((1 : Int32) <<< (x2 &&& 31)) else (0 : Int32)))), (0, .ref (g_N g + t))] 2 1 (dk dX12_secret 26 rfl) rfl (by decide) (by decide) rfl ?_
      refine e_goto C 9 (dk dX12_secret 27 rfl) (by decide) ?_
      refine e_lv [2, 1, 0] rfl ?_
      exact ih _ _ _ _ h hOK
set_option maxRecDepth 20000 in
theorem lb_X12_secret_9 {X : FX} {g : WC} {Xo : Nat → va_E} {n : Nat} {kd : Nat → Nat} (C : Cx X g RX12 cX12_secret 3) (K : KD n kd) {t : Nat} (ht : kd t = 13) (hR : x_R X = rm 6) {T9 : Type} {f9 : Int32 × Mem → Option T9} {b9 : T9} (hx : ∀ s, f9 s = some b9 → EW X g (x_s X).heap.size n 3 (ent g Xo kd s.2) 0 0 44 [(1, .int s.1)] []) {x1 : Int32} {x2 : Int32} {M : Mem} (h : (L_X12_secret_9 t FU x1 x2 M).bind f9 = some b9) : EW X g (x_s X).heap.size n 3 (ent g Xo kd M) 0 0 9 [(0, .ref (g_N g + t)), (1, .int x1), (2, .int x2)] [] := by
  obtain ⟨q, hq, h⟩ := ob h
  exact l_X12_secret_9 C K ht hR (OK := fun q => f9 q = some b9) hx FU x1 x2 M q hq h
set_option maxRecDepth 20000 in
theorem c_X12_secret {g : WC} {Xo : Nat → va_E} {n : Nat} {kd : Nat → Nat} (K : KD n kd) {t : Nat} (ht : kd t = 13) {M : Mem} {res : Int32 × Mem} (h : F_X12_secret t M = some res) : MC g yX12_secret cX12_secret 3 (some .int) 6 n [.ref (g_N g + t)] (ent g Xo kd M) (some (.int res.1)) (ent g Xo kd res.2) := by
  refine MC_of pn_X12 (Nat.le_of_ble_eq_true rfl) (fun X C B => ?_)
  have hR := B.1
  rw [F_X12_secret] at h
  refine e_aload_n C 0 (dk dX12_secret 0 rfl) rfl rfl ?_
  refine e_iconst C 0 (dk dX12_secret 1 rfl) (by decide) ?_
  refine pf_X12_code C K ht fl_X12_156 (dk dX12_secret 2 rfl) ?_
  refine e_iconst C 0 (dk dX12_secret 3 rfl) (by decide) ?_
  refine e_istore_n C [(1, .int 0), (0, .ref (g_N g + t))] (dk dX12_secret 4 rfl) rfl (by decide) rfl ?_
  refine e_iconst C 0 (dk dX12_secret 5 rfl) (by decide) ?_
  refine e_istore_n C [(2, .int 0), (1, .int 0), (0, .ref (g_N g + t))] (dk dX12_secret 6 rfl) rfl (by decide) rfl ?_
  refine e_lv [2, 1, 0] rfl ?_
  refine lb_X12_secret_9 C K ht hR (fun s6 h => ?_) h
  refine e_iload_n C 0 (dk dX12_secret 28 rfl) rfl rfl ?_
  obtain rfl := Option.some.inj h
  exact e_iret C B (nar1 _) (dk dX12_secret 29 rfl)
set_option maxRecDepth 20000 in
theorem l_X12_haunt_25 {X : FX} {g : WC} {Xo : Nat → va_E} {n : Nat} {kd : Nat → Nat} (C : Cx X g RX12 cX12_haunt 5) (K : KD n kd) {t : Nat} (ht : kd t = 13) {x1 : Int32} (hR : x_R X = rm 5) {OK : Mem → Prop} (hx : ∀ s, OK s → EW X g (x_s X).heap.size n 5 (ent g Xo kd s) 0 0 44 [(0, .ref (g_N g + t)), (1, .int x1)] []) : ∀ (N9 : Nat) (x2 : Int32) (M : Mem) (q : Mem), L_X12_haunt_25 t x1 N9 x2 M = some q → OK q → EW X g (x_s X).heap.size n 5 (ent g Xo kd M) 0 0 25 [(0, .ref (g_N g + t)), (1, .int x1), (2, .int x2)] [] := by
  intro N9
  induction N9 with
  | zero =>
    intro x2 M q h
    rw [L_X12_haunt_25.eq_1] at h
    cases h
  | succ m9 ih =>
    intro x2 M q h hOK
    rw [L_X12_haunt_25.eq_2] at h
    refine e_iload_n C 2 (dk dX12_haunt_0 15 rfl) rfl rfl ?_
    refine e_bipush C 8 (dk dX12_haunt_0 16 rfl) (by decide) ?_
    refine e_icmp_ge C 44 (dk dX12_haunt_0 17 rfl) (by decide) (fun c2 => ?_) (fun c2 => ?_)
    · rw [if_pos c2] at h
      obtain rfl := Option.some.inj h
      refine e_lv [0, 1] rfl ?_
      exact hx _ hOK
    · rw [if_neg c2] at h
      refine e_aload_n C 0 (dk dX12_haunt_0 18 rfl) rfl rfl ?_
      refine gf_X12_haunted C K ht fl_X12_107 (dk dX12_haunt_0 19 rfl) ?_
      refine e_iload_n C 2 (dk dX12_haunt_0 20 rfl) rfl rfl ?_
      refine e_iconst C 0 (dk dX12_haunt_0 21 rfl) (by decide) ?_
      obtain ⟨M3, hM3, h⟩ := ob h
      refine m_ast C K (kd_X12_haunted K ht) (dk dX12_haunt_0 22 rfl) hM3 ?_
      refine e_iinc C [(2, .int (x2 + 1)), (0, .ref (g_N g + t)), (1, .int x1)] 2 1 (dk dX12_haunt_0 23 rfl) rfl (by decide) (by decide) rfl ?_
      refine e_goto C 25 (dk dX12_haunt_0 24 rfl) (by decide) ?_
      refine e_lv [1, 2, 0] rfl ?_
      exact ih _ _ _ h hOK
set_option maxRecDepth 20000 in
theorem lb_X12_haunt_25 {X : FX} {g : WC} {Xo : Nat → va_E} {n : Nat} {kd : Nat → Nat} (C : Cx X g RX12 cX12_haunt 5) (K : KD n kd) {t : Nat} (ht : kd t = 13) {x1 : Int32} (hR : x_R X = rm 5) {T9 : Type} {f9 : Mem → Option T9} {b9 : T9} (hx : ∀ s, f9 s = some b9 → EW X g (x_s X).heap.size n 5 (ent g Xo kd s) 0 0 44 [(0, .ref (g_N g + t)), (1, .int x1)] []) {x2 : Int32} {M : Mem} (h : (L_X12_haunt_25 t x1 FU x2 M).bind f9 = some b9) : EW X g (x_s X).heap.size n 5 (ent g Xo kd M) 0 0 25 [(0, .ref (g_N g + t)), (1, .int x1), (2, .int x2)] [] := by
  obtain ⟨q, hq, h⟩ := ob h
  exact l_X12_haunt_25 C K ht hR (OK := fun q => f9 q = some b9) hx FU x2 M q hq h
set_option maxRecDepth 20000 in
theorem l_X12_haunt_79 {X : FX} {g : WC} {Xo : Nat → va_E} {n : Nat} {kd : Nat → Nat} (C : Cx X g RX12 cX12_haunt 5) (K : KD n kd) {t : Nat} (ht : kd t = 13) {x1 : Int32} {x2 : Int32} {x3 : Int32} (hR : x_R X = rm 5) {OK : Mem → Prop} (hx : ∀ s, OK s → EW X g (x_s X).heap.size n 5 (ent g Xo kd s) 0 0 122 [(0, .ref (g_N g + t)), (1, .int x1), (2, .int x2), (3, .int x3)] []) : ∀ (N9 : Nat) (x4 : Int32) (M : Mem) (q : Mem), L_X12_haunt_79 t x1 x2 x3 N9 x4 M = some q → OK q → EW X g (x_s X).heap.size n 5 (ent g Xo kd M) 0 0 79 [(0, .ref (g_N g + t)), (1, .int x1), (2, .int x2), (3, .int x3), (4, .int x4)] [] := by
  intro N9
  induction N9 with
  | zero =>
    intro x4 M q h
    rw [L_X12_haunt_79.eq_1] at h
    cases h
  | succ m9 ih =>
    intro x4 M q h hOK
    rw [L_X12_haunt_79.eq_2] at h
    refine e_iload C 4 (dk dX12_haunt_0 47 rfl) rfl ?_
    refine e_bipush C 6 (dk dX12_haunt_0 48 rfl) (by decide) ?_
    refine e_icmp_ge C 122 (dk dX12_haunt_0 49 rfl) (by decide) (fun c10 => ?_) (fun c10 => ?_)
    · rw [if_pos c10] at h
      obtain rfl := Option.some.inj h
      refine e_lv [0, 1, 2, 3] rfl ?_
      exact hx _ hOK
    · rw [if_neg c10] at h
      refine e_aload_n C 0 (dk dX12_haunt_0 50 rfl) rfl rfl ?_
      refine gf_X12_hoursOf C K ht fl_X12_95 (dk dX12_haunt_0 51 rfl) ?_
      refine e_iload_n C 3 (dk dX12_haunt_0 52 rfl) rfl rfl ?_
      obtain ⟨v11, hv11, h⟩ := ob h
      refine m_ald C K (kd_X12_hoursOf K ht) (dk dX12_haunt_0 53 rfl) hv11 ?_
      refine e_iload C 4 (dk dX12_haunt_0 54 rfl) rfl ?_
      refine e_callS C cal_X12_isOf sm_X12_isOf ml_X12_287 hR (by decide) (dk dX12_haunt_0 55 rfl) (c_X12_isOf K (rfl : F_X12_isOf v11 x4 = _)) ⟨Nat.zero_le _, Nat.zero_le _⟩ (Nat.le_of_ble_eq_true rfl) rfl ?_
      refine e_if_eq C 116 (dk dX12_haunt_0 56 rfl) (by decide) (fun c12 => ?_) (fun c12 => ?_)
      · rw [if_pos c12] at h
        refine e_iinc C [(4, .int (x4 + 1)), (0, .ref (g_N g + t)), (1, .int x1), (2, .int x2), (3, .int x3)] 4 1 (dk dX12_haunt_1 8 rfl) rfl (by decide) (by decide) rfl ?_
        refine e_goto C 79 (dk dX12_haunt_1 9 rfl) (by decide) ?_
        refine e_lv [1, 2, 3, 4, 0] rfl ?_
        exact ih _ _ _ h hOK
      · rw [if_neg c12] at h
        refine e_aload_n C 0 (dk dX12_haunt_0 57 rfl) rfl rfl ?_
        refine gf_X12_haunted C K ht fl_X12_107 (dk dX12_haunt_0 58 rfl) ?_
        refine e_aload_n C 0 (dk dX12_haunt_0 59 rfl) rfl rfl ?_
        refine e_iload_n C 3 (dk dX12_haunt_1 0 rfl) rfl rfl ?_
        refine e_iload C 4 (dk dX12_haunt_1 1 rfl) rfl ?_
        obtain ⟨q13, hq13, h⟩ := ob h
        refine e_callV (ci := 12) C cal_X12_streetOf im_X12_streetOf se_X12_streetOf ml_X12_354 rfl hR (by decide) (dk dX12_haunt_1 2 rfl) (K.1 _ (by rw [ht]; decide)) (ent_o12 ht) (c_X12_streetOf K ht hq13) ⟨Nat.zero_le _, Nat.zero_le _⟩ (Nat.le_of_ble_eq_true rfl) rfl ?_
        refine e_dup2 C (dk dX12_haunt_1 3 rfl) rfl rfl ?_
        obtain ⟨v14, hv14, h⟩ := ob h
        refine m_ald C K (kd_X12_haunted K ht) (dk dX12_haunt_1 4 rfl) hv14 ?_
        refine e_iconst C 1 (dk dX12_haunt_1 5 rfl) (by decide) ?_
        refine e_iadd C (dk dX12_haunt_1 6 rfl) ?_
        obtain ⟨M15, hM15, h⟩ := ob h
        refine m_ast C K (kd_X12_haunted K ht) (dk dX12_haunt_1 7 rfl) hM15 ?_
        refine e_iinc C [(4, .int (x4 + 1)), (0, .ref (g_N g + t)), (1, .int x1), (2, .int x2), (3, .int x3)] 4 1 (dk dX12_haunt_1 8 rfl) rfl (by decide) (by decide) rfl ?_
        refine e_goto C 79 (dk dX12_haunt_1 9 rfl) (by decide) ?_
        refine e_lv [1, 2, 3, 4, 0] rfl ?_
        exact ih _ _ _ h hOK
set_option maxRecDepth 20000 in
theorem lb_X12_haunt_79 {X : FX} {g : WC} {Xo : Nat → va_E} {n : Nat} {kd : Nat → Nat} (C : Cx X g RX12 cX12_haunt 5) (K : KD n kd) {t : Nat} (ht : kd t = 13) {x1 : Int32} {x2 : Int32} {x3 : Int32} (hR : x_R X = rm 5) {T9 : Type} {f9 : Mem → Option T9} {b9 : T9} (hx : ∀ s, f9 s = some b9 → EW X g (x_s X).heap.size n 5 (ent g Xo kd s) 0 0 122 [(0, .ref (g_N g + t)), (1, .int x1), (2, .int x2), (3, .int x3)] []) {x4 : Int32} {M : Mem} (h : (L_X12_haunt_79 t x1 x2 x3 FU x4 M).bind f9 = some b9) : EW X g (x_s X).heap.size n 5 (ent g Xo kd M) 0 0 79 [(0, .ref (g_N g + t)), (1, .int x1), (2, .int x2), (3, .int x3), (4, .int x4)] [] := by
  obtain ⟨q, hq, h⟩ := ob h
  exact l_X12_haunt_79 C K ht hR (OK := fun q => f9 q = some b9) hx FU x4 M q hq h
set_option maxRecDepth 20000 in
theorem l_X12_haunt_66 {X : FX} {g : WC} {Xo : Nat → va_E} {n : Nat} {kd : Nat → Nat} (C : Cx X g RX12 cX12_haunt 5) (K : KD n kd) {t : Nat} (ht : kd t = 13) {x1 : Int32} {x2 : Int32} (hR : x_R X = rm 5) {OK : Mem → Prop} (hx : ∀ s, OK s → EW X g (x_s X).heap.size n 5 (ent g Xo kd s) 0 0 128 [(0, .ref (g_N g + t)), (1, .int x1), (2, .int x2)] []) : ∀ (N9 : Nat) (x3 : Int32) (M : Mem) (q : Mem), L_X12_haunt_66 t x1 x2 N9 x3 M = some q → OK q → EW X g (x_s X).heap.size n 5 (ent g Xo kd M) 0 0 66 [(0, .ref (g_N g + t)), (1, .int x1), (2, .int x2), (3, .int x3)] [] := by
  intro N9
  induction N9 with
  | zero =>
    intro x3 M q h
    rw [L_X12_haunt_66.eq_1] at h
    cases h
  | succ m9 ih =>
    intro x3 M q h hOK
    rw [L_X12_haunt_66.eq_2] at h
    refine e_iload_n C 3 (dk dX12_haunt_0 39 rfl) rfl rfl ?_
    refine e_aload_n C 0 (dk dX12_haunt_0 40 rfl) rfl rfl ?_
    refine gf_X12_told C K ht fl_X12_38 (dk dX12_haunt_0 41 rfl) ?_
    refine e_iconst C 3 (dk dX12_haunt_0 42 rfl) (by decide) ?_
    refine m_aldc C K (kd_X12_told K ht) 3 (dk dX12_haunt_0 43 rfl) (by decide) (by decide) ?_
    refine e_icmp_ge C 128 (dk dX12_haunt_0 44 rfl) (by decide) (fun c9 => ?_) (fun c9 => ?_)
    · rw [if_pos c9] at h
      obtain rfl := Option.some.inj h
      refine e_lv [0, 1, 2] rfl ?_
      exact hx _ hOK
    · rw [if_neg c9] at h
      refine e_iconst C 0 (dk dX12_haunt_0 45 rfl) (by decide) ?_
      refine e_istore C [(4, .int 0), (0, .ref (g_N g + t)), (1, .int x1), (2, .int x2), (3, .int x3)] (dk dX12_haunt_0 46 rfl) (by decide) rfl ?_
      refine e_lv [1, 2, 3, 4, 0] rfl ?_
      refine lb_X12_haunt_79 C K ht hR (fun s17 h => ?_) h
      refine e_iinc C [(3, .int (x3 + 1)), (0, .ref (g_N g + t)), (1, .int x1), (2, .int x2)] 3 1 (dk dX12_haunt_1 10 rfl) rfl (by decide) (by decide) rfl ?_
      refine e_goto C 66 (dk dX12_haunt_1 11 rfl) (by decide) ?_
      refine e_lv [1, 2, 3, 0] rfl ?_
      exact ih _ _ _ h hOK
set_option maxRecDepth 20000 in
theorem lb_X12_haunt_66 {X : FX} {g : WC} {Xo : Nat → va_E} {n : Nat} {kd : Nat → Nat} (C : Cx X g RX12 cX12_haunt 5) (K : KD n kd) {t : Nat} (ht : kd t = 13) {x1 : Int32} {x2 : Int32} (hR : x_R X = rm 5) {T9 : Type} {f9 : Mem → Option T9} {b9 : T9} (hx : ∀ s, f9 s = some b9 → EW X g (x_s X).heap.size n 5 (ent g Xo kd s) 0 0 128 [(0, .ref (g_N g + t)), (1, .int x1), (2, .int x2)] []) {x3 : Int32} {M : Mem} (h : (L_X12_haunt_66 t x1 x2 FU x3 M).bind f9 = some b9) : EW X g (x_s X).heap.size n 5 (ent g Xo kd M) 0 0 66 [(0, .ref (g_N g + t)), (1, .int x1), (2, .int x2), (3, .int x3)] [] := by
  obtain ⟨q, hq, h⟩ := ob h
  exact l_X12_haunt_66 C K ht hR (OK := fun q => f9 q = some b9) hx FU x3 M q hq h
set_option maxRecDepth 20000 in
theorem l_X12_haunt_55 {X : FX} {g : WC} {Xo : Nat → va_E} {n : Nat} {kd : Nat → Nat} (C : Cx X g RX12 cX12_haunt 5) (K : KD n kd) {t : Nat} (ht : kd t = 13) {x1 : Int32} (hR : x_R X = rm 5) {OK : Mem → Prop} (hx : ∀ s, OK s → EW X g (x_s X).heap.size n 5 (ent g Xo kd s) 0 0 138 [(0, .ref (g_N g + t))] []) : ∀ (N9 : Nat) (x2 : Int32) (M : Mem) (q : Mem), L_X12_haunt_55 t x1 N9 x2 M = some q → OK q → EW X g (x_s X).heap.size n 5 (ent g Xo kd M) 0 0 55 [(0, .ref (g_N g + t)), (1, .int x1), (2, .int x2)] [] := by
  intro N9
  induction N9 with
  | zero =>
    intro x2 M q h
    rw [L_X12_haunt_55.eq_1] at h
    cases h
  | succ m9 ih =>
    intro x2 M q h hOK
    rw [L_X12_haunt_55.eq_2] at h
    refine e_iload_n C 2 (dk dX12_haunt_0 32 rfl) rfl rfl ?_
    refine e_iload_n C 1 (dk dX12_haunt_0 33 rfl) rfl rfl ?_
    refine e_icmp_ge C 138 (dk dX12_haunt_0 34 rfl) (by decide) (fun c7 => ?_) (fun c7 => ?_)
    · rw [if_pos c7] at h
      obtain rfl := Option.some.inj h
      refine e_lv [0] rfl ?_
      exact hx _ hOK
    · rw [if_neg c7] at h
      refine e_aload_n C 0 (dk dX12_haunt_0 35 rfl) rfl rfl ?_
      obtain ⟨q8, hq8, h⟩ := ob h
      refine e_callV (ci := 12) C cal_X12_tellLots im_X12_tellLots se_X12_tellLots ml_X12_384 rfl hR (by decide) (dk dX12_haunt_0 36 rfl) (K.1 _ (by rw [ht]; decide)) (ent_o12 ht) (c_X12_tellLots K ht hq8) ⟨Nat.zero_le _, Nat.zero_le _⟩ (Nat.le_of_ble_eq_true rfl) rfl ?_
      refine e_iconst C 0 (dk dX12_haunt_0 37 rfl) (by decide) ?_
      refine e_istore_n C [(3, .int 0), (0, .ref (g_N g + t)), (1, .int x1), (2, .int x2)] (dk dX12_haunt_0 38 rfl) rfl (by decide) rfl ?_
      refine e_lv [1, 2, 3, 0] rfl ?_
      refine lb_X12_haunt_66 C K ht hR (fun s19 h => ?_) h
      refine e_aload_n C 0 (dk dX12_haunt_1 12 rfl) rfl rfl ?_
      obtain ⟨q20, hq20, h⟩ := ob h
      refine e_callV (ci := 12) C cal_X12_aNight im_X12_aNight se_X12_aNight ml_X12_390 rfl hR (by decide) (dk dX12_haunt_1 13 rfl) (K.1 _ (by rw [ht]; decide)) (ent_o12 ht) (c_X12_aNight K ht hq20) ⟨Nat.zero_le _, Nat.zero_le _⟩ (Nat.le_of_ble_eq_true rfl) rfl ?_
      refine e_iinc C [(2, .int (x2 + 1)), (0, .ref (g_N g + t)), (1, .int x1)] 2 1 (dk dX12_haunt_1 14 rfl) rfl (by decide) (by decide) rfl ?_
      refine e_goto C 55 (dk dX12_haunt_1 15 rfl) (by decide) ?_
      refine e_lv [1, 2, 0] rfl ?_
      exact ih _ _ _ h hOK
set_option maxRecDepth 20000 in
theorem lb_X12_haunt_55 {X : FX} {g : WC} {Xo : Nat → va_E} {n : Nat} {kd : Nat → Nat} (C : Cx X g RX12 cX12_haunt 5) (K : KD n kd) {t : Nat} (ht : kd t = 13) {x1 : Int32} (hR : x_R X = rm 5) {T9 : Type} {f9 : Mem → Option T9} {b9 : T9} (hx : ∀ s, f9 s = some b9 → EW X g (x_s X).heap.size n 5 (ent g Xo kd s) 0 0 138 [(0, .ref (g_N g + t))] []) {x2 : Int32} {M : Mem} (h : (L_X12_haunt_55 t x1 FU x2 M).bind f9 = some b9) : EW X g (x_s X).heap.size n 5 (ent g Xo kd M) 0 0 55 [(0, .ref (g_N g + t)), (1, .int x1), (2, .int x2)] [] := by
  obtain ⟨q, hq, h⟩ := ob h
  exact l_X12_haunt_55 C K ht hR (OK := fun q => f9 q = some b9) hx FU x2 M q hq h
set_option maxRecDepth 20000 in
theorem l_X12_haunt_151 {X : FX} {g : WC} {Xo : Nat → va_E} {n : Nat} {kd : Nat → Nat} (C : Cx X g RX12 cX12_haunt 5) (K : KD n kd) {t : Nat} (ht : kd t = 13) {M : Mem} (hR : x_R X = rm 5) {OK : Int32 → Prop} (hx : ∀ s, OK s → EW X g (x_s X).heap.size n 5 (ent g Xo kd M) 0 0 198 [(2, .int s)] []) : ∀ (N9 : Nat) (x2 : Int32) (x3 : Int32) (q : Int32), L_X12_haunt_151 t M N9 x2 x3 = some q → OK q → EW X g (x_s X).heap.size n 5 (ent g Xo kd M) 0 0 151 [(0, .ref (g_N g + t)), (2, .int x2), (3, .int x3)] [] := by
  intro N9
  induction N9 with
  | zero =>
    intro x2 x3 q h
    rw [L_X12_haunt_151.eq_1] at h
    cases h
  | succ m9 ih =>
    intro x2 x3 q h hOK
    rw [L_X12_haunt_151.eq_2] at h
    refine e_iload_n C 2 (dk dX12_haunt_1 25 rfl) rfl rfl ?_
    refine e_aload_n C 0 (dk dX12_haunt_1 26 rfl) rfl rfl ?_
    refine gf_X12_told C K ht fl_X12_38 (dk dX12_haunt_1 27 rfl) ?_
    refine e_iconst C 0 (dk dX12_haunt_1 28 rfl) (by decide) ?_
    refine m_aldc C K (kd_X12_told K ht) 0 (dk dX12_haunt_1 29 rfl) (by decide) (by decide) ?_
    refine e_icmp_ge C 198 (dk dX12_haunt_1 30 rfl) (by decide) (fun c24 => ?_) (fun c24 => ?_)
    · rw [if_pos c24] at h
      obtain rfl := Option.some.inj h
      refine e_lv [1] rfl ?_
      exact hx _ hOK
    · rw [if_neg c24] at h
      refine e_aload_n C 0 (dk dX12_haunt_1 31 rfl) rfl rfl ?_
      refine gf_X12_haunted C K ht fl_X12_107 (dk dX12_haunt_1 32 rfl) ?_
      refine e_iload_n C 2 (dk dX12_haunt_1 33 rfl) rfl rfl ?_
      obtain ⟨v25, hv25, h⟩ := ob h
      refine m_ald C K (kd_X12_haunted K ht) (dk dX12_haunt_1 34 rfl) hv25 ?_
      refine e_if_le C 192 (dk dX12_haunt_1 35 rfl) (by decide) (fun c26 => ?_) (fun c26 => ?_)
      · rw [if_pos c26] at h
        refine e_iinc C [(3, .int (x3 + 1)), (0, .ref (g_N g + t)), (2, .int x2)] 2 1 (dk dX12_haunt_1 50 rfl) rfl (by decide) (by decide) rfl ?_
        refine e_goto C 151 (dk dX12_haunt_1 51 rfl) (by decide) ?_
        refine e_lv [1, 2, 0] rfl ?_
        exact ih _ _ _ h hOK
      · rw [if_neg c26] at h
        refine e_iload_n C 1 (dk dX12_haunt_1 36 rfl) rfl rfl ?_
        refine e_iconst C (-1) (dk dX12_haunt_1 37 rfl) (by decide) ?_
        refine e_icmp_eq C 190 (dk dX12_haunt_1 38 rfl) (by decide) (fun c27 => ?_) (fun c27 => ?_)
        · rw [if_pos c27] at h
          refine e_iload_n C 2 (dk dX12_haunt_1 48 rfl) rfl rfl ?_
          refine e_istore_n C [(2, .int x3), (0, .ref (g_N g + t)), (3, .int x3)] (dk dX12_haunt_1 49 rfl) rfl (by decide) rfl ?_
          refine e_iinc C [(3, .int (x3 + 1)), (2, .int x3), (0, .ref (g_N g + t))] 2 1 (dk dX12_haunt_1 50 rfl) rfl (by decide) (by decide) rfl ?_
          refine e_goto C 151 (dk dX12_haunt_1 51 rfl) (by decide) ?_
          refine e_lv [2, 1, 0] rfl ?_
          exact ih _ _ _ h hOK
        · rw [if_neg c27] at h
          refine e_aload_n C 0 (dk dX12_haunt_1 39 rfl) rfl rfl ?_
          refine gf_X12_haunted C K ht fl_X12_107 (dk dX12_haunt_1 40 rfl) ?_
          refine e_iload_n C 2 (dk dX12_haunt_1 41 rfl) rfl rfl ?_
          obtain ⟨v28, hv28, h⟩ := ob h
          refine m_ald C K (kd_X12_haunted K ht) (dk dX12_haunt_1 42 rfl) hv28 ?_
          refine e_aload_n C 0 (dk dX12_haunt_1 43 rfl) rfl rfl ?_
          refine gf_X12_haunted C K ht fl_X12_107 (dk dX12_haunt_1 44 rfl) ?_
          refine e_iload_n C 1 (dk dX12_haunt_1 45 rfl) rfl rfl ?_
          obtain ⟨v29, hv29, h⟩ := ob h
          refine m_ald C K (kd_X12_haunted K ht) (dk dX12_haunt_1 46 rfl) hv29 ?_
          refine e_icmp_le C 192 (dk dX12_haunt_1 47 rfl) (by decide) (fun c30 => ?_) (fun c30 => ?_)
          · rw [if_pos c30] at h
            refine e_iinc C [(3, .int (x3 + 1)), (0, .ref (g_N g + t)), (2, .int x2)] 2 1 (dk dX12_haunt_1 50 rfl) rfl (by decide) (by decide) rfl ?_
            refine e_goto C 151 (dk dX12_haunt_1 51 rfl) (by decide) ?_
            refine e_lv [1, 2, 0] rfl ?_
            exact ih _ _ _ h hOK
          · rw [if_neg c30] at h
            refine e_iload_n C 2 (dk dX12_haunt_1 48 rfl) rfl rfl ?_
            refine e_istore_n C [(2, .int x3), (0, .ref (g_N g + t)), (3, .int x3)] (dk dX12_haunt_1 49 rfl) rfl (by decide) rfl ?_
            refine e_iinc C [(3, .int (x3 + 1)), (2, .int x3), (0, .ref (g_N g + t))] 2 1 (dk dX12_haunt_1 50 rfl) rfl (by decide) (by decide) rfl ?_
            refine e_goto C 151 (dk dX12_haunt_1 51 rfl) (by decide) ?_
            refine e_lv [2, 1, 0] rfl ?_
            exact ih _ _ _ h hOK
set_option maxRecDepth 20000 in
theorem lb_X12_haunt_151 {X : FX} {g : WC} {Xo : Nat → va_E} {n : Nat} {kd : Nat → Nat} (C : Cx X g RX12 cX12_haunt 5) (K : KD n kd) {t : Nat} (ht : kd t = 13) {M : Mem} (hR : x_R X = rm 5) {T9 : Type} {f9 : Int32 → Option T9} {b9 : T9} (hx : ∀ s, f9 s = some b9 → EW X g (x_s X).heap.size n 5 (ent g Xo kd M) 0 0 198 [(2, .int s)] []) {x2 : Int32} {x3 : Int32} (h : (L_X12_haunt_151 t M FU x2 x3).bind f9 = some b9) : EW X g (x_s X).heap.size n 5 (ent g Xo kd M) 0 0 151 [(0, .ref (g_N g + t)), (2, .int x2), (3, .int x3)] [] := by
  obtain ⟨q, hq, h⟩ := ob h
  exact l_X12_haunt_151 C K ht hR (OK := fun q => f9 q = some b9) hx FU x2 x3 q hq h
set_option maxRecDepth 20000 in
theorem c_X12_haunt {g : WC} {Xo : Nat → va_E} {n : Nat} {kd : Nat → Nat} (K : KD n kd) {t : Nat} {p0 : Int32} (ht : kd t = 13) {M : Mem} {res : Int32 × Mem} (h : F_X12_haunt t p0 M = some res) : MC g yX12_haunt cX12_haunt 5 (some .int) 5 n [.ref (g_N g + t), .int p0] (ent g Xo kd M) (some (.int res.1)) (ent g Xo kd res.2) := by
  refine MC_of pn_X12 (Nat.le_of_ble_eq_true rfl) (fun X C B => ?_)
  have hR := B.1
  rw [F_X12_haunt] at h
  refine e_aload_n C 0 (dk dX12_haunt_0 0 rfl) rfl rfl ?_
  refine e_iconst C 0 (dk dX12_haunt_0 1 rfl) (by decide) ?_
  refine pf_X12_code C K ht fl_X12_156 (dk dX12_haunt_0 2 rfl) ?_
  refine e_iload_n C 1 (dk dX12_haunt_0 3 rfl) rfl rfl ?_
  refine e_i2l C (dk dX12_haunt_0 4 rfl) ?_
  refine e_lconst C 1 (dk dX12_haunt_0 5 rfl) (by decide) ?_
  refine e_ldc2 C kl_X12_428 (dk dX12_haunt_0 6 rfl) ?_
  refine e_callS C cal_X12_isIn sm_X12_isIn ml_X12_159 hR (by decide) (dk dX12_haunt_0 7 rfl) (c_X12_isIn K (rfl : F_X12_isIn p0.toInt64 1 40 = _)) ⟨Nat.zero_le _, Nat.zero_le _⟩ (Nat.le_of_ble_eq_true rfl) rfl ?_
  refine e_if_ne C 23 (dk dX12_haunt_0 8 rfl) (by decide) (fun c1 => ?_) (fun c1 => ?_)
  · rw [if_neg c1] at h
    refine e_iconst C 0 (dk dX12_haunt_0 13 rfl) (by decide) ?_
    refine e_istore_n C [(2, .int 0), (0, .ref (g_N g + t)), (1, .int p0)] (dk dX12_haunt_0 14 rfl) rfl (by decide) rfl ?_
    refine e_lv [1, 2, 0] rfl ?_
    refine lb_X12_haunt_25 C K ht hR (fun s5 h => ?_) h
    refine e_aload_n C 0 (dk dX12_haunt_0 25 rfl) rfl rfl ?_
    refine e_aload_n C 0 (dk dX12_haunt_0 26 rfl) rfl rfl ?_
    refine gf_X12_rowThen C K ht fl_X12_104 (dk dX12_haunt_0 27 rfl) ?_
    refine e_iconst C 0 (dk dX12_haunt_0 28 rfl) (by decide) ?_
    obtain ⟨q6, hq6, h⟩ := ob h
    refine e_callV (ci := 12) C cal_X12_pack im_X12_pack se_X12_pack ml_X12_402 rfl hR (by decide) (dk dX12_haunt_0 29 rfl) (K.1 _ (by rw [ht]; decide)) (ent_o12 ht) (c_X12_pack K ht (kd_X12_rowThen K ht) hq6) ⟨Nat.zero_le _, Nat.zero_le _⟩ (Nat.le_of_ble_eq_true rfl) rfl ?_
    refine e_iconst C 0 (dk dX12_haunt_0 30 rfl) (by decide) ?_
    refine e_istore_n C [(2, .int 0), (0, .ref (g_N g + t)), (1, .int p0)] (dk dX12_haunt_0 31 rfl) rfl (by decide) rfl ?_
    refine e_lv [1, 2, 0] rfl ?_
    refine lb_X12_haunt_55 C K ht hR (fun s22 h => ?_) h
    refine e_aload_n C 0 (dk dX12_haunt_1 16 rfl) rfl rfl ?_
    refine e_aload_n C 0 (dk dX12_haunt_1 17 rfl) rfl rfl ?_
    refine gf_X12_rowThen C K ht fl_X12_104 (dk dX12_haunt_1 18 rfl) ?_
    refine e_iconst C 0 (dk dX12_haunt_1 19 rfl) (by decide) ?_
    obtain ⟨q23, hq23, h⟩ := ob h
    refine e_callV (ci := 12) C cal_X12_unpack im_X12_unpack se_X12_unpack ml_X12_425 rfl hR (by decide) (dk dX12_haunt_1 20 rfl) (K.1 _ (by rw [ht]; decide)) (ent_o12 ht) (c_X12_unpack K ht (kd_X12_rowThen K ht) hq23) ⟨Nat.zero_le _, Nat.zero_le _⟩ (Nat.le_of_ble_eq_true rfl) rfl ?_
    refine e_iconst C (-1) (dk dX12_haunt_1 21 rfl) (by decide) ?_
    refine e_istore_n C [(2, .int (-1)), (0, .ref (g_N g + t))] (dk dX12_haunt_1 22 rfl) rfl (by decide) rfl ?_
    refine e_iconst C 0 (dk dX12_haunt_1 23 rfl) (by decide) ?_
    refine e_istore_n C [(3, .int 0), (2, .int (-1)), (0, .ref (g_N g + t))] (dk dX12_haunt_1 24 rfl) rfl (by decide) rfl ?_
    refine e_lv [2, 1, 0] rfl ?_
    refine lb_X12_haunt_151 C K ht hR (fun s32 h => ?_) h
    refine e_iload_n C 0 (dk dX12_haunt_1 52 rfl) rfl rfl ?_
    obtain rfl := Option.some.inj h
    exact e_iret C B (nar1 _) (dk dX12_haunt_1 53 rfl)
  · rw [if_pos c1] at h
    refine e_aload_n C 0 (dk dX12_haunt_0 9 rfl) rfl rfl ?_
    refine e_iconst C 1 (dk dX12_haunt_0 10 rfl) (by decide) ?_
    refine e_callV (ci := 12) C cal_X12_fail im_X12_fail se_X12_fail ml_X12_318 rfl hR (by decide) (dk dX12_haunt_0 11 rfl) (K.1 _ (by rw [ht]; decide)) (ent_o12 ht) (c_X12_fail K ht (rfl : F_X12_fail t 1 (up M t 2 0) = _)) ⟨Nat.zero_le _, Nat.zero_le _⟩ (Nat.le_of_ble_eq_true rfl) rfl ?_
    obtain rfl := Option.some.inj h
    exact e_iret C B (nar1 _) (dk dX12_haunt_0 12 rfl)
set_option maxRecDepth 20000 in
theorem j_X12_watch_j45 {X : FX} {g : WC} {Xo : Nat → va_E} {n : Nat} {kd : Nat → Nat} (C : Cx X g RX12 cX12_watch 3) (K : KD n kd) {t : Nat} (ht : kd t = 13) (hR : x_R X = rm 1) {M : Mem} {res : Int32 × Mem} (h : J_X12_watch_j45 t M = some res) (B : Bx X g (some .int) 1 n (some (.int res.1)) (ent g Xo kd res.2)) : EW X g (x_s X).heap.size n 3 (ent g Xo kd M) 0 0 45 [(0, .ref (g_N g + t))] [] := by
  rw [J_X12_watch_j45] at h
  refine e_aload_n C 0 (dk dX12_watch 25 rfl) rfl rfl ?_
  refine e_iconst C 1 (dk dX12_watch 26 rfl) (by decide) ?_
  refine e_callV (ci := 12) C cal_X12_fail im_X12_fail se_X12_fail ml_X12_318 rfl hR (by decide) (dk dX12_watch 27 rfl) (K.1 _ (by rw [ht]; decide)) (ent_o12 ht) (c_X12_fail K ht (rfl : F_X12_fail t 1 M = _)) ⟨Nat.zero_le _, Nat.zero_le _⟩ (Nat.le_of_ble_eq_true rfl) rfl ?_
  obtain rfl := Option.some.inj h
  exact e_iret C B (nar1 _) (dk dX12_watch 28 rfl)
set_option maxRecDepth 20000 in
theorem c_X12_watch {g : WC} {Xo : Nat → va_E} {n : Nat} {kd : Nat → Nat} (K : KD n kd) {t : Nat} {p0 : Int32} {p1 : Int32} (ht : kd t = 13) {M : Mem} {res : Int32 × Mem} (h : F_X12_watch t p0 p1 M = some res) : MC g yX12_watch cX12_watch 3 (some .int) 1 n [.ref (g_N g + t), .int p0, .int p1] (ent g Xo kd M) (some (.int res.1)) (ent g Xo kd res.2) := by
  refine MC_of pn_X12 (Nat.le_of_ble_eq_true rfl) (fun X C B => ?_)
  have hR := B.1
  rw [F_X12_watch] at h
  refine e_aload_n C 0 (dk dX12_watch 0 rfl) rfl rfl ?_
  refine e_iconst C 0 (dk dX12_watch 1 rfl) (by decide) ?_
  refine pf_X12_code C K ht fl_X12_156 (dk dX12_watch 2 rfl) ?_
  refine e_iload_n C 1 (dk dX12_watch 3 rfl) rfl rfl ?_
  refine e_i2l C (dk dX12_watch 4 rfl) ?_
  refine e_lconst C 1 (dk dX12_watch 5 rfl) (by decide) ?_
  refine e_ldc2 C kl_X12_428 (dk dX12_watch 6 rfl) ?_
  refine e_callS C cal_X12_isIn sm_X12_isIn ml_X12_159 hR (by decide) (dk dX12_watch 7 rfl) (c_X12_isIn K (rfl : F_X12_isIn p0.toInt64 1 40 = _)) ⟨Nat.zero_le _, Nat.zero_le _⟩ (Nat.le_of_ble_eq_true rfl) rfl ?_
  refine e_if_eq C 45 (dk dX12_watch 8 rfl) (by decide) (fun c1 => ?_) (fun c1 => ?_)
  · rw [if_pos c1] at h
    refine e_lv [0] rfl ?_
    exact j_X12_watch_j45 C K ht hR h B
  · rw [if_neg c1] at h
    refine e_iload_n C 2 (dk dX12_watch 9 rfl) rfl rfl ?_
    refine e_i2l C (dk dX12_watch 10 rfl) ?_
    refine e_lconst C 0 (dk dX12_watch 11 rfl) (by decide) ?_
    refine e_ldc2 C kl_X12_433 (dk dX12_watch 12 rfl) ?_
    refine e_callS C cal_X12_isIn sm_X12_isIn ml_X12_159 hR (by decide) (dk dX12_watch 13 rfl) (c_X12_isIn K (rfl : F_X12_isIn p1.toInt64 0 5 = _)) ⟨Nat.zero_le _, Nat.zero_le _⟩ (Nat.le_of_ble_eq_true rfl) rfl ?_
    refine e_if_eq C 45 (dk dX12_watch 14 rfl) (by decide) (fun c2 => ?_) (fun c2 => ?_)
    · rw [if_pos c2] at h
      refine e_lv [0] rfl ?_
      exact j_X12_watch_j45 C K ht hR h B
    · rw [if_neg c2] at h
      refine e_aload_n C 0 (dk dX12_watch 15 rfl) rfl rfl ?_
      refine e_aload_n C 0 (dk dX12_watch 16 rfl) rfl rfl ?_
      refine gf_X12_night C K ht fl_X12_331 (dk dX12_watch 17 rfl) ?_
      refine e_iload_n C 1 (dk dX12_watch 18 rfl) rfl rfl ?_
      refine e_iadd C (dk dX12_watch 19 rfl) ?_
      refine e_iconst C 1 (dk dX12_watch 20 rfl) (by decide) ?_
      refine e_isub C (dk dX12_watch 21 rfl) ?_
      refine e_iload_n C 2 (dk dX12_watch 22 rfl) rfl rfl ?_
      obtain ⟨q3, hq3, h⟩ := ob h
      refine e_callV (ci := 12) C cal_X12_watchAt im_X12_watchAt se_X12_watchAt ml_X12_351 rfl hR (by decide) (dk dX12_watch 23 rfl) (K.1 _ (by rw [ht]; decide)) (ent_o12 ht) (c_X12_watchAt K ht hq3) ⟨Nat.zero_le _, Nat.zero_le _⟩ (Nat.le_of_ble_eq_true rfl) rfl ?_
      refine e_goto C 50 (dk dX12_watch 24 rfl) (by decide) ?_
      obtain rfl := Option.some.inj h
      exact e_iret C B (nar1 _) (dk dX12_watch 28 rfl)
set_option maxRecDepth 20000 in
theorem l_X12_lantern_23 {X : FX} {g : WC} {Xo : Nat → va_E} {n : Nat} {kd : Nat → Nat} (C : Cx X g RX12 cX12_lantern 4) (K : KD n kd) {t : Nat} (ht : kd t = 13) {x1 : Int32} {M : Mem} (hR : x_R X = rm 2) {OK : Int32 → Prop} (hx : ∀ s, OK s → EW X g (x_s X).heap.size n 4 (ent g Xo kd M) 0 0 58 [(2, .int s)] []) : ∀ (N9 : Nat) (x2 : Int32) (x3 : Int32) (q : Int32), L_X12_lantern_23 t x1 M N9 x2 x3 = some q → OK q → EW X g (x_s X).heap.size n 4 (ent g Xo kd M) 0 0 23 [(0, .ref (g_N g + t)), (1, .int x1), (2, .int x2), (3, .int x3)] [] := by
  intro N9
  induction N9 with
  | zero =>
    intro x2 x3 q h
    rw [L_X12_lantern_23.eq_1] at h
    cases h
  | succ m9 ih =>
    intro x2 x3 q h hOK
    rw [L_X12_lantern_23.eq_2] at h
    refine e_iload_n C 3 (dk dX12_lantern 15 rfl) rfl rfl ?_
    refine e_bipush C 6 (dk dX12_lantern 16 rfl) (by decide) ?_
    refine e_icmp_ge C 58 (dk dX12_lantern 17 rfl) (by decide) (fun c2 => ?_) (fun c2 => ?_)
    · rw [if_pos c2] at h
      obtain rfl := Option.some.inj h
      refine e_lv [2] rfl ?_
      exact hx _ hOK
    · rw [if_neg c2] at h
      refine e_iload_n C 2 (dk dX12_lantern 18 rfl) rfl rfl ?_
      refine e_aload_n C 0 (dk dX12_lantern 19 rfl) rfl rfl ?_
      refine e_aload_n C 0 (dk dX12_lantern 20 rfl) rfl rfl ?_
      refine gf_X12_night C K ht fl_X12_331 (dk dX12_lantern 21 rfl) ?_
      refine e_iload_n C 3 (dk dX12_lantern 22 rfl) rfl rfl ?_
      obtain ⟨q3, hq3, h⟩ := ob h
      refine e_callV (ci := 12) C cal_X12_watchAt im_X12_watchAt se_X12_watchAt ml_X12_351 rfl hR (by decide) (dk dX12_lantern 23 rfl) (K.1 _ (by rw [ht]; decide)) (ent_o12 ht) (c_X12_watchAt K ht hq3) ⟨Nat.zero_le _, Nat.zero_le _⟩ (Nat.le_of_ble_eq_true rfl) rfl ?_
      refine e_iload_n C 1 (dk dX12_lantern 24 rfl) rfl rfl ?_
      suffices hm5 : EW X g (x_s X).heap.size n 4 (ent g Xo kd M) 0 0 50 [(0, .ref (g_N g + t)), (1, .int x1), (2, .int x2), (3, .int x3)] [.int (if q3 = x1 then ((1 : Int32) <<< (x3 &&& 31)) else (0 : Int32)), .int x2] from (by
        refine e_icmp_ne C 49 (dk dX12_lantern 25 rfl) (by decide) (fun c4 => ?_) (fun c4 => ?_)
        · rw [show (if q3 = x1 then ((1 : Int32) <<< (x3 &&& 31)) else (0 : Int32)) = (0 : Int32) from if_neg c4] at hm5
          refine e_iconst C 0 (dk dX12_lantern 30 rfl) (by decide) ?_
          exact hm5
        · rw [show (if q3 = x1 then ((1 : Int32) <<< (x3 &&& 31)) else (0 : Int32)) = ((1 : Int32) <<< (x3 &&& 31)) from if_pos c4] at hm5
          refine e_iconst C 1 (dk dX12_lantern 26 rfl) (by decide) ?_
          refine e_iload_n C 3 (dk dX12_lantern 27 rfl) rfl rfl ?_
          refine e_ishl C (dk dX12_lantern 28 rfl) ?_
          refine e_goto C 50 (dk dX12_lantern 29 rfl) (by decide) ?_
          exact hm5)
      refine e_ior C (dk dX12_lantern 31 rfl) ?_
      refine e_istore_n C [(2, .int (x2 ||| (if q3 = x1 then ((1 : Int32) <<< (x3 &&& 31)) else (0 : Int32)))), (0, .ref (g_N g + t)), (1, .int x1), (3, .int x3)] (dk dX12_lantern 32 rfl) rfl (by decide) rfl ?_
      refine e_iinc C [(3, .int (x3 + 1)), (2, .int (x2 ||| (if q3 = x1 then ((1 : Int32) <<< (x3 &&& 31)) else (0 : Int32)))), (0, .ref (g_N g + t)), (1, .int x1)] 3 1 (dk dX12_lantern 33 rfl) rfl (by decide) (by decide) rfl ?_
      refine e_goto C 23 (dk dX12_lantern 34 rfl) (by decide) ?_
      refine e_lv [2, 3, 1, 0] rfl ?_
      exact ih _ _ _ h hOK
set_option maxRecDepth 20000 in
theorem lb_X12_lantern_23 {X : FX} {g : WC} {Xo : Nat → va_E} {n : Nat} {kd : Nat → Nat} (C : Cx X g RX12 cX12_lantern 4) (K : KD n kd) {t : Nat} (ht : kd t = 13) {x1 : Int32} {M : Mem} (hR : x_R X = rm 2) {T9 : Type} {f9 : Int32 → Option T9} {b9 : T9} (hx : ∀ s, f9 s = some b9 → EW X g (x_s X).heap.size n 4 (ent g Xo kd M) 0 0 58 [(2, .int s)] []) {x2 : Int32} {x3 : Int32} (h : (L_X12_lantern_23 t x1 M FU x2 x3).bind f9 = some b9) : EW X g (x_s X).heap.size n 4 (ent g Xo kd M) 0 0 23 [(0, .ref (g_N g + t)), (1, .int x1), (2, .int x2), (3, .int x3)] [] := by
  obtain ⟨q, hq, h⟩ := ob h
  exact l_X12_lantern_23 C K ht hR (OK := fun q => f9 q = some b9) hx FU x2 x3 q hq h
set_option maxRecDepth 20000 in
theorem c_X12_lantern {g : WC} {Xo : Nat → va_E} {n : Nat} {kd : Nat → Nat} (K : KD n kd) {t : Nat} {p0 : Int32} (ht : kd t = 13) {M : Mem} {res : Int32 × Mem} (h : F_X12_lantern t p0 M = some res) : MC g yX12_lantern cX12_lantern 4 (some .int) 2 n [.ref (g_N g + t), .int p0] (ent g Xo kd M) (some (.int res.1)) (ent g Xo kd res.2) := by
  refine MC_of pn_X12 (Nat.le_of_ble_eq_true rfl) (fun X C B => ?_)
  have hR := B.1
  rw [F_X12_lantern] at h
  refine e_aload_n C 0 (dk dX12_lantern 0 rfl) rfl rfl ?_
  refine e_iconst C 0 (dk dX12_lantern 1 rfl) (by decide) ?_
  refine pf_X12_code C K ht fl_X12_156 (dk dX12_lantern 2 rfl) ?_
  refine e_aload_n C 0 (dk dX12_lantern 3 rfl) rfl rfl ?_
  refine e_iload_n C 1 (dk dX12_lantern 4 rfl) rfl rfl ?_
  refine e_callV (ci := 12) C cal_X12_isStreet im_X12_isStreet se_X12_isStreet ml_X12_396 rfl hR (by decide) (dk dX12_lantern 5 rfl) (K.1 _ (by rw [ht]; decide)) (ent_o12 ht) (c_X12_isStreet K ht (rfl : F_X12_isStreet t p0 (up M t 2 0) = _)) ⟨Nat.zero_le _, Nat.zero_le _⟩ (Nat.le_of_ble_eq_true rfl) rfl ?_
  refine e_if_ne C 19 (dk dX12_lantern 6 rfl) (by decide) (fun c1 => ?_) (fun c1 => ?_)
  · rw [if_neg c1] at h
    refine e_iconst C 0 (dk dX12_lantern 11 rfl) (by decide) ?_
    refine e_istore_n C [(2, .int 0), (0, .ref (g_N g + t)), (1, .int p0)] (dk dX12_lantern 12 rfl) rfl (by decide) rfl ?_
    refine e_iconst C 0 (dk dX12_lantern 13 rfl) (by decide) ?_
    refine e_istore_n C [(3, .int 0), (2, .int 0), (0, .ref (g_N g + t)), (1, .int p0)] (dk dX12_lantern 14 rfl) rfl (by decide) rfl ?_
    refine e_lv [2, 3, 1, 0] rfl ?_
    refine lb_X12_lantern_23 C K ht hR (fun s7 h => ?_) h
    refine e_iload_n C 0 (dk dX12_lantern 35 rfl) rfl rfl ?_
    obtain rfl := Option.some.inj h
    exact e_iret C B (nar1 _) (dk dX12_lantern 36 rfl)
  · rw [if_pos c1] at h
    refine e_aload_n C 0 (dk dX12_lantern 7 rfl) rfl rfl ?_
    refine e_iconst C 1 (dk dX12_lantern 8 rfl) (by decide) ?_
    refine e_callV (ci := 12) C cal_X12_fail im_X12_fail se_X12_fail ml_X12_318 rfl hR (by decide) (dk dX12_lantern 9 rfl) (K.1 _ (by rw [ht]; decide)) (ent_o12 ht) (c_X12_fail K ht (rfl : F_X12_fail t 1 (up M t 2 0) = _)) ⟨Nat.zero_le _, Nat.zero_le _⟩ (Nat.le_of_ble_eq_true rfl) rfl ?_
    obtain rfl := Option.some.inj h
    exact e_iret C B (nar1 _) (dk dX12_lantern 10 rfl)
set_option maxRecDepth 20000 in
theorem j_X12_stepped_j33 {X : FX} {g : WC} {Xo : Nat → va_E} {n : Nat} {kd : Nat → Nat} (C : Cx X g RX12 cX12_stepped 4) (K : KD n kd) {t : Nat} (ht : kd t = 13) {x1 : Int32} {M : Mem} (hR : x_R X = rm 1) {OK : Int32 → Prop} (hx : ∀ s, OK s → EW X g (x_s X).heap.size n 4 (ent g Xo kd M) 0 0 41 [(2, .int s)] []) {rec : Int32 → Int32 → Option (Int32)} (hrec : ∀ (x2 : Int32) (x3 : Int32) (q : Int32), rec x2 x3 = some q → OK q → EW X g (x_s X).heap.size n 4 (ent g Xo kd M) 0 0 4 [(0, .ref (g_N g + t)), (1, .int x1), (2, .int x2), (3, .int x3)] []) {x3 : Int32} {y0 : Int32} {y1 : Int32} (q : Int32) (h : J_X12_stepped_j33 t rec x1 x3 y0 y1 M = some q) (hOK : OK q) : EW X g (x_s X).heap.size n 4 (ent g Xo kd M) 0 0 33 [(0, .ref (g_N g + t)), (1, .int x1), (3, .int x3)] [.int y1, .int y0] := by
  rw [J_X12_stepped_j33] at h
  refine e_ior C (dk dX12_stepped 21 rfl) ?_
  refine e_istore_n C [(2, .int (y0 ||| y1)), (0, .ref (g_N g + t)), (1, .int x1), (3, .int x3)] (dk dX12_stepped 22 rfl) rfl (by decide) rfl ?_
  refine e_iinc C [(3, .int (x3 + 1)), (2, .int (y0 ||| y1)), (0, .ref (g_N g + t)), (1, .int x1)] 3 1 (dk dX12_stepped 23 rfl) rfl (by decide) (by decide) rfl ?_
  refine e_goto C 4 (dk dX12_stepped 24 rfl) (by decide) ?_
  refine e_lv [2, 3, 1, 0] rfl ?_
  exact hrec _ _ _ h hOK
set_option maxRecDepth 20000 in
theorem l_X12_stepped_4 {X : FX} {g : WC} {Xo : Nat → va_E} {n : Nat} {kd : Nat → Nat} (C : Cx X g RX12 cX12_stepped 4) (K : KD n kd) {t : Nat} (ht : kd t = 13) {x1 : Int32} {M : Mem} (hR : x_R X = rm 1) {OK : Int32 → Prop} (hx : ∀ s, OK s → EW X g (x_s X).heap.size n 4 (ent g Xo kd M) 0 0 41 [(2, .int s)] []) : ∀ (N9 : Nat) (x2 : Int32) (x3 : Int32) (q : Int32), L_X12_stepped_4 t x1 M N9 x2 x3 = some q → OK q → EW X g (x_s X).heap.size n 4 (ent g Xo kd M) 0 0 4 [(0, .ref (g_N g + t)), (1, .int x1), (2, .int x2), (3, .int x3)] [] := by
  intro N9
  induction N9 with
  | zero =>
    intro x2 x3 q h
    rw [L_X12_stepped_4.eq_1] at h
    cases h
  | succ m9 ih =>
    intro x2 x3 q h hOK
    rw [L_X12_stepped_4.eq_2] at h
    refine e_iload_n C 3 (dk dX12_stepped 4 rfl) rfl rfl ?_
    refine e_aload_n C 0 (dk dX12_stepped 5 rfl) rfl rfl ?_
    refine gf_X12_told C K ht fl_X12_38 (dk dX12_stepped 6 rfl) ?_
    refine e_iconst C 0 (dk dX12_stepped 7 rfl) (by decide) ?_
    refine m_aldc C K (kd_X12_told K ht) 0 (dk dX12_stepped 8 rfl) (by decide) (by decide) ?_
    refine e_icmp_ge C 41 (dk dX12_stepped 9 rfl) (by decide) (fun c1 => ?_) (fun c1 => ?_)
    · rw [if_pos c1] at h
      obtain rfl := Option.some.inj h
      refine e_lv [2] rfl ?_
      exact hx _ hOK
    · rw [if_neg c1] at h
      refine e_iload_n C 2 (dk dX12_stepped 10 rfl) rfl rfl ?_
      refine e_iload_n C 1 (dk dX12_stepped 11 rfl) rfl rfl ?_
      refine e_iload_n C 3 (dk dX12_stepped 12 rfl) rfl rfl ?_
      refine e_callS C cal_X12_isOf sm_X12_isOf ml_X12_287 hR (by decide) (dk dX12_stepped 13 rfl) (c_X12_isOf K (rfl : F_X12_isOf x1 x3 = _)) ⟨Nat.zero_le _, Nat.zero_le _⟩ (Nat.le_of_ble_eq_true rfl) rfl ?_
      refine e_if_eq C 32 (dk dX12_stepped 14 rfl) (by decide) (fun c2 => ?_) (fun c2 => ?_)
      · rw [if_pos c2] at h
        refine e_iconst C 0 (dk dX12_stepped 20 rfl) (by decide) ?_
        refine e_lv [0, 1, 3] rfl ?_
        exact j_X12_stepped_j33 C K ht hR hx ih _ h hOK
      · rw [if_neg c2] at h
        refine e_aload_n C 0 (dk dX12_stepped 15 rfl) rfl rfl ?_
        refine gf_X12_pathTold C K ht fl_X12_42 (dk dX12_stepped 16 rfl) ?_
        refine e_iload_n C 3 (dk dX12_stepped 17 rfl) rfl rfl ?_
        obtain ⟨v3, hv3, h⟩ := ob h
        refine m_ald C K (kd_X12_pathTold K ht) (dk dX12_stepped 18 rfl) hv3 ?_
        refine e_goto C 33 (dk dX12_stepped 19 rfl) (by decide) ?_
        refine e_lv [0, 1, 3] rfl ?_
        exact j_X12_stepped_j33 C K ht hR hx ih _ h hOK
set_option maxRecDepth 20000 in
theorem lb_X12_stepped_4 {X : FX} {g : WC} {Xo : Nat → va_E} {n : Nat} {kd : Nat → Nat} (C : Cx X g RX12 cX12_stepped 4) (K : KD n kd) {t : Nat} (ht : kd t = 13) {x1 : Int32} {M : Mem} (hR : x_R X = rm 1) {T9 : Type} {f9 : Int32 → Option T9} {b9 : T9} (hx : ∀ s, f9 s = some b9 → EW X g (x_s X).heap.size n 4 (ent g Xo kd M) 0 0 41 [(2, .int s)] []) {x2 : Int32} {x3 : Int32} (h : (L_X12_stepped_4 t x1 M FU x2 x3).bind f9 = some b9) : EW X g (x_s X).heap.size n 4 (ent g Xo kd M) 0 0 4 [(0, .ref (g_N g + t)), (1, .int x1), (2, .int x2), (3, .int x3)] [] := by
  obtain ⟨q, hq, h⟩ := ob h
  exact l_X12_stepped_4 C K ht hR (OK := fun q => f9 q = some b9) hx FU x2 x3 q hq h
set_option maxRecDepth 20000 in
theorem c_X12_stepped {g : WC} {Xo : Nat → va_E} {n : Nat} {kd : Nat → Nat} (K : KD n kd) {t : Nat} {p0 : Int32} (ht : kd t = 13) {M : Mem} {res : Int32} (h : F_X12_stepped t p0 M = some res) : MC g yX12_stepped cX12_stepped 4 (some .int) 1 n [.ref (g_N g + t), .int p0] (ent g Xo kd M) (some (.int res)) (ent g Xo kd M) := by
  refine MC_of pn_X12 (Nat.le_of_ble_eq_true rfl) (fun X C B => ?_)
  have hR := B.1
  rw [F_X12_stepped] at h
  refine e_iload_n C 1 (dk dX12_stepped 0 rfl) rfl rfl ?_
  refine e_istore_n C [(2, .int p0), (0, .ref (g_N g + t)), (1, .int p0)] (dk dX12_stepped 1 rfl) rfl (by decide) rfl ?_
  refine e_iconst C 0 (dk dX12_stepped 2 rfl) (by decide) ?_
  refine e_istore_n C [(3, .int 0), (2, .int p0), (0, .ref (g_N g + t)), (1, .int p0)] (dk dX12_stepped 3 rfl) rfl (by decide) rfl ?_
  refine e_lv [2, 3, 1, 0] rfl ?_
  refine lb_X12_stepped_4 C K ht hR (fun s5 h => ?_) h
  refine e_iload_n C 0 (dk dX12_stepped 25 rfl) rfl rfl ?_
  obtain rfl := Option.some.inj h
  exact e_iret C B (nar1 _) (dk dX12_stepped 26 rfl)
set_option maxRecDepth 20000 in
theorem j_X12_way_j21 {X : FX} {g : WC} {Xo : Nat → va_E} {n : Nat} {kd : Nat → Nat} (C : Cx X g RX12 cX12_way 5) (K : KD n kd) {t : Nat} (ht : kd t = 13) (hR : x_R X = rm 2) {M : Mem} {res : Int32 × Mem} (h : J_X12_way_j21 t M = some res) (B : Bx X g (some .int) 2 n (some (.int res.1)) (ent g Xo kd res.2)) : EW X g (x_s X).heap.size n 5 (ent g Xo kd M) 0 0 21 [(0, .ref (g_N g + t))] [] := by
  rw [J_X12_way_j21] at h
  refine e_aload_n C 0 (dk dX12_way 11 rfl) rfl rfl ?_
  refine e_iconst C 1 (dk dX12_way 12 rfl) (by decide) ?_
  refine e_callV (ci := 12) C cal_X12_fail im_X12_fail se_X12_fail ml_X12_318 rfl hR (by decide) (dk dX12_way 13 rfl) (K.1 _ (by rw [ht]; decide)) (ent_o12 ht) (c_X12_fail K ht (rfl : F_X12_fail t 1 M = _)) ⟨Nat.zero_le _, Nat.zero_le _⟩ (Nat.le_of_ble_eq_true rfl) rfl ?_
  obtain rfl := Option.some.inj h
  exact e_iret C B (nar1 _) (dk dX12_way 14 rfl)
set_option maxRecDepth 20000 in
theorem l_X12_way_34 {X : FX} {g : WC} {Xo : Nat → va_E} {n : Nat} {kd : Nat → Nat} (C : Cx X g RX12 cX12_way 5) (K : KD n kd) {t : Nat} (ht : kd t = 13) {x2 : Int32} {M : Mem} (hR : x_R X = rm 2) {OK : Sum (Int32 × Mem) (Unit) → Prop} (hB : ∀ v, OK (Sum.inl v) → Bx X g (some .int) 2 n (some (.int v.1)) (ent g Xo kd v.2)) (hx : ∀ s, OK (Sum.inr s) → EW X g (x_s X).heap.size n 5 (ent g Xo kd M) 0 0 64 [] []) : ∀ (N9 : Nat) (x3 : Int32) (x4 : Int32) (q : Sum (Int32 × Mem) (Unit)), L_X12_way_34 t x2 M N9 x3 x4 = some q → OK q → EW X g (x_s X).heap.size n 5 (ent g Xo kd M) 0 0 34 [(0, .ref (g_N g + t)), (2, .int x2), (3, .int x3), (4, .int x4)] [] := by
  intro N9
  induction N9 with
  | zero =>
    intro x3 x4 q h
    rw [L_X12_way_34.eq_1] at h
    cases h
  | succ m9 ih =>
    intro x3 x4 q h hOK
    rw [L_X12_way_34.eq_2] at h
    refine e_iload C 3 (dk dX12_way 21 rfl) rfl ?_
    refine e_bipush C 8 (dk dX12_way 22 rfl) (by decide) ?_
    refine e_icmp_ge C 64 (dk dX12_way 23 rfl) (by decide) (fun c3 => ?_) (fun c3 => ?_)
    · rw [if_pos c3] at h
      obtain rfl := Option.some.inj h
      refine e_lv [] rfl ?_
      exact hx _ hOK
    · rw [if_neg c3] at h
      refine e_iload_n C 2 (dk dX12_way 24 rfl) rfl rfl ?_
      refine e_iload_n C 1 (dk dX12_way 25 rfl) rfl rfl ?_
      refine e_callS C cal_X12_isOf sm_X12_isOf ml_X12_287 hR (by decide) (dk dX12_way 26 rfl) (c_X12_isOf K (rfl : F_X12_isOf x3 x2 = _)) ⟨Nat.zero_le _, Nat.zero_le _⟩ (Nat.le_of_ble_eq_true rfl) rfl ?_
      refine e_if_eq C 52 (dk dX12_way 27 rfl) (by decide) (fun c4 => ?_) (fun c4 => ?_)
      · rw [if_pos c4] at h
        refine e_aload_n C 0 (dk dX12_way 30 rfl) rfl rfl ?_
        refine e_iload_n C 2 (dk dX12_way 31 rfl) rfl rfl ?_
        obtain ⟨q5, hq5, h⟩ := ob h
        refine e_callV (ci := 12) C cal_X12_stepped im_X12_stepped se_X12_stepped ml_X12_435 rfl hR (by decide) (dk dX12_way 32 rfl) (K.1 _ (by rw [ht]; decide)) (ent_o12 ht) (c_X12_stepped K ht hq5) ⟨Nat.zero_le _, Nat.zero_le _⟩ (Nat.le_of_ble_eq_true rfl) rfl ?_
        refine e_istore_n C [(3, .int q5), (0, .ref (g_N g + t)), (2, .int x2), (4, .int x4)] (dk dX12_way 33 rfl) rfl (by decide) rfl ?_
        refine e_iinc C [(4, .int (x4 + 1)), (3, .int q5), (0, .ref (g_N g + t)), (2, .int x2)] 3 1 (dk dX12_way 34 rfl) rfl (by decide) (by decide) rfl ?_
        refine e_goto C 34 (dk dX12_way 35 rfl) (by decide) ?_
        refine e_lv [2, 3, 1, 0] rfl ?_
        exact ih _ _ _ h hOK
      · rw [if_neg c4] at h
        refine e_iload C 3 (dk dX12_way 28 rfl) rfl ?_
        obtain rfl := Option.some.inj h
        exact e_iret C (hB _ hOK) (nar1 _) (dk dX12_way 29 rfl)
set_option maxRecDepth 20000 in
theorem lb_X12_way_34 {X : FX} {g : WC} {Xo : Nat → va_E} {n : Nat} {kd : Nat → Nat} (C : Cx X g RX12 cX12_way 5) (K : KD n kd) {t : Nat} (ht : kd t = 13) {x2 : Int32} {M : Mem} (hR : x_R X = rm 2) {T9 : Type} {f9 : Sum (Int32 × Mem) (Unit) → Option T9} {b9 : T9} (hB : ∀ v, f9 (Sum.inl v) = some b9 → Bx X g (some .int) 2 n (some (.int v.1)) (ent g Xo kd v.2)) (hx : ∀ s, f9 (Sum.inr s) = some b9 → EW X g (x_s X).heap.size n 5 (ent g Xo kd M) 0 0 64 [] []) {x3 : Int32} {x4 : Int32} (h : (L_X12_way_34 t x2 M FU x3 x4).bind f9 = some b9) : EW X g (x_s X).heap.size n 5 (ent g Xo kd M) 0 0 34 [(0, .ref (g_N g + t)), (2, .int x2), (3, .int x3), (4, .int x4)] [] := by
  obtain ⟨q, hq, h⟩ := ob h
  exact l_X12_way_34 C K ht hR (OK := fun q => f9 q = some b9) hB hx FU x3 x4 q hq h
set_option maxRecDepth 20000 in
theorem c_X12_way {g : WC} {Xo : Nat → va_E} {n : Nat} {kd : Nat → Nat} (K : KD n kd) {t : Nat} {p0 : Int32} {p1 : Int32} (ht : kd t = 13) {M : Mem} {res : Int32 × Mem} (h : F_X12_way t p0 p1 M = some res) : MC g yX12_way cX12_way 5 (some .int) 2 n [.ref (g_N g + t), .int p0, .int p1] (ent g Xo kd M) (some (.int res.1)) (ent g Xo kd res.2) := by
  refine MC_of pn_X12 (Nat.le_of_ble_eq_true rfl) (fun X C B => ?_)
  have hR := B.1
  rw [F_X12_way] at h
  refine e_aload_n C 0 (dk dX12_way 0 rfl) rfl rfl ?_
  refine e_iconst C 0 (dk dX12_way 1 rfl) (by decide) ?_
  refine pf_X12_code C K ht fl_X12_156 (dk dX12_way 2 rfl) ?_
  refine e_aload_n C 0 (dk dX12_way 3 rfl) rfl rfl ?_
  refine e_iload_n C 1 (dk dX12_way 4 rfl) rfl rfl ?_
  refine e_callV (ci := 12) C cal_X12_isStreet im_X12_isStreet se_X12_isStreet ml_X12_396 rfl hR (by decide) (dk dX12_way 5 rfl) (K.1 _ (by rw [ht]; decide)) (ent_o12 ht) (c_X12_isStreet K ht (rfl : F_X12_isStreet t p0 (up M t 2 0) = _)) ⟨Nat.zero_le _, Nat.zero_le _⟩ (Nat.le_of_ble_eq_true rfl) rfl ?_
  refine e_if_eq C 21 (dk dX12_way 6 rfl) (by decide) (fun c1 => ?_) (fun c1 => ?_)
  · rw [if_pos c1] at h
    refine e_lv [0] rfl ?_
    exact j_X12_way_j21 C K ht hR h B
  · rw [if_neg c1] at h
    refine e_aload_n C 0 (dk dX12_way 7 rfl) rfl rfl ?_
    refine e_iload_n C 2 (dk dX12_way 8 rfl) rfl rfl ?_
    refine e_callV (ci := 12) C cal_X12_isStreet im_X12_isStreet se_X12_isStreet ml_X12_396 rfl hR (by decide) (dk dX12_way 9 rfl) (K.1 _ (by rw [ht]; decide)) (ent_o12 ht) (c_X12_isStreet K ht (rfl : F_X12_isStreet t p1 (up M t 2 0) = _)) ⟨Nat.zero_le _, Nat.zero_le _⟩ (Nat.le_of_ble_eq_true rfl) rfl ?_
    refine e_if_ne C 27 (dk dX12_way 10 rfl) (by decide) (fun c2 => ?_) (fun c2 => ?_)
    · rw [if_neg c2] at h
      refine e_iconst C 1 (dk dX12_way 15 rfl) (by decide) ?_
      refine e_iload_n C 1 (dk dX12_way 16 rfl) rfl rfl ?_
      refine e_ishl C (dk dX12_way 17 rfl) ?_
      refine e_istore_n C [(3, .int ((1 : Int32) <<< (p0 &&& 31))), (0, .ref (g_N g + t)), (1, .int p0), (2, .int p1)] (dk dX12_way 18 rfl) rfl (by decide) rfl ?_
      refine e_iconst C 0 (dk dX12_way 19 rfl) (by decide) ?_
      refine e_istore C [(4, .int 0), (3, .int ((1 : Int32) <<< (p0 &&& 31))), (0, .ref (g_N g + t)), (1, .int p0), (2, .int p1)] (dk dX12_way 20 rfl) (by decide) rfl ?_
      refine e_lv [2, 4, 1, 0] rfl ?_
      refine lb_X12_way_34 C K ht hR (fun v h => ?_) (fun s7 h => ?_) h
      · obtain rfl := Option.some.inj (show some v = some _ from h)
        exact B
      dsimp only [Sum.elim_inr] at h
      refine e_iconst C (-1) (dk dX12_way 36 rfl) (by decide) ?_
      obtain rfl := Option.some.inj h
      exact e_iret C B (nar1 _) (dk dX12_way 37 rfl)
    · rw [if_pos c2] at h
      refine e_lv [0] rfl ?_
      exact j_X12_way_j21 C K ht hR h B
set_option maxRecDepth 20000 in
theorem j_X12_sneak_j21 {X : FX} {g : WC} {Xo : Nat → va_E} {n : Nat} {kd : Nat → Nat} (C : Cx X g RX12 cX12_sneak 5) (K : KD n kd) {t : Nat} (ht : kd t = 13) (hR : x_R X = rm 2) {M : Mem} {res : Int32 × Mem} (h : J_X12_sneak_j21 t M = some res) (B : Bx X g (some .int) 2 n (some (.int res.1)) (ent g Xo kd res.2)) : EW X g (x_s X).heap.size n 5 (ent g Xo kd M) 0 0 21 [(0, .ref (g_N g + t))] [] := by
  rw [J_X12_sneak_j21] at h
  refine e_aload_n C 0 (dk dX12_sneak 11 rfl) rfl rfl ?_
  refine e_iconst C 1 (dk dX12_sneak 12 rfl) (by decide) ?_
  refine e_callV (ci := 12) C cal_X12_fail im_X12_fail se_X12_fail ml_X12_318 rfl hR (by decide) (dk dX12_sneak 13 rfl) (K.1 _ (by rw [ht]; decide)) (ent_o12 ht) (c_X12_fail K ht (rfl : F_X12_fail t 1 M = _)) ⟨Nat.zero_le _, Nat.zero_le _⟩ (Nat.le_of_ble_eq_true rfl) rfl ?_
  obtain rfl := Option.some.inj h
  exact e_iret C B (nar1 _) (dk dX12_sneak 14 rfl)
set_option maxRecDepth 20000 in
theorem l_X12_sneak_34 {X : FX} {g : WC} {Xo : Nat → va_E} {n : Nat} {kd : Nat → Nat} (C : Cx X g RX12 cX12_sneak 5) (K : KD n kd) {t : Nat} (ht : kd t = 13) {x2 : Int32} {M : Mem} (hR : x_R X = rm 2) {OK : Sum (Int32 × Mem) (Unit) → Prop} (hB : ∀ v, OK (Sum.inl v) → Bx X g (some .int) 2 n (some (.int v.1)) (ent g Xo kd v.2)) (hx : ∀ s, OK (Sum.inr s) → EW X g (x_s X).heap.size n 5 (ent g Xo kd M) 0 0 81 [] []) : ∀ (N9 : Nat) (x3 : Int32) (x4 : Int32) (q : Sum (Int32 × Mem) (Unit)), L_X12_sneak_34 t x2 M N9 x3 x4 = some q → OK q → EW X g (x_s X).heap.size n 5 (ent g Xo kd M) 0 0 34 [(0, .ref (g_N g + t)), (2, .int x2), (3, .int x3), (4, .int x4)] [] := by
  intro N9
  induction N9 with
  | zero =>
    intro x3 x4 q h
    rw [L_X12_sneak_34.eq_1] at h
    cases h
  | succ m9 ih =>
    intro x3 x4 q h hOK
    rw [L_X12_sneak_34.eq_2] at h
    refine e_iload C 3 (dk dX12_sneak 21 rfl) rfl ?_
    refine e_bipush C 6 (dk dX12_sneak 22 rfl) (by decide) ?_
    refine e_icmp_ge C 81 (dk dX12_sneak 23 rfl) (by decide) (fun c3 => ?_) (fun c3 => ?_)
    · rw [if_pos c3] at h
      obtain rfl := Option.some.inj h
      refine e_lv [] rfl ?_
      exact hx _ hOK
    · rw [if_neg c3] at h
      refine e_iload_n C 2 (dk dX12_sneak 24 rfl) rfl rfl ?_
      refine e_iconst C 1 (dk dX12_sneak 25 rfl) (by decide) ?_
      refine e_aload_n C 0 (dk dX12_sneak 26 rfl) rfl rfl ?_
      refine e_aload_n C 0 (dk dX12_sneak 27 rfl) rfl rfl ?_
      refine gf_X12_night C K ht fl_X12_331 (dk dX12_sneak 28 rfl) ?_
      refine e_iload C 3 (dk dX12_sneak 29 rfl) rfl ?_
      obtain ⟨q4, hq4, h⟩ := ob h
      refine e_callV (ci := 12) C cal_X12_watchAt im_X12_watchAt se_X12_watchAt ml_X12_351 rfl hR (by decide) (dk dX12_sneak 30 rfl) (K.1 _ (by rw [ht]; decide)) (ent_o12 ht) (c_X12_watchAt K ht hq4) ⟨Nat.zero_le _, Nat.zero_le _⟩ (Nat.le_of_ble_eq_true rfl) rfl ?_
      refine e_ishl C (dk dX12_sneak 31 rfl) ?_
      refine e_iconst C (-1) (dk dX12_sneak 32 rfl) (by decide) ?_
      refine e_ixor C (dk dX12_sneak 33 rfl) ?_
      refine e_iand C (dk dX12_sneak 34 rfl) ?_
      refine e_istore_n C [(3, .int (x3 &&& (((1 : Int32) <<< (q4 &&& 31)) ^^^ (-1)))), (0, .ref (g_N g + t)), (2, .int x2), (4, .int x4)] (dk dX12_sneak 35 rfl) rfl (by decide) rfl ?_
      refine e_iload_n C 0 (dk dX12_sneak 36 rfl) rfl rfl ?_
      refine e_iload_n C 2 (dk dX12_sneak 37 rfl) rfl rfl ?_
      refine e_callS C cal_X12_isOf sm_X12_isOf ml_X12_287 hR (by decide) (dk dX12_sneak 38 rfl) (c_X12_isOf K (rfl : F_X12_isOf (x3 &&& (((1 : Int32) <<< (q4 &&& 31)) ^^^ (-1))) x2 = _)) ⟨Nat.zero_le _, Nat.zero_le _⟩ (Nat.le_of_ble_eq_true rfl) rfl ?_
      refine e_if_eq C 69 (dk dX12_sneak 39 rfl) (by decide) (fun c5 => ?_) (fun c5 => ?_)
      · rw [if_pos c5] at h
        refine e_aload_n C 1 (dk dX12_sneak 42 rfl) rfl rfl ?_
        refine e_iload_n C 0 (dk dX12_sneak 43 rfl) rfl rfl ?_
        obtain ⟨q6, hq6, h⟩ := ob h
        refine e_callV (ci := 12) C cal_X12_stepped im_X12_stepped se_X12_stepped ml_X12_435 rfl hR (by decide) (dk dX12_sneak 44 rfl) (K.1 _ (by rw [ht]; decide)) (ent_o12 ht) (c_X12_stepped K ht hq6) ⟨Nat.zero_le _, Nat.zero_le _⟩ (Nat.le_of_ble_eq_true rfl) rfl ?_
        refine e_istore_n C [(3, .int q6), (0, .ref (g_N g + t)), (2, .int x2), (4, .int x4)] (dk dX12_sneak 45 rfl) rfl (by decide) rfl ?_
        refine e_iinc C [(4, .int (x4 + 1)), (3, .int q6), (0, .ref (g_N g + t)), (2, .int x2)] 3 1 (dk dX12_sneak 46 rfl) rfl (by decide) (by decide) rfl ?_
        refine e_goto C 34 (dk dX12_sneak 47 rfl) (by decide) ?_
        refine e_lv [2, 3, 1, 0] rfl ?_
        exact ih _ _ _ h hOK
      · rw [if_neg c5] at h
        refine e_iload C 3 (dk dX12_sneak 40 rfl) rfl ?_
        obtain rfl := Option.some.inj h
        exact e_iret C (hB _ hOK) (nar1 _) (dk dX12_sneak 41 rfl)
set_option maxRecDepth 20000 in
theorem lb_X12_sneak_34 {X : FX} {g : WC} {Xo : Nat → va_E} {n : Nat} {kd : Nat → Nat} (C : Cx X g RX12 cX12_sneak 5) (K : KD n kd) {t : Nat} (ht : kd t = 13) {x2 : Int32} {M : Mem} (hR : x_R X = rm 2) {T9 : Type} {f9 : Sum (Int32 × Mem) (Unit) → Option T9} {b9 : T9} (hB : ∀ v, f9 (Sum.inl v) = some b9 → Bx X g (some .int) 2 n (some (.int v.1)) (ent g Xo kd v.2)) (hx : ∀ s, f9 (Sum.inr s) = some b9 → EW X g (x_s X).heap.size n 5 (ent g Xo kd M) 0 0 81 [] []) {x3 : Int32} {x4 : Int32} (h : (L_X12_sneak_34 t x2 M FU x3 x4).bind f9 = some b9) : EW X g (x_s X).heap.size n 5 (ent g Xo kd M) 0 0 34 [(0, .ref (g_N g + t)), (2, .int x2), (3, .int x3), (4, .int x4)] [] := by
  obtain ⟨q, hq, h⟩ := ob h
  exact l_X12_sneak_34 C K ht hR (OK := fun q => f9 q = some b9) hB hx FU x3 x4 q hq h
set_option maxRecDepth 20000 in
theorem c_X12_sneak {g : WC} {Xo : Nat → va_E} {n : Nat} {kd : Nat → Nat} (K : KD n kd) {t : Nat} {p0 : Int32} {p1 : Int32} (ht : kd t = 13) {M : Mem} {res : Int32 × Mem} (h : F_X12_sneak t p0 p1 M = some res) : MC g yX12_sneak cX12_sneak 5 (some .int) 2 n [.ref (g_N g + t), .int p0, .int p1] (ent g Xo kd M) (some (.int res.1)) (ent g Xo kd res.2) := by
  refine MC_of pn_X12 (Nat.le_of_ble_eq_true rfl) (fun X C B => ?_)
  have hR := B.1
  rw [F_X12_sneak] at h
  refine e_aload_n C 0 (dk dX12_sneak 0 rfl) rfl rfl ?_
  refine e_iconst C 0 (dk dX12_sneak 1 rfl) (by decide) ?_
  refine pf_X12_code C K ht fl_X12_156 (dk dX12_sneak 2 rfl) ?_
  refine e_aload_n C 0 (dk dX12_sneak 3 rfl) rfl rfl ?_
  refine e_iload_n C 1 (dk dX12_sneak 4 rfl) rfl rfl ?_
  refine e_callV (ci := 12) C cal_X12_isStreet im_X12_isStreet se_X12_isStreet ml_X12_396 rfl hR (by decide) (dk dX12_sneak 5 rfl) (K.1 _ (by rw [ht]; decide)) (ent_o12 ht) (c_X12_isStreet K ht (rfl : F_X12_isStreet t p0 (up M t 2 0) = _)) ⟨Nat.zero_le _, Nat.zero_le _⟩ (Nat.le_of_ble_eq_true rfl) rfl ?_
  refine e_if_eq C 21 (dk dX12_sneak 6 rfl) (by decide) (fun c1 => ?_) (fun c1 => ?_)
  · rw [if_pos c1] at h
    refine e_lv [0] rfl ?_
    exact j_X12_sneak_j21 C K ht hR h B
  · rw [if_neg c1] at h
    refine e_aload_n C 0 (dk dX12_sneak 7 rfl) rfl rfl ?_
    refine e_iload_n C 2 (dk dX12_sneak 8 rfl) rfl rfl ?_
    refine e_callV (ci := 12) C cal_X12_isStreet im_X12_isStreet se_X12_isStreet ml_X12_396 rfl hR (by decide) (dk dX12_sneak 9 rfl) (K.1 _ (by rw [ht]; decide)) (ent_o12 ht) (c_X12_isStreet K ht (rfl : F_X12_isStreet t p1 (up M t 2 0) = _)) ⟨Nat.zero_le _, Nat.zero_le _⟩ (Nat.le_of_ble_eq_true rfl) rfl ?_
    refine e_if_ne C 27 (dk dX12_sneak 10 rfl) (by decide) (fun c2 => ?_) (fun c2 => ?_)
    · rw [if_neg c2] at h
      refine e_iconst C 1 (dk dX12_sneak 15 rfl) (by decide) ?_
      refine e_iload_n C 1 (dk dX12_sneak 16 rfl) rfl rfl ?_
      refine e_ishl C (dk dX12_sneak 17 rfl) ?_
      refine e_istore_n C [(3, .int ((1 : Int32) <<< (p0 &&& 31))), (0, .ref (g_N g + t)), (1, .int p0), (2, .int p1)] (dk dX12_sneak 18 rfl) rfl (by decide) rfl ?_
      refine e_iconst C 0 (dk dX12_sneak 19 rfl) (by decide) ?_
      refine e_istore C [(4, .int 0), (3, .int ((1 : Int32) <<< (p0 &&& 31))), (0, .ref (g_N g + t)), (1, .int p0), (2, .int p1)] (dk dX12_sneak 20 rfl) (by decide) rfl ?_
      refine e_lv [2, 4, 1, 0] rfl ?_
      refine lb_X12_sneak_34 C K ht hR (fun v h => ?_) (fun s8 h => ?_) h
      · obtain rfl := Option.some.inj (show some v = some _ from h)
        exact B
      dsimp only [Sum.elim_inr] at h
      refine e_iconst C (-1) (dk dX12_sneak 48 rfl) (by decide) ?_
      obtain rfl := Option.some.inj h
      exact e_iret C B (nar1 _) (dk dX12_sneak 49 rfl)
    · rw [if_pos c2] at h
      refine e_lv [0] rfl ?_
      exact j_X12_sneak_j21 C K ht hR h B
set_option maxRecDepth 20000 in
theorem j_X12_lit_j42 {X : FX} {g : WC} {Xo : Nat → va_E} {n : Nat} {kd : Nat → Nat} (C : Cx X g RX12 cX12_lit 5) (K : KD n kd) {t : Nat} (ht : kd t = 13) {x1 : Int32} {x2 : Int32} {M : Mem} (hR : x_R X = rm 1) {OK : Int32 → Prop} (hx : ∀ s, OK s → EW X g (x_s X).heap.size n 5 (ent g Xo kd M) 0 0 50 [(3, .int s)] []) {rec : Int32 → Int32 → Option (Int32)} (hrec : ∀ (x3 : Int32) (x4 : Int32) (q : Int32), rec x3 x4 = some q → OK q → EW X g (x_s X).heap.size n 5 (ent g Xo kd M) 0 0 5 [(0, .ref (g_N g + t)), (1, .int x1), (2, .int x2), (3, .int x3), (4, .int x4)] []) {x4 : Int32} {y0 : Int32} {y1 : Int32} (q : Int32) (h : J_X12_lit_j42 t rec x1 x2 x4 y0 y1 M = some q) (hOK : OK q) : EW X g (x_s X).heap.size n 5 (ent g Xo kd M) 0 0 42 [(0, .ref (g_N g + t)), (1, .int x1), (2, .int x2), (4, .int x4)] [.int y1, .int y0] := by
  rw [J_X12_lit_j42] at h
  refine e_ior C (dk dX12_lit 25 rfl) ?_
  refine e_istore_n C [(3, .int (y0 ||| y1)), (0, .ref (g_N g + t)), (1, .int x1), (2, .int x2), (4, .int x4)] (dk dX12_lit 26 rfl) rfl (by decide) rfl ?_
  refine e_iinc C [(4, .int (x4 + 1)), (3, .int (y0 ||| y1)), (0, .ref (g_N g + t)), (1, .int x1), (2, .int x2)] 4 1 (dk dX12_lit 27 rfl) rfl (by decide) (by decide) rfl ?_
  refine e_goto C 5 (dk dX12_lit 28 rfl) (by decide) ?_
  refine e_lv [2, 3, 4, 1, 0] rfl ?_
  exact hrec _ _ _ h hOK
set_option maxRecDepth 20000 in
theorem l_X12_lit_5 {X : FX} {g : WC} {Xo : Nat → va_E} {n : Nat} {kd : Nat → Nat} (C : Cx X g RX12 cX12_lit 5) (K : KD n kd) {t : Nat} (ht : kd t = 13) {x1 : Int32} {x2 : Int32} {M : Mem} (hR : x_R X = rm 1) {OK : Int32 → Prop} (hx : ∀ s, OK s → EW X g (x_s X).heap.size n 5 (ent g Xo kd M) 0 0 50 [(3, .int s)] []) : ∀ (N9 : Nat) (x3 : Int32) (x4 : Int32) (q : Int32), L_X12_lit_5 t x1 x2 M N9 x3 x4 = some q → OK q → EW X g (x_s X).heap.size n 5 (ent g Xo kd M) 0 0 5 [(0, .ref (g_N g + t)), (1, .int x1), (2, .int x2), (3, .int x3), (4, .int x4)] [] := by
  intro N9
  induction N9 with
  | zero =>
    intro x3 x4 q h
    rw [L_X12_lit_5.eq_1] at h
    cases h
  | succ m9 ih =>
    intro x3 x4 q h hOK
    rw [L_X12_lit_5.eq_2] at h
    refine e_iload C 4 (dk dX12_lit 4 rfl) rfl ?_
    refine e_bipush C 6 (dk dX12_lit 5 rfl) (by decide) ?_
    refine e_icmp_ge C 50 (dk dX12_lit 6 rfl) (by decide) (fun c1 => ?_) (fun c1 => ?_)
    · rw [if_pos c1] at h
      obtain rfl := Option.some.inj h
      refine e_lv [3] rfl ?_
      exact hx _ hOK
    · rw [if_neg c1] at h
      refine e_iload_n C 3 (dk dX12_lit 7 rfl) rfl rfl ?_
      refine e_iload C 4 (dk dX12_lit 8 rfl) rfl ?_
      refine e_aload_n C 0 (dk dX12_lit 9 rfl) rfl rfl ?_
      refine gf_X12_places C K ht fl_X12_53 (dk dX12_lit 10 rfl) ?_
      refine e_iload_n C 1 (dk dX12_lit 11 rfl) rfl rfl ?_
      obtain ⟨v2, hv2, h⟩ := ob h
      refine m_ald C K (kd_X12_places K ht) (dk dX12_lit 12 rfl) hv2 ?_
      obtain ⟨v3, hv3, h⟩ := ob h
      have gv3 := irm_some hv3
      refine e_irem C (dk dX12_lit 13 rfl) gv3.1 ?_
      rw [gv3.2]
      refine e_iload_n C 2 (dk dX12_lit 14 rfl) rfl rfl ?_
      refine e_icmp_ne C 41 (dk dX12_lit 15 rfl) (by decide) (fun c4 => ?_) (fun c4 => ?_)
      · rw [if_neg c4] at h
        refine e_iconst C 0 (dk dX12_lit 24 rfl) (by decide) ?_
        refine e_lv [0, 1, 2, 4] rfl ?_
        exact j_X12_lit_j42 C K ht hR hx ih _ h hOK
      · rw [if_pos c4] at h
        refine e_iconst C 1 (dk dX12_lit 16 rfl) (by decide) ?_
        refine e_aload_n C 0 (dk dX12_lit 17 rfl) rfl rfl ?_
        refine e_aload_n C 0 (dk dX12_lit 18 rfl) rfl rfl ?_
        refine gf_X12_night C K ht fl_X12_331 (dk dX12_lit 19 rfl) ?_
        refine e_iload C 4 (dk dX12_lit 20 rfl) rfl ?_
        obtain ⟨q5, hq5, h⟩ := ob h
        refine e_callV (ci := 12) C cal_X12_watchAt im_X12_watchAt se_X12_watchAt ml_X12_351 rfl hR (by decide) (dk dX12_lit 21 rfl) (K.1 _ (by rw [ht]; decide)) (ent_o12 ht) (c_X12_watchAt K ht hq5) ⟨Nat.zero_le _, Nat.zero_le _⟩ (Nat.le_of_ble_eq_true rfl) rfl ?_
        refine e_ishl C (dk dX12_lit 22 rfl) ?_
        refine e_goto C 42 (dk dX12_lit 23 rfl) (by decide) ?_
        refine e_lv [0, 1, 2, 4] rfl ?_
        exact j_X12_lit_j42 C K ht hR hx ih _ h hOK
set_option maxRecDepth 20000 in
theorem lb_X12_lit_5 {X : FX} {g : WC} {Xo : Nat → va_E} {n : Nat} {kd : Nat → Nat} (C : Cx X g RX12 cX12_lit 5) (K : KD n kd) {t : Nat} (ht : kd t = 13) {x1 : Int32} {x2 : Int32} {M : Mem} (hR : x_R X = rm 1) {T9 : Type} {f9 : Int32 → Option T9} {b9 : T9} (hx : ∀ s, f9 s = some b9 → EW X g (x_s X).heap.size n 5 (ent g Xo kd M) 0 0 50 [(3, .int s)] []) {x3 : Int32} {x4 : Int32} (h : (L_X12_lit_5 t x1 x2 M FU x3 x4).bind f9 = some b9) : EW X g (x_s X).heap.size n 5 (ent g Xo kd M) 0 0 5 [(0, .ref (g_N g + t)), (1, .int x1), (2, .int x2), (3, .int x3), (4, .int x4)] [] := by
  obtain ⟨q, hq, h⟩ := ob h
  exact l_X12_lit_5 C K ht hR (OK := fun q => f9 q = some b9) hx FU x3 x4 q hq h
set_option maxRecDepth 20000 in
theorem c_X12_lit {g : WC} {Xo : Nat → va_E} {n : Nat} {kd : Nat → Nat} (K : KD n kd) {t : Nat} {p0 : Int32} {p1 : Int32} (ht : kd t = 13) {M : Mem} {res : Int32} (h : F_X12_lit t p0 p1 M = some res) : MC g yX12_lit cX12_lit 5 (some .int) 1 n [.ref (g_N g + t), .int p0, .int p1] (ent g Xo kd M) (some (.int res)) (ent g Xo kd M) := by
  refine MC_of pn_X12 (Nat.le_of_ble_eq_true rfl) (fun X C B => ?_)
  have hR := B.1
  rw [F_X12_lit] at h
  refine e_iconst C 0 (dk dX12_lit 0 rfl) (by decide) ?_
  refine e_istore_n C [(3, .int 0), (0, .ref (g_N g + t)), (1, .int p0), (2, .int p1)] (dk dX12_lit 1 rfl) rfl (by decide) rfl ?_
  refine e_iconst C 0 (dk dX12_lit 2 rfl) (by decide) ?_
  refine e_istore C [(4, .int 0), (3, .int 0), (0, .ref (g_N g + t)), (1, .int p0), (2, .int p1)] (dk dX12_lit 3 rfl) (by decide) rfl ?_
  refine e_lv [2, 3, 4, 1, 0] rfl ?_
  refine lb_X12_lit_5 C K ht hR (fun s7 h => ?_) h
  refine e_iload_n C 0 (dk dX12_lit 29 rfl) rfl rfl ?_
  obtain rfl := Option.some.inj h
  exact e_iret C B (nar1 _) (dk dX12_lit 30 rfl)
set_option maxRecDepth 20000 in
theorem l_X12_safe_23 {X : FX} {g : WC} {Xo : Nat → va_E} {n : Nat} {kd : Nat → Nat} (C : Cx X g RX12 cX12_safe 4) (K : KD n kd) {t : Nat} (ht : kd t = 13) {x1 : Int32} {M : Mem} (hR : x_R X = rm 2) {OK : Int32 → Prop} (hx : ∀ s, OK s → EW X g (x_s X).heap.size n 4 (ent g Xo kd M) 0 0 72 [(2, .int s)] []) : ∀ (N9 : Nat) (x2 : Int32) (x3 : Int32) (q : Int32), L_X12_safe_23 t x1 M N9 x2 x3 = some q → OK q → EW X g (x_s X).heap.size n 4 (ent g Xo kd M) 0 0 23 [(0, .ref (g_N g + t)), (1, .int x1), (2, .int x2), (3, .int x3)] [] := by
  intro N9
  induction N9 with
  | zero =>
    intro x2 x3 q h
    rw [L_X12_safe_23.eq_1] at h
    cases h
  | succ m9 ih =>
    intro x2 x3 q h hOK
    rw [L_X12_safe_23.eq_2] at h
    refine e_iload_n C 3 (dk dX12_safe 15 rfl) rfl rfl ?_
    refine e_aload_n C 0 (dk dX12_safe 16 rfl) rfl rfl ?_
    refine gf_X12_places C K ht fl_X12_53 (dk dX12_safe 17 rfl) ?_
    refine e_iload_n C 1 (dk dX12_safe 18 rfl) rfl rfl ?_
    obtain ⟨v2, hv2, h⟩ := ob h
    refine m_ald C K (kd_X12_places K ht) (dk dX12_safe 19 rfl) hv2 ?_
    refine e_icmp_ge C 72 (dk dX12_safe 20 rfl) (by decide) (fun c3 => ?_) (fun c3 => ?_)
    · rw [if_pos c3] at h
      obtain rfl := Option.some.inj h
      refine e_lv [2] rfl ?_
      exact hx _ hOK
    · rw [if_neg c3] at h
      refine e_iload_n C 2 (dk dX12_safe 21 rfl) rfl rfl ?_
      refine e_aload_n C 0 (dk dX12_safe 22 rfl) rfl rfl ?_
      refine e_iload_n C 1 (dk dX12_safe 23 rfl) rfl rfl ?_
      refine e_iload_n C 3 (dk dX12_safe 24 rfl) rfl rfl ?_
      obtain ⟨q4, hq4, h⟩ := ob h
      refine e_callV (ci := 12) C cal_X12_lit im_X12_lit se_X12_lit ml_X12_438 rfl hR (by decide) (dk dX12_safe 25 rfl) (K.1 _ (by rw [ht]; decide)) (ent_o12 ht) (c_X12_lit K ht hq4) ⟨Nat.zero_le _, Nat.zero_le _⟩ (Nat.le_of_ble_eq_true rfl) rfl ?_
      refine e_aload_n C 0 (dk dX12_safe 26 rfl) rfl rfl ?_
      refine gf_X12_walks C K ht fl_X12_80 (dk dX12_safe 27 rfl) ?_
      refine e_bipush C 6 (dk dX12_safe 28 rfl) (by decide) ?_
      refine e_iload_n C 1 (dk dX12_safe 29 rfl) rfl rfl ?_
      refine e_imul C (dk dX12_safe 30 rfl) ?_
      refine e_iload_n C 3 (dk dX12_safe 31 rfl) rfl rfl ?_
      refine e_iadd C (dk dX12_safe 32 rfl) ?_
      obtain ⟨v5, hv5, h⟩ := ob h
      refine m_ald C K (kd_X12_walks K ht) (dk dX12_safe 33 rfl) hv5 ?_
      refine e_callS C cal_X12_isOf sm_X12_isOf ml_X12_287 hR (by decide) (dk dX12_safe 34 rfl) (c_X12_isOf K (rfl : F_X12_isOf q4 v5 = _)) ⟨Nat.zero_le _, Nat.zero_le _⟩ (Nat.le_of_ble_eq_true rfl) rfl ?_
      suffices hm7 : EW X g (x_s X).heap.size n 4 (ent g Xo kd M) 0 0 64 [(0, .ref (g_N g + t)), (1, .int x1), (2, .int x2), (3, .int x3)] [.int (if (bi (F_X12_isOf q4 v5)) = 0 then ((1 : Int32) <<< (x3 &&& 31)) else (0 : Int32)), .int x2] from (by
        refine e_if_eq C 61 (dk dX12_safe 35 rfl) (by decide) (fun c6 => ?_) (fun c6 => ?_)
        · rw [show (if (bi (F_X12_isOf q4 v5)) = 0 then ((1 : Int32) <<< (x3 &&& 31)) else (0 : Int32)) = ((1 : Int32) <<< (x3 &&& 31)) from if_pos c6] at hm7
          refine e_iconst C 1 (dk dX12_safe 38 rfl) (by decide) ?_
          refine e_iload_n C 3 (dk dX12_safe 39 rfl) rfl rfl ?_
          refine e_ishl C (dk dX12_safe 40 rfl) ?_
          exact hm7
        · rw [show (if (bi (F_X12_isOf q4 v5)) = 0 then ((1 : Int32) <<< (x3 &&& 31)) else (0 : Int32)) = (0 : Int32) from if_neg c6] at hm7
          refine e_iconst C 0 (dk dX12_safe 36 rfl) (by decide) ?_
          refine e_goto C 64 (dk dX12_safe 37 rfl) (by decide) ?_
          exact hm7)
      refine e_ior C (dk dX12_safe 41 rfl) ?_
      refine e_istore_n C [(2, .int (x2 ||| (if (bi (F_X12_isOf q4 v5)) = 0 then ((1 : Int32) <<< (x3 &&& 31)) else (0 : Int32)))), (0, .ref (g_N g + t)), (1, .int x1), (3, .int x3)] (dk dX12_safe 42 rfl) rfl (by decide) rfl ?_
      refine e_iinc C [(3, .int (x3 + 1)), (2, .int (x2 ||| (if (bi (F_X12_isOf q4 v5)) = 0 then ((1 : Int32) <<< (x3 &&& 31)) else (0 : Int32)))), (0, .ref (g_N g + t)), (1, .int x1)] 3 1 (dk dX12_safe 43 rfl) rfl (by decide) (by decide) rfl ?_
      refine e_goto C 23 (dk dX12_safe 44 rfl) (by decide) ?_
      refine e_lv [2, 3, 1, 0] rfl ?_
      exact ih _ _ _ h hOK
set_option maxRecDepth 20000 in
theorem lb_X12_safe_23 {X : FX} {g : WC} {Xo : Nat → va_E} {n : Nat} {kd : Nat → Nat} (C : Cx X g RX12 cX12_safe 4) (K : KD n kd) {t : Nat} (ht : kd t = 13) {x1 : Int32} {M : Mem} (hR : x_R X = rm 2) {T9 : Type} {f9 : Int32 → Option T9} {b9 : T9} (hx : ∀ s, f9 s = some b9 → EW X g (x_s X).heap.size n 4 (ent g Xo kd M) 0 0 72 [(2, .int s)] []) {x2 : Int32} {x3 : Int32} (h : (L_X12_safe_23 t x1 M FU x2 x3).bind f9 = some b9) : EW X g (x_s X).heap.size n 4 (ent g Xo kd M) 0 0 23 [(0, .ref (g_N g + t)), (1, .int x1), (2, .int x2), (3, .int x3)] [] := by
  obtain ⟨q, hq, h⟩ := ob h
  exact l_X12_safe_23 C K ht hR (OK := fun q => f9 q = some b9) hx FU x2 x3 q hq h
set_option maxRecDepth 20000 in
theorem c_X12_safe {g : WC} {Xo : Nat → va_E} {n : Nat} {kd : Nat → Nat} (K : KD n kd) {t : Nat} {p0 : Int32} (ht : kd t = 13) {M : Mem} {res : Int32 × Mem} (h : F_X12_safe t p0 M = some res) : MC g yX12_safe cX12_safe 4 (some .int) 2 n [.ref (g_N g + t), .int p0] (ent g Xo kd M) (some (.int res.1)) (ent g Xo kd res.2) := by
  refine MC_of pn_X12 (Nat.le_of_ble_eq_true rfl) (fun X C B => ?_)
  have hR := B.1
  rw [F_X12_safe] at h
  refine e_aload_n C 0 (dk dX12_safe 0 rfl) rfl rfl ?_
  refine e_iconst C 0 (dk dX12_safe 1 rfl) (by decide) ?_
  refine pf_X12_code C K ht fl_X12_156 (dk dX12_safe 2 rfl) ?_
  refine e_aload_n C 0 (dk dX12_safe 3 rfl) rfl rfl ?_
  refine e_iload_n C 1 (dk dX12_safe 4 rfl) rfl rfl ?_
  refine e_callV (ci := 12) C cal_X12_isPerson im_X12_isPerson se_X12_isPerson ml_X12_399 rfl hR (by decide) (dk dX12_safe 5 rfl) (K.1 _ (by rw [ht]; decide)) (ent_o12 ht) (c_X12_isPerson K ht (rfl : F_X12_isPerson t p0 (up M t 2 0) = _)) ⟨Nat.zero_le _, Nat.zero_le _⟩ (Nat.le_of_ble_eq_true rfl) rfl ?_
  refine e_if_ne C 19 (dk dX12_safe 6 rfl) (by decide) (fun c1 => ?_) (fun c1 => ?_)
  · rw [if_neg c1] at h
    refine e_iconst C 0 (dk dX12_safe 11 rfl) (by decide) ?_
    refine e_istore_n C [(2, .int 0), (0, .ref (g_N g + t)), (1, .int p0)] (dk dX12_safe 12 rfl) rfl (by decide) rfl ?_
    refine e_iconst C 0 (dk dX12_safe 13 rfl) (by decide) ?_
    refine e_istore_n C [(3, .int 0), (2, .int 0), (0, .ref (g_N g + t)), (1, .int p0)] (dk dX12_safe 14 rfl) rfl (by decide) rfl ?_
    refine e_lv [2, 3, 1, 0] rfl ?_
    refine lb_X12_safe_23 C K ht hR (fun s9 h => ?_) h
    refine e_iload_n C 0 (dk dX12_safe 45 rfl) rfl rfl ?_
    obtain rfl := Option.some.inj h
    exact e_iret C B (nar1 _) (dk dX12_safe 46 rfl)
  · rw [if_pos c1] at h
    refine e_aload_n C 0 (dk dX12_safe 7 rfl) rfl rfl ?_
    refine e_iconst C 1 (dk dX12_safe 8 rfl) (by decide) ?_
    refine e_callV (ci := 12) C cal_X12_fail im_X12_fail se_X12_fail ml_X12_318 rfl hR (by decide) (dk dX12_safe 9 rfl) (K.1 _ (by rw [ht]; decide)) (ent_o12 ht) (c_X12_fail K ht (rfl : F_X12_fail t 1 (up M t 2 0) = _)) ⟨Nat.zero_le _, Nat.zero_le _⟩ (Nat.le_of_ble_eq_true rfl) rfl ?_
    obtain rfl := Option.some.inj h
    exact e_iret C B (nar1 _) (dk dX12_safe 10 rfl)
set_option maxRecDepth 20000 in
theorem l_X12_toHide_23 {X : FX} {g : WC} {Xo : Nat → va_E} {n : Nat} {kd : Nat → Nat} (C : Cx X g RX12 cX12_toHide 5) (K : KD n kd) {t : Nat} (ht : kd t = 13) {x1 : Int32} {M : Mem} (hR : x_R X = rm 2) {OK : Sum (Int32 × Mem) (Int32) → Prop} (hB : ∀ v, OK (Sum.inl v) → Bx X g (some .int) 2 n (some (.int v.1)) (ent g Xo kd v.2)) (hx : ∀ s, OK (Sum.inr s) → EW X g (x_s X).heap.size n 5 (ent g Xo kd M) 0 0 90 [(2, .int s)] []) : ∀ (N9 : Nat) (x2 : Int32) (x3 : Int32) (q : Sum (Int32 × Mem) (Int32)), L_X12_toHide_23 t x1 M N9 x2 x3 = some q → OK q → EW X g (x_s X).heap.size n 5 (ent g Xo kd M) 0 0 23 [(0, .ref (g_N g + t)), (1, .int x1), (2, .int x2), (3, .int x3)] [] := by
  intro N9
  induction N9 with
  | zero =>
    intro x2 x3 q h
    rw [L_X12_toHide_23.eq_1] at h
    cases h
  | succ m9 ih =>
    intro x2 x3 q h hOK
    rw [L_X12_toHide_23.eq_2] at h
    refine e_iload_n C 3 (dk dX12_toHide 15 rfl) rfl rfl ?_
    refine e_aload_n C 0 (dk dX12_toHide 16 rfl) rfl rfl ?_
    refine gf_X12_places C K ht fl_X12_53 (dk dX12_toHide 17 rfl) ?_
    refine e_iload_n C 1 (dk dX12_toHide 18 rfl) rfl rfl ?_
    obtain ⟨v2, hv2, h⟩ := ob h
    refine m_ald C K (kd_X12_places K ht) (dk dX12_toHide 19 rfl) hv2 ?_
    refine e_icmp_ge C 90 (dk dX12_toHide 20 rfl) (by decide) (fun c3 => ?_) (fun c3 => ?_)
    · rw [if_pos c3] at h
      obtain rfl := Option.some.inj h
      refine e_lv [2] rfl ?_
      exact hx _ hOK
    · rw [if_neg c3] at h
      refine e_aload_n C 0 (dk dX12_toHide 21 rfl) rfl rfl ?_
      refine e_iload_n C 1 (dk dX12_toHide 22 rfl) rfl rfl ?_
      refine e_iload_n C 3 (dk dX12_toHide 23 rfl) rfl rfl ?_
      obtain ⟨q4, hq4, h⟩ := ob h
      refine e_callV (ci := 12) C cal_X12_lit im_X12_lit se_X12_lit ml_X12_438 rfl hR (by decide) (dk dX12_toHide 24 rfl) (K.1 _ (by rw [ht]; decide)) (ent_o12 ht) (c_X12_lit K ht hq4) ⟨Nat.zero_le _, Nat.zero_le _⟩ (Nat.le_of_ble_eq_true rfl) rfl ?_
      refine e_istore C [(4, .int q4), (0, .ref (g_N g + t)), (1, .int x1), (2, .int x2), (3, .int x3)] (dk dX12_toHide 25 rfl) (by decide) rfl ?_
      refine e_iload C 0 (dk dX12_toHide 26 rfl) rfl ?_
      obtain ⟨q5, hq5, h⟩ := ob h
      refine e_callS C cal_X12_bitsOf sm_X12_bitsOf ml_X12_366 hR (by decide) (dk dX12_toHide 27 rfl) (c_X12_bitsOf K hq5) ⟨Nat.zero_le _, Nat.zero_le _⟩ (Nat.le_of_ble_eq_true rfl) rfl ?_
      refine e_aload_n C 1 (dk dX12_toHide 28 rfl) rfl rfl ?_
      refine gf_X12_told C K ht fl_X12_38 (dk dX12_toHide 29 rfl) ?_
      refine e_iconst C 0 (dk dX12_toHide 30 rfl) (by decide) ?_
      refine m_aldc C K (kd_X12_told K ht) 0 (dk dX12_toHide 31 rfl) (by decide) (by decide) ?_
      refine e_icmp_ne C 57 (dk dX12_toHide 32 rfl) (by decide) (fun c6 => ?_) (fun c6 => ?_)
      · rw [if_neg c6] at h
        refine e_iload_n C 3 (dk dX12_toHide 35 rfl) rfl rfl ?_
        refine e_iload C 0 (dk dX12_toHide 36 rfl) rfl ?_
        refine e_aload_n C 1 (dk dX12_toHide 37 rfl) rfl rfl ?_
        refine gf_X12_walks C K ht fl_X12_80 (dk dX12_toHide 38 rfl) ?_
        refine e_bipush C 6 (dk dX12_toHide 39 rfl) (by decide) ?_
        refine e_iload_n C 2 (dk dX12_toHide 40 rfl) rfl rfl ?_
        refine e_imul C (dk dX12_toHide 41 rfl) ?_
        refine e_iload_n C 4 (dk dX12_toHide 42 rfl) rfl rfl ?_
        refine e_iadd C (dk dX12_toHide 43 rfl) ?_
        obtain ⟨v7, hv7, h⟩ := ob h
        refine m_ald C K (kd_X12_walks K ht) (dk dX12_toHide 44 rfl) hv7 ?_
        refine e_callS C cal_X12_isOf sm_X12_isOf ml_X12_287 hR (by decide) (dk dX12_toHide 45 rfl) (c_X12_isOf K (rfl : F_X12_isOf q4 v7 = _)) ⟨Nat.zero_le _, Nat.zero_le _⟩ (Nat.le_of_ble_eq_true rfl) rfl ?_
        suffices hm9 : EW X g (x_s X).heap.size n 5 (ent g Xo kd M) 0 0 82 [(4, .int q4), (0, .ref (g_N g + t)), (1, .int x1), (2, .int x2), (3, .int x3)] [.int (if (bi (F_X12_isOf q4 v7)) = 0 then (0 : Int32) else (1 : Int32)), .int x2] from (by
          refine e_if_eq C 81 (dk dX12_toHide 46 rfl) (by decide) (fun c8 => ?_) (fun c8 => ?_)
          · rw [show (if (bi (F_X12_isOf q4 v7)) = 0 then (0 : Int32) else (1 : Int32)) = (0 : Int32) from if_pos c8] at hm9
            refine e_iconst C 0 (dk dX12_toHide 49 rfl) (by decide) ?_
            exact hm9
          · rw [show (if (bi (F_X12_isOf q4 v7)) = 0 then (0 : Int32) else (1 : Int32)) = (1 : Int32) from if_neg c8] at hm9
            refine e_iconst C 1 (dk dX12_toHide 47 rfl) (by decide) ?_
            refine e_goto C 82 (dk dX12_toHide 48 rfl) (by decide) ?_
            exact hm9)
        refine e_iadd C (dk dX12_toHide 50 rfl) ?_
        refine e_istore_n C [(2, .int (x2 + (if (bi (F_X12_isOf q4 v7)) = 0 then (0 : Int32) else (1 : Int32)))), (4, .int q4), (0, .ref (g_N g + t)), (1, .int x1), (3, .int x3)] (dk dX12_toHide 51 rfl) rfl (by decide) rfl ?_
        refine e_iinc C [(3, .int (x3 + 1)), (2, .int (x2 + (if (bi (F_X12_isOf q4 v7)) = 0 then (0 : Int32) else (1 : Int32)))), (4, .int q4), (0, .ref (g_N g + t)), (1, .int x1)] 4 1 (dk dX12_toHide 52 rfl) rfl (by decide) (by decide) rfl ?_
        refine e_goto C 23 (dk dX12_toHide 53 rfl) (by decide) ?_
        refine e_lv [3, 4, 1, 0] rfl ?_
        exact ih _ _ _ h hOK
      · rw [if_pos c6] at h
        refine e_iconst C (-1) (dk dX12_toHide 33 rfl) (by decide) ?_
        obtain rfl := Option.some.inj h
        exact e_iret C (hB _ hOK) (nar1 _) (dk dX12_toHide 34 rfl)
set_option maxRecDepth 20000 in
theorem lb_X12_toHide_23 {X : FX} {g : WC} {Xo : Nat → va_E} {n : Nat} {kd : Nat → Nat} (C : Cx X g RX12 cX12_toHide 5) (K : KD n kd) {t : Nat} (ht : kd t = 13) {x1 : Int32} {M : Mem} (hR : x_R X = rm 2) {T9 : Type} {f9 : Sum (Int32 × Mem) (Int32) → Option T9} {b9 : T9} (hB : ∀ v, f9 (Sum.inl v) = some b9 → Bx X g (some .int) 2 n (some (.int v.1)) (ent g Xo kd v.2)) (hx : ∀ s, f9 (Sum.inr s) = some b9 → EW X g (x_s X).heap.size n 5 (ent g Xo kd M) 0 0 90 [(2, .int s)] []) {x2 : Int32} {x3 : Int32} (h : (L_X12_toHide_23 t x1 M FU x2 x3).bind f9 = some b9) : EW X g (x_s X).heap.size n 5 (ent g Xo kd M) 0 0 23 [(0, .ref (g_N g + t)), (1, .int x1), (2, .int x2), (3, .int x3)] [] := by
  obtain ⟨q, hq, h⟩ := ob h
  exact l_X12_toHide_23 C K ht hR (OK := fun q => f9 q = some b9) hB hx FU x2 x3 q hq h
set_option maxRecDepth 20000 in
theorem c_X12_toHide {g : WC} {Xo : Nat → va_E} {n : Nat} {kd : Nat → Nat} (K : KD n kd) {t : Nat} {p0 : Int32} (ht : kd t = 13) {M : Mem} {res : Int32 × Mem} (h : F_X12_toHide t p0 M = some res) : MC g yX12_toHide cX12_toHide 5 (some .int) 2 n [.ref (g_N g + t), .int p0] (ent g Xo kd M) (some (.int res.1)) (ent g Xo kd res.2) := by
  refine MC_of pn_X12 (Nat.le_of_ble_eq_true rfl) (fun X C B => ?_)
  have hR := B.1
  rw [F_X12_toHide] at h
  refine e_aload_n C 0 (dk dX12_toHide 0 rfl) rfl rfl ?_
  refine e_iconst C 0 (dk dX12_toHide 1 rfl) (by decide) ?_
  refine pf_X12_code C K ht fl_X12_156 (dk dX12_toHide 2 rfl) ?_
  refine e_aload_n C 0 (dk dX12_toHide 3 rfl) rfl rfl ?_
  refine e_iload_n C 1 (dk dX12_toHide 4 rfl) rfl rfl ?_
  refine e_callV (ci := 12) C cal_X12_isPerson im_X12_isPerson se_X12_isPerson ml_X12_399 rfl hR (by decide) (dk dX12_toHide 5 rfl) (K.1 _ (by rw [ht]; decide)) (ent_o12 ht) (c_X12_isPerson K ht (rfl : F_X12_isPerson t p0 (up M t 2 0) = _)) ⟨Nat.zero_le _, Nat.zero_le _⟩ (Nat.le_of_ble_eq_true rfl) rfl ?_
  refine e_if_ne C 19 (dk dX12_toHide 6 rfl) (by decide) (fun c1 => ?_) (fun c1 => ?_)
  · rw [if_neg c1] at h
    refine e_iconst C 0 (dk dX12_toHide 11 rfl) (by decide) ?_
    refine e_istore_n C [(2, .int 0), (0, .ref (g_N g + t)), (1, .int p0)] (dk dX12_toHide 12 rfl) rfl (by decide) rfl ?_
    refine e_iconst C 0 (dk dX12_toHide 13 rfl) (by decide) ?_
    refine e_istore_n C [(3, .int 0), (2, .int 0), (0, .ref (g_N g + t)), (1, .int p0)] (dk dX12_toHide 14 rfl) rfl (by decide) rfl ?_
    refine e_lv [2, 3, 1, 0] rfl ?_
    refine lb_X12_toHide_23 C K ht hR (fun v h => ?_) (fun s11 h => ?_) h
    · obtain rfl := Option.some.inj (show some v = some _ from h)
      exact B
    dsimp only [Sum.elim_inr] at h
    refine e_iload_n C 0 (dk dX12_toHide 54 rfl) rfl rfl ?_
    obtain rfl := Option.some.inj h
    exact e_iret C B (nar1 _) (dk dX12_toHide 55 rfl)
  · rw [if_pos c1] at h
    refine e_aload_n C 0 (dk dX12_toHide 7 rfl) rfl rfl ?_
    refine e_iconst C 1 (dk dX12_toHide 8 rfl) (by decide) ?_
    refine e_callV (ci := 12) C cal_X12_fail im_X12_fail se_X12_fail ml_X12_318 rfl hR (by decide) (dk dX12_toHide 9 rfl) (K.1 _ (by rw [ht]; decide)) (ent_o12 ht) (c_X12_fail K ht (rfl : F_X12_fail t 1 (up M t 2 0) = _)) ⟨Nat.zero_le _, Nat.zero_le _⟩ (Nat.le_of_ble_eq_true rfl) rfl ?_
    obtain rfl := Option.some.inj h
    exact e_iret C B (nar1 _) (dk dX12_toHide 10 rfl)
set_option maxRecDepth 20000 in
theorem j_X12_meet_j21 {X : FX} {g : WC} {Xo : Nat → va_E} {n : Nat} {kd : Nat → Nat} (C : Cx X g RX12 cX12_meet 5) (K : KD n kd) {t : Nat} (ht : kd t = 13) (hR : x_R X = rm 2) {M : Mem} {res : Int32 × Mem} (h : J_X12_meet_j21 t M = some res) (B : Bx X g (some .int) 2 n (some (.int res.1)) (ent g Xo kd res.2)) : EW X g (x_s X).heap.size n 5 (ent g Xo kd M) 0 0 21 [(0, .ref (g_N g + t))] [] := by
  rw [J_X12_meet_j21] at h
  refine e_aload_n C 0 (dk dX12_meet 11 rfl) rfl rfl ?_
  refine e_iconst C 1 (dk dX12_meet 12 rfl) (by decide) ?_
  refine e_callV (ci := 12) C cal_X12_fail im_X12_fail se_X12_fail ml_X12_318 rfl hR (by decide) (dk dX12_meet 13 rfl) (K.1 _ (by rw [ht]; decide)) (ent_o12 ht) (c_X12_fail K ht (rfl : F_X12_fail t 1 M = _)) ⟨Nat.zero_le _, Nat.zero_le _⟩ (Nat.le_of_ble_eq_true rfl) rfl ?_
  obtain rfl := Option.some.inj h
  exact e_iret C B (nar1 _) (dk dX12_meet 14 rfl)
set_option maxRecDepth 20000 in
theorem l_X12_meet_32 {X : FX} {g : WC} {Xo : Nat → va_E} {n : Nat} {kd : Nat → Nat} (C : Cx X g RX12 cX12_meet 5) (K : KD n kd) {t : Nat} (ht : kd t = 13) {x1 : Int32} {x2 : Int32} {M : Mem} (hR : x_R X = rm 2) {OK : Int32 → Prop} (hx : ∀ s, OK s → EW X g (x_s X).heap.size n 5 (ent g Xo kd M) 0 0 73 [(3, .int s)] []) : ∀ (N9 : Nat) (x3 : Int32) (x4 : Int32) (q : Int32), L_X12_meet_32 t x1 x2 M N9 x3 x4 = some q → OK q → EW X g (x_s X).heap.size n 5 (ent g Xo kd M) 0 0 32 [(0, .ref (g_N g + t)), (1, .int x1), (2, .int x2), (3, .int x3), (4, .int x4)] [] := by
  intro N9
  induction N9 with
  | zero =>
    intro x3 x4 q h
    rw [L_X12_meet_32.eq_1] at h
    cases h
  | succ m9 ih =>
    intro x3 x4 q h hOK
    rw [L_X12_meet_32.eq_2] at h
    refine e_iload C 4 (dk dX12_meet 19 rfl) rfl ?_
    refine e_bipush C 6 (dk dX12_meet 20 rfl) (by decide) ?_
    refine e_icmp_ge C 73 (dk dX12_meet 21 rfl) (by decide) (fun c3 => ?_) (fun c3 => ?_)
    · rw [if_pos c3] at h
      obtain rfl := Option.some.inj h
      refine e_lv [3] rfl ?_
      exact hx _ hOK
    · rw [if_neg c3] at h
      refine e_iload_n C 3 (dk dX12_meet 22 rfl) rfl rfl ?_
      refine e_aload_n C 0 (dk dX12_meet 23 rfl) rfl rfl ?_
      refine e_iload_n C 1 (dk dX12_meet 24 rfl) rfl rfl ?_
      refine e_iload C 4 (dk dX12_meet 25 rfl) rfl ?_
      obtain ⟨q4, hq4, h⟩ := ob h
      refine e_callV (ci := 12) C cal_X12_streetOf im_X12_streetOf se_X12_streetOf ml_X12_354 rfl hR (by decide) (dk dX12_meet 26 rfl) (K.1 _ (by rw [ht]; decide)) (ent_o12 ht) (c_X12_streetOf K ht hq4) ⟨Nat.zero_le _, Nat.zero_le _⟩ (Nat.le_of_ble_eq_true rfl) rfl ?_
      refine e_aload_n C 0 (dk dX12_meet 27 rfl) rfl rfl ?_
      refine e_iload_n C 2 (dk dX12_meet 28 rfl) rfl rfl ?_
      refine e_iload C 4 (dk dX12_meet 29 rfl) rfl ?_
      obtain ⟨q5, hq5, h⟩ := ob h
      refine e_callV (ci := 12) C cal_X12_streetOf im_X12_streetOf se_X12_streetOf ml_X12_354 rfl hR (by decide) (dk dX12_meet 30 rfl) (K.1 _ (by rw [ht]; decide)) (ent_o12 ht) (c_X12_streetOf K ht hq5) ⟨Nat.zero_le _, Nat.zero_le _⟩ (Nat.le_of_ble_eq_true rfl) rfl ?_
      suffices hm7 : EW X g (x_s X).heap.size n 5 (ent g Xo kd M) 0 0 65 [(0, .ref (g_N g + t)), (1, .int x1), (2, .int x2), (3, .int x3), (4, .int x4)] [.int (if q4 = q5 then ((1 : Int32) <<< (x4 &&& 31)) else (0 : Int32)), .int x3] from (by
        refine e_icmp_ne C 64 (dk dX12_meet 31 rfl) (by decide) (fun c6 => ?_) (fun c6 => ?_)
        · rw [show (if q4 = q5 then ((1 : Int32) <<< (x4 &&& 31)) else (0 : Int32)) = (0 : Int32) from if_neg c6] at hm7
          refine e_iconst C 0 (dk dX12_meet 36 rfl) (by decide) ?_
          exact hm7
        · rw [show (if q4 = q5 then ((1 : Int32) <<< (x4 &&& 31)) else (0 : Int32)) = ((1 : Int32) <<< (x4 &&& 31)) from if_pos c6] at hm7
          refine e_iconst C 1 (dk dX12_meet 32 rfl) (by decide) ?_
          refine e_iload C 4 (dk dX12_meet 33 rfl) rfl ?_
          refine e_ishl C (dk dX12_meet 34 rfl) ?_
          refine e_goto C 65 (dk dX12_meet 35 rfl) (by decide) ?_
          exact hm7)
      refine e_ior C (dk dX12_meet 37 rfl) ?_
      refine e_istore_n C [(3, .int (x3 ||| (if q4 = q5 then ((1 : Int32) <<< (x4 &&& 31)) else (0 : Int32)))), (0, .ref (g_N g + t)), (1, .int x1), (2, .int x2), (4, .int x4)] (dk dX12_meet 38 rfl) rfl (by decide) rfl ?_
      refine e_iinc C [(4, .int (x4 + 1)), (3, .int (x3 ||| (if q4 = q5 then ((1 : Int32) <<< (x4 &&& 31)) else (0 : Int32)))), (0, .ref (g_N g + t)), (1, .int x1), (2, .int x2)] 4 1 (dk dX12_meet 39 rfl) rfl (by decide) (by decide) rfl ?_
      refine e_goto C 32 (dk dX12_meet 40 rfl) (by decide) ?_
      refine e_lv [2, 3, 4, 1, 0] rfl ?_
      exact ih _ _ _ h hOK
set_option maxRecDepth 20000 in
theorem lb_X12_meet_32 {X : FX} {g : WC} {Xo : Nat → va_E} {n : Nat} {kd : Nat → Nat} (C : Cx X g RX12 cX12_meet 5) (K : KD n kd) {t : Nat} (ht : kd t = 13) {x1 : Int32} {x2 : Int32} {M : Mem} (hR : x_R X = rm 2) {T9 : Type} {f9 : Int32 → Option T9} {b9 : T9} (hx : ∀ s, f9 s = some b9 → EW X g (x_s X).heap.size n 5 (ent g Xo kd M) 0 0 73 [(3, .int s)] []) {x3 : Int32} {x4 : Int32} (h : (L_X12_meet_32 t x1 x2 M FU x3 x4).bind f9 = some b9) : EW X g (x_s X).heap.size n 5 (ent g Xo kd M) 0 0 32 [(0, .ref (g_N g + t)), (1, .int x1), (2, .int x2), (3, .int x3), (4, .int x4)] [] := by
  obtain ⟨q, hq, h⟩ := ob h
  exact l_X12_meet_32 C K ht hR (OK := fun q => f9 q = some b9) hx FU x3 x4 q hq h
set_option maxRecDepth 20000 in
theorem c_X12_meet {g : WC} {Xo : Nat → va_E} {n : Nat} {kd : Nat → Nat} (K : KD n kd) {t : Nat} {p0 : Int32} {p1 : Int32} (ht : kd t = 13) {M : Mem} {res : Int32 × Mem} (h : F_X12_meet t p0 p1 M = some res) : MC g yX12_meet cX12_meet 5 (some .int) 2 n [.ref (g_N g + t), .int p0, .int p1] (ent g Xo kd M) (some (.int res.1)) (ent g Xo kd res.2) := by
  refine MC_of pn_X12 (Nat.le_of_ble_eq_true rfl) (fun X C B => ?_)
  have hR := B.1
  rw [F_X12_meet] at h
  refine e_aload_n C 0 (dk dX12_meet 0 rfl) rfl rfl ?_
  refine e_iconst C 0 (dk dX12_meet 1 rfl) (by decide) ?_
  refine pf_X12_code C K ht fl_X12_156 (dk dX12_meet 2 rfl) ?_
  refine e_aload_n C 0 (dk dX12_meet 3 rfl) rfl rfl ?_
  refine e_iload_n C 1 (dk dX12_meet 4 rfl) rfl rfl ?_
  refine e_callV (ci := 12) C cal_X12_isPerson im_X12_isPerson se_X12_isPerson ml_X12_399 rfl hR (by decide) (dk dX12_meet 5 rfl) (K.1 _ (by rw [ht]; decide)) (ent_o12 ht) (c_X12_isPerson K ht (rfl : F_X12_isPerson t p0 (up M t 2 0) = _)) ⟨Nat.zero_le _, Nat.zero_le _⟩ (Nat.le_of_ble_eq_true rfl) rfl ?_
  refine e_if_eq C 21 (dk dX12_meet 6 rfl) (by decide) (fun c1 => ?_) (fun c1 => ?_)
  · rw [if_pos c1] at h
    refine e_lv [0] rfl ?_
    exact j_X12_meet_j21 C K ht hR h B
  · rw [if_neg c1] at h
    refine e_aload_n C 0 (dk dX12_meet 7 rfl) rfl rfl ?_
    refine e_iload_n C 2 (dk dX12_meet 8 rfl) rfl rfl ?_
    refine e_callV (ci := 12) C cal_X12_isPerson im_X12_isPerson se_X12_isPerson ml_X12_399 rfl hR (by decide) (dk dX12_meet 9 rfl) (K.1 _ (by rw [ht]; decide)) (ent_o12 ht) (c_X12_isPerson K ht (rfl : F_X12_isPerson t p1 (up M t 2 0) = _)) ⟨Nat.zero_le _, Nat.zero_le _⟩ (Nat.le_of_ble_eq_true rfl) rfl ?_
    refine e_if_ne C 27 (dk dX12_meet 10 rfl) (by decide) (fun c2 => ?_) (fun c2 => ?_)
    · rw [if_neg c2] at h
      refine e_iconst C 0 (dk dX12_meet 15 rfl) (by decide) ?_
      refine e_istore_n C [(3, .int 0), (0, .ref (g_N g + t)), (1, .int p0), (2, .int p1)] (dk dX12_meet 16 rfl) rfl (by decide) rfl ?_
      refine e_iconst C 0 (dk dX12_meet 17 rfl) (by decide) ?_
      refine e_istore C [(4, .int 0), (3, .int 0), (0, .ref (g_N g + t)), (1, .int p0), (2, .int p1)] (dk dX12_meet 18 rfl) (by decide) rfl ?_
      refine e_lv [2, 3, 4, 1, 0] rfl ?_
      refine lb_X12_meet_32 C K ht hR (fun s9 h => ?_) h
      refine e_iload_n C 0 (dk dX12_meet 41 rfl) rfl rfl ?_
      obtain rfl := Option.some.inj h
      exact e_iret C B (nar1 _) (dk dX12_meet 42 rfl)
    · rw [if_pos c2] at h
      refine e_lv [0] rfl ?_
      exact j_X12_meet_j21 C K ht hR h B
set_option maxRecDepth 20000 in
theorem j_X12_toWin_j21 {X : FX} {g : WC} {Xo : Nat → va_E} {n : Nat} {kd : Nat → Nat} (C : Cx X g RX12 cX12_toWin 5) (K : KD n kd) {t : Nat} (ht : kd t = 13) (hR : x_R X = rm 5) {M : Mem} {res : Int32 × Mem} (h : J_X12_toWin_j21 t M = some res) (B : Bx X g (some .int) 5 n (some (.int res.1)) (ent g Xo kd res.2)) : EW X g (x_s X).heap.size n 5 (ent g Xo kd M) 0 0 21 [(0, .ref (g_N g + t))] [] := by
  rw [J_X12_toWin_j21] at h
  refine e_aload_n C 0 (dk dX12_toWin 11 rfl) rfl rfl ?_
  refine e_iconst C 1 (dk dX12_toWin 12 rfl) (by decide) ?_
  refine e_callV (ci := 12) C cal_X12_fail im_X12_fail se_X12_fail ml_X12_318 rfl hR (by decide) (dk dX12_toWin 13 rfl) (K.1 _ (by rw [ht]; decide)) (ent_o12 ht) (c_X12_fail K ht (rfl : F_X12_fail t 1 M = _)) ⟨Nat.zero_le _, Nat.zero_le _⟩ (Nat.le_of_ble_eq_true rfl) rfl ?_
  obtain rfl := Option.some.inj h
  exact e_iret C B (nar1 _) (dk dX12_toWin 14 rfl)
set_option maxRecDepth 20000 in
theorem j_X12_toWin_j90 {X : FX} {g : WC} {Xo : Nat → va_E} {n : Nat} {kd : Nat → Nat} (C : Cx X g RX12 cX12_toWin 5) (K : KD n kd) {t : Nat} (ht : kd t = 13) {x1 : Int32} {x2 : Int32} (hR : x_R X = rm 5) {OK : Int32 × Mem → Prop} (hx : ∀ s, OK s → EW X g (x_s X).heap.size n 5 (ent g Xo kd s.2) 0 0 105 [(3, .int s.1)] []) {rec : Int32 → Int32 → Mem → Option (Int32 × Mem)} (hrec : ∀ (x3 : Int32) (x4 : Int32) (M : Mem) (q : Int32 × Mem), rec x3 x4 M = some q → OK q → EW X g (x_s X).heap.size n 5 (ent g Xo kd M) 0 0 41 [(0, .ref (g_N g + t)), (1, .int x1), (2, .int x2), (3, .int x3), (4, .int x4)] []) {x3 : Int32} {x4 : Int32} {M : Mem} (q : Int32 × Mem) (h : J_X12_toWin_j90 t rec x1 x2 x3 x4 M = some q) (hOK : OK q) : EW X g (x_s X).heap.size n 5 (ent g Xo kd M) 0 0 90 [(0, .ref (g_N g + t)), (1, .int x1), (2, .int x2), (3, .int x3), (4, .int x4)] [] := by
  rw [J_X12_toWin_j90] at h
  refine e_aload_n C 0 (dk dX12_toWin 50 rfl) rfl rfl ?_
  refine e_aload_n C 0 (dk dX12_toWin 51 rfl) rfl rfl ?_
  refine gf_X12_rowThen C K ht fl_X12_104 (dk dX12_toWin 52 rfl) ?_
  refine e_iconst C 0 (dk dX12_toWin 53 rfl) (by decide) ?_
  obtain ⟨q12, hq12, h⟩ := ob h
  refine e_callV (ci := 12) C cal_X12_unpack im_X12_unpack se_X12_unpack ml_X12_425 rfl hR (by decide) (dk dX12_toWin 54 rfl) (K.1 _ (by rw [ht]; decide)) (ent_o12 ht) (c_X12_unpack K ht (kd_X12_rowThen K ht) hq12) ⟨Nat.zero_le _, Nat.zero_le _⟩ (Nat.le_of_ble_eq_true rfl) rfl ?_
  refine e_iinc C [(4, .int (x4 + 1)), (0, .ref (g_N g + t)), (1, .int x1), (2, .int x2), (3, .int x3)] 4 1 (dk dX12_toWin 55 rfl) rfl (by decide) (by decide) rfl ?_
  refine e_goto C 41 (dk dX12_toWin 56 rfl) (by decide) ?_
  refine e_lv [1, 2, 3, 4, 0] rfl ?_
  exact hrec _ _ _ _ h hOK
set_option maxRecDepth 20000 in
theorem l_X12_toWin_41 {X : FX} {g : WC} {Xo : Nat → va_E} {n : Nat} {kd : Nat → Nat} (C : Cx X g RX12 cX12_toWin 5) (K : KD n kd) {t : Nat} (ht : kd t = 13) {x1 : Int32} {x2 : Int32} (hR : x_R X = rm 5) {OK : Int32 × Mem → Prop} (hx : ∀ s, OK s → EW X g (x_s X).heap.size n 5 (ent g Xo kd s.2) 0 0 105 [(3, .int s.1)] []) : ∀ (N9 : Nat) (x3 : Int32) (x4 : Int32) (M : Mem) (q : Int32 × Mem), L_X12_toWin_41 t x1 x2 N9 x3 x4 M = some q → OK q → EW X g (x_s X).heap.size n 5 (ent g Xo kd M) 0 0 41 [(0, .ref (g_N g + t)), (1, .int x1), (2, .int x2), (3, .int x3), (4, .int x4)] [] := by
  intro N9
  induction N9 with
  | zero =>
    intro x3 x4 M q h
    rw [L_X12_toWin_41.eq_1] at h
    cases h
  | succ m9 ih =>
    intro x3 x4 M q h hOK
    rw [L_X12_toWin_41.eq_2] at h
    refine e_iload C 4 (dk dX12_toWin 24 rfl) rfl ?_
    refine e_sipush C 999 (dk dX12_toWin 25 rfl) (by decide) ?_
    refine e_icmp_gt C 105 (dk dX12_toWin 26 rfl) (by decide) (fun c4 => ?_) (fun c4 => ?_)
    · rw [if_pos c4] at h
      obtain rfl := Option.some.inj h
      refine e_lv [3] rfl ?_
      exact hx _ hOK
    · rw [if_neg c4] at h
      refine e_iload_n C 3 (dk dX12_toWin 27 rfl) rfl rfl ?_
      refine e_iconst C (-1) (dk dX12_toWin 28 rfl) (by decide) ?_
      refine e_icmp_ne C 105 (dk dX12_toWin 29 rfl) (by decide) (fun c5 => ?_) (fun c5 => ?_)
      · rw [if_neg c5] at h
        obtain rfl := Option.some.inj h
        refine e_lv [3] rfl ?_
        exact hx _ hOK
      · rw [if_pos c5] at h
        refine e_aload_n C 0 (dk dX12_toWin 30 rfl) rfl rfl ?_
        obtain ⟨q6, hq6, h⟩ := ob h
        refine e_callV (ci := 12) C cal_X12_lotsNow im_X12_lotsNow se_X12_lotsNow ml_X12_441 rfl hR (by decide) (dk dX12_toWin 31 rfl) (K.1 _ (by rw [ht]; decide)) (ent_o12 ht) (c_X12_lotsNow K ht hq6) ⟨Nat.zero_le _, Nat.zero_le _⟩ (Nat.le_of_ble_eq_true rfl) rfl ?_
        refine e_iload_n C 2 (dk dX12_toWin 32 rfl) rfl rfl ?_
        refine e_callS C cal_X12_isOf sm_X12_isOf ml_X12_287 hR (by decide) (dk dX12_toWin 33 rfl) (c_X12_isOf K (rfl : F_X12_isOf q6 x2 = _)) ⟨Nat.zero_le _, Nat.zero_le _⟩ (Nat.le_of_ble_eq_true rfl) rfl ?_
        refine e_if_eq C 105 (dk dX12_toWin 34 rfl) (by decide) (fun c7 => ?_) (fun c7 => ?_)
        · rw [if_pos c7] at h
          obtain rfl := Option.some.inj h
          refine e_lv [3] rfl ?_
          exact hx _ hOK
        · rw [if_neg c7] at h
          refine e_aload_n C 0 (dk dX12_toWin 35 rfl) rfl rfl ?_
          refine gf_X12_purse C K ht fl_X12_75 (dk dX12_toWin 36 rfl) ?_
          refine e_iload_n C 1 (dk dX12_toWin 37 rfl) rfl rfl ?_
          refine e_iload C 4 (dk dX12_toWin 38 rfl) rfl ?_
          obtain ⟨M8, hM8, h⟩ := ob h
          refine m_ast C K (kd_X12_purse K ht) (dk dX12_toWin 39 rfl) hM8 ?_
          refine e_aload_n C 0 (dk dX12_toWin 40 rfl) rfl rfl ?_
          obtain ⟨q9, hq9, h⟩ := ob h
          refine e_callV (ci := 12) C cal_X12_aNight im_X12_aNight se_X12_aNight ml_X12_390 rfl hR (by decide) (dk dX12_toWin 41 rfl) (K.1 _ (by rw [ht]; decide)) (ent_o12 ht) (c_X12_aNight K ht hq9) ⟨Nat.zero_le _, Nat.zero_le _⟩ (Nat.le_of_ble_eq_true rfl) rfl ?_
          refine e_aload_n C 0 (dk dX12_toWin 42 rfl) rfl rfl ?_
          refine gf_X12_buyers C K ht fl_X12_98 (dk dX12_toWin 43 rfl) ?_
          refine e_iload_n C 2 (dk dX12_toWin 44 rfl) rfl rfl ?_
          obtain ⟨v10, hv10, h⟩ := ob h
          refine m_ald C K (kd_X12_buyers K ht) (dk dX12_toWin 45 rfl) hv10 ?_
          refine e_iload_n C 1 (dk dX12_toWin 46 rfl) rfl rfl ?_
          refine e_icmp_ne C 90 (dk dX12_toWin 47 rfl) (by decide) (fun c11 => ?_) (fun c11 => ?_)
          · rw [if_neg c11] at h
            exact j_X12_toWin_j90 C K ht hR hx ih _ h hOK
          · rw [if_pos c11] at h
            refine e_iload C 4 (dk dX12_toWin 48 rfl) rfl ?_
            refine e_istore_n C [(3, .int x4), (0, .ref (g_N g + t)), (1, .int x1), (2, .int x2), (4, .int x4)] (dk dX12_toWin 49 rfl) rfl (by decide) rfl ?_
            refine e_lv [1, 2, 3, 0, 4] rfl ?_
            exact j_X12_toWin_j90 C K ht hR hx ih _ h hOK
set_option maxRecDepth 20000 in
theorem lb_X12_toWin_41 {X : FX} {g : WC} {Xo : Nat → va_E} {n : Nat} {kd : Nat → Nat} (C : Cx X g RX12 cX12_toWin 5) (K : KD n kd) {t : Nat} (ht : kd t = 13) {x1 : Int32} {x2 : Int32} (hR : x_R X = rm 5) {T9 : Type} {f9 : Int32 × Mem → Option T9} {b9 : T9} (hx : ∀ s, f9 s = some b9 → EW X g (x_s X).heap.size n 5 (ent g Xo kd s.2) 0 0 105 [(3, .int s.1)] []) {x3 : Int32} {x4 : Int32} {M : Mem} (h : (L_X12_toWin_41 t x1 x2 FU x3 x4 M).bind f9 = some b9) : EW X g (x_s X).heap.size n 5 (ent g Xo kd M) 0 0 41 [(0, .ref (g_N g + t)), (1, .int x1), (2, .int x2), (3, .int x3), (4, .int x4)] [] := by
  obtain ⟨q, hq, h⟩ := ob h
  exact l_X12_toWin_41 C K ht hR (OK := fun q => f9 q = some b9) hx FU x3 x4 M q hq h
set_option maxRecDepth 20000 in
theorem c_X12_toWin {g : WC} {Xo : Nat → va_E} {n : Nat} {kd : Nat → Nat} (K : KD n kd) {t : Nat} {p0 : Int32} {p1 : Int32} (ht : kd t = 13) {M : Mem} {res : Int32 × Mem} (h : F_X12_toWin t p0 p1 M = some res) : MC g yX12_toWin cX12_toWin 5 (some .int) 5 n [.ref (g_N g + t), .int p0, .int p1] (ent g Xo kd M) (some (.int res.1)) (ent g Xo kd res.2) := by
  refine MC_of pn_X12 (Nat.le_of_ble_eq_true rfl) (fun X C B => ?_)
  have hR := B.1
  rw [F_X12_toWin] at h
  refine e_aload_n C 0 (dk dX12_toWin 0 rfl) rfl rfl ?_
  refine e_iconst C 0 (dk dX12_toWin 1 rfl) (by decide) ?_
  refine pf_X12_code C K ht fl_X12_156 (dk dX12_toWin 2 rfl) ?_
  refine e_aload_n C 0 (dk dX12_toWin 3 rfl) rfl rfl ?_
  refine e_iload_n C 1 (dk dX12_toWin 4 rfl) rfl rfl ?_
  refine e_callV (ci := 12) C cal_X12_isPerson im_X12_isPerson se_X12_isPerson ml_X12_399 rfl hR (by decide) (dk dX12_toWin 5 rfl) (K.1 _ (by rw [ht]; decide)) (ent_o12 ht) (c_X12_isPerson K ht (rfl : F_X12_isPerson t p0 (up M t 2 0) = _)) ⟨Nat.zero_le _, Nat.zero_le _⟩ (Nat.le_of_ble_eq_true rfl) rfl ?_
  refine e_if_eq C 21 (dk dX12_toWin 6 rfl) (by decide) (fun c1 => ?_) (fun c1 => ?_)
  · rw [if_pos c1] at h
    refine e_lv [0] rfl ?_
    exact j_X12_toWin_j21 C K ht hR h B
  · rw [if_neg c1] at h
    refine e_aload_n C 0 (dk dX12_toWin 7 rfl) rfl rfl ?_
    refine e_iload_n C 2 (dk dX12_toWin 8 rfl) rfl rfl ?_
    refine e_callV (ci := 12) C cal_X12_isPerson im_X12_isPerson se_X12_isPerson ml_X12_399 rfl hR (by decide) (dk dX12_toWin 9 rfl) (K.1 _ (by rw [ht]; decide)) (ent_o12 ht) (c_X12_isPerson K ht (rfl : F_X12_isPerson t p1 (up M t 2 0) = _)) ⟨Nat.zero_le _, Nat.zero_le _⟩ (Nat.le_of_ble_eq_true rfl) rfl ?_
    refine e_if_ne C 27 (dk dX12_toWin 10 rfl) (by decide) (fun c2 => ?_) (fun c2 => ?_)
    · rw [if_neg c2] at h
      refine e_aload_n C 0 (dk dX12_toWin 15 rfl) rfl rfl ?_
      refine e_aload_n C 0 (dk dX12_toWin 16 rfl) rfl rfl ?_
      refine gf_X12_rowThen C K ht fl_X12_104 (dk dX12_toWin 17 rfl) ?_
      refine e_iconst C 0 (dk dX12_toWin 18 rfl) (by decide) ?_
      obtain ⟨q3, hq3, h⟩ := ob h
      refine e_callV (ci := 12) C cal_X12_pack im_X12_pack se_X12_pack ml_X12_402 rfl hR (by decide) (dk dX12_toWin 19 rfl) (K.1 _ (by rw [ht]; decide)) (ent_o12 ht) (c_X12_pack K ht (kd_X12_rowThen K ht) hq3) ⟨Nat.zero_le _, Nat.zero_le _⟩ (Nat.le_of_ble_eq_true rfl) rfl ?_
      refine e_iconst C (-1) (dk dX12_toWin 20 rfl) (by decide) ?_
      refine e_istore_n C [(3, .int (-1)), (0, .ref (g_N g + t)), (1, .int p0), (2, .int p1)] (dk dX12_toWin 21 rfl) rfl (by decide) rfl ?_
      refine e_iconst C 0 (dk dX12_toWin 22 rfl) (by decide) ?_
      refine e_istore C [(4, .int 0), (3, .int (-1)), (0, .ref (g_N g + t)), (1, .int p0), (2, .int p1)] (dk dX12_toWin 23 rfl) (by decide) rfl ?_
      refine e_lv [2, 3, 4, 1, 0] rfl ?_
      refine lb_X12_toWin_41 C K ht hR (fun s14 h => ?_) h
      refine e_iload_n C 0 (dk dX12_toWin 57 rfl) rfl rfl ?_
      obtain rfl := Option.some.inj h
      exact e_iret C B (nar1 _) (dk dX12_toWin 58 rfl)
    · rw [if_pos c2] at h
      refine e_lv [0] rfl ?_
      exact j_X12_toWin_j21 C K ht hR h B
set_option maxRecDepth 20000 in
theorem c_X12_with {g : WC} {Xo : Nat → va_E} {n : Nat} {kd : Nat → Nat} (K : KD n kd) {t : Nat} {p0 : Int32} {p1 : Int32} {p2 : Int32} (ht : kd t = 13) {M : Mem} {res : Int32 × Mem} (h : F_X12_with t p0 p1 p2 M = some res) : MC g yX12_with cX12_with 4 (some .int) 3 n [.ref (g_N g + t), .int p0, .int p1, .int p2] (ent g Xo kd M) (some (.int res.1)) (ent g Xo kd res.2) := by
  refine MC_of pn_X12 (Nat.le_of_ble_eq_true rfl) (fun X C B => ?_)
  have hR := B.1
  rw [F_X12_with] at h
  refine e_iload_n C 3 (dk dX12_with 0 rfl) rfl rfl ?_
  refine e_iconst C (-1) (dk dX12_with 1 rfl) (by decide) ?_
  refine e_icmp_ne C 21 (dk dX12_with 2 rfl) (by decide) (fun c1 => ?_) (fun c1 => ?_)
  · rw [if_neg c1] at h
    refine e_aload_n C 0 (dk dX12_with 14 rfl) rfl rfl ?_
    refine e_iload_n C 3 (dk dX12_with 15 rfl) rfl rfl ?_
    refine e_iload_n C 1 (dk dX12_with 16 rfl) rfl rfl ?_
    obtain ⟨q2, hq2, h⟩ := ob h
    refine e_callV (ci := 12) C cal_X12_bidOf im_X12_bidOf se_X12_bidOf ml_X12_378 rfl hR (by decide) (dk dX12_with 17 rfl) (K.1 _ (by rw [ht]; decide)) (ent_o12 ht) (c_X12_bidOf K ht hq2) ⟨Nat.zero_le _, Nat.zero_le _⟩ (Nat.le_of_ble_eq_true rfl) rfl ?_
    refine e_aload_n C 0 (dk dX12_with 18 rfl) rfl rfl ?_
    refine gf_X12_mostBy C K ht fl_X12_110 (dk dX12_with 19 rfl) ?_
    refine e_iload_n C 1 (dk dX12_with 20 rfl) rfl rfl ?_
    refine e_iconst C 1 (dk dX12_with 21 rfl) (by decide) ?_
    refine e_iadd C (dk dX12_with 22 rfl) ?_
    refine e_bipush C 7 (dk dX12_with 23 rfl) (by decide) ?_
    refine e_ishl C (dk dX12_with 24 rfl) ?_
    refine e_iload_n C 2 (dk dX12_with 25 rfl) rfl rfl ?_
    refine e_iconst C 1 (dk dX12_with 26 rfl) (by decide) ?_
    refine e_iload_n C 3 (dk dX12_with 27 rfl) rfl rfl ?_
    refine e_ishl C (dk dX12_with 28 rfl) ?_
    refine e_ior C (dk dX12_with 29 rfl) ?_
    refine e_iadd C (dk dX12_with 30 rfl) ?_
    obtain ⟨v3, hv3, h⟩ := ob h
    refine m_ald C K (kd_X12_mostBy K ht) (dk dX12_with 31 rfl) hv3 ?_
    refine e_iadd C (dk dX12_with 32 rfl) ?_
    obtain rfl := Option.some.inj h
    exact e_iret C B (nar1 _) (dk dX12_with 33 rfl)
  · rw [if_pos c1] at h
    refine e_aload_n C 0 (dk dX12_with 3 rfl) rfl rfl ?_
    refine gf_X12_mostBy C K ht fl_X12_110 (dk dX12_with 4 rfl) ?_
    refine e_iload_n C 1 (dk dX12_with 5 rfl) rfl rfl ?_
    refine e_iconst C 1 (dk dX12_with 6 rfl) (by decide) ?_
    refine e_iadd C (dk dX12_with 7 rfl) ?_
    refine e_bipush C 7 (dk dX12_with 8 rfl) (by decide) ?_
    refine e_ishl C (dk dX12_with 9 rfl) ?_
    refine e_iload_n C 2 (dk dX12_with 10 rfl) rfl rfl ?_
    refine e_iadd C (dk dX12_with 11 rfl) ?_
    obtain ⟨v4, hv4, h⟩ := ob h
    refine m_ald C K (kd_X12_mostBy K ht) (dk dX12_with 12 rfl) hv4 ?_
    refine e_goto C 45 (dk dX12_with 13 rfl) (by decide) ?_
    obtain rfl := Option.some.inj h
    exact e_iret C B (nar1 _) (dk dX12_with 33 rfl)
set_option maxRecDepth 20000 in
theorem c_X12_mayHave {g : WC} {Xo : Nat → va_E} {n : Nat} {kd : Nat → Nat} (K : KD n kd) {t : Nat} {p0 : Int32} {p1 : Int32} {p2 : Int32} (ht : kd t = 13) {M : Mem} {res : Bool × Mem} (h : F_X12_mayHave t p0 p1 p2 M = some res) : MC g yX12_mayHave cX12_mayHave 4 (some .boolean) 3 n [.ref (g_N g + t), .int p0, .int p1, .int p2] (ent g Xo kd M) (some (.int (bi res.1))) (ent g Xo kd res.2) := by
  refine MC_of pn_X12 (Nat.le_of_ble_eq_true rfl) (fun X C B => ?_)
  have hR := B.1
  rw [F_X12_mayHave] at h
  refine e_aload_n C 0 (dk dX12_mayHave 0 rfl) rfl rfl ?_
  refine gf_X12_lots C K ht fl_X12_364 (dk dX12_mayHave 1 rfl) ?_
  refine e_iload_n C 2 (dk dX12_mayHave 2 rfl) rfl rfl ?_
  refine e_callS C cal_X12_isOf sm_X12_isOf ml_X12_287 hR (by decide) (dk dX12_mayHave 3 rfl) (c_X12_isOf K (rfl : F_X12_isOf (M t 39) p1 = _)) ⟨Nat.zero_le _, Nat.zero_le _⟩ (Nat.le_of_ble_eq_true rfl) rfl ?_
  refine e_if_eq C 32 (dk dX12_mayHave 4 rfl) (by decide) (fun c1 => ?_) (fun c1 => ?_)
  · rw [if_pos c1] at h
    refine e_iconst C 0 (dk dX12_mayHave 16 rfl) (by decide) ?_
    obtain rfl := Option.some.inj h
    exact e_iret (v := bi false) C B (nar_bi _) (dk dX12_mayHave 17 rfl)
  · rw [if_neg c1] at h
    refine e_iload_n C 3 (dk dX12_mayHave 5 rfl) rfl rfl ?_
    refine e_iload_n C 1 (dk dX12_mayHave 6 rfl) rfl rfl ?_
    refine e_callS C cal_X12_isOf sm_X12_isOf ml_X12_287 hR (by decide) (dk dX12_mayHave 7 rfl) (c_X12_isOf K (rfl : F_X12_isOf p2 p0 = _)) ⟨Nat.zero_le _, Nat.zero_le _⟩ (Nat.le_of_ble_eq_true rfl) rfl ?_
    refine e_if_ne C 32 (dk dX12_mayHave 8 rfl) (by decide) (fun c2 => ?_) (fun c2 => ?_)
    · rw [if_neg c2] at h
      refine e_iconst C 0 (dk dX12_mayHave 16 rfl) (by decide) ?_
      obtain rfl := Option.some.inj h
      exact e_iret (v := bi false) C B (nar_bi _) (dk dX12_mayHave 17 rfl)
    · rw [if_pos c2] at h
      refine e_aload_n C 0 (dk dX12_mayHave 9 rfl) rfl rfl ?_
      refine e_iload_n C 1 (dk dX12_mayHave 10 rfl) rfl rfl ?_
      refine e_iload_n C 2 (dk dX12_mayHave 11 rfl) rfl rfl ?_
      obtain ⟨q3, hq3, h⟩ := ob h
      refine e_callV (ci := 12) C cal_X12_bidOf im_X12_bidOf se_X12_bidOf ml_X12_378 rfl hR (by decide) (dk dX12_mayHave 12 rfl) (K.1 _ (by rw [ht]; decide)) (ent_o12 ht) (c_X12_bidOf K ht hq3) ⟨Nat.zero_le _, Nat.zero_le _⟩ (Nat.le_of_ble_eq_true rfl) rfl ?_
      refine e_if_le C 32 (dk dX12_mayHave 13 rfl) (by decide) (fun c4 => ?_) (fun c4 => ?_)
      · rw [if_pos c4] at h
        refine e_iconst C 0 (dk dX12_mayHave 16 rfl) (by decide) ?_
        obtain rfl := Option.some.inj h
        exact e_iret (v := bi false) C B (nar_bi _) (dk dX12_mayHave 17 rfl)
      · rw [if_neg c4] at h
        refine e_iconst C 1 (dk dX12_mayHave 14 rfl) (by decide) ?_
        refine e_goto C 33 (dk dX12_mayHave 15 rfl) (by decide) ?_
        obtain rfl := Option.some.inj h
        exact e_iret (v := bi true) C B (nar_bi _) (dk dX12_mayHave 17 rfl)
set_option maxRecDepth 20000 in
theorem l_X12_tellMost_11 {X : FX} {g : WC} {Xo : Nat → va_E} {n : Nat} {kd : Nat → Nat} (C : Cx X g RX12 cX12_tellMost 6) (K : KD n kd) {t : Nat} (ht : kd t = 13) {x1 : Int32} (hR : x_R X = rm 4) {OK : Mem → Prop} (hx : ∀ s, OK s → EW X g (x_s X).heap.size n 6 (ent g Xo kd s) 0 0 39 [(0, .ref (g_N g + t)), (1, .int x1)] []) : ∀ (N9 : Nat) (x2 : Int32) (M : Mem) (q : Mem), L_X12_tellMost_11 t x1 N9 x2 M = some q → OK q → EW X g (x_s X).heap.size n 6 (ent g Xo kd M) 0 0 11 [(0, .ref (g_N g + t)), (1, .int x1), (2, .int x2)] [] := by
  intro N9
  induction N9 with
  | zero =>
    intro x2 M q h
    rw [L_X12_tellMost_11.eq_1] at h
    cases h
  | succ m9 ih =>
    intro x2 M q h hOK
    rw [L_X12_tellMost_11.eq_2] at h
    refine e_iload_n C 2 (dk dX12_tellMost_0 9 rfl) rfl rfl ?_
    refine e_iload_n C 1 (dk dX12_tellMost_0 10 rfl) rfl rfl ?_
    refine e_icmp_ge C 39 (dk dX12_tellMost_0 11 rfl) (by decide) (fun c1 => ?_) (fun c1 => ?_)
    · rw [if_pos c1] at h
      obtain rfl := Option.some.inj h
      refine e_lv [0, 1] rfl ?_
      exact hx _ hOK
    · rw [if_neg c1] at h
      refine e_aload_n C 0 (dk dX12_tellMost_0 12 rfl) rfl rfl ?_
      refine gf_X12_mostBy C K ht fl_X12_110 (dk dX12_tellMost_0 13 rfl) ?_
      refine e_aload_n C 0 (dk dX12_tellMost_0 14 rfl) rfl rfl ?_
      refine gf_X12_told C K ht fl_X12_38 (dk dX12_tellMost_0 15 rfl) ?_
      refine e_iconst C 3 (dk dX12_tellMost_0 16 rfl) (by decide) ?_
      refine m_aldc C K (kd_X12_told K ht) 3 (dk dX12_tellMost_0 17 rfl) (by decide) (by decide) ?_
      refine e_bipush C 7 (dk dX12_tellMost_0 18 rfl) (by decide) ?_
      refine e_ishl C (dk dX12_tellMost_0 19 rfl) ?_
      refine e_iload_n C 2 (dk dX12_tellMost_0 20 rfl) rfl rfl ?_
      refine e_iadd C (dk dX12_tellMost_0 21 rfl) ?_
      refine e_iconst C 0 (dk dX12_tellMost_0 22 rfl) (by decide) ?_
      obtain ⟨M2, hM2, h⟩ := ob h
      refine m_ast C K (kd_X12_mostBy K ht) (dk dX12_tellMost_0 23 rfl) hM2 ?_
      refine e_iinc C [(2, .int (x2 + 1)), (0, .ref (g_N g + t)), (1, .int x1)] 2 1 (dk dX12_tellMost_0 24 rfl) rfl (by decide) (by decide) rfl ?_
      refine e_goto C 11 (dk dX12_tellMost_0 25 rfl) (by decide) ?_
      refine e_lv [1, 2, 0] rfl ?_
      exact ih _ _ _ h hOK
set_option maxRecDepth 20000 in
theorem lb_X12_tellMost_11 {X : FX} {g : WC} {Xo : Nat → va_E} {n : Nat} {kd : Nat → Nat} (C : Cx X g RX12 cX12_tellMost 6) (K : KD n kd) {t : Nat} (ht : kd t = 13) {x1 : Int32} (hR : x_R X = rm 4) {T9 : Type} {f9 : Mem → Option T9} {b9 : T9} (hx : ∀ s, f9 s = some b9 → EW X g (x_s X).heap.size n 6 (ent g Xo kd s) 0 0 39 [(0, .ref (g_N g + t)), (1, .int x1)] []) {x2 : Int32} {M : Mem} (h : (L_X12_tellMost_11 t x1 FU x2 M).bind f9 = some b9) : EW X g (x_s X).heap.size n 6 (ent g Xo kd M) 0 0 11 [(0, .ref (g_N g + t)), (1, .int x1), (2, .int x2)] [] := by
  obtain ⟨q, hq, h⟩ := ob h
  exact l_X12_tellMost_11 C K ht hR (OK := fun q => f9 q = some b9) hx FU x2 M q hq h
set_option maxRecDepth 20000 in
theorem l_X12_tellMost_71 {X : FX} {g : WC} {Xo : Nat → va_E} {n : Nat} {kd : Nat → Nat} (C : Cx X g RX12 cX12_tellMost 6) (K : KD n kd) {t : Nat} (ht : kd t = 13) {x1 : Int32} {x2 : Int32} {x3 : Int32} (hR : x_R X = rm 4) {OK : Int32 × Mem → Prop} (hx : ∀ s, OK s → EW X g (x_s X).heap.size n 6 (ent g Xo kd s.2) 0 0 114 [(0, .ref (g_N g + t)), (1, .int x1), (2, .int x2), (3, .int x3), (4, .int s.1)] []) : ∀ (N9 : Nat) (x4 : Int32) (x5 : Int32) (M : Mem) (q : Int32 × Mem), L_X12_tellMost_71 t x1 x2 x3 N9 x4 x5 M = some q → OK q → EW X g (x_s X).heap.size n 6 (ent g Xo kd M) 0 0 71 [(0, .ref (g_N g + t)), (1, .int x1), (2, .int x2), (3, .int x3), (4, .int x4), (5, .int x5)] [] := by
  intro N9
  induction N9 with
  | zero =>
    intro x4 x5 M q h
    rw [L_X12_tellMost_71.eq_1] at h
    cases h
  | succ m9 ih =>
    intro x4 x5 M q h hOK
    rw [L_X12_tellMost_71.eq_2] at h
    refine e_iload C 5 (dk dX12_tellMost_0 48 rfl) rfl ?_
    refine e_aload_n C 0 (dk dX12_tellMost_0 49 rfl) rfl rfl ?_
    refine gf_X12_told C K ht fl_X12_38 (dk dX12_tellMost_0 50 rfl) ?_
    refine e_iconst C 3 (dk dX12_tellMost_0 51 rfl) (by decide) ?_
    refine m_aldc C K (kd_X12_told K ht) 3 (dk dX12_tellMost_0 52 rfl) (by decide) (by decide) ?_
    refine e_icmp_ge C 114 (dk dX12_tellMost_0 53 rfl) (by decide) (fun c8 => ?_) (fun c8 => ?_)
    · rw [if_pos c8] at h
      obtain rfl := Option.some.inj h
      refine e_lv [0, 1, 2, 3, 4] rfl ?_
      exact hx _ hOK
    · rw [if_neg c8] at h
      refine e_aload_n C 0 (dk dX12_tellMost_0 54 rfl) rfl rfl ?_
      refine e_iload C 5 (dk dX12_tellMost_0 55 rfl) rfl ?_
      refine e_iload_n C 2 (dk dX12_tellMost_0 56 rfl) rfl rfl ?_
      refine e_iload_n C 3 (dk dX12_tellMost_0 57 rfl) rfl rfl ?_
      obtain ⟨q9, hq9, h⟩ := ob h
      refine e_callV (ci := 12) C cal_X12_mayHave im_X12_mayHave se_X12_mayHave ml_X12_447 rfl hR (by decide) (dk dX12_tellMost_0 58 rfl) (K.1 _ (by rw [ht]; decide)) (ent_o12 ht) (c_X12_mayHave K ht hq9) ⟨Nat.zero_le _, Nat.zero_le _⟩ (Nat.le_of_ble_eq_true rfl) rfl ?_
      refine e_if_eq C 108 (dk dX12_tellMost_0 59 rfl) (by decide) (fun c10 => ?_) (fun c10 => ?_)
      · rw [if_pos c10] at h
        refine e_iinc C [(5, .int (x5 + 1)), (0, .ref (g_N g + t)), (1, .int x1), (2, .int x2), (3, .int x3), (4, .int x4)] 5 1 (dk dX12_tellMost_1 8 rfl) rfl (by decide) (by decide) rfl ?_
        refine e_goto C 71 (dk dX12_tellMost_1 9 rfl) (by decide) ?_
        refine e_lv [1, 2, 3, 4, 5, 0] rfl ?_
        exact ih _ _ _ _ h hOK
      · rw [if_neg c10] at h
        refine e_iload C 4 (dk dX12_tellMost_1 0 rfl) rfl ?_
        refine e_aload_n C 0 (dk dX12_tellMost_1 1 rfl) rfl rfl ?_
        refine e_iload_n C 2 (dk dX12_tellMost_1 2 rfl) rfl rfl ?_
        refine e_iload_n C 3 (dk dX12_tellMost_1 3 rfl) rfl rfl ?_
        refine e_iload C 5 (dk dX12_tellMost_1 4 rfl) rfl ?_
        obtain ⟨q11, hq11, h⟩ := ob h
        refine e_callV (ci := 12) C cal_X12_with im_X12_with se_X12_with ml_X12_444 rfl hR (by decide) (dk dX12_tellMost_1 5 rfl) (K.1 _ (by rw [ht]; decide)) (ent_o12 ht) (c_X12_with K ht hq11) ⟨Nat.zero_le _, Nat.zero_le _⟩ (Nat.le_of_ble_eq_true rfl) rfl ?_
        refine e_mmax C hR ml_X12_375 (dk dX12_tellMost_1 6 rfl) (Nat.le_of_ble_eq_true rfl) ?_
        refine e_istore C [(4, .int (imax x4 q11.1)), (0, .ref (g_N g + t)), (1, .int x1), (2, .int x2), (3, .int x3), (5, .int x5)] (dk dX12_tellMost_1 7 rfl) (by decide) rfl ?_
        refine e_iinc C [(5, .int (x5 + 1)), (4, .int (imax x4 q11.1)), (0, .ref (g_N g + t)), (1, .int x1), (2, .int x2), (3, .int x3)] 5 1 (dk dX12_tellMost_1 8 rfl) rfl (by decide) (by decide) rfl ?_
        refine e_goto C 71 (dk dX12_tellMost_1 9 rfl) (by decide) ?_
        refine e_lv [2, 3, 4, 5, 1, 0] rfl ?_
        exact ih _ _ _ _ h hOK
set_option maxRecDepth 20000 in
theorem lb_X12_tellMost_71 {X : FX} {g : WC} {Xo : Nat → va_E} {n : Nat} {kd : Nat → Nat} (C : Cx X g RX12 cX12_tellMost 6) (K : KD n kd) {t : Nat} (ht : kd t = 13) {x1 : Int32} {x2 : Int32} {x3 : Int32} (hR : x_R X = rm 4) {T9 : Type} {f9 : Int32 × Mem → Option T9} {b9 : T9} (hx : ∀ s, f9 s = some b9 → EW X g (x_s X).heap.size n 6 (ent g Xo kd s.2) 0 0 114 [(0, .ref (g_N g + t)), (1, .int x1), (2, .int x2), (3, .int x3), (4, .int s.1)] []) {x4 : Int32} {x5 : Int32} {M : Mem} (h : (L_X12_tellMost_71 t x1 x2 x3 FU x4 x5 M).bind f9 = some b9) : EW X g (x_s X).heap.size n 6 (ent g Xo kd M) 0 0 71 [(0, .ref (g_N g + t)), (1, .int x1), (2, .int x2), (3, .int x3), (4, .int x4), (5, .int x5)] [] := by
  obtain ⟨q, hq, h⟩ := ob h
  exact l_X12_tellMost_71 C K ht hR (OK := fun q => f9 q = some b9) hx FU x4 x5 M q hq h
set_option maxRecDepth 20000 in
theorem l_X12_tellMost_54 {X : FX} {g : WC} {Xo : Nat → va_E} {n : Nat} {kd : Nat → Nat} (C : Cx X g RX12 cX12_tellMost 6) (K : KD n kd) {t : Nat} (ht : kd t = 13) {x1 : Int32} {x2 : Int32} (hR : x_R X = rm 4) {OK : Mem → Prop} (hx : ∀ s, OK s → EW X g (x_s X).heap.size n 6 (ent g Xo kd s) 0 0 133 [(0, .ref (g_N g + t)), (1, .int x1), (2, .int x2)] []) : ∀ (N9 : Nat) (x3 : Int32) (M : Mem) (q : Mem), L_X12_tellMost_54 t x1 x2 N9 x3 M = some q → OK q → EW X g (x_s X).heap.size n 6 (ent g Xo kd M) 0 0 54 [(0, .ref (g_N g + t)), (1, .int x1), (2, .int x2), (3, .int x3)] [] := by
  intro N9
  induction N9 with
  | zero =>
    intro x3 M q h
    rw [L_X12_tellMost_54.eq_1] at h
    cases h
  | succ m9 ih =>
    intro x3 M q h hOK
    rw [L_X12_tellMost_54.eq_2] at h
    refine e_iload_n C 3 (dk dX12_tellMost_0 37 rfl) rfl rfl ?_
    refine e_iload_n C 1 (dk dX12_tellMost_0 38 rfl) rfl rfl ?_
    refine e_icmp_ge C 133 (dk dX12_tellMost_0 39 rfl) (by decide) (fun c6 => ?_) (fun c6 => ?_)
    · rw [if_pos c6] at h
      obtain rfl := Option.some.inj h
      refine e_lv [0, 1, 2] rfl ?_
      exact hx _ hOK
    · rw [if_neg c6] at h
      refine e_aload_n C 0 (dk dX12_tellMost_0 40 rfl) rfl rfl ?_
      refine e_iload_n C 2 (dk dX12_tellMost_0 41 rfl) rfl rfl ?_
      refine e_iload_n C 3 (dk dX12_tellMost_0 42 rfl) rfl rfl ?_
      refine e_iconst C (-1) (dk dX12_tellMost_0 43 rfl) (by decide) ?_
      obtain ⟨q7, hq7, h⟩ := ob h
      refine e_callV (ci := 12) C cal_X12_with im_X12_with se_X12_with ml_X12_444 rfl hR (by decide) (dk dX12_tellMost_0 44 rfl) (K.1 _ (by rw [ht]; decide)) (ent_o12 ht) (c_X12_with K ht hq7) ⟨Nat.zero_le _, Nat.zero_le _⟩ (Nat.le_of_ble_eq_true rfl) rfl ?_
      refine e_istore C [(4, .int q7.1), (0, .ref (g_N g + t)), (1, .int x1), (2, .int x2), (3, .int x3)] (dk dX12_tellMost_0 45 rfl) (by decide) rfl ?_
      refine e_iconst C 0 (dk dX12_tellMost_0 46 rfl) (by decide) ?_
      refine e_istore C [(5, .int 0), (4, .int q7.1), (0, .ref (g_N g + t)), (1, .int x1), (2, .int x2), (3, .int x3)] (dk dX12_tellMost_0 47 rfl) (by decide) rfl ?_
      refine e_lv [2, 3, 4, 5, 1, 0] rfl ?_
      refine lb_X12_tellMost_71 C K ht hR (fun s13 h => ?_) h
      refine e_aload_n C 0 (dk dX12_tellMost_1 10 rfl) rfl rfl ?_
      refine gf_X12_mostBy C K ht fl_X12_110 (dk dX12_tellMost_1 11 rfl) ?_
      refine e_iload_n C 2 (dk dX12_tellMost_1 12 rfl) rfl rfl ?_
      refine e_bipush C 7 (dk dX12_tellMost_1 13 rfl) (by decide) ?_
      refine e_ishl C (dk dX12_tellMost_1 14 rfl) ?_
      refine e_iload_n C 3 (dk dX12_tellMost_1 15 rfl) rfl rfl ?_
      refine e_iadd C (dk dX12_tellMost_1 16 rfl) ?_
      refine e_iload C 4 (dk dX12_tellMost_1 17 rfl) rfl ?_
      obtain ⟨M14, hM14, h⟩ := ob h
      refine m_ast C K (kd_X12_mostBy K ht) (dk dX12_tellMost_1 18 rfl) hM14 ?_
      refine e_iinc C [(3, .int (x3 + 1)), (0, .ref (g_N g + t)), (1, .int x1), (2, .int x2), (4, .int s13.1)] 3 1 (dk dX12_tellMost_1 19 rfl) rfl (by decide) (by decide) rfl ?_
      refine e_goto C 54 (dk dX12_tellMost_1 20 rfl) (by decide) ?_
      refine e_lv [1, 2, 3, 0] rfl ?_
      exact ih _ _ _ h hOK
set_option maxRecDepth 20000 in
theorem lb_X12_tellMost_54 {X : FX} {g : WC} {Xo : Nat → va_E} {n : Nat} {kd : Nat → Nat} (C : Cx X g RX12 cX12_tellMost 6) (K : KD n kd) {t : Nat} (ht : kd t = 13) {x1 : Int32} {x2 : Int32} (hR : x_R X = rm 4) {T9 : Type} {f9 : Mem → Option T9} {b9 : T9} (hx : ∀ s, f9 s = some b9 → EW X g (x_s X).heap.size n 6 (ent g Xo kd s) 0 0 133 [(0, .ref (g_N g + t)), (1, .int x1), (2, .int x2)] []) {x3 : Int32} {M : Mem} (h : (L_X12_tellMost_54 t x1 x2 FU x3 M).bind f9 = some b9) : EW X g (x_s X).heap.size n 6 (ent g Xo kd M) 0 0 54 [(0, .ref (g_N g + t)), (1, .int x1), (2, .int x2), (3, .int x3)] [] := by
  obtain ⟨q, hq, h⟩ := ob h
  exact l_X12_tellMost_54 C K ht hR (OK := fun q => f9 q = some b9) hx FU x3 M q hq h
set_option maxRecDepth 20000 in
theorem l_X12_tellMost_48 {X : FX} {g : WC} {Xo : Nat → va_E} {n : Nat} {kd : Nat → Nat} (C : Cx X g RX12 cX12_tellMost 6) (K : KD n kd) {t : Nat} (ht : kd t = 13) {x1 : Int32} (hR : x_R X = rm 4) {OK : Mem → Prop} (hx : ∀ s, OK s → EW X g (x_s X).heap.size n 6 (ent g Xo kd s) 0 0 139 [] []) : ∀ (N9 : Nat) (x2 : Int32) (M : Mem) (q : Mem), L_X12_tellMost_48 t x1 N9 x2 M = some q → OK q → EW X g (x_s X).heap.size n 6 (ent g Xo kd M) 0 0 48 [(0, .ref (g_N g + t)), (1, .int x1), (2, .int x2)] [] := by
  intro N9
  induction N9 with
  | zero =>
    intro x2 M q h
    rw [L_X12_tellMost_48.eq_1] at h
    cases h
  | succ m9 ih =>
    intro x2 M q h hOK
    rw [L_X12_tellMost_48.eq_2] at h
    refine e_iload_n C 2 (dk dX12_tellMost_0 33 rfl) rfl rfl ?_
    refine e_if_lt C 139 (dk dX12_tellMost_0 34 rfl) (by decide) (fun c5 => ?_) (fun c5 => ?_)
    · rw [if_pos c5] at h
      obtain rfl := Option.some.inj h
      refine e_lv [] rfl ?_
      exact hx _ hOK
    · rw [if_neg c5] at h
      refine e_iconst C 0 (dk dX12_tellMost_0 35 rfl) (by decide) ?_
      refine e_istore_n C [(3, .int 0), (0, .ref (g_N g + t)), (1, .int x1), (2, .int x2)] (dk dX12_tellMost_0 36 rfl) rfl (by decide) rfl ?_
      refine e_lv [1, 2, 3, 0] rfl ?_
      refine lb_X12_tellMost_54 C K ht hR (fun s16 h => ?_) h
      refine e_iinc C [(2, .int (x2 + (-1))), (0, .ref (g_N g + t)), (1, .int x1)] 2 (-1) (dk dX12_tellMost_1 21 rfl) rfl (by decide) (by decide) rfl ?_
      refine e_goto C 48 (dk dX12_tellMost_1 22 rfl) (by decide) ?_
      refine e_lv [1, 2, 0] rfl ?_
      exact ih _ _ _ h hOK
set_option maxRecDepth 20000 in
theorem lb_X12_tellMost_48 {X : FX} {g : WC} {Xo : Nat → va_E} {n : Nat} {kd : Nat → Nat} (C : Cx X g RX12 cX12_tellMost 6) (K : KD n kd) {t : Nat} (ht : kd t = 13) {x1 : Int32} (hR : x_R X = rm 4) {T9 : Type} {f9 : Mem → Option T9} {b9 : T9} (hx : ∀ s, f9 s = some b9 → EW X g (x_s X).heap.size n 6 (ent g Xo kd s) 0 0 139 [] []) {x2 : Int32} {M : Mem} (h : (L_X12_tellMost_48 t x1 FU x2 M).bind f9 = some b9) : EW X g (x_s X).heap.size n 6 (ent g Xo kd M) 0 0 48 [(0, .ref (g_N g + t)), (1, .int x1), (2, .int x2)] [] := by
  obtain ⟨q, hq, h⟩ := ob h
  exact l_X12_tellMost_48 C K ht hR (OK := fun q => f9 q = some b9) hx FU x2 M q hq h
set_option maxRecDepth 20000 in
theorem c_X12_tellMost {g : WC} {Xo : Nat → va_E} {n : Nat} {kd : Nat → Nat} (K : KD n kd) {t : Nat} (ht : kd t = 13) {M : Mem} {res : Mem} (h : F_X12_tellMost t M = some res) : MC g yX12_tellMost cX12_tellMost 6 none 4 n [.ref (g_N g + t)] (ent g Xo kd M) none (ent g Xo kd res) := by
  refine MC_of pn_X12 (Nat.le_of_ble_eq_true rfl) (fun X C B => ?_)
  have hR := B.1
  rw [F_X12_tellMost] at h
  refine e_iconst C 1 (dk dX12_tellMost_0 0 rfl) (by decide) ?_
  refine e_aload_n C 0 (dk dX12_tellMost_0 1 rfl) rfl rfl ?_
  refine gf_X12_told C K ht fl_X12_38 (dk dX12_tellMost_0 2 rfl) ?_
  refine e_iconst C 3 (dk dX12_tellMost_0 3 rfl) (by decide) ?_
  refine m_aldc C K (kd_X12_told K ht) 3 (dk dX12_tellMost_0 4 rfl) (by decide) (by decide) ?_
  refine e_ishl C (dk dX12_tellMost_0 5 rfl) ?_
  refine e_istore_n C [(1, .int ((1 : Int32) <<< ((M (t + 3) 3) &&& 31))), (0, .ref (g_N g + t))] (dk dX12_tellMost_0 6 rfl) rfl (by decide) rfl ?_
  refine e_iconst C 0 (dk dX12_tellMost_0 7 rfl) (by decide) ?_
  refine e_istore_n C [(2, .int 0), (1, .int ((1 : Int32) <<< ((M (t + 3) 3) &&& 31))), (0, .ref (g_N g + t))] (dk dX12_tellMost_0 8 rfl) rfl (by decide) rfl ?_
  refine e_lv [2, 1, 0] rfl ?_
  refine lb_X12_tellMost_11 C K ht hR (fun s4 h => ?_) h
  refine e_aload_n C 0 (dk dX12_tellMost_0 26 rfl) rfl rfl ?_
  refine gf_X12_told C K ht fl_X12_38 (dk dX12_tellMost_0 27 rfl) ?_
  refine e_iconst C 3 (dk dX12_tellMost_0 28 rfl) (by decide) ?_
  refine m_aldc C K (kd_X12_told K ht) 3 (dk dX12_tellMost_0 29 rfl) (by decide) (by decide) ?_
  refine e_iconst C 1 (dk dX12_tellMost_0 30 rfl) (by decide) ?_
  refine e_isub C (dk dX12_tellMost_0 31 rfl) ?_
  refine e_istore_n C [(2, .int ((s4 (t + 3) 3) - 1)), (0, .ref (g_N g + t)), (1, .int ((1 : Int32) <<< ((M (t + 3) 3) &&& 31)))] (dk dX12_tellMost_0 32 rfl) rfl (by decide) rfl ?_
  refine e_lv [1, 2, 0] rfl ?_
  refine lb_X12_tellMost_48 C K ht hR (fun s18 h => ?_) h
  obtain rfl := Option.some.inj h
  exact e_vret C B (dk dX12_tellMost_1 23 rfl)
