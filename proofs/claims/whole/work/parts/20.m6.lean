set_option maxRecDepth 20000 in
theorem j_X12_readLine_j165 {X : FX} {g : WC} {Xo : Nat → va_E} {n : Nat} {kd : Nat → Nat} (C : Cx X g RX12 cX12_readLine 4) (K : KD n kd) {t : Nat} (ht : kd t = 13) (hR : x_R X = rm 72) {x1 : Int32} {x3 : Int32} {M : Mem} {res : Int32 × Mem} (h : J_X12_readLine_j165 t x1 x3 M = some res) (B : Bx X g (some .int) 72 n (some (.int res.1)) (ent g Xo kd res.2)) : EW X g (x_s X).heap.size n 4 (ent g Xo kd M) 0 0 165 [(0, .ref (g_N g + t)), (1, .int x1), (3, .int x3)] [] := by
  rw [J_X12_readLine_j165] at h
  refine e_aload_n C 0 (dk dX12_readLine_1 19 rfl) rfl rfl ?_
  refine e_bipush C 59 (dk dX12_readLine_1 20 rfl) (by decide) ?_
  obtain ⟨q18, hq18, h⟩ := ob h
  refine e_callV (ci := 12) C cal_X12_mark im_X12_mark se_X12_mark ml_X12_253 rfl hR (by decide) (dk dX12_readLine_1 21 rfl) (K.1 _ (by rw [ht]; decide)) (ent_o12 ht) (c_X12_mark K ht hq18) ⟨Nat.zero_le _, Nat.zero_le _⟩ (Nat.le_of_ble_eq_true rfl) rfl ?_
  refine e_iload_n C 1 (dk dX12_readLine_1 22 rfl) rfl rfl ?_
  refine e_iload_n C 2 (dk dX12_readLine_1 23 rfl) rfl rfl ?_
  refine e_ior C (dk dX12_readLine_1 24 rfl) ?_
  obtain rfl := Option.some.inj h
  exact e_iret C B (nar1 _) (dk dX12_readLine_1 25 rfl)
set_option maxRecDepth 20000 in
theorem j_X12_readLine_j130 {X : FX} {g : WC} {Xo : Nat → va_E} {n : Nat} {kd : Nat → Nat} (C : Cx X g RX12 cX12_readLine 4) (K : KD n kd) {t : Nat} (ht : kd t = 13) (hR : x_R X = rm 72) {x1 : Int32} {x2 : Int32} {x3 : Int32} {M : Mem} {res : Int32 × Mem} (h : J_X12_readLine_j130 t x1 x2 x3 M = some res) (B : Bx X g (some .int) 72 n (some (.int res.1)) (ent g Xo kd res.2)) : EW X g (x_s X).heap.size n 4 (ent g Xo kd M) 0 0 130 [(0, .ref (g_N g + t)), (1, .int x1), (2, .int x2), (3, .int x3)] [] := by
  rw [J_X12_readLine_j130] at h
  refine e_iload_n C 2 (dk dX12_readLine_1 2 rfl) rfl rfl ?_
  refine e_iconst C (-1) (dk dX12_readLine_1 3 rfl) (by decide) ?_
  refine e_icmp_eq C 143 (dk dX12_readLine_1 4 rfl) (by decide) (fun c15 => ?_) (fun c15 => ?_)
  · rw [if_pos c15] at h
    refine e_aload_n C 0 (dk dX12_readLine_1 9 rfl) rfl rfl ?_
    refine e_ldcSW C sr_X12_313 (dk dX12_readLine_1 10 rfl) ?_
    obtain ⟨q16, hq16, h⟩ := ob h
    refine e_callV (ci := 12) C cal_X12_is im_X12_is se_X12_is ml_X12_219 rfl hR (by decide) (dk dX12_readLine_1 11 rfl) (K.1 _ (by rw [ht]; decide)) (ent_o12 ht) (c_X12_is K ht (by decide) hq16) ⟨Nat.zero_le _, Nat.zero_le _⟩ (Nat.le_of_ble_eq_true rfl) rfl ?_
    refine e_if_eq C 160 (dk dX12_readLine_1 12 rfl) (by decide) (fun c17 => ?_) (fun c17 => ?_)
    · rw [if_pos c17] at h
      refine e_aload_n C 0 (dk dX12_readLine_1 16 rfl) rfl rfl ?_
      refine e_iconst C 1 (dk dX12_readLine_1 17 rfl) (by decide) ?_
      refine e_callV (ci := 12) C cal_X12_wrong im_X12_wrong se_X12_wrong ml_X12_226 rfl hR (by decide) (dk dX12_readLine_1 18 rfl) (K.1 _ (by rw [ht]; decide)) (ent_o12 ht) (c_X12_wrong K ht (rfl : F_X12_wrong t 1 M = _)) ⟨Nat.zero_le _, Nat.zero_le _⟩ (Nat.le_of_ble_eq_true rfl) rfl ?_
      refine e_lv [0, 1, 3] rfl ?_
      exact j_X12_readLine_j165 C K ht hR h B
    · rw [if_neg c17] at h
      refine e_aload_n C 0 (dk dX12_readLine_1 13 rfl) rfl rfl ?_
      obtain ⟨q19, hq19, h⟩ := ob h
      refine e_callV (ci := 12) C cal_X12_sayPath im_X12_sayPath se_X12_sayPath ml_X12_315 rfl hR (by decide) (dk dX12_readLine_1 14 rfl) (K.1 _ (by rw [ht]; decide)) (ent_o12 ht) (c_X12_sayPath K ht hq19) ⟨Nat.zero_le _, Nat.zero_le _⟩ (Nat.le_of_ble_eq_true rfl) rfl ?_
      refine e_goto C 165 (dk dX12_readLine_1 15 rfl) (by decide) ?_
      refine e_lv [0, 1, 3] rfl ?_
      exact j_X12_readLine_j165 C K ht hR h B
  · rw [if_neg c15] at h
    refine e_aload_n C 0 (dk dX12_readLine_1 5 rfl) rfl rfl ?_
    refine e_iload_n C 2 (dk dX12_readLine_1 6 rfl) rfl rfl ?_
    obtain ⟨q20, hq20, h⟩ := ob h
    refine e_callV (ci := 12) C cal_X12_sayPerson im_X12_sayPerson se_X12_sayPerson ml_X12_310 rfl hR (by decide) (dk dX12_readLine_1 7 rfl) (K.1 _ (by rw [ht]; decide)) (ent_o12 ht) (c_X12_sayPerson K ht hq20) ⟨Nat.zero_le _, Nat.zero_le _⟩ (Nat.le_of_ble_eq_true rfl) rfl ?_
    refine e_goto C 165 (dk dX12_readLine_1 8 rfl) (by decide) ?_
    refine e_lv [0, 1, 3] rfl ?_
    exact j_X12_readLine_j165 C K ht hR h B
set_option maxRecDepth 20000 in
theorem j_X12_readLine_j111 {X : FX} {g : WC} {Xo : Nat → va_E} {n : Nat} {kd : Nat → Nat} (C : Cx X g RX12 cX12_readLine 4) (K : KD n kd) {t : Nat} (ht : kd t = 13) (hR : x_R X = rm 72) {x1 : Int32} {x2 : Int32} {x3 : Int32} {M : Mem} {res : Int32 × Mem} (h : J_X12_readLine_j111 t x1 x2 x3 M = some res) (B : Bx X g (some .int) 72 n (some (.int res.1)) (ent g Xo kd res.2)) : EW X g (x_s X).heap.size n 4 (ent g Xo kd M) 0 0 111 [(0, .ref (g_N g + t)), (1, .int x1), (2, .int x2), (3, .int x3)] [] := by
  rw [J_X12_readLine_j111] at h
  refine e_iload_n C 3 (dk dX12_readLine_0 53 rfl) rfl rfl ?_
  refine e_if_le C 130 (dk dX12_readLine_0 54 rfl) (by decide) (fun c14 => ?_) (fun c14 => ?_)
  · rw [if_pos c14] at h
    exact j_X12_readLine_j130 C K ht hR h B
  · rw [if_neg c14] at h
    refine e_aload_n C 0 (dk dX12_readLine_0 55 rfl) rfl rfl ?_
    refine gf_X12_bad C K ht fl_X12_205 (dk dX12_readLine_0 56 rfl) ?_
    refine e_if_ne C 130 (dk dX12_readLine_0 57 rfl) (by decide) (fun c21 => ?_) (fun c21 => ?_)
    · rw [if_neg c21] at h
      exact j_X12_readLine_j130 C K ht hR h B
    · rw [if_pos c21] at h
      refine e_aload_n C 0 (dk dX12_readLine_0 58 rfl) rfl rfl ?_
      refine e_iload_n C 3 (dk dX12_readLine_0 59 rfl) rfl rfl ?_
      obtain ⟨q22, hq22, h⟩ := ob h
      refine e_callV (ci := 12) C cal_X12_sayOnce im_X12_sayOnce se_X12_sayOnce ml_X12_307 rfl hR (by decide) (dk dX12_readLine_1 0 rfl) (K.1 _ (by rw [ht]; decide)) (ent_o12 ht) (c_X12_sayOnce K ht hq22) ⟨Nat.zero_le _, Nat.zero_le _⟩ (Nat.le_of_ble_eq_true rfl) rfl ?_
      refine e_goto C 165 (dk dX12_readLine_1 1 rfl) (by decide) ?_
      refine e_lv [0, 1, 3] rfl ?_
      exact j_X12_readLine_j165 C K ht hR h B
set_option maxRecDepth 20000 in
theorem j_X12_readLine_j100 {X : FX} {g : WC} {Xo : Nat → va_E} {n : Nat} {kd : Nat → Nat} (C : Cx X g RX12 cX12_readLine 4) (K : KD n kd) {t : Nat} (ht : kd t = 13) (hR : x_R X = rm 72) {x1 : Int32} {x2 : Int32} {x3 : Int32} {M : Mem} {res : Int32 × Mem} (h : J_X12_readLine_j100 t x1 x2 x3 M = some res) (B : Bx X g (some .int) 72 n (some (.int res.1)) (ent g Xo kd res.2)) : EW X g (x_s X).heap.size n 4 (ent g Xo kd M) 0 0 100 [(0, .ref (g_N g + t)), (1, .int x1), (2, .int x2), (3, .int x3)] [] := by
  rw [J_X12_readLine_j100] at h
  refine e_iload_n C 3 (dk dX12_readLine_0 46 rfl) rfl rfl ?_
  refine e_iload_n C 1 (dk dX12_readLine_0 47 rfl) rfl rfl ?_
  refine e_iand C (dk dX12_readLine_0 48 rfl) ?_
  refine e_if_eq C 111 (dk dX12_readLine_0 49 rfl) (by decide) (fun c13 => ?_) (fun c13 => ?_)
  · rw [if_pos c13] at h
    exact j_X12_readLine_j111 C K ht hR h B
  · rw [if_neg c13] at h
    refine e_aload_n C 0 (dk dX12_readLine_0 50 rfl) rfl rfl ?_
    refine e_iconst C 5 (dk dX12_readLine_0 51 rfl) (by decide) ?_
    refine e_callV (ci := 12) C cal_X12_wrong im_X12_wrong se_X12_wrong ml_X12_226 rfl hR (by decide) (dk dX12_readLine_0 52 rfl) (K.1 _ (by rw [ht]; decide)) (ent_o12 ht) (c_X12_wrong K ht (rfl : F_X12_wrong t 5 M = _)) ⟨Nat.zero_le _, Nat.zero_le _⟩ (Nat.le_of_ble_eq_true rfl) rfl ?_
    exact j_X12_readLine_j111 C K ht hR h B
set_option maxRecDepth 20000 in
theorem j_X12_readLine_j82 {X : FX} {g : WC} {Xo : Nat → va_E} {n : Nat} {kd : Nat → Nat} (C : Cx X g RX12 cX12_readLine 4) (K : KD n kd) {t : Nat} (ht : kd t = 13) (hR : x_R X = rm 72) {x1 : Int32} {x2 : Int32} {y0 : Int32} {M : Mem} {res : Int32 × Mem} (h : J_X12_readLine_j82 t x1 x2 y0 M = some res) (B : Bx X g (some .int) 72 n (some (.int res.1)) (ent g Xo kd res.2)) : EW X g (x_s X).heap.size n 4 (ent g Xo kd M) 0 0 82 [(0, .ref (g_N g + t)), (1, .int x1), (2, .int x2)] [.int y0] := by
  rw [J_X12_readLine_j82] at h
  refine e_istore_n C [(3, .int y0), (0, .ref (g_N g + t)), (1, .int x1), (2, .int x2)] (dk dX12_readLine_0 36 rfl) rfl (by decide) rfl ?_
  refine e_iload_n C 0 (dk dX12_readLine_0 37 rfl) rfl rfl ?_
  refine e_iconst C 1 (dk dX12_readLine_0 38 rfl) (by decide) ?_
  refine e_icmp_ne C 100 (dk dX12_readLine_0 39 rfl) (by decide) (fun c12 => ?_) (fun c12 => ?_)
  · rw [if_neg c12] at h
    refine e_lv [1, 2, 3, 0] rfl ?_
    exact j_X12_readLine_j100 C K ht hR h B
  · rw [if_pos c12] at h
    refine e_aload_n C 1 (dk dX12_readLine_0 40 rfl) rfl rfl ?_
    refine gf_X12_anyStreet C K ht fl_X12_236 (dk dX12_readLine_0 41 rfl) ?_
    refine e_if_eq C 100 (dk dX12_readLine_0 42 rfl) (by decide) (fun c23 => ?_) (fun c23 => ?_)
    · rw [if_pos c23] at h
      refine e_lv [1, 2, 3, 0] rfl ?_
      exact j_X12_readLine_j100 C K ht hR h B
    · rw [if_neg c23] at h
      refine e_aload_n C 1 (dk dX12_readLine_0 43 rfl) rfl rfl ?_
      refine e_iconst C 4 (dk dX12_readLine_0 44 rfl) (by decide) ?_
      refine e_callV (ci := 12) C cal_X12_wrong im_X12_wrong se_X12_wrong ml_X12_226 rfl hR (by decide) (dk dX12_readLine_0 45 rfl) (K.1 _ (by rw [ht]; decide)) (ent_o12 ht) (c_X12_wrong K ht (rfl : F_X12_wrong t 4 M = _)) ⟨Nat.zero_le _, Nat.zero_le _⟩ (Nat.le_of_ble_eq_true rfl) rfl ?_
      refine e_lv [1, 2, 3, 0] rfl ?_
      exact j_X12_readLine_j100 C K ht hR h B
set_option maxRecDepth 20000 in
theorem c_X12_readLine {g : WC} {Xo : Nat → va_E} {n : Nat} {kd : Nat → Nat} (K : KD n kd) {t : Nat} {p0 : Int32} (ht : kd t = 13) {M : Mem} {res : Int32 × Mem} (h : F_X12_readLine t p0 M = some res) : MC g yX12_readLine cX12_readLine 4 (some .int) 72 n [.ref (g_N g + t), .int p0] (ent g Xo kd M) (some (.int res.1)) (ent g Xo kd res.2) := by
  refine MC_of pn_X12 (Nat.le_of_ble_eq_true rfl) (fun X C B => ?_)
  have hR := B.1
  rw [F_X12_readLine] at h
  refine e_aload_n C 0 (dk dX12_readLine_0 0 rfl) rfl rfl ?_
  refine e_aload_n C 0 (dk dX12_readLine_0 1 rfl) rfl rfl ?_
  refine gf_X12_people C K ht fl_X12_15 (dk dX12_readLine_0 2 rfl) ?_
  obtain ⟨q1, hq1, h⟩ := ob h
  refine e_callV (ci := 12) C cal_X12_which im_X12_which se_X12_which ml_X12_249 rfl hR (by decide) (dk dX12_readLine_0 3 rfl) (K.1 _ (by rw [ht]; decide)) (ent_o12 ht) (c_X12_which K ht (kd_X12_people K ht) hq1) ⟨Nat.zero_le _, Nat.zero_le _⟩ (Nat.le_of_ble_eq_true rfl) rfl ?_
  refine e_istore_n C [(2, .int q1), (0, .ref (g_N g + t)), (1, .int p0)] (dk dX12_readLine_0 4 rfl) rfl (by decide) rfl ?_
  refine e_aload_n C 1 (dk dX12_readLine_0 5 rfl) rfl rfl ?_
  refine e_ldcSW C sr_X12_297 (dk dX12_readLine_0 6 rfl) ?_
  obtain ⟨q2, hq2, h⟩ := ob h
  refine e_callV (ci := 12) C cal_X12_is im_X12_is se_X12_is ml_X12_219 rfl hR (by decide) (dk dX12_readLine_0 7 rfl) (K.1 _ (by rw [ht]; decide)) (ent_o12 ht) (c_X12_is K ht (by decide) hq2) ⟨Nat.zero_le _, Nat.zero_le _⟩ (Nat.le_of_ble_eq_true rfl) rfl ?_
  refine e_if_eq C 23 (dk dX12_readLine_0 8 rfl) (by decide) (fun c3 => ?_) (fun c3 => ?_)
  · rw [if_pos c3] at h
    refine e_aload_n C 1 (dk dX12_readLine_0 11 rfl) rfl rfl ?_
    refine e_ldcSW C sr_X12_299 (dk dX12_readLine_0 12 rfl) ?_
    obtain ⟨q4, hq4, h⟩ := ob h
    refine e_callV (ci := 12) C cal_X12_is im_X12_is se_X12_is ml_X12_219 rfl hR (by decide) (dk dX12_readLine_0 13 rfl) (K.1 _ (by rw [ht]; decide)) (ent_o12 ht) (c_X12_is K ht (by decide) hq4) ⟨Nat.zero_le _, Nat.zero_le _⟩ (Nat.le_of_ble_eq_true rfl) rfl ?_
    refine e_if_eq C 37 (dk dX12_readLine_0 14 rfl) (by decide) (fun c5 => ?_) (fun c5 => ?_)
    · rw [if_pos c5] at h
      refine e_aload_n C 1 (dk dX12_readLine_0 17 rfl) rfl rfl ?_
      refine e_ldcSW C sr_X12_301 (dk dX12_readLine_0 18 rfl) ?_
      obtain ⟨q6, hq6, h⟩ := ob h
      refine e_callV (ci := 12) C cal_X12_is im_X12_is se_X12_is ml_X12_219 rfl hR (by decide) (dk dX12_readLine_0 19 rfl) (K.1 _ (by rw [ht]; decide)) (ent_o12 ht) (c_X12_is K ht (by decide) hq6) ⟨Nat.zero_le _, Nat.zero_le _⟩ (Nat.le_of_ble_eq_true rfl) rfl ?_
      refine e_if_eq C 51 (dk dX12_readLine_0 20 rfl) (by decide) (fun c7 => ?_) (fun c7 => ?_)
      · rw [if_pos c7] at h
        refine e_aload_n C 1 (dk dX12_readLine_0 23 rfl) rfl rfl ?_
        refine e_ldcSW C sr_X12_303 (dk dX12_readLine_0 24 rfl) ?_
        obtain ⟨q8, hq8, h⟩ := ob h
        refine e_callV (ci := 12) C cal_X12_is im_X12_is se_X12_is ml_X12_219 rfl hR (by decide) (dk dX12_readLine_0 25 rfl) (K.1 _ (by rw [ht]; decide)) (ent_o12 ht) (c_X12_is K ht (by decide) hq8) ⟨Nat.zero_le _, Nat.zero_le _⟩ (Nat.le_of_ble_eq_true rfl) rfl ?_
        refine e_if_eq C 66 (dk dX12_readLine_0 26 rfl) (by decide) (fun c9 => ?_) (fun c9 => ?_)
        · rw [if_pos c9] at h
          refine e_aload_n C 1 (dk dX12_readLine_0 29 rfl) rfl rfl ?_
          refine e_ldcSW C sr_X12_305 (dk dX12_readLine_0 30 rfl) ?_
          obtain ⟨q10, hq10, h⟩ := ob h
          refine e_callV (ci := 12) C cal_X12_is im_X12_is se_X12_is ml_X12_219 rfl hR (by decide) (dk dX12_readLine_0 31 rfl) (K.1 _ (by rw [ht]; decide)) (ent_o12 ht) (c_X12_is K ht (by decide) hq10) ⟨Nat.zero_le _, Nat.zero_le _⟩ (Nat.le_of_ble_eq_true rfl) rfl ?_
          refine e_if_eq C 81 (dk dX12_readLine_0 32 rfl) (by decide) (fun c11 => ?_) (fun c11 => ?_)
          · rw [if_pos c11] at h
            refine e_iconst C 0 (dk dX12_readLine_0 35 rfl) (by decide) ?_
            refine e_lv [1, 2, 0] rfl ?_
            exact j_X12_readLine_j82 C K ht hR h B
          · rw [if_neg c11] at h
            refine e_bipush C 16 (dk dX12_readLine_0 33 rfl) (by decide) ?_
            refine e_goto C 82 (dk dX12_readLine_0 34 rfl) (by decide) ?_
            refine e_lv [1, 2, 0] rfl ?_
            exact j_X12_readLine_j82 C K ht hR h B
        · rw [if_neg c9] at h
          refine e_bipush C 8 (dk dX12_readLine_0 27 rfl) (by decide) ?_
          refine e_goto C 82 (dk dX12_readLine_0 28 rfl) (by decide) ?_
          refine e_lv [1, 2, 0] rfl ?_
          exact j_X12_readLine_j82 C K ht hR h B
      · rw [if_neg c7] at h
        refine e_iconst C 4 (dk dX12_readLine_0 21 rfl) (by decide) ?_
        refine e_goto C 82 (dk dX12_readLine_0 22 rfl) (by decide) ?_
        refine e_lv [1, 2, 0] rfl ?_
        exact j_X12_readLine_j82 C K ht hR h B
    · rw [if_neg c5] at h
      refine e_iconst C 2 (dk dX12_readLine_0 15 rfl) (by decide) ?_
      refine e_goto C 82 (dk dX12_readLine_0 16 rfl) (by decide) ?_
      refine e_lv [1, 2, 0] rfl ?_
      exact j_X12_readLine_j82 C K ht hR h B
  · rw [if_neg c3] at h
    refine e_iconst C 1 (dk dX12_readLine_0 9 rfl) (by decide) ?_
    refine e_goto C 82 (dk dX12_readLine_0 10 rfl) (by decide) ?_
    refine e_lv [1, 2, 0] rfl ?_
    exact j_X12_readLine_j82 C K ht hR h B
set_option maxRecDepth 20000 in
theorem j_X12_ward_j17 {X : FX} {g : WC} {Xo : Nat → va_E} {n : Nat} {kd : Nat → Nat} (C : Cx X g RX12 cX12_ward 3) (K : KD n kd) {t : Nat} (ht : kd t = 13) (hR : x_R X = rm 73) {M : Mem} {res : Int32 × Mem} (h : J_X12_ward_j17 t M = some res) (B : Bx X g (some .int) 73 n (some (.int res.1)) (ent g Xo kd res.2)) : EW X g (x_s X).heap.size n 3 (ent g Xo kd M) 0 0 17 [(0, .ref (g_N g + t))] [] := by
  rw [J_X12_ward_j17] at h
  refine e_aload_n C 0 (dk dX12_ward_0 9 rfl) rfl rfl ?_
  refine e_iconst C 1 (dk dX12_ward_0 10 rfl) (by decide) ?_
  refine e_callV (ci := 12) C cal_X12_fail im_X12_fail se_X12_fail ml_X12_318 rfl hR (by decide) (dk dX12_ward_0 11 rfl) (K.1 _ (by rw [ht]; decide)) (ent_o12 ht) (c_X12_fail K ht (rfl : F_X12_fail t 1 M = _)) ⟨Nat.zero_le _, Nat.zero_le _⟩ (Nat.le_of_ble_eq_true rfl) rfl ?_
  obtain rfl := Option.some.inj h
  exact e_iret C B (nar1 _) (dk dX12_ward_0 12 rfl)
set_option maxRecDepth 20000 in
theorem j_X12_ward_j96 {X : FX} {g : WC} {Xo : Nat → va_E} {n : Nat} {kd : Nat → Nat} (C : Cx X g RX12 cX12_ward 3) (K : KD n kd) {t : Nat} (ht : kd t = 13) (hR : x_R X = rm 73) {OK : Mem → Prop} (hx : ∀ s, OK s → EW X g (x_s X).heap.size n 3 (ent g Xo kd s) 0 0 103 [(0, .ref (g_N g + t))] []) {rec : Int32 → Mem → Option (Mem)} (hrec : ∀ (x2 : Int32) (M : Mem) (q : Mem), rec x2 M = some q → OK q → EW X g (x_s X).heap.size n 3 (ent g Xo kd M) 0 0 55 [(0, .ref (g_N g + t)), (2, .int x2)] []) {x2 : Int32} {y1 : Int32} {y2 : Int32} {M : Mem} (q : Mem) (h : J_X12_ward_j96 t rec x2 y1 y2 M = some q) (hOK : OK q) : EW X g (x_s X).heap.size n 3 (ent g Xo kd M) 0 0 96 [(0, .ref (g_N g + t)), (2, .int x2)] [.int y2, .int y1, .ref (g_N g + (t + 3))] := by
  rw [J_X12_ward_j96] at h
  obtain ⟨M7, hM7, h⟩ := ob h
  refine m_ast C K (kd_X12_told K ht) (dk dX12_ward_0 56 rfl) hM7 ?_
  refine e_iinc C [(2, .int (x2 + 1)), (0, .ref (g_N g + t))] 1 1 (dk dX12_ward_0 57 rfl) rfl (by decide) (by decide) rfl ?_
  refine e_goto C 55 (dk dX12_ward_0 58 rfl) (by decide) ?_
  refine e_lv [1, 0] rfl ?_
  exact hrec _ _ _ h hOK
set_option maxRecDepth 20000 in
theorem l_X12_ward_55 {X : FX} {g : WC} {Xo : Nat → va_E} {n : Nat} {kd : Nat → Nat} (C : Cx X g RX12 cX12_ward 3) (K : KD n kd) {t : Nat} (ht : kd t = 13) (hR : x_R X = rm 73) {OK : Mem → Prop} (hx : ∀ s, OK s → EW X g (x_s X).heap.size n 3 (ent g Xo kd s) 0 0 103 [(0, .ref (g_N g + t))] []) : ∀ (N9 : Nat) (x2 : Int32) (M : Mem) (q : Mem), L_X12_ward_55 t N9 x2 M = some q → OK q → EW X g (x_s X).heap.size n 3 (ent g Xo kd M) 0 0 55 [(0, .ref (g_N g + t)), (2, .int x2)] [] := by
  intro N9
  induction N9 with
  | zero =>
    intro x2 M q h
    rw [L_X12_ward_55.eq_1] at h
    cases h
  | succ m9 ih =>
    intro x2 M q h hOK
    rw [L_X12_ward_55.eq_2] at h
    refine e_iload_n C 1 (dk dX12_ward_0 33 rfl) rfl rfl ?_
    refine e_bipush C 7 (dk dX12_ward_0 34 rfl) (by decide) ?_
    refine e_icmp_ge C 103 (dk dX12_ward_0 35 rfl) (by decide) (fun c3 => ?_) (fun c3 => ?_)
    · rw [if_pos c3] at h
      obtain rfl := Option.some.inj h
      refine e_lv [0] rfl ?_
      exact hx _ hOK
    · rw [if_neg c3] at h
      refine e_aload_n C 0 (dk dX12_ward_0 36 rfl) rfl rfl ?_
      refine gf_X12_told C K ht fl_X12_38 (dk dX12_ward_0 37 rfl) ?_
      refine e_bipush C 7 (dk dX12_ward_0 38 rfl) (by decide) ?_
      refine e_iload_n C 1 (dk dX12_ward_0 39 rfl) rfl rfl ?_
      refine e_iadd C (dk dX12_ward_0 40 rfl) ?_
      refine e_iload_n C 1 (dk dX12_ward_0 41 rfl) rfl rfl ?_
      refine e_if_ne C 77 (dk dX12_ward_0 42 rfl) (by decide) (fun c4 => ?_) (fun c4 => ?_)
      · rw [if_neg c4] at h
        refine e_iload_n C 1 (dk dX12_ward_0 45 rfl) rfl rfl ?_
        refine e_iconst C 2 (dk dX12_ward_0 46 rfl) (by decide) ?_
        refine e_icmp_ne C 86 (dk dX12_ward_0 47 rfl) (by decide) (fun c5 => ?_) (fun c5 => ?_)
        · rw [if_neg c5] at h
          refine e_iload_n C 1 (dk dX12_ward_0 50 rfl) rfl rfl ?_
          refine e_iconst C 5 (dk dX12_ward_0 51 rfl) (by decide) ?_
          refine e_icmp_ne C 95 (dk dX12_ward_0 52 rfl) (by decide) (fun c6 => ?_) (fun c6 => ?_)
          · rw [if_neg c6] at h
            refine e_iconst C 0 (dk dX12_ward_0 55 rfl) (by decide) ?_
            exact j_X12_ward_j96 C K ht hR hx ih _ h hOK
          · rw [if_pos c6] at h
            refine e_iconst C 5 (dk dX12_ward_0 53 rfl) (by decide) ?_
            refine e_goto C 96 (dk dX12_ward_0 54 rfl) (by decide) ?_
            exact j_X12_ward_j96 C K ht hR hx ih _ h hOK
        · rw [if_pos c5] at h
          refine e_iconst C 1 (dk dX12_ward_0 48 rfl) (by decide) ?_
          refine e_goto C 96 (dk dX12_ward_0 49 rfl) (by decide) ?_
          exact j_X12_ward_j96 C K ht hR hx ih _ h hOK
      · rw [if_pos c4] at h
        refine e_iconst C 4 (dk dX12_ward_0 43 rfl) (by decide) ?_
        refine e_goto C 96 (dk dX12_ward_0 44 rfl) (by decide) ?_
        exact j_X12_ward_j96 C K ht hR hx ih _ h hOK
set_option maxRecDepth 20000 in
theorem lb_X12_ward_55 {X : FX} {g : WC} {Xo : Nat → va_E} {n : Nat} {kd : Nat → Nat} (C : Cx X g RX12 cX12_ward 3) (K : KD n kd) {t : Nat} (ht : kd t = 13) (hR : x_R X = rm 73) {T9 : Type} {f9 : Mem → Option T9} {b9 : T9} (hx : ∀ s, f9 s = some b9 → EW X g (x_s X).heap.size n 3 (ent g Xo kd s) 0 0 103 [(0, .ref (g_N g + t))] []) {x2 : Int32} {M : Mem} (h : (L_X12_ward_55 t FU x2 M).bind f9 = some b9) : EW X g (x_s X).heap.size n 3 (ent g Xo kd M) 0 0 55 [(0, .ref (g_N g + t)), (2, .int x2)] [] := by
  obtain ⟨q, hq, h⟩ := ob h
  exact l_X12_ward_55 C K ht hR (OK := fun q => f9 q = some b9) hx FU x2 M q hq h
set_option maxRecDepth 20000 in
theorem l_X12_ward_105 {X : FX} {g : WC} {Xo : Nat → va_E} {n : Nat} {kd : Nat → Nat} (C : Cx X g RX12 cX12_ward 3) (K : KD n kd) {t : Nat} (ht : kd t = 13) (hR : x_R X = rm 73) {OK : Mem → Prop} (hx : ∀ s, OK s → EW X g (x_s X).heap.size n 3 (ent g Xo kd s) 0 0 127 [(0, .ref (g_N g + t))] []) : ∀ (N9 : Nat) (x2 : Int32) (M : Mem) (q : Mem), L_X12_ward_105 t N9 x2 M = some q → OK q → EW X g (x_s X).heap.size n 3 (ent g Xo kd M) 0 0 105 [(0, .ref (g_N g + t)), (2, .int x2)] [] := by
  intro N9
  induction N9 with
  | zero =>
    intro x2 M q h
    rw [L_X12_ward_105.eq_1] at h
    cases h
  | succ m9 ih =>
    intro x2 M q h hOK
    rw [L_X12_ward_105.eq_2] at h
    refine e_iload_n C 1 (dk dX12_ward_1 1 rfl) rfl rfl ?_
    refine e_bipush C 8 (dk dX12_ward_1 2 rfl) (by decide) ?_
    refine e_icmp_ge C 127 (dk dX12_ward_1 3 rfl) (by decide) (fun c10 => ?_) (fun c10 => ?_)
    · rw [if_pos c10] at h
      obtain rfl := Option.some.inj h
      refine e_lv [0] rfl ?_
      exact hx _ hOK
    · rw [if_neg c10] at h
      refine e_aload_n C 0 (dk dX12_ward_1 4 rfl) rfl rfl ?_
      refine gf_X12_pathTold C K ht fl_X12_42 (dk dX12_ward_1 5 rfl) ?_
      refine e_bipush C 8 (dk dX12_ward_1 6 rfl) (by decide) ?_
      refine e_iload_n C 1 (dk dX12_ward_1 7 rfl) rfl rfl ?_
      refine e_iadd C (dk dX12_ward_1 8 rfl) ?_
      refine e_iconst C 0 (dk dX12_ward_1 9 rfl) (by decide) ?_
      obtain ⟨M11, hM11, h⟩ := ob h
      refine m_ast C K (kd_X12_pathTold K ht) (dk dX12_ward_1 10 rfl) hM11 ?_
      refine e_iinc C [(2, .int (x2 + 1)), (0, .ref (g_N g + t))] 1 1 (dk dX12_ward_1 11 rfl) rfl (by decide) (by decide) rfl ?_
      refine e_goto C 105 (dk dX12_ward_1 12 rfl) (by decide) ?_
      refine e_lv [1, 0] rfl ?_
      exact ih _ _ _ h hOK
set_option maxRecDepth 20000 in
theorem lb_X12_ward_105 {X : FX} {g : WC} {Xo : Nat → va_E} {n : Nat} {kd : Nat → Nat} (C : Cx X g RX12 cX12_ward 3) (K : KD n kd) {t : Nat} (ht : kd t = 13) (hR : x_R X = rm 73) {T9 : Type} {f9 : Mem → Option T9} {b9 : T9} (hx : ∀ s, f9 s = some b9 → EW X g (x_s X).heap.size n 3 (ent g Xo kd s) 0 0 127 [(0, .ref (g_N g + t))] []) {x2 : Int32} {M : Mem} (h : (L_X12_ward_105 t FU x2 M).bind f9 = some b9) : EW X g (x_s X).heap.size n 3 (ent g Xo kd M) 0 0 105 [(0, .ref (g_N g + t)), (2, .int x2)] [] := by
  obtain ⟨q, hq, h⟩ := ob h
  exact l_X12_ward_105 C K ht hR (OK := fun q => f9 q = some b9) hx FU x2 M q hq h
set_option maxRecDepth 20000 in
theorem l_X12_ward_141 {X : FX} {g : WC} {Xo : Nat → va_E} {n : Nat} {kd : Nat → Nat} (C : Cx X g RX12 cX12_ward 3) (K : KD n kd) {t : Nat} (ht : kd t = 13) (hR : x_R X = rm 73) {OK : Mem → Prop} (hx : ∀ s, OK s → EW X g (x_s X).heap.size n 3 (ent g Xo kd s) 0 0 164 [(0, .ref (g_N g + t))] []) : ∀ (N9 : Nat) (x2 : Int32) (M : Mem) (q : Mem), L_X12_ward_141 t N9 x2 M = some q → OK q → EW X g (x_s X).heap.size n 3 (ent g Xo kd M) 0 0 141 [(0, .ref (g_N g + t)), (2, .int x2)] [] := by
  intro N9
  induction N9 with
  | zero =>
    intro x2 M q h
    rw [L_X12_ward_141.eq_1] at h
    cases h
  | succ m9 ih =>
    intro x2 M q h hOK
    rw [L_X12_ward_141.eq_2] at h
    refine e_aload_n C 0 (dk dX12_ward_1 22 rfl) rfl rfl ?_
    refine gf_X12_bad C K ht fl_X12_205 (dk dX12_ward_1 23 rfl) ?_
    refine e_if_ne C 164 (dk dX12_ward_1 24 rfl) (by decide) (fun c16 => ?_) (fun c16 => ?_)
    · rw [if_neg c16] at h
      obtain rfl := Option.some.inj h
      refine e_lv [0] rfl ?_
      exact hx _ hOK
    · rw [if_pos c16] at h
      refine e_aload_n C 0 (dk dX12_ward_1 25 rfl) rfl rfl ?_
      refine gf_X12_token C K ht fl_X12_179 (dk dX12_ward_1 26 rfl) ?_
      refine e_if_eq C 164 (dk dX12_ward_1 27 rfl) (by decide) (fun c17 => ?_) (fun c17 => ?_)
      · rw [if_pos c17] at h
        obtain rfl := Option.some.inj h
        refine e_lv [0] rfl ?_
        exact hx _ hOK
      · rw [if_neg c17] at h
        refine e_aload_n C 0 (dk dX12_ward_1 28 rfl) rfl rfl ?_
        refine e_iload_n C 1 (dk dX12_ward_1 29 rfl) rfl rfl ?_
        obtain ⟨q18, hq18, h⟩ := ob h
        refine e_callV (ci := 12) C cal_X12_readLine im_X12_readLine se_X12_readLine ml_X12_321 rfl hR (by decide) (dk dX12_ward_1 30 rfl) (K.1 _ (by rw [ht]; decide)) (ent_o12 ht) (c_X12_readLine K ht hq18) ⟨Nat.zero_le _, Nat.zero_le _⟩ (Nat.le_of_ble_eq_true rfl) rfl ?_
        refine e_istore_n C [(2, .int q18.1), (0, .ref (g_N g + t))] (dk dX12_ward_1 31 rfl) rfl (by decide) rfl ?_
        refine e_goto C 141 (dk dX12_ward_1 32 rfl) (by decide) ?_
        refine e_lv [1, 0] rfl ?_
        exact ih _ _ _ h hOK
set_option maxRecDepth 20000 in
theorem lb_X12_ward_141 {X : FX} {g : WC} {Xo : Nat → va_E} {n : Nat} {kd : Nat → Nat} (C : Cx X g RX12 cX12_ward 3) (K : KD n kd) {t : Nat} (ht : kd t = 13) (hR : x_R X = rm 73) {T9 : Type} {f9 : Mem → Option T9} {b9 : T9} (hx : ∀ s, f9 s = some b9 → EW X g (x_s X).heap.size n 3 (ent g Xo kd s) 0 0 164 [(0, .ref (g_N g + t))] []) {x2 : Int32} {M : Mem} (h : (L_X12_ward_141 t FU x2 M).bind f9 = some b9) : EW X g (x_s X).heap.size n 3 (ent g Xo kd M) 0 0 141 [(0, .ref (g_N g + t)), (2, .int x2)] [] := by
  obtain ⟨q, hq, h⟩ := ob h
  exact l_X12_ward_141 C K ht hR (OK := fun q => f9 q = some b9) hx FU x2 M q hq h
set_option maxRecDepth 20000 in
theorem j_X12_ward_j164 {X : FX} {g : WC} {Xo : Nat → va_E} {n : Nat} {kd : Nat → Nat} (C : Cx X g RX12 cX12_ward 3) (K : KD n kd) {t : Nat} (ht : kd t = 13) (hR : x_R X = rm 73) {M : Mem} {res : Int32 × Mem} (h : J_X12_ward_j164 t M = some res) (B : Bx X g (some .int) 73 n (some (.int res.1)) (ent g Xo kd res.2)) : EW X g (x_s X).heap.size n 3 (ent g Xo kd M) 0 0 164 [(0, .ref (g_N g + t))] [] := by
  rw [J_X12_ward_j164] at h
  refine e_aload_n C 0 (dk dX12_ward_1 33 rfl) rfl rfl ?_
  refine gf_X12_bad C K ht fl_X12_205 (dk dX12_ward_1 34 rfl) ?_
  refine e_if_eq C 194 (dk dX12_ward_1 35 rfl) (by decide) (fun c21 => ?_) (fun c21 => ?_)
  · rw [if_pos c21] at h
    refine e_aload_n C 0 (dk dX12_ward_1 51 rfl) rfl rfl ?_
    obtain ⟨q22, hq22, h⟩ := ob h
    refine e_callV (ci := 12) C cal_X12_takeOver im_X12_takeOver se_X12_takeOver ml_X12_324 rfl hR (by decide) (dk dX12_ward_1 52 rfl) (K.1 _ (by rw [ht]; decide)) (ent_o12 ht) (c_X12_takeOver K ht hq22) ⟨Nat.zero_le _, Nat.zero_le _⟩ (Nat.le_of_ble_eq_true rfl) rfl ?_
    refine e_iconst C 0 (dk dX12_ward_1 53 rfl) (by decide) ?_
    obtain rfl := Option.some.inj h
    exact e_iret C B (nar1 _) (dk dX12_ward_1 54 rfl)
  · rw [if_neg c21] at h
    refine e_aload_n C 0 (dk dX12_ward_1 36 rfl) rfl rfl ?_
    refine e_aload_n C 0 (dk dX12_ward_1 37 rfl) rfl rfl ?_
    refine gf_X12_badPlace C K ht fl_X12_208 (dk dX12_ward_1 38 rfl) ?_
    refine pf_X12_faultPlace C K ht fl_X12_71 (dk dX12_ward_1 39 rfl) ?_
    refine e_aload_n C 0 (dk dX12_ward_1 40 rfl) rfl rfl ?_
    refine gf_X12_status C K ht fl_X12_65 (dk dX12_ward_1 41 rfl) ?_
    refine e_iconst C 0 (dk dX12_ward_1 42 rfl) (by decide) ?_
    refine e_dup2 C (dk dX12_ward_1 43 rfl) rfl rfl ?_
    obtain ⟨v23, hv23, h⟩ := ob h
    refine m_ald C K (kd_X12_status K ht) (dk dX12_ward_1 44 rfl) hv23 ?_
    refine e_iconst C 1 (dk dX12_ward_1 45 rfl) (by decide) ?_
    refine e_iadd C (dk dX12_ward_1 46 rfl) ?_
    obtain ⟨M24, hM24, h⟩ := ob h
    refine m_ast C K (kd_X12_status K ht) (dk dX12_ward_1 47 rfl) hM24 ?_
    refine e_aload_n C 0 (dk dX12_ward_1 48 rfl) rfl rfl ?_
    refine gf_X12_bad C K ht fl_X12_205 (dk dX12_ward_1 49 rfl) ?_
    obtain rfl := Option.some.inj h
    exact e_iret C B (nar1 _) (dk dX12_ward_1 50 rfl)
set_option maxRecDepth 20000 in
theorem c_X12_ward {g : WC} {Xo : Nat → va_E} {n : Nat} {kd : Nat → Nat} (K : KD n kd) {t : Nat} {p0 : Int32} (ht : kd t = 13) {M : Mem} {res : Int32 × Mem} (h : F_X12_ward t p0 M = some res) : MC g yX12_ward cX12_ward 3 (some .int) 73 n [.ref (g_N g + t), .int p0] (ent g Xo kd M) (some (.int res.1)) (ent g Xo kd res.2) := by
  refine MC_of pn_X12 (Nat.le_of_ble_eq_true rfl) (fun X C B => ?_)
  have hR := B.1
  rw [F_X12_ward] at h
  refine e_aload_n C 0 (dk dX12_ward_0 0 rfl) rfl rfl ?_
  refine e_iconst C 0 (dk dX12_ward_0 1 rfl) (by decide) ?_
  refine pf_X12_code C K ht fl_X12_156 (dk dX12_ward_0 2 rfl) ?_
  refine e_iload_n C 1 (dk dX12_ward_0 3 rfl) rfl rfl ?_
  refine e_if_lt C 17 (dk dX12_ward_0 4 rfl) (by decide) (fun c1 => ?_) (fun c1 => ?_)
  · rw [if_pos c1] at h
    refine e_lv [0] rfl ?_
    exact j_X12_ward_j17 C K ht hR h B
  · rw [if_neg c1] at h
    refine e_iload_n C 1 (dk dX12_ward_0 5 rfl) rfl rfl ?_
    refine e_aload_n C 0 (dk dX12_ward_0 6 rfl) rfl rfl ?_
    refine gf_X12_taped C K ht fl_X12_163 (dk dX12_ward_0 7 rfl) ?_
    refine e_icmp_le C 23 (dk dX12_ward_0 8 rfl) (by decide) (fun c2 => ?_) (fun c2 => ?_)
    · rw [if_pos c2] at h
      refine e_aload_n C 0 (dk dX12_ward_0 13 rfl) rfl rfl ?_
      refine e_iconst C 0 (dk dX12_ward_0 14 rfl) (by decide) ?_
      refine pf_X12_taped C K ht fl_X12_163 (dk dX12_ward_0 15 rfl) ?_
      refine e_aload_n C 0 (dk dX12_ward_0 16 rfl) rfl rfl ?_
      refine e_iload_n C 1 (dk dX12_ward_0 17 rfl) rfl rfl ?_
      refine pf_X12_size C K ht fl_X12_166 (dk dX12_ward_0 18 rfl) ?_
      refine e_aload_n C 0 (dk dX12_ward_0 19 rfl) rfl rfl ?_
      refine e_iconst C 0 (dk dX12_ward_0 20 rfl) (by decide) ?_
      refine pf_X12_at C K ht fl_X12_169 (dk dX12_ward_0 21 rfl) ?_
      refine e_aload_n C 0 (dk dX12_ward_0 22 rfl) rfl rfl ?_
      refine e_iconst C 0 (dk dX12_ward_0 23 rfl) (by decide) ?_
      refine pf_X12_bad C K ht fl_X12_205 (dk dX12_ward_0 24 rfl) ?_
      refine e_aload_n C 0 (dk dX12_ward_0 25 rfl) rfl rfl ?_
      refine e_iconst C (-1) (dk dX12_ward_0 26 rfl) (by decide) ?_
      refine pf_X12_faultPlace C K ht fl_X12_71 (dk dX12_ward_0 27 rfl) ?_
      refine e_aload_n C 0 (dk dX12_ward_0 28 rfl) rfl rfl ?_
      refine e_iconst C 0 (dk dX12_ward_0 29 rfl) (by decide) ?_
      refine pf_X12_anyStreet (b := false) C K ht fl_X12_236 (dk dX12_ward_0 30 rfl) ?_
      refine e_iconst C 0 (dk dX12_ward_0 31 rfl) (by decide) ?_
      refine e_istore_n C [(2, .int 0), (0, .ref (g_N g + t)), (1, .int p0)] (dk dX12_ward_0 32 rfl) rfl (by decide) rfl ?_
      refine e_lv [1, 0] rfl ?_
      refine lb_X12_ward_55 C K ht hR (fun s9 h => ?_) h
      refine e_iconst C 0 (dk dX12_ward_0 59 rfl) (by decide) ?_
      refine e_istore_n C [(2, .int 0), (0, .ref (g_N g + t))] (dk dX12_ward_1 0 rfl) rfl (by decide) rfl ?_
      refine e_lv [1, 0] rfl ?_
      refine lb_X12_ward_105 C K ht hR (fun s13 h => ?_) h
      refine e_aload_n C 0 (dk dX12_ward_1 13 rfl) rfl rfl ?_
      refine gf_X12_roundTold C K ht fl_X12_45 (dk dX12_ward_1 14 rfl) ?_
      refine e_bipush C 8 (dk dX12_ward_1 15 rfl) (by decide) ?_
      refine e_iconst C 0 (dk dX12_ward_1 16 rfl) (by decide) ?_
      obtain ⟨M14, hM14, h⟩ := ob h
      refine m_ast C K (kd_X12_roundTold K ht) (dk dX12_ward_1 17 rfl) hM14 ?_
      refine e_aload_n C 0 (dk dX12_ward_1 18 rfl) rfl rfl ?_
      obtain ⟨q15, hq15, h⟩ := ob h
      refine e_callV (ci := 12) C cal_X12_stepOn im_X12_stepOn se_X12_stepOn ml_X12_230 rfl hR (by decide) (dk dX12_ward_1 19 rfl) (K.1 _ (by rw [ht]; decide)) (ent_o12 ht) (c_X12_stepOn K ht hq15) ⟨Nat.zero_le _, Nat.zero_le _⟩ (Nat.le_of_ble_eq_true rfl) rfl ?_
      refine e_iconst C 0 (dk dX12_ward_1 20 rfl) (by decide) ?_
      refine e_istore_n C [(2, .int 0), (0, .ref (g_N g + t))] (dk dX12_ward_1 21 rfl) rfl (by decide) rfl ?_
      refine e_lv [1, 0] rfl ?_
      refine lb_X12_ward_141 C K ht hR (fun s20 h => ?_) h
      exact j_X12_ward_j164 C K ht hR h B
    · rw [if_neg c2] at h
      refine e_lv [0] rfl ?_
      exact j_X12_ward_j17 C K ht hR h B
set_option maxRecDepth 20000 in
theorem l_X5_read_43 {X : FX} {g : WC} {Xo : Nat → va_E} {n : Nat} {kd : Nat → Nat} (C : Cx X g RX5 cX5_read 3) (K : KD n kd) {t : Nat} (ht : kd t = 6) (hR : x_R X = rm 68) {OK : Sum (Int32 × Mem) (Mem) → Prop} (hB : ∀ v, OK (Sum.inl v) → Bx X g (some .int) 68 n (some (.int v.1)) (ent g Xo kd v.2)) (hx : ∀ s, OK (Sum.inr s) → EW X g (x_s X).heap.size n 3 (ent g Xo kd s) 0 0 75 [] []) : ∀ (N9 : Nat) (x2 : Int32) (M : Mem) (q : Sum (Int32 × Mem) (Mem)), L_X5_read_43 t N9 x2 M = some q → OK q → EW X g (x_s X).heap.size n 3 (ent g Xo kd M) 0 0 43 [(0, .ref (g_N g + t)), (2, .int x2)] [] := by
  intro N9
  induction N9 with
  | zero =>
    intro x2 M q h
    rw [L_X5_read_43.eq_1] at h
    cases h
  | succ m9 ih =>
    intro x2 M q h hOK
    rw [L_X5_read_43.eq_2] at h
    refine e_iload_n C 1 (dk dX5_read 25 rfl) rfl rfl ?_
    refine e_sipush C 700 (dk dX5_read 26 rfl) (by decide) ?_
    refine e_icmp_gt C 75 (dk dX5_read 27 rfl) (by decide) (fun c4 => ?_) (fun c4 => ?_)
    · rw [if_pos c4] at h
      obtain rfl := Option.some.inj h
      refine e_lv [] rfl ?_
      exact hx _ hOK
    · rw [if_neg c4] at h
      refine e_aload_n C 0 (dk dX5_read 28 rfl) rfl rfl ?_
      refine gf_X5_kind C K ht fl_X5_35 (dk dX5_read 29 rfl) ?_
      refine e_if_eq C 75 (dk dX5_read 30 rfl) (by decide) (fun c5 => ?_) (fun c5 => ?_)
      · rw [if_pos c5] at h
        obtain rfl := Option.some.inj h
        refine e_lv [] rfl ?_
        exact hx _ hOK
      · rw [if_neg c5] at h
        refine e_aload_n C 0 (dk dX5_read 31 rfl) rfl rfl ?_
        obtain ⟨q6, hq6, h⟩ := ob h
        refine e_callV (ci := 5) C cal_X5_line im_X5_line se_X5_line ml_X5_64 rfl hR (by decide) (dk dX5_read 32 rfl) (K.1 _ (by rw [ht]; decide)) (ent_o5 ht) (c_X5_line K ht hq6) ⟨Nat.zero_le _, Nat.zero_le _⟩ (Nat.le_of_ble_eq_true rfl) rfl ?_
        refine e_if_ne C 69 (dk dX5_read 33 rfl) (by decide) (fun c7 => ?_) (fun c7 => ?_)
        · rw [if_neg c7] at h
          refine e_iinc C [(2, .int (x2 + 1)), (0, .ref (g_N g + t))] 1 1 (dk dX5_read 37 rfl) rfl (by decide) (by decide) rfl ?_
          refine e_goto C 43 (dk dX5_read 38 rfl) (by decide) ?_
          refine e_lv [1, 0] rfl ?_
          exact ih _ _ _ h hOK
        · rw [if_pos c7] at h
          refine e_aload_n C 0 (dk dX5_read 34 rfl) rfl rfl ?_
          refine gf_X5_found C K ht fl_X5_41 (dk dX5_read 35 rfl) ?_
          obtain rfl := Option.some.inj h
          exact e_iret C (hB _ hOK) (nar1 _) (dk dX5_read 36 rfl)
set_option maxRecDepth 20000 in
theorem lb_X5_read_43 {X : FX} {g : WC} {Xo : Nat → va_E} {n : Nat} {kd : Nat → Nat} (C : Cx X g RX5 cX5_read 3) (K : KD n kd) {t : Nat} (ht : kd t = 6) (hR : x_R X = rm 68) {T9 : Type} {f9 : Sum (Int32 × Mem) (Mem) → Option T9} {b9 : T9} (hB : ∀ v, f9 (Sum.inl v) = some b9 → Bx X g (some .int) 68 n (some (.int v.1)) (ent g Xo kd v.2)) (hx : ∀ s, f9 (Sum.inr s) = some b9 → EW X g (x_s X).heap.size n 3 (ent g Xo kd s) 0 0 75 [] []) {x2 : Int32} {M : Mem} (h : (L_X5_read_43 t FU x2 M).bind f9 = some b9) : EW X g (x_s X).heap.size n 3 (ent g Xo kd M) 0 0 43 [(0, .ref (g_N g + t)), (2, .int x2)] [] := by
  obtain ⟨q, hq, h⟩ := ob h
  exact l_X5_read_43 C K ht hR (OK := fun q => f9 q = some b9) hB hx FU x2 M q hq h
set_option maxRecDepth 20000 in
theorem c_X5_read {g : WC} {Xo : Nat → va_E} {n : Nat} {kd : Nat → Nat} (K : KD n kd) {t : Nat} {p0 : Int32} (ht : kd t = 6) {M : Mem} {res : Int32 × Mem} (h : F_X5_read t p0 M = some res) : MC g yX5_read cX5_read 3 (some .int) 68 n [.ref (g_N g + t), .int p0] (ent g Xo kd M) (some (.int res.1)) (ent g Xo kd res.2) := by
  refine MC_of pn_X5 (Nat.le_of_ble_eq_true rfl) (fun X C B => ?_)
  have hR := B.1
  rw [F_X5_read] at h
  refine e_aload_n C 0 (dk dX5_read 0 rfl) rfl rfl ?_
  refine e_iconst C 0 (dk dX5_read 1 rfl) (by decide) ?_
  refine pf_X5_taped C K ht fl_X5_15 (dk dX5_read 2 rfl) ?_
  refine e_aload_n C 0 (dk dX5_read 3 rfl) rfl rfl ?_
  refine e_iload_n C 1 (dk dX5_read 4 rfl) rfl rfl ?_
  refine pf_X5_end C K ht fl_X5_26 (dk dX5_read 5 rfl) ?_
  refine e_aload_n C 0 (dk dX5_read 6 rfl) rfl rfl ?_
  refine e_iconst C 0 (dk dX5_read 7 rfl) (by decide) ?_
  refine pf_X5_next C K ht fl_X5_32 (dk dX5_read 8 rfl) ?_
  refine e_aload_n C 0 (dk dX5_read 9 rfl) rfl rfl ?_
  refine e_iconst C 0 (dk dX5_read 10 rfl) (by decide) ?_
  refine pf_X5_found C K ht fl_X5_41 (dk dX5_read 11 rfl) ?_
  refine e_aload_n C 0 (dk dX5_read 12 rfl) rfl rfl ?_
  refine e_iconst C 0 (dk dX5_read 13 rfl) (by decide) ?_
  refine pf_X5_linesTold C K ht fl_X5_44 (dk dX5_read 14 rfl) ?_
  refine e_aload_n C 0 (dk dX5_read 15 rfl) rfl rfl ?_
  refine e_iconst C 0 (dk dX5_read 16 rfl) (by decide) ?_
  refine pf_X5_hasStreet (b := false) C K ht fl_X5_47 (dk dX5_read 17 rfl) ?_
  refine e_aload_n C 0 (dk dX5_read 18 rfl) rfl rfl ?_
  obtain ⟨w1, hw1, h⟩ := ob h
  have gw1 := grd_some K (Or.inr ht) hw1
  refine gf_X5_draft C K ht fl_X5_22 (dk dX5_read 19 rfl) ?_
  rw [gw1.1]
  obtain ⟨q2, hq2, h⟩ := ob h
  refine e_callV (ci := 9) C cal_X9_clear im_X9_clear se_X9_clear ml_X5_58 rfl hR (by decide) (dk dX5_read 20 rfl) (K.1 _ (by rw [gw1.2]; decide)) (ent_o9 gw1.2) (c_X9_clear K gw1.2 hq2) ⟨Nat.zero_le _, Nat.zero_le _⟩ (Nat.le_of_ble_eq_true rfl) rfl ?_
  refine e_aload_n C 0 (dk dX5_read 21 rfl) rfl rfl ?_
  obtain ⟨q3, hq3, h⟩ := ob h
  refine e_callV (ci := 5) C cal_X5_advance im_X5_advance se_X5_advance ml_X5_61 rfl hR (by decide) (dk dX5_read 22 rfl) (K.1 _ (by rw [ht]; decide)) (ent_o5 ht) (c_X5_advance K ht hq3) ⟨Nat.zero_le _, Nat.zero_le _⟩ (Nat.le_of_ble_eq_true rfl) rfl ?_
  refine e_iconst C 0 (dk dX5_read 23 rfl) (by decide) ?_
  refine e_istore_n C [(2, .int 0), (0, .ref (g_N g + t)), (1, .int p0)] (dk dX5_read 24 rfl) rfl (by decide) rfl ?_
  refine e_lv [1, 0] rfl ?_
  refine lb_X5_read_43 C K ht hR (fun v h => ?_) (fun s9 h => ?_) h
  · obtain rfl := Option.some.inj (show some v = some _ from h)
    exact B
  dsimp only [Sum.elim_inr] at h
  refine e_iconst C 0 (dk dX5_read 39 rfl) (by decide) ?_
  obtain rfl := Option.some.inj h
  exact e_iret C B (nar1 _) (dk dX5_read 40 rfl)
