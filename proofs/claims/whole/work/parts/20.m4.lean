set_option maxRecDepth 20000 in
theorem c_X6_plainWorth {g : WC} {Xo : Nat → va_E} {n : Nat} {kd : Nat → Nat} (K : KD n kd) {t : Nat} {w0 : Nat} {p1 : Int32} {p2 : Int32} (ht : kd t = 7) (hw0 : kd w0 = 9) {M : Mem} {res : Int32} (h : F_X6_plainWorth t w0 p1 p2 M = res) : MC g yX6_plainWorth cX6_plainWorth 5 (some .int) 2 n [.ref (g_N g + t), .ref (g_N g + w0), .int p1, .int p2] (ent g Xo kd M) (some (.int res)) (ent g Xo kd M) := by
  refine MC_of pn_X6 (Nat.le_of_ble_eq_true rfl) (fun X C B => ?_)
  have hR := B.1
  rw [F_X6_plainWorth] at h
  refine e_iload_n C 2 (dk dX6_plainWorth 0 rfl) rfl rfl ?_
  refine e_iload_n C 3 (dk dX6_plainWorth 1 rfl) rfl rfl ?_
  suffices hm2 : EW X g (x_s X).heap.size n 5 (ent g Xo kd M) 0 0 11 [(0, .ref (g_N g + t)), (1, .ref (g_N g + w0)), (2, .int p1), (3, .int p2)] [.int (if p1 = p2 then (20 : Int32) else (3 : Int32))] from (by
    refine e_icmp_ne C 10 (dk dX6_plainWorth 2 rfl) (by decide) (fun c1 => ?_) (fun c1 => ?_)
    · rw [show (if p1 = p2 then (20 : Int32) else (3 : Int32)) = (3 : Int32) from if_neg c1] at hm2
      refine e_iconst C 3 (dk dX6_plainWorth 5 rfl) (by decide) ?_
      exact hm2
    · rw [show (if p1 = p2 then (20 : Int32) else (3 : Int32)) = (20 : Int32) from if_pos c1] at hm2
      refine e_bipush C 20 (dk dX6_plainWorth 3 rfl) (by decide) ?_
      refine e_goto C 11 (dk dX6_plainWorth 4 rfl) (by decide) ?_
      exact hm2)
  refine e_istore C [(4, .int (if p1 = p2 then (20 : Int32) else (3 : Int32))), (0, .ref (g_N g + t)), (1, .ref (g_N g + w0)), (2, .int p1), (3, .int p2)] (dk dX6_plainWorth 6 rfl) (by decide) rfl ?_
  refine e_iload C 0 (dk dX6_plainWorth 7 rfl) rfl ?_
  refine e_iconst C 5 (dk dX6_plainWorth 8 rfl) (by decide) ?_
  refine e_aload_n C 1 (dk dX6_plainWorth 9 rfl) rfl rfl ?_
  refine gf_X6_hours C K ht fl_X6_9 (dk dX6_plainWorth 10 rfl) ?_
  refine e_iload_n C 4 (dk dX6_plainWorth 11 rfl) rfl rfl ?_
  refine e_callSN C cal_X11_at sm_X11_at mn_X6_47 hR (by decide) (dk dX6_plainWorth 12 rfl) (c_X11_at K (kd_X6_hours K ht) (rfl : F_X11_at (t + 1) 7 p2 M = _)) ⟨Nat.zero_le _, Nat.zero_le _⟩ (Nat.le_of_ble_eq_true rfl) rfl ?_
  refine e_callS C cal_J6_bitCount_0f7a4 sm_J6_bitCount_0f7a4 ml_X6_97 hR (by decide) (dk dX6_plainWorth 13 rfl) (c_J6_bitCount_0f7a4 K (rfl : F_J6_bitCount_0f7a4 (F_X11_at (t + 1) 7 p2 M) = _)) ⟨Nat.zero_le _, Nat.zero_le _⟩ (Nat.le_of_ble_eq_true rfl) rfl ?_
  refine e_imul C (dk dX6_plainWorth 14 rfl) ?_
  refine e_iadd C (dk dX6_plainWorth 15 rfl) ?_
  refine e_aload_n C 2 (dk dX6_plainWorth 16 rfl) rfl rfl ?_
  refine e_iload_n C 3 (dk dX6_plainWorth 17 rfl) rfl rfl ?_
  refine e_iload_n C 4 (dk dX6_plainWorth 18 rfl) rfl rfl ?_
  refine e_callV (ci := 8) C cal_X8_doesKnow im_X8_doesKnow se_X8_doesKnow ml_X6_103 rfl hR (by decide) (dk dX6_plainWorth 19 rfl) (K.1 _ (by rw [hw0]; decide)) (ent_o8 hw0) (c_X8_doesKnow K hw0 (rfl : F_X8_doesKnow w0 p1 p2 M = _)) ⟨Nat.zero_le _, Nat.zero_le _⟩ (Nat.le_of_ble_eq_true rfl) rfl ?_
  suffices hm4 : EW X g (x_s X).heap.size n 5 (ent g Xo kd M) 0 0 44 [(4, .int (if p1 = p2 then (20 : Int32) else (3 : Int32))), (0, .ref (g_N g + t)), (1, .ref (g_N g + w0)), (2, .int p1), (3, .int p2)] [.int (if (bi (F_X8_doesKnow w0 p1 p2 M)) = 0 then (0 : Int32) else (9 : Int32)), .int ((if p1 = p2 then (20 : Int32) else (3 : Int32)) + (5 * (F_J6_bitCount_0f7a4 (F_X11_at (t + 1) 7 p2 M))))] from (by
    refine e_if_eq C 43 (dk dX6_plainWorth 20 rfl) (by decide) (fun c3 => ?_) (fun c3 => ?_)
    · rw [show (if (bi (F_X8_doesKnow w0 p1 p2 M)) = 0 then (0 : Int32) else (9 : Int32)) = (0 : Int32) from if_pos c3] at hm4
      refine e_iconst C 0 (dk dX6_plainWorth 23 rfl) (by decide) ?_
      exact hm4
    · rw [show (if (bi (F_X8_doesKnow w0 p1 p2 M)) = 0 then (0 : Int32) else (9 : Int32)) = (9 : Int32) from if_neg c3] at hm4
      refine e_bipush C 9 (dk dX6_plainWorth 21 rfl) (by decide) ?_
      refine e_goto C 44 (dk dX6_plainWorth 22 rfl) (by decide) ?_
      exact hm4)
  refine e_isub C (dk dX6_plainWorth 24 rfl) ?_
  subst h
  exact e_iret C B (nar1 _) (dk dX6_plainWorth 25 rfl)
set_option maxRecDepth 20000 in
theorem c_X6_putValues {g : WC} {Xo : Nat → va_E} {n : Nat} {kd : Nat → Nat} (K : KD n kd) {t : Nat} {w0 : Nat} {w1 : Nat} {p2 : Int32} {p3 : Int32} (ht : kd t = 7) (hw0 : kd w0 = 10) (hw1 : kd w1 = 9) {M : Mem} {res : Mem} (h : F_X6_putValues t w0 w1 p2 p3 M = some res) : MC g yX6_putValues cX6_putValues 7 none 2 n [.ref (g_N g + t), .ref (g_N g + w0), .ref (g_N g + w1), .int p2, .int p3] (ent g Xo kd M) none (ent g Xo kd res) := by
  refine MC_of pn_X6 (Nat.le_of_ble_eq_true rfl) (fun X C B => ?_)
  have hR := B.1
  rw [F_X6_putValues] at h
  refine e_aload_n C 0 (dk dX6_putValues_0 0 rfl) rfl rfl ?_
  refine gf_X6_hours C K ht fl_X6_9 (dk dX6_putValues_0 1 rfl) ?_
  refine e_iload C 4 (dk dX6_putValues_0 2 rfl) rfl ?_
  refine e_callSN C cal_X11_at sm_X11_at mn_X6_47 hR (by decide) (dk dX6_putValues_0 3 rfl) (c_X11_at K (kd_X6_hours K ht) (rfl : F_X11_at (t + 1) 7 p3 M = _)) ⟨Nat.zero_le _, Nat.zero_le _⟩ (Nat.le_of_ble_eq_true rfl) rfl ?_
  refine e_istore C [(5, .int (F_X11_at (t + 1) 7 p3 M)), (0, .ref (g_N g + t)), (1, .ref (g_N g + w0)), (2, .ref (g_N g + w1)), (3, .int p2), (4, .int p3)] (dk dX6_putValues_0 4 rfl) (by decide) rfl ?_
  refine e_aload_n C 2 (dk dX6_putValues_0 5 rfl) rfl rfl ?_
  refine e_iload C 5 (dk dX6_putValues_0 6 rfl) rfl ?_
  refine e_iload C 0 (dk dX6_putValues_0 7 rfl) rfl ?_
  refine e_callS C cal_J6_numberOfTrailingZeros_0f7a4 sm_J6_numberOfTrailingZeros_0f7a4 ml_X6_107 hR (by decide) (dk dX6_putValues_0 8 rfl) (c_J6_numberOfTrailingZeros_0f7a4 K (rfl : F_J6_numberOfTrailingZeros_0f7a4 (F_X11_at (t + 1) 7 p3 M) M = _)) ⟨Nat.zero_le _, Nat.zero_le _⟩ (Nat.le_of_ble_eq_true rfl) rfl ?_
  obtain ⟨q1, hq1, h⟩ := ob h
  refine e_callV (ci := 9) C cal_X9_placeAt im_X9_placeAt se_X9_placeAt ml_X6_110 rfl hR (by decide) (dk dX6_putValues_0 9 rfl) (K.1 _ (by rw [hw0]; decide)) (ent_o9 hw0) (c_X9_placeAt K hw0 hq1) ⟨Nat.zero_le _, Nat.zero_le _⟩ (Nat.le_of_ble_eq_true rfl) rfl ?_
  refine e_istore C [(6, .int q1), (5, .int (F_X11_at (t + 1) 7 p3 M)), (0, .ref (g_N g + t)), (1, .ref (g_N g + w0)), (2, .ref (g_N g + w1)), (3, .int p2), (4, .int p3)] (dk dX6_putValues_0 10 rfl) (by decide) rfl ?_
  refine e_aload_n C 2 (dk dX6_putValues_0 11 rfl) rfl rfl ?_
  refine gf_X6_values C K ht fl_X6_17 (dk dX6_putValues_0 12 rfl) ?_
  refine e_iconst C 0 (dk dX6_putValues_0 13 rfl) (by decide) ?_
  refine e_iload_n C 5 (dk dX6_putValues_0 14 rfl) rfl rfl ?_
  refine e_iload C 6 (dk dX6_putValues_0 15 rfl) rfl ?_
  suffices hm3 : EW X g (x_s X).heap.size n 7 (ent g Xo kd M) 0 0 40 [(6, .int q1), (5, .int (F_X11_at (t + 1) 7 p3 M)), (0, .ref (g_N g + t)), (1, .ref (g_N g + w0)), (2, .ref (g_N g + w1)), (3, .int p2), (4, .int p3)] [.int (if p2 = p3 then (1 : Int32) else (0 : Int32)), .int 0, .ref (g_N g + (t + 2))] from (by
    refine e_icmp_ne C 39 (dk dX6_putValues_0 16 rfl) (by decide) (fun c2 => ?_) (fun c2 => ?_)
    · rw [show (if p2 = p3 then (1 : Int32) else (0 : Int32)) = (0 : Int32) from if_neg c2] at hm3
      refine e_iconst C 0 (dk dX6_putValues_0 19 rfl) (by decide) ?_
      exact hm3
    · rw [show (if p2 = p3 then (1 : Int32) else (0 : Int32)) = (1 : Int32) from if_pos c2] at hm3
      refine e_iconst C 1 (dk dX6_putValues_0 17 rfl) (by decide) ?_
      refine e_goto C 40 (dk dX6_putValues_0 18 rfl) (by decide) ?_
      exact hm3)
  refine e_callSN C cal_X11_put sm_X11_put mn_X6_58 hR (by decide) (dk dX6_putValues_0 20 rfl) (c_X11_put K (kd_X6_values K ht) (rfl : F_X11_put (t + 2) 8 0 (if p2 = p3 then (1 : Int32) else (0 : Int32)) M = _)) ⟨Nat.zero_le _, Nat.zero_le _⟩ (Nat.le_of_ble_eq_true rfl) rfl ?_
  refine e_aload_n C 2 (dk dX6_putValues_0 21 rfl) rfl rfl ?_
  refine gf_X6_values C K ht fl_X6_17 (dk dX6_putValues_0 22 rfl) ?_
  refine e_iconst C 1 (dk dX6_putValues_0 23 rfl) (by decide) ?_
  refine e_aload_n C 4 (dk dX6_putValues_0 24 rfl) rfl rfl ?_
  refine gf_X8_coins C K hw1 fl_X6_62 (dk dX6_putValues_0 25 rfl) ?_
  refine e_iload_n C 5 (dk dX6_putValues_0 26 rfl) rfl rfl ?_
  refine e_callSN C cal_X11_at sm_X11_at mn_X6_47 hR (by decide) (dk dX6_putValues_0 27 rfl) (c_X11_at K (kd_X8_coins K hw1) (rfl : F_X11_at (w1 + 1) 7 p2 (F_X11_put (t + 2) 8 0 (if p2 = p3 then (1 : Int32) else (0 : Int32)) M) = _)) ⟨Nat.zero_le _, Nat.zero_le _⟩ (Nat.le_of_ble_eq_true rfl) rfl ?_
  refine e_callSN C cal_X11_put sm_X11_put mn_X6_58 hR (by decide) (dk dX6_putValues_0 28 rfl) (c_X11_put K (kd_X6_values K ht) (rfl : F_X11_put (t + 2) 8 1 (F_X11_at (w1 + 1) 7 p2 (F_X11_put (t + 2) 8 0 (if p2 = p3 then (1 : Int32) else (0 : Int32)) M)) (F_X11_put (t + 2) 8 0 (if p2 = p3 then (1 : Int32) else (0 : Int32)) M) = _)) ⟨Nat.zero_le _, Nat.zero_le _⟩ (Nat.le_of_ble_eq_true rfl) rfl ?_
  refine e_aload_n C 2 (dk dX6_putValues_0 29 rfl) rfl rfl ?_
  refine gf_X6_values C K ht fl_X6_17 (dk dX6_putValues_0 30 rfl) ?_
  refine e_iconst C 2 (dk dX6_putValues_0 31 rfl) (by decide) ?_
  refine e_aload_n C 4 (dk dX6_putValues_0 32 rfl) rfl rfl ?_
  refine gf_X8_coins C K hw1 fl_X6_62 (dk dX6_putValues_0 33 rfl) ?_
  refine e_iload C 6 (dk dX6_putValues_0 34 rfl) rfl ?_
  refine e_callSN C cal_X11_at sm_X11_at mn_X6_47 hR (by decide) (dk dX6_putValues_0 35 rfl) (c_X11_at K (kd_X8_coins K hw1) (rfl : F_X11_at (w1 + 1) 7 p3 (F_X11_put (t + 2) 8 1 (F_X11_at (w1 + 1) 7 p2 (F_X11_put (t + 2) 8 0 (if p2 = p3 then (1 : Int32) else (0 : Int32)) M)) (F_X11_put (t + 2) 8 0 (if p2 = p3 then (1 : Int32) else (0 : Int32)) M)) = _)) ⟨Nat.zero_le _, Nat.zero_le _⟩ (Nat.le_of_ble_eq_true rfl) rfl ?_
  refine e_callSN C cal_X11_put sm_X11_put mn_X6_58 hR (by decide) (dk dX6_putValues_0 36 rfl) (c_X11_put K (kd_X6_values K ht) (rfl : F_X11_put (t + 2) 8 2 (F_X11_at (w1 + 1) 7 p3 (F_X11_put (t + 2) 8 1 (F_X11_at (w1 + 1) 7 p2 (F_X11_put (t + 2) 8 0 (if p2 = p3 then (1 : Int32) else (0 : Int32)) M)) (F_X11_put (t + 2) 8 0 (if p2 = p3 then (1 : Int32) else (0 : Int32)) M))) (F_X11_put (t + 2) 8 1 (F_X11_at (w1 + 1) 7 p2 (F_X11_put (t + 2) 8 0 (if p2 = p3 then (1 : Int32) else (0 : Int32)) M)) (F_X11_put (t + 2) 8 0 (if p2 = p3 then (1 : Int32) else (0 : Int32)) M)) = _)) ⟨Nat.zero_le _, Nat.zero_le _⟩ (Nat.le_of_ble_eq_true rfl) rfl ?_
  refine e_aload_n C 2 (dk dX6_putValues_0 37 rfl) rfl rfl ?_
  refine gf_X6_values C K ht fl_X6_17 (dk dX6_putValues_0 38 rfl) ?_
  refine e_iconst C 3 (dk dX6_putValues_0 39 rfl) (by decide) ?_
  refine e_aload_n C 4 (dk dX6_putValues_0 40 rfl) rfl rfl ?_
  refine e_iload_n C 5 (dk dX6_putValues_0 41 rfl) rfl rfl ?_
  refine e_iload C 6 (dk dX6_putValues_0 42 rfl) rfl ?_
  refine e_callV (ci := 8) C cal_X8_doesKnow im_X8_doesKnow se_X8_doesKnow ml_X6_103 rfl hR (by decide) (dk dX6_putValues_0 43 rfl) (K.1 _ (by rw [hw1]; decide)) (ent_o8 hw1) (c_X8_doesKnow K hw1 (rfl : F_X8_doesKnow w1 p2 p3 (F_X11_put (t + 2) 8 2 (F_X11_at (w1 + 1) 7 p3 (F_X11_put (t + 2) 8 1 (F_X11_at (w1 + 1) 7 p2 (F_X11_put (t + 2) 8 0 (if p2 = p3 then (1 : Int32) else (0 : Int32)) M)) (F_X11_put (t + 2) 8 0 (if p2 = p3 then (1 : Int32) else (0 : Int32)) M))) (F_X11_put (t + 2) 8 1 (F_X11_at (w1 + 1) 7 p2 (F_X11_put (t + 2) 8 0 (if p2 = p3 then (1 : Int32) else (0 : Int32)) M)) (F_X11_put (t + 2) 8 0 (if p2 = p3 then (1 : Int32) else (0 : Int32)) M))) = _)) ⟨Nat.zero_le _, Nat.zero_le _⟩ (Nat.le_of_ble_eq_true rfl) rfl ?_
  suffices hm5 : EW X g (x_s X).heap.size n 7 (ent g Xo kd (F_X11_put (t + 2) 8 2 (F_X11_at (w1 + 1) 7 p3 (F_X11_put (t + 2) 8 1 (F_X11_at (w1 + 1) 7 p2 (F_X11_put (t + 2) 8 0 (if p2 = p3 then (1 : Int32) else (0 : Int32)) M)) (F_X11_put (t + 2) 8 0 (if p2 = p3 then (1 : Int32) else (0 : Int32)) M))) (F_X11_put (t + 2) 8 1 (F_X11_at (w1 + 1) 7 p2 (F_X11_put (t + 2) 8 0 (if p2 = p3 then (1 : Int32) else (0 : Int32)) M)) (F_X11_put (t + 2) 8 0 (if p2 = p3 then (1 : Int32) else (0 : Int32)) M)))) 0 0 96 [(6, .int q1), (5, .int (F_X11_at (t + 1) 7 p3 M)), (0, .ref (g_N g + t)), (1, .ref (g_N g + w0)), (2, .ref (g_N g + w1)), (3, .int p2), (4, .int p3)] [.int (if (bi (F_X8_doesKnow w1 p2 p3 (F_X11_put (t + 2) 8 2 (F_X11_at (w1 + 1) 7 p3 (F_X11_put (t + 2) 8 1 (F_X11_at (w1 + 1) 7 p2 (F_X11_put (t + 2) 8 0 (if p2 = p3 then (1 : Int32) else (0 : Int32)) M)) (F_X11_put (t + 2) 8 0 (if p2 = p3 then (1 : Int32) else (0 : Int32)) M))) (F_X11_put (t + 2) 8 1 (F_X11_at (w1 + 1) 7 p2 (F_X11_put (t + 2) 8 0 (if p2 = p3 then (1 : Int32) else (0 : Int32)) M)) (F_X11_put (t + 2) 8 0 (if p2 = p3 then (1 : Int32) else (0 : Int32)) M))))) = 0 then (0 : Int32) else (1 : Int32)), .int 3, .ref (g_N g + (t + 2))] from (by
    refine e_if_eq C 95 (dk dX6_putValues_0 44 rfl) (by decide) (fun c4 => ?_) (fun c4 => ?_)
    · rw [show (if (bi (F_X8_doesKnow w1 p2 p3 (F_X11_put (t + 2) 8 2 (F_X11_at (w1 + 1) 7 p3 (F_X11_put (t + 2) 8 1 (F_X11_at (w1 + 1) 7 p2 (F_X11_put (t + 2) 8 0 (if p2 = p3 then (1 : Int32) else (0 : Int32)) M)) (F_X11_put (t + 2) 8 0 (if p2 = p3 then (1 : Int32) else (0 : Int32)) M))) (F_X11_put (t + 2) 8 1 (F_X11_at (w1 + 1) 7 p2 (F_X11_put (t + 2) 8 0 (if p2 = p3 then (1 : Int32) else (0 : Int32)) M)) (F_X11_put (t + 2) 8 0 (if p2 = p3 then (1 : Int32) else (0 : Int32)) M))))) = 0 then (0 : Int32) else (1 : Int32)) = (0 : Int32) from if_pos c4] at hm5
      refine e_iconst C 0 (dk dX6_putValues_0 47 rfl) (by decide) ?_
      exact hm5
    · rw [show (if (bi (F_X8_doesKnow w1 p2 p3 (F_X11_put (t + 2) 8 2 (F_X11_at (w1 + 1) 7 p3 (F_X11_put (t + 2) 8 1 (F_X11_at (w1 + 1) 7 p2 (F_X11_put (t + 2) 8 0 (if p2 = p3 then (1 : Int32) else (0 : Int32)) M)) (F_X11_put (t + 2) 8 0 (if p2 = p3 then (1 : Int32) else (0 : Int32)) M))) (F_X11_put (t + 2) 8 1 (F_X11_at (w1 + 1) 7 p2 (F_X11_put (t + 2) 8 0 (if p2 = p3 then (1 : Int32) else (0 : Int32)) M)) (F_X11_put (t + 2) 8 0 (if p2 = p3 then (1 : Int32) else (0 : Int32)) M))))) = 0 then (0 : Int32) else (1 : Int32)) = (1 : Int32) from if_neg c4] at hm5
      refine e_iconst C 1 (dk dX6_putValues_0 45 rfl) (by decide) ?_
      refine e_goto C 96 (dk dX6_putValues_0 46 rfl) (by decide) ?_
      exact hm5)
  refine e_callSN C cal_X11_put sm_X11_put mn_X6_58 hR (by decide) (dk dX6_putValues_0 48 rfl) (c_X11_put K (kd_X6_values K ht) (rfl : F_X11_put (t + 2) 8 3 (if (bi (F_X8_doesKnow w1 p2 p3 (F_X11_put (t + 2) 8 2 (F_X11_at (w1 + 1) 7 p3 (F_X11_put (t + 2) 8 1 (F_X11_at (w1 + 1) 7 p2 (F_X11_put (t + 2) 8 0 (if p2 = p3 then (1 : Int32) else (0 : Int32)) M)) (F_X11_put (t + 2) 8 0 (if p2 = p3 then (1 : Int32) else (0 : Int32)) M))) (F_X11_put (t + 2) 8 1 (F_X11_at (w1 + 1) 7 p2 (F_X11_put (t + 2) 8 0 (if p2 = p3 then (1 : Int32) else (0 : Int32)) M)) (F_X11_put (t + 2) 8 0 (if p2 = p3 then (1 : Int32) else (0 : Int32)) M))))) = 0 then (0 : Int32) else (1 : Int32)) (F_X11_put (t + 2) 8 2 (F_X11_at (w1 + 1) 7 p3 (F_X11_put (t + 2) 8 1 (F_X11_at (w1 + 1) 7 p2 (F_X11_put (t + 2) 8 0 (if p2 = p3 then (1 : Int32) else (0 : Int32)) M)) (F_X11_put (t + 2) 8 0 (if p2 = p3 then (1 : Int32) else (0 : Int32)) M))) (F_X11_put (t + 2) 8 1 (F_X11_at (w1 + 1) 7 p2 (F_X11_put (t + 2) 8 0 (if p2 = p3 then (1 : Int32) else (0 : Int32)) M)) (F_X11_put (t + 2) 8 0 (if p2 = p3 then (1 : Int32) else (0 : Int32)) M))) = _)) ⟨Nat.zero_le _, Nat.zero_le _⟩ (Nat.le_of_ble_eq_true rfl) rfl ?_
  refine e_aload_n C 2 (dk dX6_putValues_0 49 rfl) rfl rfl ?_
  refine gf_X6_values C K ht fl_X6_17 (dk dX6_putValues_0 50 rfl) ?_
  refine e_iconst C 4 (dk dX6_putValues_0 51 rfl) (by decide) ?_
  refine e_iload C 1 (dk dX6_putValues_0 52 rfl) rfl ?_
  refine e_callS C cal_J6_bitCount_0f7a4 sm_J6_bitCount_0f7a4 ml_X6_97 hR (by decide) (dk dX6_putValues_0 53 rfl) (c_J6_bitCount_0f7a4 K (rfl : F_J6_bitCount_0f7a4 (F_X11_at (t + 1) 7 p3 M) = _)) ⟨Nat.zero_le _, Nat.zero_le _⟩ (Nat.le_of_ble_eq_true rfl) rfl ?_
  refine e_callSN C cal_X11_put sm_X11_put mn_X6_58 hR (by decide) (dk dX6_putValues_0 54 rfl) (c_X11_put K (kd_X6_values K ht) (rfl : F_X11_put (t + 2) 8 4 (F_J6_bitCount_0f7a4 (F_X11_at (t + 1) 7 p3 M)) (F_X11_put (t + 2) 8 3 (if (bi (F_X8_doesKnow w1 p2 p3 (F_X11_put (t + 2) 8 2 (F_X11_at (w1 + 1) 7 p3 (F_X11_put (t + 2) 8 1 (F_X11_at (w1 + 1) 7 p2 (F_X11_put (t + 2) 8 0 (if p2 = p3 then (1 : Int32) else (0 : Int32)) M)) (F_X11_put (t + 2) 8 0 (if p2 = p3 then (1 : Int32) else (0 : Int32)) M))) (F_X11_put (t + 2) 8 1 (F_X11_at (w1 + 1) 7 p2 (F_X11_put (t + 2) 8 0 (if p2 = p3 then (1 : Int32) else (0 : Int32)) M)) (F_X11_put (t + 2) 8 0 (if p2 = p3 then (1 : Int32) else (0 : Int32)) M))))) = 0 then (0 : Int32) else (1 : Int32)) (F_X11_put (t + 2) 8 2 (F_X11_at (w1 + 1) 7 p3 (F_X11_put (t + 2) 8 1 (F_X11_at (w1 + 1) 7 p2 (F_X11_put (t + 2) 8 0 (if p2 = p3 then (1 : Int32) else (0 : Int32)) M)) (F_X11_put (t + 2) 8 0 (if p2 = p3 then (1 : Int32) else (0 : Int32)) M))) (F_X11_put (t + 2) 8 1 (F_X11_at (w1 + 1) 7 p2 (F_X11_put (t + 2) 8 0 (if p2 = p3 then (1 : Int32) else (0 : Int32)) M)) (F_X11_put (t + 2) 8 0 (if p2 = p3 then (1 : Int32) else (0 : Int32)) M)))) = _)) ⟨Nat.zero_le _, Nat.zero_le _⟩ (Nat.le_of_ble_eq_true rfl) rfl ?_
  refine e_aload_n C 2 (dk dX6_putValues_0 55 rfl) rfl rfl ?_
  refine gf_X6_values C K ht fl_X6_17 (dk dX6_putValues_0 56 rfl) ?_
  refine e_iconst C 5 (dk dX6_putValues_0 57 rfl) (by decide) ?_
  refine e_aload_n C 4 (dk dX6_putValues_0 58 rfl) rfl rfl ?_
  refine gf_X8_walks C K hw1 fl_X6_44 (dk dX6_putValues_0 59 rfl) ?_
  refine e_iload C 6 (dk dX6_putValues_1 0 rfl) rfl ?_
  refine e_callSN C cal_X11_at sm_X11_at mn_X6_47 hR (by decide) (dk dX6_putValues_1 1 rfl) (c_X11_at K (kd_X8_walks K hw1) (rfl : F_X11_at (w1 + 3) 7 p3 (F_X11_put (t + 2) 8 4 (F_J6_bitCount_0f7a4 (F_X11_at (t + 1) 7 p3 M)) (F_X11_put (t + 2) 8 3 (if (bi (F_X8_doesKnow w1 p2 p3 (F_X11_put (t + 2) 8 2 (F_X11_at (w1 + 1) 7 p3 (F_X11_put (t + 2) 8 1 (F_X11_at (w1 + 1) 7 p2 (F_X11_put (t + 2) 8 0 (if p2 = p3 then (1 : Int32) else (0 : Int32)) M)) (F_X11_put (t + 2) 8 0 (if p2 = p3 then (1 : Int32) else (0 : Int32)) M))) (F_X11_put (t + 2) 8 1 (F_X11_at (w1 + 1) 7 p2 (F_X11_put (t + 2) 8 0 (if p2 = p3 then (1 : Int32) else (0 : Int32)) M)) (F_X11_put (t + 2) 8 0 (if p2 = p3 then (1 : Int32) else (0 : Int32)) M))))) = 0 then (0 : Int32) else (1 : Int32)) (F_X11_put (t + 2) 8 2 (F_X11_at (w1 + 1) 7 p3 (F_X11_put (t + 2) 8 1 (F_X11_at (w1 + 1) 7 p2 (F_X11_put (t + 2) 8 0 (if p2 = p3 then (1 : Int32) else (0 : Int32)) M)) (F_X11_put (t + 2) 8 0 (if p2 = p3 then (1 : Int32) else (0 : Int32)) M))) (F_X11_put (t + 2) 8 1 (F_X11_at (w1 + 1) 7 p2 (F_X11_put (t + 2) 8 0 (if p2 = p3 then (1 : Int32) else (0 : Int32)) M)) (F_X11_put (t + 2) 8 0 (if p2 = p3 then (1 : Int32) else (0 : Int32)) M))))) = _)) ⟨Nat.zero_le _, Nat.zero_le _⟩ (Nat.le_of_ble_eq_true rfl) rfl ?_
  refine e_iload C 0 (dk dX6_putValues_1 2 rfl) rfl ?_
  refine e_callSN C cal_X11_streetIn sm_X11_streetIn mn_X6_113 hR (by decide) (dk dX6_putValues_1 3 rfl) (c_X11_streetIn K (rfl : F_X11_streetIn (F_X11_at (w1 + 3) 7 p3 (F_X11_put (t + 2) 8 4 (F_J6_bitCount_0f7a4 (F_X11_at (t + 1) 7 p3 M)) (F_X11_put (t + 2) 8 3 (if (bi (F_X8_doesKnow w1 p2 p3 (F_X11_put (t + 2) 8 2 (F_X11_at (w1 + 1) 7 p3 (F_X11_put (t + 2) 8 1 (F_X11_at (w1 + 1) 7 p2 (F_X11_put (t + 2) 8 0 (if p2 = p3 then (1 : Int32) else (0 : Int32)) M)) (F_X11_put (t + 2) 8 0 (if p2 = p3 then (1 : Int32) else (0 : Int32)) M))) (F_X11_put (t + 2) 8 1 (F_X11_at (w1 + 1) 7 p2 (F_X11_put (t + 2) 8 0 (if p2 = p3 then (1 : Int32) else (0 : Int32)) M)) (F_X11_put (t + 2) 8 0 (if p2 = p3 then (1 : Int32) else (0 : Int32)) M))))) = 0 then (0 : Int32) else (1 : Int32)) (F_X11_put (t + 2) 8 2 (F_X11_at (w1 + 1) 7 p3 (F_X11_put (t + 2) 8 1 (F_X11_at (w1 + 1) 7 p2 (F_X11_put (t + 2) 8 0 (if p2 = p3 then (1 : Int32) else (0 : Int32)) M)) (F_X11_put (t + 2) 8 0 (if p2 = p3 then (1 : Int32) else (0 : Int32)) M))) (F_X11_put (t + 2) 8 1 (F_X11_at (w1 + 1) 7 p2 (F_X11_put (t + 2) 8 0 (if p2 = p3 then (1 : Int32) else (0 : Int32)) M)) (F_X11_put (t + 2) 8 0 (if p2 = p3 then (1 : Int32) else (0 : Int32)) M)))))) q1 = _)) ⟨Nat.zero_le _, Nat.zero_le _⟩ (Nat.le_of_ble_eq_true rfl) rfl ?_
  refine e_callSN C cal_X11_put sm_X11_put mn_X6_58 hR (by decide) (dk dX6_putValues_1 4 rfl) (c_X11_put K (kd_X6_values K ht) (rfl : F_X11_put (t + 2) 8 5 (F_X11_streetIn (F_X11_at (w1 + 3) 7 p3 (F_X11_put (t + 2) 8 4 (F_J6_bitCount_0f7a4 (F_X11_at (t + 1) 7 p3 M)) (F_X11_put (t + 2) 8 3 (if (bi (F_X8_doesKnow w1 p2 p3 (F_X11_put (t + 2) 8 2 (F_X11_at (w1 + 1) 7 p3 (F_X11_put (t + 2) 8 1 (F_X11_at (w1 + 1) 7 p2 (F_X11_put (t + 2) 8 0 (if p2 = p3 then (1 : Int32) else (0 : Int32)) M)) (F_X11_put (t + 2) 8 0 (if p2 = p3 then (1 : Int32) else (0 : Int32)) M))) (F_X11_put (t + 2) 8 1 (F_X11_at (w1 + 1) 7 p2 (F_X11_put (t + 2) 8 0 (if p2 = p3 then (1 : Int32) else (0 : Int32)) M)) (F_X11_put (t + 2) 8 0 (if p2 = p3 then (1 : Int32) else (0 : Int32)) M))))) = 0 then (0 : Int32) else (1 : Int32)) (F_X11_put (t + 2) 8 2 (F_X11_at (w1 + 1) 7 p3 (F_X11_put (t + 2) 8 1 (F_X11_at (w1 + 1) 7 p2 (F_X11_put (t + 2) 8 0 (if p2 = p3 then (1 : Int32) else (0 : Int32)) M)) (F_X11_put (t + 2) 8 0 (if p2 = p3 then (1 : Int32) else (0 : Int32)) M))) (F_X11_put (t + 2) 8 1 (F_X11_at (w1 + 1) 7 p2 (F_X11_put (t + 2) 8 0 (if p2 = p3 then (1 : Int32) else (0 : Int32)) M)) (F_X11_put (t + 2) 8 0 (if p2 = p3 then (1 : Int32) else (0 : Int32)) M)))))) q1) (F_X11_put (t + 2) 8 4 (F_J6_bitCount_0f7a4 (F_X11_at (t + 1) 7 p3 M)) (F_X11_put (t + 2) 8 3 (if (bi (F_X8_doesKnow w1 p2 p3 (F_X11_put (t + 2) 8 2 (F_X11_at (w1 + 1) 7 p3 (F_X11_put (t + 2) 8 1 (F_X11_at (w1 + 1) 7 p2 (F_X11_put (t + 2) 8 0 (if p2 = p3 then (1 : Int32) else (0 : Int32)) M)) (F_X11_put (t + 2) 8 0 (if p2 = p3 then (1 : Int32) else (0 : Int32)) M))) (F_X11_put (t + 2) 8 1 (F_X11_at (w1 + 1) 7 p2 (F_X11_put (t + 2) 8 0 (if p2 = p3 then (1 : Int32) else (0 : Int32)) M)) (F_X11_put (t + 2) 8 0 (if p2 = p3 then (1 : Int32) else (0 : Int32)) M))))) = 0 then (0 : Int32) else (1 : Int32)) (F_X11_put (t + 2) 8 2 (F_X11_at (w1 + 1) 7 p3 (F_X11_put (t + 2) 8 1 (F_X11_at (w1 + 1) 7 p2 (F_X11_put (t + 2) 8 0 (if p2 = p3 then (1 : Int32) else (0 : Int32)) M)) (F_X11_put (t + 2) 8 0 (if p2 = p3 then (1 : Int32) else (0 : Int32)) M))) (F_X11_put (t + 2) 8 1 (F_X11_at (w1 + 1) 7 p2 (F_X11_put (t + 2) 8 0 (if p2 = p3 then (1 : Int32) else (0 : Int32)) M)) (F_X11_put (t + 2) 8 0 (if p2 = p3 then (1 : Int32) else (0 : Int32)) M))))) = _)) ⟨Nat.zero_le _, Nat.zero_le _⟩ (Nat.le_of_ble_eq_true rfl) rfl ?_
  refine e_aload_n C 2 (dk dX6_putValues_1 5 rfl) rfl rfl ?_
  refine gf_X6_values C K ht fl_X6_17 (dk dX6_putValues_1 6 rfl) ?_
  refine e_bipush C 6 (dk dX6_putValues_1 7 rfl) (by decide) ?_
  refine e_aload_n C 2 (dk dX6_putValues_1 8 rfl) rfl rfl ?_
  refine gf_X6_lotCount C K ht fl_X6_26 (dk dX6_putValues_1 9 rfl) ?_
  refine e_callSN C cal_X11_put sm_X11_put mn_X6_58 hR (by decide) (dk dX6_putValues_1 10 rfl) (c_X11_put K (kd_X6_values K ht) (rfl : F_X11_put (t + 2) 8 6 ((F_X11_put (t + 2) 8 5 (F_X11_streetIn (F_X11_at (w1 + 3) 7 p3 (F_X11_put (t + 2) 8 4 (F_J6_bitCount_0f7a4 (F_X11_at (t + 1) 7 p3 M)) (F_X11_put (t + 2) 8 3 (if (bi (F_X8_doesKnow w1 p2 p3 (F_X11_put (t + 2) 8 2 (F_X11_at (w1 + 1) 7 p3 (F_X11_put (t + 2) 8 1 (F_X11_at (w1 + 1) 7 p2 (F_X11_put (t + 2) 8 0 (if p2 = p3 then (1 : Int32) else (0 : Int32)) M)) (F_X11_put (t + 2) 8 0 (if p2 = p3 then (1 : Int32) else (0 : Int32)) M))) (F_X11_put (t + 2) 8 1 (F_X11_at (w1 + 1) 7 p2 (F_X11_put (t + 2) 8 0 (if p2 = p3 then (1 : Int32) else (0 : Int32)) M)) (F_X11_put (t + 2) 8 0 (if p2 = p3 then (1 : Int32) else (0 : Int32)) M))))) = 0 then (0 : Int32) else (1 : Int32)) (F_X11_put (t + 2) 8 2 (F_X11_at (w1 + 1) 7 p3 (F_X11_put (t + 2) 8 1 (F_X11_at (w1 + 1) 7 p2 (F_X11_put (t + 2) 8 0 (if p2 = p3 then (1 : Int32) else (0 : Int32)) M)) (F_X11_put (t + 2) 8 0 (if p2 = p3 then (1 : Int32) else (0 : Int32)) M))) (F_X11_put (t + 2) 8 1 (F_X11_at (w1 + 1) 7 p2 (F_X11_put (t + 2) 8 0 (if p2 = p3 then (1 : Int32) else (0 : Int32)) M)) (F_X11_put (t + 2) 8 0 (if p2 = p3 then (1 : Int32) else (0 : Int32)) M)))))) q1) (F_X11_put (t + 2) 8 4 (F_J6_bitCount_0f7a4 (F_X11_at (t + 1) 7 p3 M)) (F_X11_put (t + 2) 8 3 (if (bi (F_X8_doesKnow w1 p2 p3 (F_X11_put (t + 2) 8 2 (F_X11_at (w1 + 1) 7 p3 (F_X11_put (t + 2) 8 1 (F_X11_at (w1 + 1) 7 p2 (F_X11_put (t + 2) 8 0 (if p2 = p3 then (1 : Int32) else (0 : Int32)) M)) (F_X11_put (t + 2) 8 0 (if p2 = p3 then (1 : Int32) else (0 : Int32)) M))) (F_X11_put (t + 2) 8 1 (F_X11_at (w1 + 1) 7 p2 (F_X11_put (t + 2) 8 0 (if p2 = p3 then (1 : Int32) else (0 : Int32)) M)) (F_X11_put (t + 2) 8 0 (if p2 = p3 then (1 : Int32) else (0 : Int32)) M))))) = 0 then (0 : Int32) else (1 : Int32)) (F_X11_put (t + 2) 8 2 (F_X11_at (w1 + 1) 7 p3 (F_X11_put (t + 2) 8 1 (F_X11_at (w1 + 1) 7 p2 (F_X11_put (t + 2) 8 0 (if p2 = p3 then (1 : Int32) else (0 : Int32)) M)) (F_X11_put (t + 2) 8 0 (if p2 = p3 then (1 : Int32) else (0 : Int32)) M))) (F_X11_put (t + 2) 8 1 (F_X11_at (w1 + 1) 7 p2 (F_X11_put (t + 2) 8 0 (if p2 = p3 then (1 : Int32) else (0 : Int32)) M)) (F_X11_put (t + 2) 8 0 (if p2 = p3 then (1 : Int32) else (0 : Int32)) M)))))) t 4) (F_X11_put (t + 2) 8 5 (F_X11_streetIn (F_X11_at (w1 + 3) 7 p3 (F_X11_put (t + 2) 8 4 (F_J6_bitCount_0f7a4 (F_X11_at (t + 1) 7 p3 M)) (F_X11_put (t + 2) 8 3 (if (bi (F_X8_doesKnow w1 p2 p3 (F_X11_put (t + 2) 8 2 (F_X11_at (w1 + 1) 7 p3 (F_X11_put (t + 2) 8 1 (F_X11_at (w1 + 1) 7 p2 (F_X11_put (t + 2) 8 0 (if p2 = p3 then (1 : Int32) else (0 : Int32)) M)) (F_X11_put (t + 2) 8 0 (if p2 = p3 then (1 : Int32) else (0 : Int32)) M))) (F_X11_put (t + 2) 8 1 (F_X11_at (w1 + 1) 7 p2 (F_X11_put (t + 2) 8 0 (if p2 = p3 then (1 : Int32) else (0 : Int32)) M)) (F_X11_put (t + 2) 8 0 (if p2 = p3 then (1 : Int32) else (0 : Int32)) M))))) = 0 then (0 : Int32) else (1 : Int32)) (F_X11_put (t + 2) 8 2 (F_X11_at (w1 + 1) 7 p3 (F_X11_put (t + 2) 8 1 (F_X11_at (w1 + 1) 7 p2 (F_X11_put (t + 2) 8 0 (if p2 = p3 then (1 : Int32) else (0 : Int32)) M)) (F_X11_put (t + 2) 8 0 (if p2 = p3 then (1 : Int32) else (0 : Int32)) M))) (F_X11_put (t + 2) 8 1 (F_X11_at (w1 + 1) 7 p2 (F_X11_put (t + 2) 8 0 (if p2 = p3 then (1 : Int32) else (0 : Int32)) M)) (F_X11_put (t + 2) 8 0 (if p2 = p3 then (1 : Int32) else (0 : Int32)) M)))))) q1) (F_X11_put (t + 2) 8 4 (F_J6_bitCount_0f7a4 (F_X11_at (t + 1) 7 p3 M)) (F_X11_put (t + 2) 8 3 (if (bi (F_X8_doesKnow w1 p2 p3 (F_X11_put (t + 2) 8 2 (F_X11_at (w1 + 1) 7 p3 (F_X11_put (t + 2) 8 1 (F_X11_at (w1 + 1) 7 p2 (F_X11_put (t + 2) 8 0 (if p2 = p3 then (1 : Int32) else (0 : Int32)) M)) (F_X11_put (t + 2) 8 0 (if p2 = p3 then (1 : Int32) else (0 : Int32)) M))) (F_X11_put (t + 2) 8 1 (F_X11_at (w1 + 1) 7 p2 (F_X11_put (t + 2) 8 0 (if p2 = p3 then (1 : Int32) else (0 : Int32)) M)) (F_X11_put (t + 2) 8 0 (if p2 = p3 then (1 : Int32) else (0 : Int32)) M))))) = 0 then (0 : Int32) else (1 : Int32)) (F_X11_put (t + 2) 8 2 (F_X11_at (w1 + 1) 7 p3 (F_X11_put (t + 2) 8 1 (F_X11_at (w1 + 1) 7 p2 (F_X11_put (t + 2) 8 0 (if p2 = p3 then (1 : Int32) else (0 : Int32)) M)) (F_X11_put (t + 2) 8 0 (if p2 = p3 then (1 : Int32) else (0 : Int32)) M))) (F_X11_put (t + 2) 8 1 (F_X11_at (w1 + 1) 7 p2 (F_X11_put (t + 2) 8 0 (if p2 = p3 then (1 : Int32) else (0 : Int32)) M)) (F_X11_put (t + 2) 8 0 (if p2 = p3 then (1 : Int32) else (0 : Int32)) M)))))) = _)) ⟨Nat.zero_le _, Nat.zero_le _⟩ (Nat.le_of_ble_eq_true rfl) rfl ?_
  refine e_aload_n C 2 (dk dX6_putValues_1 11 rfl) rfl rfl ?_
  refine gf_X6_values C K ht fl_X6_17 (dk dX6_putValues_1 12 rfl) ?_
  refine e_bipush C 7 (dk dX6_putValues_1 13 rfl) (by decide) ?_
  refine e_aload_n C 4 (dk dX6_putValues_1 14 rfl) rfl rfl ?_
  refine gf_X8_night C K hw1 fl_X6_51 (dk dX6_putValues_1 15 rfl) ?_
  refine e_callSN C cal_X11_put sm_X11_put mn_X6_58 hR (by decide) (dk dX6_putValues_1 16 rfl) (c_X11_put K (kd_X6_values K ht) (rfl : F_X11_put (t + 2) 8 7 ((F_X11_put (t + 2) 8 6 ((F_X11_put (t + 2) 8 5 (F_X11_streetIn (F_X11_at (w1 + 3) 7 p3 (F_X11_put (t + 2) 8 4 (F_J6_bitCount_0f7a4 (F_X11_at (t + 1) 7 p3 M)) (F_X11_put (t + 2) 8 3 (if (bi (F_X8_doesKnow w1 p2 p3 (F_X11_put (t + 2) 8 2 (F_X11_at (w1 + 1) 7 p3 (F_X11_put (t + 2) 8 1 (F_X11_at (w1 + 1) 7 p2 (F_X11_put (t + 2) 8 0 (if p2 = p3 then (1 : Int32) else (0 : Int32)) M)) (F_X11_put (t + 2) 8 0 (if p2 = p3 then (1 : Int32) else (0 : Int32)) M))) (F_X11_put (t + 2) 8 1 (F_X11_at (w1 + 1) 7 p2 (F_X11_put (t + 2) 8 0 (if p2 = p3 then (1 : Int32) else (0 : Int32)) M)) (F_X11_put (t + 2) 8 0 (if p2 = p3 then (1 : Int32) else (0 : Int32)) M))))) = 0 then (0 : Int32) else (1 : Int32)) (F_X11_put (t + 2) 8 2 (F_X11_at (w1 + 1) 7 p3 (F_X11_put (t + 2) 8 1 (F_X11_at (w1 + 1) 7 p2 (F_X11_put (t + 2) 8 0 (if p2 = p3 then (1 : Int32) else (0 : Int32)) M)) (F_X11_put (t + 2) 8 0 (if p2 = p3 then (1 : Int32) else (0 : Int32)) M))) (F_X11_put (t + 2) 8 1 (F_X11_at (w1 + 1) 7 p2 (F_X11_put (t + 2) 8 0 (if p2 = p3 then (1 : Int32) else (0 : Int32)) M)) (F_X11_put (t + 2) 8 0 (if p2 = p3 then (1 : Int32) else (0 : Int32)) M)))))) q1) (F_X11_put (t + 2) 8 4 (F_J6_bitCount_0f7a4 (F_X11_at (t + 1) 7 p3 M)) (F_X11_put (t + 2) 8 3 (if (bi (F_X8_doesKnow w1 p2 p3 (F_X11_put (t + 2) 8 2 (F_X11_at (w1 + 1) 7 p3 (F_X11_put (t + 2) 8 1 (F_X11_at (w1 + 1) 7 p2 (F_X11_put (t + 2) 8 0 (if p2 = p3 then (1 : Int32) else (0 : Int32)) M)) (F_X11_put (t + 2) 8 0 (if p2 = p3 then (1 : Int32) else (0 : Int32)) M))) (F_X11_put (t + 2) 8 1 (F_X11_at (w1 + 1) 7 p2 (F_X11_put (t + 2) 8 0 (if p2 = p3 then (1 : Int32) else (0 : Int32)) M)) (F_X11_put (t + 2) 8 0 (if p2 = p3 then (1 : Int32) else (0 : Int32)) M))))) = 0 then (0 : Int32) else (1 : Int32)) (F_X11_put (t + 2) 8 2 (F_X11_at (w1 + 1) 7 p3 (F_X11_put (t + 2) 8 1 (F_X11_at (w1 + 1) 7 p2 (F_X11_put (t + 2) 8 0 (if p2 = p3 then (1 : Int32) else (0 : Int32)) M)) (F_X11_put (t + 2) 8 0 (if p2 = p3 then (1 : Int32) else (0 : Int32)) M))) (F_X11_put (t + 2) 8 1 (F_X11_at (w1 + 1) 7 p2 (F_X11_put (t + 2) 8 0 (if p2 = p3 then (1 : Int32) else (0 : Int32)) M)) (F_X11_put (t + 2) 8 0 (if p2 = p3 then (1 : Int32) else (0 : Int32)) M)))))) t 4) (F_X11_put (t + 2) 8 5 (F_X11_streetIn (F_X11_at (w1 + 3) 7 p3 (F_X11_put (t + 2) 8 4 (F_J6_bitCount_0f7a4 (F_X11_at (t + 1) 7 p3 M)) (F_X11_put (t + 2) 8 3 (if (bi (F_X8_doesKnow w1 p2 p3 (F_X11_put (t + 2) 8 2 (F_X11_at (w1 + 1) 7 p3 (F_X11_put (t + 2) 8 1 (F_X11_at (w1 + 1) 7 p2 (F_X11_put (t + 2) 8 0 (if p2 = p3 then (1 : Int32) else (0 : Int32)) M)) (F_X11_put (t + 2) 8 0 (if p2 = p3 then (1 : Int32) else (0 : Int32)) M))) (F_X11_put (t + 2) 8 1 (F_X11_at (w1 + 1) 7 p2 (F_X11_put (t + 2) 8 0 (if p2 = p3 then (1 : Int32) else (0 : Int32)) M)) (F_X11_put (t + 2) 8 0 (if p2 = p3 then (1 : Int32) else (0 : Int32)) M))))) = 0 then (0 : Int32) else (1 : Int32)) (F_X11_put (t + 2) 8 2 (F_X11_at (w1 + 1) 7 p3 (F_X11_put (t + 2) 8 1 (F_X11_at (w1 + 1) 7 p2 (F_X11_put (t + 2) 8 0 (if p2 = p3 then (1 : Int32) else (0 : Int32)) M)) (F_X11_put (t + 2) 8 0 (if p2 = p3 then (1 : Int32) else (0 : Int32)) M))) (F_X11_put (t + 2) 8 1 (F_X11_at (w1 + 1) 7 p2 (F_X11_put (t + 2) 8 0 (if p2 = p3 then (1 : Int32) else (0 : Int32)) M)) (F_X11_put (t + 2) 8 0 (if p2 = p3 then (1 : Int32) else (0 : Int32)) M)))))) q1) (F_X11_put (t + 2) 8 4 (F_J6_bitCount_0f7a4 (F_X11_at (t + 1) 7 p3 M)) (F_X11_put (t + 2) 8 3 (if (bi (F_X8_doesKnow w1 p2 p3 (F_X11_put (t + 2) 8 2 (F_X11_at (w1 + 1) 7 p3 (F_X11_put (t + 2) 8 1 (F_X11_at (w1 + 1) 7 p2 (F_X11_put (t + 2) 8 0 (if p2 = p3 then (1 : Int32) else (0 : Int32)) M)) (F_X11_put (t + 2) 8 0 (if p2 = p3 then (1 : Int32) else (0 : Int32)) M))) (F_X11_put (t + 2) 8 1 (F_X11_at (w1 + 1) 7 p2 (F_X11_put (t + 2) 8 0 (if p2 = p3 then (1 : Int32) else (0 : Int32)) M)) (F_X11_put (t + 2) 8 0 (if p2 = p3 then (1 : Int32) else (0 : Int32)) M))))) = 0 then (0 : Int32) else (1 : Int32)) (F_X11_put (t + 2) 8 2 (F_X11_at (w1 + 1) 7 p3 (F_X11_put (t + 2) 8 1 (F_X11_at (w1 + 1) 7 p2 (F_X11_put (t + 2) 8 0 (if p2 = p3 then (1 : Int32) else (0 : Int32)) M)) (F_X11_put (t + 2) 8 0 (if p2 = p3 then (1 : Int32) else (0 : Int32)) M))) (F_X11_put (t + 2) 8 1 (F_X11_at (w1 + 1) 7 p2 (F_X11_put (t + 2) 8 0 (if p2 = p3 then (1 : Int32) else (0 : Int32)) M)) (F_X11_put (t + 2) 8 0 (if p2 = p3 then (1 : Int32) else (0 : Int32)) M))))))) w1 0) (F_X11_put (t + 2) 8 6 ((F_X11_put (t + 2) 8 5 (F_X11_streetIn (F_X11_at (w1 + 3) 7 p3 (F_X11_put (t + 2) 8 4 (F_J6_bitCount_0f7a4 (F_X11_at (t + 1) 7 p3 M)) (F_X11_put (t + 2) 8 3 (if (bi (F_X8_doesKnow w1 p2 p3 (F_X11_put (t + 2) 8 2 (F_X11_at (w1 + 1) 7 p3 (F_X11_put (t + 2) 8 1 (F_X11_at (w1 + 1) 7 p2 (F_X11_put (t + 2) 8 0 (if p2 = p3 then (1 : Int32) else (0 : Int32)) M)) (F_X11_put (t + 2) 8 0 (if p2 = p3 then (1 : Int32) else (0 : Int32)) M))) (F_X11_put (t + 2) 8 1 (F_X11_at (w1 + 1) 7 p2 (F_X11_put (t + 2) 8 0 (if p2 = p3 then (1 : Int32) else (0 : Int32)) M)) (F_X11_put (t + 2) 8 0 (if p2 = p3 then (1 : Int32) else (0 : Int32)) M))))) = 0 then (0 : Int32) else (1 : Int32)) (F_X11_put (t + 2) 8 2 (F_X11_at (w1 + 1) 7 p3 (F_X11_put (t + 2) 8 1 (F_X11_at (w1 + 1) 7 p2 (F_X11_put (t + 2) 8 0 (if p2 = p3 then (1 : Int32) else (0 : Int32)) M)) (F_X11_put (t + 2) 8 0 (if p2 = p3 then (1 : Int32) else (0 : Int32)) M))) (F_X11_put (t + 2) 8 1 (F_X11_at (w1 + 1) 7 p2 (F_X11_put (t + 2) 8 0 (if p2 = p3 then (1 : Int32) else (0 : Int32)) M)) (F_X11_put (t + 2) 8 0 (if p2 = p3 then (1 : Int32) else (0 : Int32)) M)))))) q1) (F_X11_put (t + 2) 8 4 (F_J6_bitCount_0f7a4 (F_X11_at (t + 1) 7 p3 M)) (F_X11_put (t + 2) 8 3 (if (bi (F_X8_doesKnow w1 p2 p3 (F_X11_put (t + 2) 8 2 (F_X11_at (w1 + 1) 7 p3 (F_X11_put (t + 2) 8 1 (F_X11_at (w1 + 1) 7 p2 (F_X11_put (t + 2) 8 0 (if p2 = p3 then (1 : Int32) else (0 : Int32)) M)) (F_X11_put (t + 2) 8 0 (if p2 = p3 then (1 : Int32) else (0 : Int32)) M))) (F_X11_put (t + 2) 8 1 (F_X11_at (w1 + 1) 7 p2 (F_X11_put (t + 2) 8 0 (if p2 = p3 then (1 : Int32) else (0 : Int32)) M)) (F_X11_put (t + 2) 8 0 (if p2 = p3 then (1 : Int32) else (0 : Int32)) M))))) = 0 then (0 : Int32) else (1 : Int32)) (F_X11_put (t + 2) 8 2 (F_X11_at (w1 + 1) 7 p3 (F_X11_put (t + 2) 8 1 (F_X11_at (w1 + 1) 7 p2 (F_X11_put (t + 2) 8 0 (if p2 = p3 then (1 : Int32) else (0 : Int32)) M)) (F_X11_put (t + 2) 8 0 (if p2 = p3 then (1 : Int32) else (0 : Int32)) M))) (F_X11_put (t + 2) 8 1 (F_X11_at (w1 + 1) 7 p2 (F_X11_put (t + 2) 8 0 (if p2 = p3 then (1 : Int32) else (0 : Int32)) M)) (F_X11_put (t + 2) 8 0 (if p2 = p3 then (1 : Int32) else (0 : Int32)) M)))))) t 4) (F_X11_put (t + 2) 8 5 (F_X11_streetIn (F_X11_at (w1 + 3) 7 p3 (F_X11_put (t + 2) 8 4 (F_J6_bitCount_0f7a4 (F_X11_at (t + 1) 7 p3 M)) (F_X11_put (t + 2) 8 3 (if (bi (F_X8_doesKnow w1 p2 p3 (F_X11_put (t + 2) 8 2 (F_X11_at (w1 + 1) 7 p3 (F_X11_put (t + 2) 8 1 (F_X11_at (w1 + 1) 7 p2 (F_X11_put (t + 2) 8 0 (if p2 = p3 then (1 : Int32) else (0 : Int32)) M)) (F_X11_put (t + 2) 8 0 (if p2 = p3 then (1 : Int32) else (0 : Int32)) M))) (F_X11_put (t + 2) 8 1 (F_X11_at (w1 + 1) 7 p2 (F_X11_put (t + 2) 8 0 (if p2 = p3 then (1 : Int32) else (0 : Int32)) M)) (F_X11_put (t + 2) 8 0 (if p2 = p3 then (1 : Int32) else (0 : Int32)) M))))) = 0 then (0 : Int32) else (1 : Int32)) (F_X11_put (t + 2) 8 2 (F_X11_at (w1 + 1) 7 p3 (F_X11_put (t + 2) 8 1 (F_X11_at (w1 + 1) 7 p2 (F_X11_put (t + 2) 8 0 (if p2 = p3 then (1 : Int32) else (0 : Int32)) M)) (F_X11_put (t + 2) 8 0 (if p2 = p3 then (1 : Int32) else (0 : Int32)) M))) (F_X11_put (t + 2) 8 1 (F_X11_at (w1 + 1) 7 p2 (F_X11_put (t + 2) 8 0 (if p2 = p3 then (1 : Int32) else (0 : Int32)) M)) (F_X11_put (t + 2) 8 0 (if p2 = p3 then (1 : Int32) else (0 : Int32)) M)))))) q1) (F_X11_put (t + 2) 8 4 (F_J6_bitCount_0f7a4 (F_X11_at (t + 1) 7 p3 M)) (F_X11_put (t + 2) 8 3 (if (bi (F_X8_doesKnow w1 p2 p3 (F_X11_put (t + 2) 8 2 (F_X11_at (w1 + 1) 7 p3 (F_X11_put (t + 2) 8 1 (F_X11_at (w1 + 1) 7 p2 (F_X11_put (t + 2) 8 0 (if p2 = p3 then (1 : Int32) else (0 : Int32)) M)) (F_X11_put (t + 2) 8 0 (if p2 = p3 then (1 : Int32) else (0 : Int32)) M))) (F_X11_put (t + 2) 8 1 (F_X11_at (w1 + 1) 7 p2 (F_X11_put (t + 2) 8 0 (if p2 = p3 then (1 : Int32) else (0 : Int32)) M)) (F_X11_put (t + 2) 8 0 (if p2 = p3 then (1 : Int32) else (0 : Int32)) M))))) = 0 then (0 : Int32) else (1 : Int32)) (F_X11_put (t + 2) 8 2 (F_X11_at (w1 + 1) 7 p3 (F_X11_put (t + 2) 8 1 (F_X11_at (w1 + 1) 7 p2 (F_X11_put (t + 2) 8 0 (if p2 = p3 then (1 : Int32) else (0 : Int32)) M)) (F_X11_put (t + 2) 8 0 (if p2 = p3 then (1 : Int32) else (0 : Int32)) M))) (F_X11_put (t + 2) 8 1 (F_X11_at (w1 + 1) 7 p2 (F_X11_put (t + 2) 8 0 (if p2 = p3 then (1 : Int32) else (0 : Int32)) M)) (F_X11_put (t + 2) 8 0 (if p2 = p3 then (1 : Int32) else (0 : Int32)) M))))))) = _)) ⟨Nat.zero_le _, Nat.zero_le _⟩ (Nat.le_of_ble_eq_true rfl) rfl ?_
  obtain rfl := Option.some.inj h
  exact e_vret C B (dk dX6_putValues_1 17 rfl)
set_option maxRecDepth 20000 in
theorem c_X7_copy {g : WC} {Xo : Nat → va_E} {n : Nat} {kd : Nat → Nat} (K : KD n kd) {t : Nat} {w0 : Nat} (ht : kd t = 8) (hw0 : kd w0 = 8) {M : Mem} {res : Mem} (h : F_X7_copy t w0 M = some res) : MC g yX7_copy cX7_copy 2 none 1 n [.ref (g_N g + t), .ref (g_N g + w0)] (ent g Xo kd M) none (ent g Xo kd res) := by
  refine MC_of pn_X7 (Nat.le_of_ble_eq_true rfl) (fun X C B => ?_)
  have hR := B.1
  rw [F_X7_copy] at h
  refine e_aload_n C 0 (dk dX7_copy 0 rfl) rfl rfl ?_
  refine e_aload_n C 1 (dk dX7_copy 1 rfl) rfl rfl ?_
  refine gf_X7_count C K hw0 fl_X7_21 (dk dX7_copy 2 rfl) ?_
  refine pf_X7_count C K ht fl_X7_21 (dk dX7_copy 3 rfl) ?_
  refine e_aload_n C 1 (dk dX7_copy 4 rfl) rfl rfl ?_
  refine gf_X7_people C K hw0 fl_X7_9 (dk dX7_copy 5 rfl) ?_
  refine e_aload_n C 0 (dk dX7_copy 6 rfl) rfl rfl ?_
  refine gf_X7_people C K ht fl_X7_9 (dk dX7_copy 7 rfl) ?_
  obtain ⟨q1, hq1, h⟩ := ob h
  refine e_callSN C cal_X11_copyRow sm_X11_copyRow mn_X7_33 hR (by decide) (dk dX7_copy 8 rfl) (c_X11_copyRow K (kd_X7_people K hw0) (kd_X7_people K ht) hq1) ⟨Nat.zero_le _, Nat.zero_le _⟩ (Nat.le_of_ble_eq_true rfl) rfl ?_
  refine e_aload_n C 1 (dk dX7_copy 9 rfl) rfl rfl ?_
  refine gf_X7_nights C K hw0 fl_X7_15 (dk dX7_copy 10 rfl) ?_
  refine e_aload_n C 0 (dk dX7_copy 11 rfl) rfl rfl ?_
  refine gf_X7_nights C K ht fl_X7_15 (dk dX7_copy 12 rfl) ?_
  obtain ⟨q2, hq2, h⟩ := ob h
  refine e_callSN C cal_X11_copyRow sm_X11_copyRow mn_X7_33 hR (by decide) (dk dX7_copy 13 rfl) (c_X11_copyRow K (kd_X7_nights K hw0) (kd_X7_nights K ht) hq2) ⟨Nat.zero_le _, Nat.zero_le _⟩ (Nat.le_of_ble_eq_true rfl) rfl ?_
  refine e_aload_n C 1 (dk dX7_copy 14 rfl) rfl rfl ?_
  refine gf_X7_wasSeen C K hw0 fl_X7_18 (dk dX7_copy 15 rfl) ?_
  refine e_aload_n C 0 (dk dX7_copy 16 rfl) rfl rfl ?_
  refine gf_X7_wasSeen C K ht fl_X7_18 (dk dX7_copy 17 rfl) ?_
  obtain ⟨q3, hq3, h⟩ := ob h
  refine e_callSN C cal_X11_copyRow sm_X11_copyRow mn_X7_33 hR (by decide) (dk dX7_copy 18 rfl) (c_X11_copyRow K (kd_X7_wasSeen K hw0) (kd_X7_wasSeen K ht) hq3) ⟨Nat.zero_le _, Nat.zero_le _⟩ (Nat.le_of_ble_eq_true rfl) rfl ?_
  obtain rfl := Option.some.inj h
  exact e_vret C B (dk dX7_copy 19 rfl)
set_option maxRecDepth 20000 in
theorem c_X8_copy {g : WC} {Xo : Nat → va_E} {n : Nat} {kd : Nat → Nat} (K : KD n kd) {t : Nat} {w0 : Nat} (ht : kd t = 9) (hw0 : kd w0 = 9) {M : Mem} {res : Mem} (h : F_X8_copy t w0 M = some res) : MC g yX8_copy cX8_copy 2 none 1 n [.ref (g_N g + t), .ref (g_N g + w0)] (ent g Xo kd M) none (ent g Xo kd res) := by
  refine MC_of pn_X8 (Nat.le_of_ble_eq_true rfl) (fun X C B => ?_)
  have hR := B.1
  rw [F_X8_copy] at h
  refine e_aload_n C 0 (dk dX8_copy 0 rfl) rfl rfl ?_
  refine e_aload_n C 1 (dk dX8_copy 1 rfl) rfl rfl ?_
  refine gf_X8_night C K hw0 fl_X8_9 (dk dX8_copy 2 rfl) ?_
  refine pf_X8_night C K ht fl_X8_9 (dk dX8_copy 3 rfl) ?_
  refine e_aload_n C 0 (dk dX8_copy 4 rfl) rfl rfl ?_
  refine e_aload_n C 1 (dk dX8_copy 5 rfl) rfl rfl ?_
  refine gf_X8_dark C K hw0 fl_X8_15 (dk dX8_copy 6 rfl) ?_
  refine pf_X8_dark C K ht fl_X8_15 (dk dX8_copy 7 rfl) ?_
  refine e_aload_n C 0 (dk dX8_copy 8 rfl) rfl rfl ?_
  refine e_aload_n C 1 (dk dX8_copy 9 rfl) rfl rfl ?_
  refine gf_X8_bribing C K hw0 fl_X8_18 (dk dX8_copy 10 rfl) ?_
  refine pf_X8_bribing C K ht fl_X8_18 (dk dX8_copy 11 rfl) ?_
  refine e_aload_n C 0 (dk dX8_copy 12 rfl) rfl rfl ?_
  refine e_aload_n C 1 (dk dX8_copy 13 rfl) rfl rfl ?_
  refine gf_X8_reserve C K hw0 fl_X8_21 (dk dX8_copy 14 rfl) ?_
  refine pf_X8_reserve C K ht fl_X8_21 (dk dX8_copy 15 rfl) ?_
  refine e_aload_n C 1 (dk dX8_copy 16 rfl) rfl rfl ?_
  refine gf_X8_coins C K hw0 fl_X8_24 (dk dX8_copy 17 rfl) ?_
  refine e_aload_n C 0 (dk dX8_copy 18 rfl) rfl rfl ?_
  refine gf_X8_coins C K ht fl_X8_24 (dk dX8_copy 19 rfl) ?_
  obtain ⟨q1, hq1, h⟩ := ob h
  refine e_callSN C cal_X11_copyRow sm_X11_copyRow mn_X8_50 hR (by decide) (dk dX8_copy 20 rfl) (c_X11_copyRow K (kd_X8_coins K hw0) (kd_X8_coins K ht) hq1) ⟨Nat.zero_le _, Nat.zero_le _⟩ (Nat.le_of_ble_eq_true rfl) rfl ?_
  refine e_aload_n C 1 (dk dX8_copy 21 rfl) rfl rfl ?_
  refine gf_X8_knows C K hw0 fl_X8_28 (dk dX8_copy 22 rfl) ?_
  refine e_aload_n C 0 (dk dX8_copy 23 rfl) rfl rfl ?_
  refine gf_X8_knows C K ht fl_X8_28 (dk dX8_copy 24 rfl) ?_
  obtain ⟨q2, hq2, h⟩ := ob h
  refine e_callSN C cal_X11_copyRow sm_X11_copyRow mn_X8_50 hR (by decide) (dk dX8_copy 25 rfl) (c_X11_copyRow K (kd_X8_knows K hw0) (kd_X8_knows K ht) hq2) ⟨Nat.zero_le _, Nat.zero_le _⟩ (Nat.le_of_ble_eq_true rfl) rfl ?_
  refine e_aload_n C 1 (dk dX8_copy 26 rfl) rfl rfl ?_
  refine gf_X8_walks C K hw0 fl_X8_31 (dk dX8_copy 27 rfl) ?_
  refine e_aload_n C 0 (dk dX8_copy 28 rfl) rfl rfl ?_
  refine gf_X8_walks C K ht fl_X8_31 (dk dX8_copy 29 rfl) ?_
  obtain ⟨q3, hq3, h⟩ := ob h
  refine e_callSN C cal_X11_copyRow sm_X11_copyRow mn_X8_50 hR (by decide) (dk dX8_copy 30 rfl) (c_X11_copyRow K (kd_X8_walks K hw0) (kd_X8_walks K ht) hq3) ⟨Nat.zero_le _, Nat.zero_le _⟩ (Nat.le_of_ble_eq_true rfl) rfl ?_
  obtain rfl := Option.some.inj h
  exact e_vret C B (dk dX8_copy 31 rfl)
set_option maxRecDepth 20000 in
theorem c_X8_move {g : WC} {Xo : Nat → va_E} {n : Nat} {kd : Nat → Nat} (K : KD n kd) {t : Nat} {p0 : Int32} {p1 : Int32} {p2 : Int32} (ht : kd t = 9) {M : Mem} {res : Mem} (h : F_X8_move t p0 p1 p2 M = res) : MC g yX8_move cX8_move 4 none 1 n [.ref (g_N g + t), .int p0, .int p1, .int p2] (ent g Xo kd M) none (ent g Xo kd res) := by
  refine MC_of pn_X8 (Nat.le_of_ble_eq_true rfl) (fun X C B => ?_)
  have hR := B.1
  rw [F_X8_move] at h
  refine e_aload_n C 0 (dk dX8_move 0 rfl) rfl rfl ?_
  refine gf_X8_walks C K ht fl_X8_31 (dk dX8_move 1 rfl) ?_
  refine e_iload_n C 1 (dk dX8_move 2 rfl) rfl rfl ?_
  refine e_aload_n C 0 (dk dX8_move 3 rfl) rfl rfl ?_
  refine gf_X8_walks C K ht fl_X8_31 (dk dX8_move 4 rfl) ?_
  refine e_iload_n C 1 (dk dX8_move 5 rfl) rfl rfl ?_
  refine e_callSN C cal_X11_at sm_X11_at mn_X8_41 hR (by decide) (dk dX8_move 6 rfl) (c_X11_at K (kd_X8_walks K ht) (rfl : F_X11_at (t + 3) 7 p0 M = _)) ⟨Nat.zero_le _, Nat.zero_le _⟩ (Nat.le_of_ble_eq_true rfl) rfl ?_
  refine e_iload_n C 2 (dk dX8_move 7 rfl) rfl rfl ?_
  refine e_iload_n C 3 (dk dX8_move 8 rfl) rfl rfl ?_
  refine e_callSN C cal_X11_walkWith sm_X11_walkWith mn_X8_64 hR (by decide) (dk dX8_move 9 rfl) (c_X11_walkWith K (rfl : F_X11_walkWith (F_X11_at (t + 3) 7 p0 M) p1 p2 = _)) ⟨Nat.zero_le _, Nat.zero_le _⟩ (Nat.le_of_ble_eq_true rfl) rfl ?_
  refine e_callSN C cal_X11_put sm_X11_put mn_X8_45 hR (by decide) (dk dX8_move 10 rfl) (c_X11_put K (kd_X8_walks K ht) (rfl : F_X11_put (t + 3) 7 p0 (F_X11_walkWith (F_X11_at (t + 3) 7 p0 M) p1 p2) M = _)) ⟨Nat.zero_le _, Nat.zero_le _⟩ (Nat.le_of_ble_eq_true rfl) rfl ?_
  subst h
  exact e_vret C B (dk dX8_move 11 rfl)
set_option maxRecDepth 20000 in
theorem l_X9_clear_37 {X : FX} {g : WC} {Xo : Nat → va_E} {n : Nat} {kd : Nat → Nat} (C : Cx X g RX9 cX9_clear 2) (K : KD n kd) {t : Nat} (ht : kd t = 10) (hR : x_R X = rm 1) {OK : Mem → Prop} (hx : ∀ s, OK s → EW X g (x_s X).heap.size n 2 (ent g Xo kd s) 0 0 59 [(0, .ref (g_N g + t))] []) : ∀ (N9 : Nat) (x1 : Int32) (M : Mem) (q : Mem), L_X9_clear_37 t N9 x1 M = some q → OK q → EW X g (x_s X).heap.size n 2 (ent g Xo kd M) 0 0 37 [(0, .ref (g_N g + t)), (1, .int x1)] [] := by
  intro N9
  induction N9 with
  | zero =>
    intro x1 M q h
    rw [L_X9_clear_37.eq_1] at h
    cases h
  | succ m9 ih =>
    intro x1 M q h hOK
    rw [L_X9_clear_37.eq_2] at h
    refine e_iload_n C 1 (dk dX9_clear 23 rfl) rfl rfl ?_
    refine e_aload_n C 0 (dk dX9_clear 24 rfl) rfl rfl ?_
    refine gf_X9_near C K ht fl_X9_9 (dk dX9_clear 25 rfl) ?_
    refine m_alen C K (kd_X9_near K ht) 8 (by decide) (dk dX9_clear 26 rfl) ?_
    refine e_icmp_ge C 59 (dk dX9_clear 27 rfl) (by decide) (fun c1 => ?_) (fun c1 => ?_)
    · rw [if_pos c1] at h
      obtain rfl := Option.some.inj h
      refine e_lv [0] rfl ?_
      exact hx _ hOK
    · rw [if_neg c1] at h
      refine e_aload_n C 0 (dk dX9_clear 28 rfl) rfl rfl ?_
      refine gf_X9_near C K ht fl_X9_9 (dk dX9_clear 29 rfl) ?_
      refine e_iload_n C 1 (dk dX9_clear 30 rfl) rfl rfl ?_
      refine e_iconst C 0 (dk dX9_clear 31 rfl) (by decide) ?_
      obtain ⟨M2, hM2, h⟩ := ob h
      refine m_ast C K (kd_X9_near K ht) (dk dX9_clear 32 rfl) hM2 ?_
      refine e_iinc C [(1, .int (x1 + 1)), (0, .ref (g_N g + t))] 1 1 (dk dX9_clear 33 rfl) rfl (by decide) (by decide) rfl ?_
      refine e_goto C 37 (dk dX9_clear 34 rfl) (by decide) ?_
      refine e_lv [1, 0] rfl ?_
      exact ih _ _ _ h hOK
set_option maxRecDepth 20000 in
theorem lb_X9_clear_37 {X : FX} {g : WC} {Xo : Nat → va_E} {n : Nat} {kd : Nat → Nat} (C : Cx X g RX9 cX9_clear 2) (K : KD n kd) {t : Nat} (ht : kd t = 10) (hR : x_R X = rm 1) {T9 : Type} {f9 : Mem → Option T9} {b9 : T9} (hx : ∀ s, f9 s = some b9 → EW X g (x_s X).heap.size n 2 (ent g Xo kd s) 0 0 59 [(0, .ref (g_N g + t))] []) {x1 : Int32} {M : Mem} (h : (L_X9_clear_37 t FU x1 M).bind f9 = some b9) : EW X g (x_s X).heap.size n 2 (ent g Xo kd M) 0 0 37 [(0, .ref (g_N g + t)), (1, .int x1)] [] := by
  obtain ⟨q, hq, h⟩ := ob h
  exact l_X9_clear_37 C K ht hR (OK := fun q => f9 q = some b9) hx FU x1 M q hq h
set_option maxRecDepth 20000 in
theorem c_X9_clear {g : WC} {Xo : Nat → va_E} {n : Nat} {kd : Nat → Nat} (K : KD n kd) {t : Nat} (ht : kd t = 10) {M : Mem} {res : Mem} (h : F_X9_clear t M = some res) : MC g yX9_clear cX9_clear 2 none 1 n [.ref (g_N g + t)] (ent g Xo kd M) none (ent g Xo kd res) := by
  refine MC_of pn_X9 (Nat.le_of_ble_eq_true rfl) (fun X C B => ?_)
  have hR := B.1
  rw [F_X9_clear] at h
  refine e_aload_n C 0 (dk dX9_clear 0 rfl) rfl rfl ?_
  refine e_iconst C 4 (dk dX9_clear 1 rfl) (by decide) ?_
  refine pf_X9_streets C K ht fl_X9_40 (dk dX9_clear 2 rfl) ?_
  refine e_aload_n C 0 (dk dX9_clear 3 rfl) rfl rfl ?_
  refine e_iconst C 0 (dk dX9_clear 4 rfl) (by decide) ?_
  refine pf_X9_paths C K ht fl_X9_44 (dk dX9_clear 5 rfl) ?_
  refine e_aload_n C 0 (dk dX9_clear 6 rfl) rfl rfl ?_
  refine e_iconst C 1 (dk dX9_clear 7 rfl) (by decide) ?_
  refine pf_X9_rounds C K ht fl_X9_47 (dk dX9_clear 8 rfl) ?_
  refine e_aload_n C 0 (dk dX9_clear 9 rfl) rfl rfl ?_
  refine e_iconst C 0 (dk dX9_clear 10 rfl) (by decide) ?_
  refine pf_X9_people C K ht fl_X9_50 (dk dX9_clear 11 rfl) ?_
  refine e_aload_n C 0 (dk dX9_clear 12 rfl) rfl rfl ?_
  refine e_iconst C 0 (dk dX9_clear 13 rfl) (by decide) ?_
  refine pf_X9_bishops C K ht fl_X9_53 (dk dX9_clear 14 rfl) ?_
  refine e_aload_n C 0 (dk dX9_clear 15 rfl) rfl rfl ?_
  refine e_iconst C 1 (dk dX9_clear 16 rfl) (by decide) ?_
  refine pf_X9_fogs C K ht fl_X9_56 (dk dX9_clear 17 rfl) ?_
  refine e_aload_n C 0 (dk dX9_clear 18 rfl) rfl rfl ?_
  refine e_iconst C 5 (dk dX9_clear 19 rfl) (by decide) ?_
  refine pf_X9_reserve C K ht fl_X9_59 (dk dX9_clear 20 rfl) ?_
  refine e_iconst C 0 (dk dX9_clear 21 rfl) (by decide) ?_
  refine e_istore_n C [(1, .int 0), (0, .ref (g_N g + t))] (dk dX9_clear 22 rfl) rfl (by decide) rfl ?_
  refine e_lv [1, 0] rfl ?_
  refine lb_X9_clear_37 C K ht hR (fun s4 h => ?_) h
  refine e_aload_n C 0 (dk dX9_clear 35 rfl) rfl rfl ?_
  refine gf_X9_round C K ht fl_X9_15 (dk dX9_clear 36 rfl) ?_
  refine e_iconst C 0 (dk dX9_clear 37 rfl) (by decide) ?_
  refine e_iconst C 0 (dk dX9_clear 38 rfl) (by decide) ?_
  refine e_callSN C cal_X11_put sm_X11_put mn_X9_62 hR (by decide) (dk dX9_clear 39 rfl) (c_X11_put K (kd_X9_round K ht) (rfl : F_X11_put (t + 2) 8 0 0 s4 = _)) ⟨Nat.zero_le _, Nat.zero_le _⟩ (Nat.le_of_ble_eq_true rfl) rfl ?_
  refine e_aload_n C 0 (dk dX9_clear 40 rfl) rfl rfl ?_
  refine gf_X9_fog C K ht fl_X9_27 (dk dX9_clear 41 rfl) ?_
  refine e_iconst C 0 (dk dX9_clear 42 rfl) (by decide) ?_
  refine e_iconst C 0 (dk dX9_clear 43 rfl) (by decide) ?_
  refine e_callSN C cal_X11_put sm_X11_put mn_X9_62 hR (by decide) (dk dX9_clear 44 rfl) (c_X11_put K (kd_X9_fog K ht) (rfl : F_X11_put (t + 6) 8 0 0 (F_X11_put (t + 2) 8 0 0 s4) = _)) ⟨Nat.zero_le _, Nat.zero_le _⟩ (Nat.le_of_ble_eq_true rfl) rfl ?_
  refine e_aload_n C 0 (dk dX9_clear 45 rfl) rfl rfl ?_
  refine gf_X9_worth C K ht fl_X9_33 (dk dX9_clear 46 rfl) ?_
  refine e_callV (ci := 10) C cal_X10_clear im_X10_clear se_X10_clear ml_X9_66 rfl hR (by decide) (dk dX9_clear 47 rfl) (K.1 _ (by rw [(kd_X9_worth K ht)]; decide)) (ent_o10 (kd_X9_worth K ht)) (c_X10_clear K (kd_X9_worth K ht) (rfl : F_X10_clear (t + 7) (F_X11_put (t + 6) 8 0 0 (F_X11_put (t + 2) 8 0 0 s4)) = _)) ⟨Nat.zero_le _, Nat.zero_le _⟩ (Nat.le_of_ble_eq_true rfl) rfl ?_
  obtain rfl := Option.some.inj h
  exact e_vret C B (dk dX9_clear 48 rfl)
set_option maxRecDepth 20000 in
theorem l_X9_addPerson_6 {X : FX} {g : WC} {Xo : Nat → va_E} {n : Nat} {kd : Nat → Nat} (C : Cx X g RX9 cX9_addPerson 7) (K : KD n kd) {t : Nat} {a2 : Nat} {n2 : Nat} (ht : kd t = 10) (ha2 : IA kd a2 n2) {x1 : Int32} {x2 : Int32} {x4 : Int32} {M : Mem} (hR : x_R X = rm 1) {OK : Int32 → Prop} (hx : ∀ s, OK s → EW X g (x_s X).heap.size n 7 (ent g Xo kd M) 0 0 34 [(0, .ref (g_N g + t)), (1, .int x1), (2, .int x2), (4, .int x4), (5, .int s)] []) : ∀ (N9 : Nat) (x5 : Int32) (x6 : Int32) (q : Int32), L_X9_addPerson_6 t a2 n2 x1 x2 x4 M N9 x5 x6 = some q → OK q → EW X g (x_s X).heap.size n 7 (ent g Xo kd M) 0 0 6 [(0, .ref (g_N g + t)), (1, .int x1), (2, .int x2), (3, .ref (g_N g + a2)), (4, .int x4), (5, .int x5), (6, .int x6)] [] := by
  intro N9
  induction N9 with
  | zero =>
    intro x5 x6 q h
    rw [L_X9_addPerson_6.eq_1] at h
    cases h
  | succ m9 ih =>
    intro x5 x6 q h hOK
    rw [L_X9_addPerson_6.eq_2] at h
    refine e_iload C 6 (dk dX9_addPerson 4 rfl) rfl ?_
    refine e_iload C 4 (dk dX9_addPerson 5 rfl) rfl ?_
    refine e_icmp_ge C 34 (dk dX9_addPerson 6 rfl) (by decide) (fun c1 => ?_) (fun c1 => ?_)
    · rw [if_pos c1] at h
      obtain rfl := Option.some.inj h
      refine e_lv [0, 1, 2, 4, 5] rfl ?_
      exact hx _ hOK
    · rw [if_neg c1] at h
      refine e_iload C 5 (dk dX9_addPerson 7 rfl) rfl ?_
      refine e_iload C 6 (dk dX9_addPerson 8 rfl) rfl ?_
      refine e_aload_n C 3 (dk dX9_addPerson 9 rfl) rfl rfl ?_
      refine e_iload C 6 (dk dX9_addPerson 10 rfl) rfl ?_
      refine e_callSN C cal_X11_at sm_X11_at mn_X9_67 hR (by decide) (dk dX9_addPerson 11 rfl) (c_X11_at K ha2 (rfl : F_X11_at a2 n2 x6 M = _)) ⟨Nat.zero_le _, Nat.zero_le _⟩ (Nat.le_of_ble_eq_true rfl) rfl ?_
      refine e_callSN C cal_X11_walkWith sm_X11_walkWith mn_X9_71 hR (by decide) (dk dX9_addPerson 12 rfl) (c_X11_walkWith K (rfl : F_X11_walkWith x5 x6 (F_X11_at a2 n2 x6 M) = _)) ⟨Nat.zero_le _, Nat.zero_le _⟩ (Nat.le_of_ble_eq_true rfl) rfl ?_
      refine e_istore C [(5, .int (F_X11_walkWith x5 x6 (F_X11_at a2 n2 x6 M))), (0, .ref (g_N g + t)), (1, .int x1), (2, .int x2), (3, .ref (g_N g + a2)), (4, .int x4), (6, .int x6)] (dk dX9_addPerson 13 rfl) (by decide) rfl ?_
      refine e_iinc C [(6, .int (x6 + 1)), (5, .int (F_X11_walkWith x5 x6 (F_X11_at a2 n2 x6 M))), (0, .ref (g_N g + t)), (1, .int x1), (2, .int x2), (3, .ref (g_N g + a2)), (4, .int x4)] 6 1 (dk dX9_addPerson 14 rfl) rfl (by decide) (by decide) rfl ?_
      refine e_goto C 6 (dk dX9_addPerson 15 rfl) (by decide) ?_
      refine e_lv [2, 3, 4, 5, 6, 1, 0] rfl ?_
      exact ih _ _ _ h hOK
set_option maxRecDepth 20000 in
theorem lb_X9_addPerson_6 {X : FX} {g : WC} {Xo : Nat → va_E} {n : Nat} {kd : Nat → Nat} (C : Cx X g RX9 cX9_addPerson 7) (K : KD n kd) {t : Nat} {a2 : Nat} {n2 : Nat} (ht : kd t = 10) (ha2 : IA kd a2 n2) {x1 : Int32} {x2 : Int32} {x4 : Int32} {M : Mem} (hR : x_R X = rm 1) {T9 : Type} {f9 : Int32 → Option T9} {b9 : T9} (hx : ∀ s, f9 s = some b9 → EW X g (x_s X).heap.size n 7 (ent g Xo kd M) 0 0 34 [(0, .ref (g_N g + t)), (1, .int x1), (2, .int x2), (4, .int x4), (5, .int s)] []) {x5 : Int32} {x6 : Int32} (h : (L_X9_addPerson_6 t a2 n2 x1 x2 x4 M FU x5 x6).bind f9 = some b9) : EW X g (x_s X).heap.size n 7 (ent g Xo kd M) 0 0 6 [(0, .ref (g_N g + t)), (1, .int x1), (2, .int x2), (3, .ref (g_N g + a2)), (4, .int x4), (5, .int x5), (6, .int x6)] [] := by
  obtain ⟨q, hq, h⟩ := ob h
  exact l_X9_addPerson_6 C K ht ha2 hR (OK := fun q => f9 q = some b9) hx FU x5 x6 q hq h
set_option maxRecDepth 20000 in
theorem c_X9_addPerson {g : WC} {Xo : Nat → va_E} {n : Nat} {kd : Nat → Nat} (K : KD n kd) {t : Nat} {p0 : Int32} {p1 : Int32} {a2 : Nat} {n2 : Nat} {p3 : Int32} (ht : kd t = 10) (ha2 : IA kd a2 n2) {M : Mem} {res : Mem} (h : F_X9_addPerson t p0 p1 a2 n2 p3 M = some res) : MC g yX9_addPerson cX9_addPerson 7 none 1 n [.ref (g_N g + t), .int p0, .int p1, .ref (g_N g + a2), .int p3] (ent g Xo kd M) none (ent g Xo kd res) := by
  refine MC_of pn_X9 (Nat.le_of_ble_eq_true rfl) (fun X C B => ?_)
  have hR := B.1
  rw [F_X9_addPerson] at h
  refine e_iconst C 0 (dk dX9_addPerson 0 rfl) (by decide) ?_
  refine e_istore C [(5, .int 0), (0, .ref (g_N g + t)), (1, .int p0), (2, .int p1), (3, .ref (g_N g + a2)), (4, .int p3)] (dk dX9_addPerson 1 rfl) (by decide) rfl ?_
  refine e_iconst C 0 (dk dX9_addPerson 2 rfl) (by decide) ?_
  refine e_istore C [(6, .int 0), (5, .int 0), (0, .ref (g_N g + t)), (1, .int p0), (2, .int p1), (3, .ref (g_N g + a2)), (4, .int p3)] (dk dX9_addPerson 3 rfl) (by decide) rfl ?_
  refine e_lv [2, 3, 4, 5, 6, 1, 0] rfl ?_
  refine lb_X9_addPerson_6 C K ht ha2 hR (fun s3 h => ?_) h
  refine e_aload_n C 0 (dk dX9_addPerson 16 rfl) rfl rfl ?_
  refine gf_X9_coins C K ht fl_X9_18 (dk dX9_addPerson 17 rfl) ?_
  refine e_aload_n C 0 (dk dX9_addPerson 18 rfl) rfl rfl ?_
  refine gf_X9_people C K ht fl_X9_50 (dk dX9_addPerson 19 rfl) ?_
  refine e_iload_n C 1 (dk dX9_addPerson 20 rfl) rfl rfl ?_
  refine e_callSN C cal_X11_put sm_X11_put mn_X9_62 hR (by decide) (dk dX9_addPerson 21 rfl) (c_X11_put K (kd_X9_coins K ht) (rfl : F_X11_put (t + 3) 7 (M t 3) p0 M = _)) ⟨Nat.zero_le _, Nat.zero_le _⟩ (Nat.le_of_ble_eq_true rfl) rfl ?_
  refine e_aload_n C 0 (dk dX9_addPerson 22 rfl) rfl rfl ?_
  refine gf_X9_lengths C K ht fl_X9_21 (dk dX9_addPerson 23 rfl) ?_
  refine e_aload_n C 0 (dk dX9_addPerson 24 rfl) rfl rfl ?_
  refine gf_X9_people C K ht fl_X9_50 (dk dX9_addPerson 25 rfl) ?_
  refine e_iload C 3 (dk dX9_addPerson 26 rfl) rfl ?_
  refine e_callSN C cal_X11_put sm_X11_put mn_X9_62 hR (by decide) (dk dX9_addPerson 27 rfl) (c_X11_put K (kd_X9_lengths K ht) (rfl : F_X11_put (t + 4) 7 ((F_X11_put (t + 3) 7 (M t 3) p0 M) t 3) p3 (F_X11_put (t + 3) 7 (M t 3) p0 M) = _)) ⟨Nat.zero_le _, Nat.zero_le _⟩ (Nat.le_of_ble_eq_true rfl) rfl ?_
  refine e_aload_n C 0 (dk dX9_addPerson 28 rfl) rfl rfl ?_
  refine gf_X9_walks C K ht fl_X9_24 (dk dX9_addPerson 29 rfl) ?_
  refine e_aload_n C 0 (dk dX9_addPerson 30 rfl) rfl rfl ?_
  refine gf_X9_people C K ht fl_X9_50 (dk dX9_addPerson 31 rfl) ?_
  refine e_iload C 4 (dk dX9_addPerson 32 rfl) rfl ?_
  refine e_callSN C cal_X11_put sm_X11_put mn_X9_62 hR (by decide) (dk dX9_addPerson 33 rfl) (c_X11_put K (kd_X9_walks K ht) (rfl : F_X11_put (t + 5) 7 ((F_X11_put (t + 4) 7 ((F_X11_put (t + 3) 7 (M t 3) p0 M) t 3) p3 (F_X11_put (t + 3) 7 (M t 3) p0 M)) t 3) s3 (F_X11_put (t + 4) 7 ((F_X11_put (t + 3) 7 (M t 3) p0 M) t 3) p3 (F_X11_put (t + 3) 7 (M t 3) p0 M)) = _)) ⟨Nat.zero_le _, Nat.zero_le _⟩ (Nat.le_of_ble_eq_true rfl) rfl ?_
  refine e_aload_n C 0 (dk dX9_addPerson 34 rfl) rfl rfl ?_
  refine e_dup C (dk dX9_addPerson 35 rfl) rfl ?_
  refine gf_X9_bishops C K ht fl_X9_53 (dk dX9_addPerson 36 rfl) ?_
  refine e_iload_n C 2 (dk dX9_addPerson 37 rfl) rfl rfl ?_
  suffices hm5 : EW X g (x_s X).heap.size n 7 (ent g Xo kd (F_X11_put (t + 5) 7 ((F_X11_put (t + 4) 7 ((F_X11_put (t + 3) 7 (M t 3) p0 M) t 3) p3 (F_X11_put (t + 3) 7 (M t 3) p0 M)) t 3) s3 (F_X11_put (t + 4) 7 ((F_X11_put (t + 3) 7 (M t 3) p0 M) t 3) p3 (F_X11_put (t + 3) 7 (M t 3) p0 M)))) 0 0 91 [(0, .ref (g_N g + t)), (1, .int p0), (2, .int p1), (4, .int p3), (5, .int s3)] [.int (if p1 = 0 then (0 : Int32) else ((1 : Int32) <<< (((F_X11_put (t + 5) 7 ((F_X11_put (t + 4) 7 ((F_X11_put (t + 3) 7 (M t 3) p0 M) t 3) p3 (F_X11_put (t + 3) 7 (M t 3) p0 M)) t 3) s3 (F_X11_put (t + 4) 7 ((F_X11_put (t + 3) 7 (M t 3) p0 M) t 3) p3 (F_X11_put (t + 3) 7 (M t 3) p0 M))) t 3) &&& 31))), .int ((F_X11_put (t + 5) 7 ((F_X11_put (t + 4) 7 ((F_X11_put (t + 3) 7 (M t 3) p0 M) t 3) p3 (F_X11_put (t + 3) 7 (M t 3) p0 M)) t 3) s3 (F_X11_put (t + 4) 7 ((F_X11_put (t + 3) 7 (M t 3) p0 M) t 3) p3 (F_X11_put (t + 3) 7 (M t 3) p0 M))) t 4), .ref (g_N g + t)] from (by
    refine e_if_eq C 90 (dk dX9_addPerson 38 rfl) (by decide) (fun c4 => ?_) (fun c4 => ?_)
    · rw [show (if p1 = 0 then (0 : Int32) else ((1 : Int32) <<< (((F_X11_put (t + 5) 7 ((F_X11_put (t + 4) 7 ((F_X11_put (t + 3) 7 (M t 3) p0 M) t 3) p3 (F_X11_put (t + 3) 7 (M t 3) p0 M)) t 3) s3 (F_X11_put (t + 4) 7 ((F_X11_put (t + 3) 7 (M t 3) p0 M) t 3) p3 (F_X11_put (t + 3) 7 (M t 3) p0 M))) t 3) &&& 31))) = (0 : Int32) from if_pos c4] at hm5
      refine e_iconst C 0 (dk dX9_addPerson 44 rfl) (by decide) ?_
      exact hm5
    · rw [show (if p1 = 0 then (0 : Int32) else ((1 : Int32) <<< (((F_X11_put (t + 5) 7 ((F_X11_put (t + 4) 7 ((F_X11_put (t + 3) 7 (M t 3) p0 M) t 3) p3 (F_X11_put (t + 3) 7 (M t 3) p0 M)) t 3) s3 (F_X11_put (t + 4) 7 ((F_X11_put (t + 3) 7 (M t 3) p0 M) t 3) p3 (F_X11_put (t + 3) 7 (M t 3) p0 M))) t 3) &&& 31))) = ((1 : Int32) <<< (((F_X11_put (t + 5) 7 ((F_X11_put (t + 4) 7 ((F_X11_put (t + 3) 7 (M t 3) p0 M) t 3) p3 (F_X11_put (t + 3) 7 (M t 3) p0 M)) t 3) s3 (F_X11_put (t + 4) 7 ((F_X11_put (t + 3) 7 (M t 3) p0 M) t 3) p3 (F_X11_put (t + 3) 7 (M t 3) p0 M))) t 3) &&& 31)) from if_neg c4] at hm5
      refine e_iconst C 1 (dk dX9_addPerson 39 rfl) (by decide) ?_
      refine e_aload_n C 0 (dk dX9_addPerson 40 rfl) rfl rfl ?_
      refine gf_X9_people C K ht fl_X9_50 (dk dX9_addPerson 41 rfl) ?_
      refine e_ishl C (dk dX9_addPerson 42 rfl) ?_
      refine e_goto C 91 (dk dX9_addPerson 43 rfl) (by decide) ?_
      exact hm5)
  refine e_ior C (dk dX9_addPerson 45 rfl) ?_
  refine pf_X9_bishops C K ht fl_X9_53 (dk dX9_addPerson 46 rfl) ?_
  refine e_aload_n C 0 (dk dX9_addPerson 47 rfl) rfl rfl ?_
  refine e_dup C (dk dX9_addPerson 48 rfl) rfl ?_
  refine gf_X9_people C K ht fl_X9_50 (dk dX9_addPerson 49 rfl) ?_
  refine e_iconst C 1 (dk dX9_addPerson 50 rfl) (by decide) ?_
  refine e_iadd C (dk dX9_addPerson 51 rfl) ?_
  refine pf_X9_people C K ht fl_X9_50 (dk dX9_addPerson 52 rfl) ?_
  obtain rfl := Option.some.inj h
  exact e_vret C B (dk dX9_addPerson 53 rfl)
set_option maxRecDepth 20000 in
theorem l_X9_hoursMet_6 {X : FX} {g : WC} {Xo : Nat → va_E} {n : Nat} {kd : Nat → Nat} (C : Cx X g RX9 cX9_hoursMet 6) (K : KD n kd) {t : Nat} (ht : kd t = 10) {x1 : Int32} {x2 : Int32} {x3 : Int32} {M : Mem} (hR : x_R X = rm 2) {OK : Int32 → Prop} (hx : ∀ s, OK s → EW X g (x_s X).heap.size n 6 (ent g Xo kd M) 0 0 49 [(4, .int s)] []) : ∀ (N9 : Nat) (x4 : Int32) (x5 : Int32) (q : Int32), L_X9_hoursMet_6 t x1 x2 x3 M N9 x4 x5 = some q → OK q → EW X g (x_s X).heap.size n 6 (ent g Xo kd M) 0 0 6 [(0, .ref (g_N g + t)), (1, .int x1), (2, .int x2), (3, .int x3), (4, .int x4), (5, .int x5)] [] := by
  intro N9
  induction N9 with
  | zero =>
    intro x4 x5 q h
    rw [L_X9_hoursMet_6.eq_1] at h
    cases h
  | succ m9 ih =>
    intro x4 x5 q h hOK
    rw [L_X9_hoursMet_6.eq_2] at h
    refine e_iload C 5 (dk dX9_hoursMet 4 rfl) rfl ?_
    refine e_bipush C 6 (dk dX9_hoursMet 5 rfl) (by decide) ?_
    refine e_icmp_ge C 49 (dk dX9_hoursMet 6 rfl) (by decide) (fun c1 => ?_) (fun c1 => ?_)
    · rw [if_pos c1] at h
      obtain rfl := Option.some.inj h
      refine e_lv [4] rfl ?_
      exact hx _ hOK
    · rw [if_neg c1] at h
      refine e_aload_n C 0 (dk dX9_hoursMet 7 rfl) rfl rfl ?_
      refine e_iload_n C 3 (dk dX9_hoursMet 8 rfl) rfl rfl ?_
      refine e_iload C 5 (dk dX9_hoursMet 9 rfl) rfl ?_
      obtain ⟨q2, hq2, h⟩ := ob h
      refine e_callV (ci := 9) C cal_X9_watchAt im_X9_watchAt se_X9_watchAt ml_X9_75 rfl hR (by decide) (dk dX9_hoursMet 10 rfl) (K.1 _ (by rw [ht]; decide)) (ent_o9 ht) (c_X9_watchAt K ht hq2) ⟨Nat.zero_le _, Nat.zero_le _⟩ (Nat.le_of_ble_eq_true rfl) rfl ?_
      refine e_iload_n C 2 (dk dX9_hoursMet 11 rfl) rfl rfl ?_
      refine e_aload_n C 0 (dk dX9_hoursMet 12 rfl) rfl rfl ?_
      refine e_iload_n C 1 (dk dX9_hoursMet 13 rfl) rfl rfl ?_
      refine e_iload C 5 (dk dX9_hoursMet 14 rfl) rfl ?_
      obtain ⟨q3, hq3, h⟩ := ob h
      refine e_callV (ci := 9) C cal_X9_placeAt im_X9_placeAt se_X9_placeAt ml_X9_79 rfl hR (by decide) (dk dX9_hoursMet 15 rfl) (K.1 _ (by rw [ht]; decide)) (ent_o9 ht) (c_X9_placeAt K ht hq3) ⟨Nat.zero_le _, Nat.zero_le _⟩ (Nat.le_of_ble_eq_true rfl) rfl ?_
      refine e_callSN C cal_X11_streetIn sm_X11_streetIn mn_X9_82 hR (by decide) (dk dX9_hoursMet 16 rfl) (c_X11_streetIn K (rfl : F_X11_streetIn x2 q3 = _)) ⟨Nat.zero_le _, Nat.zero_le _⟩ (Nat.le_of_ble_eq_true rfl) rfl ?_
      refine e_icmp_ne C 43 (dk dX9_hoursMet 17 rfl) (by decide) (fun c4 => ?_) (fun c4 => ?_)
      · rw [if_neg c4] at h
        refine e_iinc C [(5, .int (x5 + 1)), (0, .ref (g_N g + t)), (1, .int x1), (2, .int x2), (3, .int x3), (4, .int x4)] 5 1 (dk dX9_hoursMet 24 rfl) rfl (by decide) (by decide) rfl ?_
        refine e_goto C 6 (dk dX9_hoursMet 25 rfl) (by decide) ?_
        refine e_lv [1, 2, 3, 4, 5, 0] rfl ?_
        exact ih _ _ _ h hOK
      · rw [if_pos c4] at h
        refine e_iload C 4 (dk dX9_hoursMet 18 rfl) rfl ?_
        refine e_iconst C 1 (dk dX9_hoursMet 19 rfl) (by decide) ?_
        refine e_iload C 5 (dk dX9_hoursMet 20 rfl) rfl ?_
        refine e_ishl C (dk dX9_hoursMet 21 rfl) ?_
        refine e_ior C (dk dX9_hoursMet 22 rfl) ?_
        refine e_istore C [(4, .int (x4 ||| ((1 : Int32) <<< (x5 &&& 31)))), (0, .ref (g_N g + t)), (1, .int x1), (2, .int x2), (3, .int x3), (5, .int x5)] (dk dX9_hoursMet 23 rfl) (by decide) rfl ?_
        refine e_iinc C [(5, .int (x5 + 1)), (4, .int (x4 ||| ((1 : Int32) <<< (x5 &&& 31)))), (0, .ref (g_N g + t)), (1, .int x1), (2, .int x2), (3, .int x3)] 5 1 (dk dX9_hoursMet 24 rfl) rfl (by decide) (by decide) rfl ?_
        refine e_goto C 6 (dk dX9_hoursMet 25 rfl) (by decide) ?_
        refine e_lv [2, 3, 4, 5, 1, 0] rfl ?_
        exact ih _ _ _ h hOK
set_option maxRecDepth 20000 in
theorem lb_X9_hoursMet_6 {X : FX} {g : WC} {Xo : Nat → va_E} {n : Nat} {kd : Nat → Nat} (C : Cx X g RX9 cX9_hoursMet 6) (K : KD n kd) {t : Nat} (ht : kd t = 10) {x1 : Int32} {x2 : Int32} {x3 : Int32} {M : Mem} (hR : x_R X = rm 2) {T9 : Type} {f9 : Int32 → Option T9} {b9 : T9} (hx : ∀ s, f9 s = some b9 → EW X g (x_s X).heap.size n 6 (ent g Xo kd M) 0 0 49 [(4, .int s)] []) {x4 : Int32} {x5 : Int32} (h : (L_X9_hoursMet_6 t x1 x2 x3 M FU x4 x5).bind f9 = some b9) : EW X g (x_s X).heap.size n 6 (ent g Xo kd M) 0 0 6 [(0, .ref (g_N g + t)), (1, .int x1), (2, .int x2), (3, .int x3), (4, .int x4), (5, .int x5)] [] := by
  obtain ⟨q, hq, h⟩ := ob h
  exact l_X9_hoursMet_6 C K ht hR (OK := fun q => f9 q = some b9) hx FU x4 x5 q hq h
set_option maxRecDepth 20000 in
theorem c_X9_hoursMet {g : WC} {Xo : Nat → va_E} {n : Nat} {kd : Nat → Nat} (K : KD n kd) {t : Nat} {p0 : Int32} {p1 : Int32} {p2 : Int32} (ht : kd t = 10) {M : Mem} {res : Int32} (h : F_X9_hoursMet t p0 p1 p2 M = some res) : MC g yX9_hoursMet cX9_hoursMet 6 (some .int) 2 n [.ref (g_N g + t), .int p0, .int p1, .int p2] (ent g Xo kd M) (some (.int res)) (ent g Xo kd M) := by
  refine MC_of pn_X9 (Nat.le_of_ble_eq_true rfl) (fun X C B => ?_)
  have hR := B.1
  rw [F_X9_hoursMet] at h
  refine e_iconst C 0 (dk dX9_hoursMet 0 rfl) (by decide) ?_
  refine e_istore C [(4, .int 0), (0, .ref (g_N g + t)), (1, .int p0), (2, .int p1), (3, .int p2)] (dk dX9_hoursMet 1 rfl) (by decide) rfl ?_
  refine e_iconst C 0 (dk dX9_hoursMet 2 rfl) (by decide) ?_
  refine e_istore C [(5, .int 0), (4, .int 0), (0, .ref (g_N g + t)), (1, .int p0), (2, .int p1), (3, .int p2)] (dk dX9_hoursMet 3 rfl) (by decide) rfl ?_
  refine e_lv [2, 3, 4, 5, 1, 0] rfl ?_
  refine lb_X9_hoursMet_6 C K ht hR (fun s6 h => ?_) h
  refine e_iload C 0 (dk dX9_hoursMet 26 rfl) rfl ?_
  obtain rfl := Option.some.inj h
  exact e_iret C B (nar1 _) (dk dX9_hoursMet 27 rfl)
set_option maxRecDepth 20000 in
theorem j_X9_seenIn_j38 {X : FX} {g : WC} {Xo : Nat → va_E} {n : Nat} {kd : Nat → Nat} (C : Cx X g RX9 cX9_seenIn 6) (K : KD n kd) {t : Nat} {w0 : Nat} (ht : kd t = 10) (hw0 : kd w0 = 9) (hR : x_R X = rm 3) {x2 : Int32} {x3 : Int32} {x5 : Int32} {M : Mem} {res : Int32} (h : J_X9_seenIn_j38 t w0 x2 x3 x5 M = some res) (B : Bx X g (some .int) 3 n (some (.int res)) (ent g Xo kd M)) : EW X g (x_s X).heap.size n 6 (ent g Xo kd M) 0 0 38 [(0, .ref (g_N g + t)), (2, .int x2), (3, .int x3), (5, .int x5)] [] := by
  rw [J_X9_seenIn_j38] at h
  refine e_aload_n C 0 (dk dX9_seenIn 21 rfl) rfl rfl ?_
  refine e_iload_n C 1 (dk dX9_seenIn 22 rfl) rfl rfl ?_
  refine e_iload_n C 2 (dk dX9_seenIn 23 rfl) rfl rfl ?_
  refine e_iload C 3 (dk dX9_seenIn 24 rfl) rfl ?_
  obtain ⟨q4, hq4, h⟩ := ob h
  refine e_callV (ci := 9) C cal_X9_hoursMet im_X9_hoursMet se_X9_hoursMet ml_X9_98 rfl hR (by decide) (dk dX9_seenIn 25 rfl) (K.1 _ (by rw [ht]; decide)) (ent_o9 ht) (c_X9_hoursMet K ht hq4) ⟨Nat.zero_le _, Nat.zero_le _⟩ (Nat.le_of_ble_eq_true rfl) rfl ?_
  obtain rfl := Option.some.inj h
  exact e_iret C B (nar1 _) (dk dX9_seenIn 26 rfl)
set_option maxRecDepth 20000 in
theorem c_X9_seenIn {g : WC} {Xo : Nat → va_E} {n : Nat} {kd : Nat → Nat} (K : KD n kd) {t : Nat} {w0 : Nat} {p1 : Int32} {p2 : Int32} {p3 : Int32} (ht : kd t = 10) (hw0 : kd w0 = 9) {M : Mem} {res : Int32} (h : F_X9_seenIn t w0 p1 p2 p3 M = some res) : MC g yX9_seenIn cX9_seenIn 6 (some .int) 3 n [.ref (g_N g + t), .ref (g_N g + w0), .int p1, .int p2, .int p3] (ent g Xo kd M) (some (.int res)) (ent g Xo kd M) := by
  refine MC_of pn_X9 (Nat.le_of_ble_eq_true rfl) (fun X C B => ?_)
  have hR := B.1
  rw [F_X9_seenIn] at h
  refine e_aload_n C 1 (dk dX9_seenIn 0 rfl) rfl rfl ?_
  refine gf_X8_night C K hw0 fl_X9_85 (dk dX9_seenIn 1 rfl) ?_
  refine e_iload C 4 (dk dX9_seenIn 2 rfl) rfl ?_
  refine e_iadd C (dk dX9_seenIn 3 rfl) ?_
  refine e_iconst C 1 (dk dX9_seenIn 4 rfl) (by decide) ?_
  refine e_isub C (dk dX9_seenIn 5 rfl) ?_
  refine e_istore C [(5, .int (((M w0 0) + p3) - 1)), (0, .ref (g_N g + t)), (1, .ref (g_N g + w0)), (2, .int p1), (3, .int p2), (4, .int p3)] (dk dX9_seenIn 6 rfl) (by decide) rfl ?_
  refine e_aload_n C 1 (dk dX9_seenIn 7 rfl) rfl rfl ?_
  refine e_iload C 0 (dk dX9_seenIn 8 rfl) rfl ?_
  obtain ⟨q1, hq1, h⟩ := ob h
  refine e_callV (ci := 9) C cal_X9_fogOf im_X9_fogOf se_X9_fogOf ml_X9_90 rfl hR (by decide) (dk dX9_seenIn 9 rfl) (K.1 _ (by rw [ht]; decide)) (ent_o9 ht) (c_X9_fogOf K ht hq1) ⟨Nat.zero_le _, Nat.zero_le _⟩ (Nat.le_of_ble_eq_true rfl) rfl ?_
  refine e_bipush C 7 (dk dX9_seenIn 10 rfl) (by decide) ?_
  refine e_icmp_ge C 36 (dk dX9_seenIn 11 rfl) (by decide) (fun c2 => ?_) (fun c2 => ?_)
  · rw [if_pos c2] at h
    refine e_iconst C 0 (dk dX9_seenIn 19 rfl) (by decide) ?_
    obtain rfl := Option.some.inj h
    exact e_iret C B (nar1 _) (dk dX9_seenIn 20 rfl)
  · rw [if_neg c2] at h
    refine e_iload C 5 (dk dX9_seenIn 12 rfl) rfl ?_
    refine e_iconst C 1 (dk dX9_seenIn 13 rfl) (by decide) ?_
    refine e_icmp_ne C 38 (dk dX9_seenIn 14 rfl) (by decide) (fun c3 => ?_) (fun c3 => ?_)
    · rw [if_neg c3] at h
      refine e_lv [1, 3, 4, 0] rfl ?_
      exact j_X9_seenIn_j38 C K ht hw0 hR h B
    · rw [if_pos c3] at h
      refine e_aload_n C 2 (dk dX9_seenIn 15 rfl) rfl rfl ?_
      refine e_iload_n C 3 (dk dX9_seenIn 16 rfl) rfl rfl ?_
      refine e_callV (ci := 8) C cal_X8_isBribing im_X8_isBribing se_X8_isBribing ml_X9_94 rfl hR (by decide) (dk dX9_seenIn 17 rfl) (K.1 _ (by rw [hw0]; decide)) (ent_o8 hw0) (c_X8_isBribing K hw0 (rfl : F_X8_isBribing w0 p1 M = _)) ⟨Nat.zero_le _, Nat.zero_le _⟩ (Nat.le_of_ble_eq_true rfl) rfl ?_
      refine e_if_eq C 38 (dk dX9_seenIn 18 rfl) (by decide) (fun c5 => ?_) (fun c5 => ?_)
      · rw [if_pos c5] at h
        refine e_lv [1, 3, 4, 0] rfl ?_
        exact j_X9_seenIn_j38 C K ht hw0 hR h B
      · rw [if_neg c5] at h
        refine e_iconst C 0 (dk dX9_seenIn 19 rfl) (by decide) ?_
        obtain rfl := Option.some.inj h
        exact e_iret C B (nar1 _) (dk dX9_seenIn 20 rfl)
set_option maxRecDepth 20000 in
theorem l_X9_lotsIn_5 {X : FX} {g : WC} {Xo : Nat → va_E} {n : Nat} {kd : Nat → Nat} (C : Cx X g RX9 cX9_lotsIn 5) (K : KD n kd) {t : Nat} {w0 : Nat} (ht : kd t = 10) (hw0 : kd w0 = 9) {x2 : Int32} {M : Mem} (hR : x_R X = rm 4) {OK : Int32 → Prop} (hx : ∀ s, OK s → EW X g (x_s X).heap.size n 5 (ent g Xo kd M) 0 0 47 [(3, .int s)] []) : ∀ (N9 : Nat) (x3 : Int32) (x4 : Int32) (q : Int32), L_X9_lotsIn_5 t w0 x2 M N9 x3 x4 = some q → OK q → EW X g (x_s X).heap.size n 5 (ent g Xo kd M) 0 0 5 [(0, .ref (g_N g + t)), (1, .ref (g_N g + w0)), (2, .int x2), (3, .int x3), (4, .int x4)] [] := by
  intro N9
  induction N9 with
  | zero =>
    intro x3 x4 q h
    rw [L_X9_lotsIn_5.eq_1] at h
    cases h
  | succ m9 ih =>
    intro x3 x4 q h hOK
    rw [L_X9_lotsIn_5.eq_2] at h
    refine e_iload C 4 (dk dX9_lotsIn 4 rfl) rfl ?_
    refine e_aload_n C 0 (dk dX9_lotsIn 5 rfl) rfl rfl ?_
    refine gf_X9_people C K ht fl_X9_50 (dk dX9_lotsIn 6 rfl) ?_
    refine e_icmp_ge C 47 (dk dX9_lotsIn 7 rfl) (by decide) (fun c1 => ?_) (fun c1 => ?_)
    · rw [if_pos c1] at h
      obtain rfl := Option.some.inj h
      refine e_lv [3] rfl ?_
      exact hx _ hOK
    · rw [if_neg c1] at h
      refine e_aload_n C 0 (dk dX9_lotsIn 8 rfl) rfl rfl ?_
      refine e_aload_n C 1 (dk dX9_lotsIn 9 rfl) rfl rfl ?_
      refine e_iload C 4 (dk dX9_lotsIn 10 rfl) rfl ?_
      refine e_aload_n C 1 (dk dX9_lotsIn 11 rfl) rfl rfl ?_
      refine gf_X8_walks C K hw0 fl_X9_101 (dk dX9_lotsIn 12 rfl) ?_
      refine e_iload C 4 (dk dX9_lotsIn 13 rfl) rfl ?_
      refine e_callSN C cal_X11_at sm_X11_at mn_X9_67 hR (by decide) (dk dX9_lotsIn 14 rfl) (c_X11_at K (kd_X8_walks K hw0) (rfl : F_X11_at (w0 + 3) 7 x4 M = _)) ⟨Nat.zero_le _, Nat.zero_le _⟩ (Nat.le_of_ble_eq_true rfl) rfl ?_
      refine e_iload_n C 2 (dk dX9_lotsIn 15 rfl) rfl rfl ?_
      obtain ⟨q2, hq2, h⟩ := ob h
      refine e_callV (ci := 9) C cal_X9_seenIn im_X9_seenIn se_X9_seenIn ml_X9_102 rfl hR (by decide) (dk dX9_lotsIn 16 rfl) (K.1 _ (by rw [ht]; decide)) (ent_o9 ht) (c_X9_seenIn K ht hw0 hq2) ⟨Nat.zero_le _, Nat.zero_le _⟩ (Nat.le_of_ble_eq_true rfl) rfl ?_
      refine e_if_eq C 41 (dk dX9_lotsIn 17 rfl) (by decide) (fun c3 => ?_) (fun c3 => ?_)
      · rw [if_pos c3] at h
        refine e_iinc C [(4, .int (x4 + 1)), (0, .ref (g_N g + t)), (1, .ref (g_N g + w0)), (2, .int x2), (3, .int x3)] 4 1 (dk dX9_lotsIn 24 rfl) rfl (by decide) (by decide) rfl ?_
        refine e_goto C 5 (dk dX9_lotsIn 25 rfl) (by decide) ?_
        refine e_lv [1, 2, 3, 4, 0] rfl ?_
        exact ih _ _ _ h hOK
      · rw [if_neg c3] at h
        refine e_iload_n C 3 (dk dX9_lotsIn 18 rfl) rfl rfl ?_
        refine e_iconst C 1 (dk dX9_lotsIn 19 rfl) (by decide) ?_
        refine e_iload C 4 (dk dX9_lotsIn 20 rfl) rfl ?_
        refine e_ishl C (dk dX9_lotsIn 21 rfl) ?_
        refine e_ior C (dk dX9_lotsIn 22 rfl) ?_
        refine e_istore_n C [(3, .int (x3 ||| ((1 : Int32) <<< (x4 &&& 31)))), (0, .ref (g_N g + t)), (1, .ref (g_N g + w0)), (2, .int x2), (4, .int x4)] (dk dX9_lotsIn 23 rfl) rfl (by decide) rfl ?_
        refine e_iinc C [(4, .int (x4 + 1)), (3, .int (x3 ||| ((1 : Int32) <<< (x4 &&& 31)))), (0, .ref (g_N g + t)), (1, .ref (g_N g + w0)), (2, .int x2)] 4 1 (dk dX9_lotsIn 24 rfl) rfl (by decide) (by decide) rfl ?_
        refine e_goto C 5 (dk dX9_lotsIn 25 rfl) (by decide) ?_
        refine e_lv [2, 3, 4, 1, 0] rfl ?_
        exact ih _ _ _ h hOK
set_option maxRecDepth 20000 in
theorem lb_X9_lotsIn_5 {X : FX} {g : WC} {Xo : Nat → va_E} {n : Nat} {kd : Nat → Nat} (C : Cx X g RX9 cX9_lotsIn 5) (K : KD n kd) {t : Nat} {w0 : Nat} (ht : kd t = 10) (hw0 : kd w0 = 9) {x2 : Int32} {M : Mem} (hR : x_R X = rm 4) {T9 : Type} {f9 : Int32 → Option T9} {b9 : T9} (hx : ∀ s, f9 s = some b9 → EW X g (x_s X).heap.size n 5 (ent g Xo kd M) 0 0 47 [(3, .int s)] []) {x3 : Int32} {x4 : Int32} (h : (L_X9_lotsIn_5 t w0 x2 M FU x3 x4).bind f9 = some b9) : EW X g (x_s X).heap.size n 5 (ent g Xo kd M) 0 0 5 [(0, .ref (g_N g + t)), (1, .ref (g_N g + w0)), (2, .int x2), (3, .int x3), (4, .int x4)] [] := by
  obtain ⟨q, hq, h⟩ := ob h
  exact l_X9_lotsIn_5 C K ht hw0 hR (OK := fun q => f9 q = some b9) hx FU x3 x4 q hq h
set_option maxRecDepth 20000 in
theorem c_X9_lotsIn {g : WC} {Xo : Nat → va_E} {n : Nat} {kd : Nat → Nat} (K : KD n kd) {t : Nat} {w0 : Nat} {p1 : Int32} (ht : kd t = 10) (hw0 : kd w0 = 9) {M : Mem} {res : Int32} (h : F_X9_lotsIn t w0 p1 M = some res) : MC g yX9_lotsIn cX9_lotsIn 5 (some .int) 4 n [.ref (g_N g + t), .ref (g_N g + w0), .int p1] (ent g Xo kd M) (some (.int res)) (ent g Xo kd M) := by
  refine MC_of pn_X9 (Nat.le_of_ble_eq_true rfl) (fun X C B => ?_)
  have hR := B.1
  rw [F_X9_lotsIn] at h
  refine e_iconst C 0 (dk dX9_lotsIn 0 rfl) (by decide) ?_
  refine e_istore_n C [(3, .int 0), (0, .ref (g_N g + t)), (1, .ref (g_N g + w0)), (2, .int p1)] (dk dX9_lotsIn 1 rfl) rfl (by decide) rfl ?_
  refine e_iconst C 0 (dk dX9_lotsIn 2 rfl) (by decide) ?_
  refine e_istore C [(4, .int 0), (3, .int 0), (0, .ref (g_N g + t)), (1, .ref (g_N g + w0)), (2, .int p1)] (dk dX9_lotsIn 3 rfl) (by decide) rfl ?_
  refine e_lv [2, 3, 4, 1, 0] rfl ?_
  refine lb_X9_lotsIn_5 C K ht hw0 hR (fun s5 h => ?_) h
  refine e_iload_n C 0 (dk dX9_lotsIn 26 rfl) rfl rfl ?_
  obtain rfl := Option.some.inj h
  exact e_iret C B (nar1 _) (dk dX9_lotsIn 27 rfl)
set_option maxRecDepth 20000 in
theorem l_X9_seenAt_18 {X : FX} {g : WC} {Xo : Nat → va_E} {n : Nat} {kd : Nat → Nat} (C : Cx X g RX9 cX9_seenAt 8) (K : KD n kd) {t : Nat} {w0 : Nat} (ht : kd t = 10) (hw0 : kd w0 = 9) {x2 : Int32} {x3 : Int32} {x4 : Int32} {x5 : Int32} {M : Mem} (hR : x_R X = rm 4) {OK : Int32 → Prop} (hx : ∀ s, OK s → EW X g (x_s X).heap.size n 8 (ent g Xo kd M) 0 0 59 [(0, .ref (g_N g + t)), (1, .ref (g_N g + w0)), (2, .int x2), (3, .int x3), (4, .int x4), (5, .int x5), (6, .int s)] []) : ∀ (N9 : Nat) (x6 : Int32) (x7 : Int32) (q : Int32), L_X9_seenAt_18 t w0 x2 x3 x4 x5 M N9 x6 x7 = some q → OK q → EW X g (x_s X).heap.size n 8 (ent g Xo kd M) 0 0 18 [(0, .ref (g_N g + t)), (1, .ref (g_N g + w0)), (2, .int x2), (3, .int x3), (4, .int x4), (5, .int x5), (6, .int x6), (7, .int x7)] [] := by
  intro N9
  induction N9 with
  | zero =>
    intro x6 x7 q h
    rw [L_X9_seenAt_18.eq_1] at h
    cases h
  | succ m9 ih =>
    intro x6 x7 q h hOK
    rw [L_X9_seenAt_18.eq_2] at h
    refine e_iload C 7 (dk dX9_seenAt 11 rfl) rfl ?_
    refine e_bipush C 6 (dk dX9_seenAt 12 rfl) (by decide) ?_
    refine e_icmp_ge C 59 (dk dX9_seenAt 13 rfl) (by decide) (fun c2 => ?_) (fun c2 => ?_)
    · rw [if_pos c2] at h
      obtain rfl := Option.some.inj h
      refine e_lv [0, 1, 2, 3, 4, 5, 6] rfl ?_
      exact hx _ hOK
    · rw [if_neg c2] at h
      refine e_aload_n C 0 (dk dX9_seenAt 14 rfl) rfl rfl ?_
      refine e_aload_n C 1 (dk dX9_seenAt 15 rfl) rfl rfl ?_
      refine gf_X8_night C K hw0 fl_X9_85 (dk dX9_seenAt 16 rfl) ?_
      refine e_iload C 5 (dk dX9_seenAt 17 rfl) rfl ?_
      refine e_iadd C (dk dX9_seenAt 18 rfl) ?_
      refine e_iconst C 1 (dk dX9_seenAt 19 rfl) (by decide) ?_
      refine e_isub C (dk dX9_seenAt 20 rfl) ?_
      refine e_iload C 7 (dk dX9_seenAt 21 rfl) rfl ?_
      obtain ⟨q3, hq3, h⟩ := ob h
      refine e_callV (ci := 9) C cal_X9_watchAt im_X9_watchAt se_X9_watchAt ml_X9_75 rfl hR (by decide) (dk dX9_seenAt 22 rfl) (K.1 _ (by rw [ht]; decide)) (ent_o9 ht) (c_X9_watchAt K ht hq3) ⟨Nat.zero_le _, Nat.zero_le _⟩ (Nat.le_of_ble_eq_true rfl) rfl ?_
      refine e_iload_n C 2 (dk dX9_seenAt 23 rfl) rfl rfl ?_
      refine e_icmp_ne C 53 (dk dX9_seenAt 24 rfl) (by decide) (fun c4 => ?_) (fun c4 => ?_)
      · rw [if_neg c4] at h
        refine e_iinc C [(7, .int (x7 + 1)), (0, .ref (g_N g + t)), (1, .ref (g_N g + w0)), (2, .int x2), (3, .int x3), (4, .int x4), (5, .int x5), (6, .int x6)] 7 1 (dk dX9_seenAt 31 rfl) rfl (by decide) (by decide) rfl ?_
        refine e_goto C 18 (dk dX9_seenAt 32 rfl) (by decide) ?_
        refine e_lv [1, 2, 3, 4, 5, 6, 7, 0] rfl ?_
        exact ih _ _ _ h hOK
      · rw [if_pos c4] at h
        refine e_iload C 6 (dk dX9_seenAt 25 rfl) rfl ?_
        refine e_iconst C 1 (dk dX9_seenAt 26 rfl) (by decide) ?_
        refine e_iload C 7 (dk dX9_seenAt 27 rfl) rfl ?_
        refine e_ishl C (dk dX9_seenAt 28 rfl) ?_
        refine e_ior C (dk dX9_seenAt 29 rfl) ?_
        refine e_istore C [(6, .int (x6 ||| ((1 : Int32) <<< (x7 &&& 31)))), (0, .ref (g_N g + t)), (1, .ref (g_N g + w0)), (2, .int x2), (3, .int x3), (4, .int x4), (5, .int x5), (7, .int x7)] (dk dX9_seenAt 30 rfl) (by decide) rfl ?_
        refine e_iinc C [(7, .int (x7 + 1)), (6, .int (x6 ||| ((1 : Int32) <<< (x7 &&& 31)))), (0, .ref (g_N g + t)), (1, .ref (g_N g + w0)), (2, .int x2), (3, .int x3), (4, .int x4), (5, .int x5)] 7 1 (dk dX9_seenAt 31 rfl) rfl (by decide) (by decide) rfl ?_
        refine e_goto C 18 (dk dX9_seenAt 32 rfl) (by decide) ?_
        refine e_lv [2, 3, 4, 5, 6, 7, 1, 0] rfl ?_
        exact ih _ _ _ h hOK
set_option maxRecDepth 20000 in
theorem lb_X9_seenAt_18 {X : FX} {g : WC} {Xo : Nat → va_E} {n : Nat} {kd : Nat → Nat} (C : Cx X g RX9 cX9_seenAt 8) (K : KD n kd) {t : Nat} {w0 : Nat} (ht : kd t = 10) (hw0 : kd w0 = 9) {x2 : Int32} {x3 : Int32} {x4 : Int32} {x5 : Int32} {M : Mem} (hR : x_R X = rm 4) {T9 : Type} {f9 : Int32 → Option T9} {b9 : T9} (hx : ∀ s, f9 s = some b9 → EW X g (x_s X).heap.size n 8 (ent g Xo kd M) 0 0 59 [(0, .ref (g_N g + t)), (1, .ref (g_N g + w0)), (2, .int x2), (3, .int x3), (4, .int x4), (5, .int x5), (6, .int s)] []) {x6 : Int32} {x7 : Int32} (h : (L_X9_seenAt_18 t w0 x2 x3 x4 x5 M FU x6 x7).bind f9 = some b9) : EW X g (x_s X).heap.size n 8 (ent g Xo kd M) 0 0 18 [(0, .ref (g_N g + t)), (1, .ref (g_N g + w0)), (2, .int x2), (3, .int x3), (4, .int x4), (5, .int x5), (6, .int x6), (7, .int x7)] [] := by
  obtain ⟨q, hq, h⟩ := ob h
  exact l_X9_seenAt_18 C K ht hw0 hR (OK := fun q => f9 q = some b9) hx FU x6 x7 q hq h
set_option maxRecDepth 20000 in
theorem l_X9_seenAt_62 {X : FX} {g : WC} {Xo : Nat → va_E} {n : Nat} {kd : Nat → Nat} (C : Cx X g RX9 cX9_seenAt 8) (K : KD n kd) {t : Nat} {w0 : Nat} (ht : kd t = 10) (hw0 : kd w0 = 9) {x2 : Int32} {x3 : Int32} {x5 : Int32} {x6 : Int32} {M : Mem} (hR : x_R X = rm 4) {OK : Int32 → Prop} (hx : ∀ s, OK s → EW X g (x_s X).heap.size n 8 (ent g Xo kd M) 0 0 106 [(0, .ref (g_N g + t)), (1, .ref (g_N g + w0)), (2, .int x2), (3, .int x3), (4, .int s), (5, .int x5)] []) : ∀ (N9 : Nat) (x4 : Int32) (x7 : Int32) (q : Int32), L_X9_seenAt_62 t w0 x2 x3 x5 x6 M N9 x4 x7 = some q → OK q → EW X g (x_s X).heap.size n 8 (ent g Xo kd M) 0 0 62 [(0, .ref (g_N g + t)), (1, .ref (g_N g + w0)), (2, .int x2), (3, .int x3), (4, .int x4), (5, .int x5), (6, .int x6), (7, .int x7)] [] := by
  intro N9
  induction N9 with
  | zero =>
    intro x4 x7 q h
    rw [L_X9_seenAt_62.eq_1] at h
    cases h
  | succ m9 ih =>
    intro x4 x7 q h hOK
    rw [L_X9_seenAt_62.eq_2] at h
    refine e_iload C 7 (dk dX9_seenAt 35 rfl) rfl ?_
    refine e_aload_n C 0 (dk dX9_seenAt 36 rfl) rfl rfl ?_
    refine gf_X9_people C K ht fl_X9_50 (dk dX9_seenAt 37 rfl) ?_
    refine e_icmp_ge C 106 (dk dX9_seenAt 38 rfl) (by decide) (fun c7 => ?_) (fun c7 => ?_)
    · rw [if_pos c7] at h
      obtain rfl := Option.some.inj h
      refine e_lv [0, 1, 2, 3, 4, 5] rfl ?_
      exact hx _ hOK
    · rw [if_neg c7] at h
      refine e_iload C 4 (dk dX9_seenAt 39 rfl) rfl ?_
      refine e_iload C 6 (dk dX9_seenAt 40 rfl) rfl ?_
      refine e_aload_n C 0 (dk dX9_seenAt 41 rfl) rfl rfl ?_
      refine e_aload_n C 1 (dk dX9_seenAt 42 rfl) rfl rfl ?_
      refine e_iload C 7 (dk dX9_seenAt 43 rfl) rfl ?_
      refine e_aload_n C 1 (dk dX9_seenAt 44 rfl) rfl rfl ?_
      refine gf_X8_walks C K hw0 fl_X9_101 (dk dX9_seenAt 45 rfl) ?_
      refine e_iload C 7 (dk dX9_seenAt 46 rfl) rfl ?_
      refine e_callSN C cal_X11_at sm_X11_at mn_X9_67 hR (by decide) (dk dX9_seenAt 47 rfl) (c_X11_at K (kd_X8_walks K hw0) (rfl : F_X11_at (w0 + 3) 7 x7 M = _)) ⟨Nat.zero_le _, Nat.zero_le _⟩ (Nat.le_of_ble_eq_true rfl) rfl ?_
      refine e_iload C 5 (dk dX9_seenAt 48 rfl) rfl ?_
      obtain ⟨q8, hq8, h⟩ := ob h
      refine e_callV (ci := 9) C cal_X9_seenIn im_X9_seenIn se_X9_seenIn ml_X9_102 rfl hR (by decide) (dk dX9_seenAt 49 rfl) (K.1 _ (by rw [ht]; decide)) (ent_o9 ht) (c_X9_seenIn K ht hw0 hq8) ⟨Nat.zero_le _, Nat.zero_le _⟩ (Nat.le_of_ble_eq_true rfl) rfl ?_
      refine e_iand C (dk dX9_seenAt 50 rfl) ?_
      refine e_callS C cal_J6_bitCount_0f7a4 sm_J6_bitCount_0f7a4 ml_X9_106 hR (by decide) (dk dX9_seenAt 51 rfl) (c_J6_bitCount_0f7a4 K (rfl : F_J6_bitCount_0f7a4 (x6 &&& q8) = _)) ⟨Nat.zero_le _, Nat.zero_le _⟩ (Nat.le_of_ble_eq_true rfl) rfl ?_
      refine e_iadd C (dk dX9_seenAt 52 rfl) ?_
      refine e_istore C [(4, .int (x4 + (F_J6_bitCount_0f7a4 (x6 &&& q8)))), (0, .ref (g_N g + t)), (1, .ref (g_N g + w0)), (2, .int x2), (3, .int x3), (5, .int x5), (6, .int x6), (7, .int x7)] (dk dX9_seenAt 53 rfl) (by decide) rfl ?_
      refine e_iinc C [(7, .int (x7 + 1)), (4, .int (x4 + (F_J6_bitCount_0f7a4 (x6 &&& q8)))), (0, .ref (g_N g + t)), (1, .ref (g_N g + w0)), (2, .int x2), (3, .int x3), (5, .int x5), (6, .int x6)] 7 1 (dk dX9_seenAt 54 rfl) rfl (by decide) (by decide) rfl ?_
      refine e_goto C 62 (dk dX9_seenAt 55 rfl) (by decide) ?_
      refine e_lv [2, 3, 4, 5, 1, 6, 7, 0] rfl ?_
      exact ih _ _ _ h hOK
set_option maxRecDepth 20000 in
theorem lb_X9_seenAt_62 {X : FX} {g : WC} {Xo : Nat → va_E} {n : Nat} {kd : Nat → Nat} (C : Cx X g RX9 cX9_seenAt 8) (K : KD n kd) {t : Nat} {w0 : Nat} (ht : kd t = 10) (hw0 : kd w0 = 9) {x2 : Int32} {x3 : Int32} {x5 : Int32} {x6 : Int32} {M : Mem} (hR : x_R X = rm 4) {T9 : Type} {f9 : Int32 → Option T9} {b9 : T9} (hx : ∀ s, f9 s = some b9 → EW X g (x_s X).heap.size n 8 (ent g Xo kd M) 0 0 106 [(0, .ref (g_N g + t)), (1, .ref (g_N g + w0)), (2, .int x2), (3, .int x3), (4, .int s), (5, .int x5)] []) {x4 : Int32} {x7 : Int32} (h : (L_X9_seenAt_62 t w0 x2 x3 x5 x6 M FU x4 x7).bind f9 = some b9) : EW X g (x_s X).heap.size n 8 (ent g Xo kd M) 0 0 62 [(0, .ref (g_N g + t)), (1, .ref (g_N g + w0)), (2, .int x2), (3, .int x3), (4, .int x4), (5, .int x5), (6, .int x6), (7, .int x7)] [] := by
  obtain ⟨q, hq, h⟩ := ob h
  exact l_X9_seenAt_62 C K ht hw0 hR (OK := fun q => f9 q = some b9) hx FU x4 x7 q hq h
set_option maxRecDepth 20000 in
theorem l_X9_seenAt_6 {X : FX} {g : WC} {Xo : Nat → va_E} {n : Nat} {kd : Nat → Nat} (C : Cx X g RX9 cX9_seenAt 8) (K : KD n kd) {t : Nat} {w0 : Nat} (ht : kd t = 10) (hw0 : kd w0 = 9) {x2 : Int32} {x3 : Int32} {M : Mem} (hR : x_R X = rm 4) {OK : Int32 → Prop} (hx : ∀ s, OK s → EW X g (x_s X).heap.size n 8 (ent g Xo kd M) 0 0 112 [(4, .int s)] []) : ∀ (N9 : Nat) (x4 : Int32) (x5 : Int32) (q : Int32), L_X9_seenAt_6 t w0 x2 x3 M N9 x4 x5 = some q → OK q → EW X g (x_s X).heap.size n 8 (ent g Xo kd M) 0 0 6 [(0, .ref (g_N g + t)), (1, .ref (g_N g + w0)), (2, .int x2), (3, .int x3), (4, .int x4), (5, .int x5)] [] := by
  intro N9
  induction N9 with
  | zero =>
    intro x4 x5 q h
    rw [L_X9_seenAt_6.eq_1] at h
    cases h
  | succ m9 ih =>
    intro x4 x5 q h hOK
    rw [L_X9_seenAt_6.eq_2] at h
    refine e_iload C 5 (dk dX9_seenAt 4 rfl) rfl ?_
    refine e_iload_n C 3 (dk dX9_seenAt 5 rfl) rfl rfl ?_
    refine e_icmp_gt C 112 (dk dX9_seenAt 6 rfl) (by decide) (fun c1 => ?_) (fun c1 => ?_)
    · rw [if_pos c1] at h
      obtain rfl := Option.some.inj h
      refine e_lv [4] rfl ?_
      exact hx _ hOK
    · rw [if_neg c1] at h
      refine e_iconst C 0 (dk dX9_seenAt 7 rfl) (by decide) ?_
      refine e_istore C [(6, .int 0), (0, .ref (g_N g + t)), (1, .ref (g_N g + w0)), (2, .int x2), (3, .int x3), (4, .int x4), (5, .int x5)] (dk dX9_seenAt 8 rfl) (by decide) rfl ?_
      refine e_iconst C 0 (dk dX9_seenAt 9 rfl) (by decide) ?_
      refine e_istore C [(7, .int 0), (6, .int 0), (0, .ref (g_N g + t)), (1, .ref (g_N g + w0)), (2, .int x2), (3, .int x3), (4, .int x4), (5, .int x5)] (dk dX9_seenAt 10 rfl) (by decide) rfl ?_
      refine e_lv [2, 3, 4, 5, 6, 7, 1, 0] rfl ?_
      refine lb_X9_seenAt_18 C K ht hw0 hR (fun s6 h => ?_) h
      refine e_iconst C 0 (dk dX9_seenAt 33 rfl) (by decide) ?_
      refine e_istore C [(7, .int 0), (0, .ref (g_N g + t)), (1, .ref (g_N g + w0)), (2, .int x2), (3, .int x3), (4, .int x4), (5, .int x5), (6, .int s6)] (dk dX9_seenAt 34 rfl) (by decide) rfl ?_
      refine e_lv [1, 2, 3, 4, 5, 6, 7, 0] rfl ?_
      refine lb_X9_seenAt_62 C K ht hw0 hR (fun s10 h => ?_) h
      refine e_iinc C [(5, .int (x5 + 1)), (0, .ref (g_N g + t)), (1, .ref (g_N g + w0)), (2, .int x2), (3, .int x3), (4, .int s10)] 5 1 (dk dX9_seenAt 56 rfl) rfl (by decide) (by decide) rfl ?_
      refine e_goto C 6 (dk dX9_seenAt 57 rfl) (by decide) ?_
      refine e_lv [1, 2, 3, 4, 5, 0] rfl ?_
      exact ih _ _ _ h hOK
set_option maxRecDepth 20000 in
theorem lb_X9_seenAt_6 {X : FX} {g : WC} {Xo : Nat → va_E} {n : Nat} {kd : Nat → Nat} (C : Cx X g RX9 cX9_seenAt 8) (K : KD n kd) {t : Nat} {w0 : Nat} (ht : kd t = 10) (hw0 : kd w0 = 9) {x2 : Int32} {x3 : Int32} {M : Mem} (hR : x_R X = rm 4) {T9 : Type} {f9 : Int32 → Option T9} {b9 : T9} (hx : ∀ s, f9 s = some b9 → EW X g (x_s X).heap.size n 8 (ent g Xo kd M) 0 0 112 [(4, .int s)] []) {x4 : Int32} {x5 : Int32} (h : (L_X9_seenAt_6 t w0 x2 x3 M FU x4 x5).bind f9 = some b9) : EW X g (x_s X).heap.size n 8 (ent g Xo kd M) 0 0 6 [(0, .ref (g_N g + t)), (1, .ref (g_N g + w0)), (2, .int x2), (3, .int x3), (4, .int x4), (5, .int x5)] [] := by
  obtain ⟨q, hq, h⟩ := ob h
  exact l_X9_seenAt_6 C K ht hw0 hR (OK := fun q => f9 q = some b9) hx FU x4 x5 q hq h
set_option maxRecDepth 20000 in
theorem c_X9_seenAt {g : WC} {Xo : Nat → va_E} {n : Nat} {kd : Nat → Nat} (K : KD n kd) {t : Nat} {w0 : Nat} {p1 : Int32} {p2 : Int32} (ht : kd t = 10) (hw0 : kd w0 = 9) {M : Mem} {res : Int32} (h : F_X9_seenAt t w0 p1 p2 M = some res) : MC g yX9_seenAt cX9_seenAt 8 (some .int) 4 n [.ref (g_N g + t), .ref (g_N g + w0), .int p1, .int p2] (ent g Xo kd M) (some (.int res)) (ent g Xo kd M) := by
  refine MC_of pn_X9 (Nat.le_of_ble_eq_true rfl) (fun X C B => ?_)
  have hR := B.1
  rw [F_X9_seenAt] at h
  refine e_iconst C 0 (dk dX9_seenAt 0 rfl) (by decide) ?_
  refine e_istore C [(4, .int 0), (0, .ref (g_N g + t)), (1, .ref (g_N g + w0)), (2, .int p1), (3, .int p2)] (dk dX9_seenAt 1 rfl) (by decide) rfl ?_
  refine e_iconst C 1 (dk dX9_seenAt 2 rfl) (by decide) ?_
  refine e_istore C [(5, .int 1), (4, .int 0), (0, .ref (g_N g + t)), (1, .ref (g_N g + w0)), (2, .int p1), (3, .int p2)] (dk dX9_seenAt 3 rfl) (by decide) rfl ?_
  refine e_lv [2, 3, 4, 5, 1, 0] rfl ?_
  refine lb_X9_seenAt_6 C K ht hw0 hR (fun s12 h => ?_) h
  refine e_iload C 0 (dk dX9_seenAt 58 rfl) rfl ?_
  obtain rfl := Option.some.inj h
  exact e_iret C B (nar1 _) (dk dX9_seenAt 59 rfl)
set_option maxRecDepth 20000 in
theorem l_X10_of_7 {X : FX} {g : WC} {Xo : Nat → va_E} {n : Nat} {kd : Nat → Nat} (C : Cx X g RX10 cX10_of 5) (K : KD n kd) {t : Nat} {a0 : Nat} {n0 : Nat} (ht : kd t = 11) (ha0 : IA kd a0 n0) (hR : x_R X = rm 2) {OK : Mem → Prop} (hx : ∀ s, OK s → EW X g (x_s X).heap.size n 5 (ent g Xo kd s) 0 0 114 [(0, .ref (g_N g + t))] []) : ∀ (N9 : Nat) (x2 : Int32) (M : Mem) (q : Mem), L_X10_of_7 t a0 n0 N9 x2 M = some q → OK q → EW X g (x_s X).heap.size n 5 (ent g Xo kd M) 0 0 7 [(0, .ref (g_N g + t)), (1, .ref (g_N g + a0)), (2, .int x2)] [] := by
  intro N9
  induction N9 with
  | zero =>
    intro x2 M q h
    rw [L_X10_of_7.eq_1] at h
    cases h
  | succ m9 ih =>
    intro x2 M q h hOK
    rw [L_X10_of_7.eq_2] at h
    refine e_iload_n C 2 (dk dX10_of_0 5 rfl) rfl rfl ?_
    refine e_aload_n C 0 (dk dX10_of_0 6 rfl) rfl rfl ?_
    refine gf_X10_length C K ht fl_X10_15 (dk dX10_of_0 7 rfl) ?_
    refine e_icmp_ge C 114 (dk dX10_of_0 8 rfl) (by decide) (fun c1 => ?_) (fun c1 => ?_)
    · rw [if_pos c1] at h
      obtain rfl := Option.some.inj h
      refine e_lv [0] rfl ?_
      exact hx _ hOK
    · rw [if_neg c1] at h
      refine e_iload_n C 2 (dk dX10_of_0 9 rfl) rfl rfl ?_
      refine e_aload_n C 0 (dk dX10_of_0 10 rfl) rfl rfl ?_
      refine gf_X10_code C K ht fl_X10_9 (dk dX10_of_0 11 rfl) ?_
      refine m_alen C K (kd_X10_code K ht) 700 (by decide) (dk dX10_of_0 12 rfl) ?_
      refine e_icmp_ge C 114 (dk dX10_of_0 13 rfl) (by decide) (fun c2 => ?_) (fun c2 => ?_)
      · rw [if_pos c2] at h
        obtain rfl := Option.some.inj h
        refine e_lv [0] rfl ?_
        exact hx _ hOK
      · rw [if_neg c2] at h
        refine e_aload_n C 0 (dk dX10_of_0 14 rfl) rfl rfl ?_
        refine gf_X10_code C K ht fl_X10_9 (dk dX10_of_0 15 rfl) ?_
        refine e_iload_n C 2 (dk dX10_of_0 16 rfl) rfl rfl ?_
        obtain ⟨v3, hv3, h⟩ := ob h
        refine m_ald C K (kd_X10_code K ht) (dk dX10_of_0 17 rfl) hv3 ?_
        refine e_istore_n C [(3, .int v3), (0, .ref (g_N g + t)), (1, .ref (g_N g + a0)), (2, .int x2)] (dk dX10_of_0 18 rfl) rfl (by decide) rfl ?_
        refine e_iload_n C 0 (dk dX10_of_0 19 rfl) rfl rfl ?_
        refine e_if_lt C 43 (dk dX10_of_0 20 rfl) (by decide) (fun c4 => ?_) (fun c4 => ?_)
        · rw [if_pos c4] at h
          refine e_iload_n C 0 (dk dX10_of_0 25 rfl) rfl rfl ?_
          refine e_bipush C (-8) (dk dX10_of_0 26 rfl) (by decide) ?_
          refine e_icmp_lt C 63 (dk dX10_of_0 27 rfl) (by decide) (fun c5 => ?_) (fun c5 => ?_)
          · rw [if_pos c5] at h
            refine e_iload_n C 0 (dk dX10_of_0 36 rfl) rfl rfl ?_
            refine e_bipush C (-11) (dk dX10_of_0 37 rfl) (by decide) ?_
            refine e_icmp_ne C 88 (dk dX10_of_0 38 rfl) (by decide) (fun c6 => ?_) (fun c6 => ?_)
            · rw [if_neg c6] at h
              refine e_aload_n C 1 (dk dX10_of_0 48 rfl) rfl rfl ?_
              refine e_callV (ci := 10) C cal_X10_pop im_X10_pop se_X10_pop ml_X10_40 rfl hR (by decide) (dk dX10_of_0 49 rfl) (K.1 _ (by rw [ht]; decide)) (ent_o10 ht) (c_X10_pop K ht (rfl : F_X10_pop t M = _)) ⟨Nat.zero_le _, Nat.zero_le _⟩ (Nat.le_of_ble_eq_true rfl) rfl ?_
              refine e_istore C [(4, .int ((F_X10_pop t M).1)), (3, .int v3), (0, .ref (g_N g + t)), (1, .ref (g_N g + a0)), (2, .int x2)] (dk dX10_of_0 50 rfl) (by decide) rfl ?_
              refine e_aload_n C 2 (dk dX10_of_0 51 rfl) rfl rfl ?_
              refine e_iload_n C 1 (dk dX10_of_0 52 rfl) rfl rfl ?_
              refine e_aload_n C 2 (dk dX10_of_0 53 rfl) rfl rfl ?_
              refine e_callV (ci := 10) C cal_X10_pop im_X10_pop se_X10_pop ml_X10_40 rfl hR (by decide) (dk dX10_of_0 54 rfl) (K.1 _ (by rw [ht]; decide)) (ent_o10 ht) (c_X10_pop K ht (rfl : F_X10_pop t (F_X10_pop t M).2 = _)) ⟨Nat.zero_le _, Nat.zero_le _⟩ (Nat.le_of_ble_eq_true rfl) rfl ?_
              refine e_iload C 0 (dk dX10_of_0 55 rfl) rfl ?_
              obtain ⟨q7, hq7, h⟩ := ob h
              refine e_callS C cal_X10_joined sm_X10_joined ml_X10_44 hR (by decide) (dk dX10_of_0 56 rfl) (c_X10_joined K hq7) ⟨Nat.zero_le _, Nat.zero_le _⟩ (Nat.le_of_ble_eq_true rfl) rfl ?_
              refine e_callV (ci := 10) C cal_X10_push im_X10_push se_X10_push ml_X10_33 rfl hR (by decide) (dk dX10_of_0 57 rfl) (K.1 _ (by rw [ht]; decide)) (ent_o10 ht) (c_X10_push K ht (rfl : F_X10_push t q7 (F_X10_pop t (F_X10_pop t M).2).2 = _)) ⟨Nat.zero_le _, Nat.zero_le _⟩ (Nat.le_of_ble_eq_true rfl) rfl ?_
              refine e_iinc C [(2, .int (x2 + 1)), (4, .int ((F_X10_pop t M).1)), (3, .int v3), (0, .ref (g_N g + t)), (1, .ref (g_N g + a0))] 4 1 (dk dX10_of_0 58 rfl) rfl (by decide) (by decide) rfl ?_
              refine e_goto C 7 (dk dX10_of_0 59 rfl) (by decide) ?_
              refine e_lv [3, 4, 0] rfl ?_
              exact ih _ _ _ h hOK
            · rw [if_pos c6] at h
              refine e_aload_n C 1 (dk dX10_of_0 39 rfl) rfl rfl ?_
              refine e_aload_n C 1 (dk dX10_of_0 40 rfl) rfl rfl ?_
              refine e_callV (ci := 10) C cal_X10_pop im_X10_pop se_X10_pop ml_X10_40 rfl hR (by decide) (dk dX10_of_0 41 rfl) (K.1 _ (by rw [ht]; decide)) (ent_o10 ht) (c_X10_pop K ht (rfl : F_X10_pop t M = _)) ⟨Nat.zero_le _, Nat.zero_le _⟩ (Nat.le_of_ble_eq_true rfl) rfl ?_
              suffices hm9 : EW X g (x_s X).heap.size n 5 (ent g Xo kd (F_X10_pop t M).2) 0 0 82 [(3, .int v3), (0, .ref (g_N g + t)), (1, .ref (g_N g + a0)), (2, .int x2)] [.int (if ((F_X10_pop t M).1) = 0 then (1 : Int32) else (0 : Int32)), .ref (g_N g + t)] from (by
                refine e_if_ne C 81 (dk dX10_of_0 42 rfl) (by decide) (fun c8 => ?_) (fun c8 => ?_)
                · rw [show (if ((F_X10_pop t M).1) = 0 then (1 : Int32) else (0 : Int32)) = (0 : Int32) from if_neg c8] at hm9
                  refine e_iconst C 0 (dk dX10_of_0 45 rfl) (by decide) ?_
                  exact hm9
                · rw [show (if ((F_X10_pop t M).1) = 0 then (1 : Int32) else (0 : Int32)) = (1 : Int32) from if_pos c8] at hm9
                  refine e_iconst C 1 (dk dX10_of_0 43 rfl) (by decide) ?_
                  refine e_goto C 82 (dk dX10_of_0 44 rfl) (by decide) ?_
                  exact hm9)
              refine e_callV (ci := 10) C cal_X10_push im_X10_push se_X10_push ml_X10_33 rfl hR (by decide) (dk dX10_of_0 46 rfl) (K.1 _ (by rw [ht]; decide)) (ent_o10 ht) (c_X10_push K ht (rfl : F_X10_push t (if ((F_X10_pop t M).1) = 0 then (1 : Int32) else (0 : Int32)) (F_X10_pop t M).2 = _)) ⟨Nat.zero_le _, Nat.zero_le _⟩ (Nat.le_of_ble_eq_true rfl) rfl ?_
              refine e_goto C 108 (dk dX10_of_0 47 rfl) (by decide) ?_
              refine e_iinc C [(2, .int (x2 + 1)), (3, .int v3), (0, .ref (g_N g + t)), (1, .ref (g_N g + a0))] 3 1 (dk dX10_of_0 58 rfl) rfl (by decide) (by decide) rfl ?_
              refine e_goto C 7 (dk dX10_of_0 59 rfl) (by decide) ?_
              refine e_lv [2, 3, 0] rfl ?_
              exact ih _ _ _ h hOK
          · rw [if_neg c5] at h
            refine e_aload_n C 1 (dk dX10_of_0 28 rfl) rfl rfl ?_
            refine e_aload_n C 2 (dk dX10_of_0 29 rfl) rfl rfl ?_
            refine e_iconst C (-1) (dk dX10_of_0 30 rfl) (by decide) ?_
            refine e_iload_n C 0 (dk dX10_of_0 31 rfl) rfl rfl ?_
            refine e_isub C (dk dX10_of_0 32 rfl) ?_
            refine e_callSN C cal_X11_at sm_X11_at mn_X10_36 hR (by decide) (dk dX10_of_0 33 rfl) (c_X11_at K ha0 (rfl : F_X11_at a0 n0 ((-1) - v3) M = _)) ⟨Nat.zero_le _, Nat.zero_le _⟩ (Nat.le_of_ble_eq_true rfl) rfl ?_
            refine e_callV (ci := 10) C cal_X10_push im_X10_push se_X10_push ml_X10_33 rfl hR (by decide) (dk dX10_of_0 34 rfl) (K.1 _ (by rw [ht]; decide)) (ent_o10 ht) (c_X10_push K ht (rfl : F_X10_push t (F_X11_at a0 n0 ((-1) - v3) M) M = _)) ⟨Nat.zero_le _, Nat.zero_le _⟩ (Nat.le_of_ble_eq_true rfl) rfl ?_
            refine e_goto C 108 (dk dX10_of_0 35 rfl) (by decide) ?_
            refine e_iinc C [(2, .int (x2 + 1)), (3, .int v3), (0, .ref (g_N g + t)), (1, .ref (g_N g + a0))] 3 1 (dk dX10_of_0 58 rfl) rfl (by decide) (by decide) rfl ?_
            refine e_goto C 7 (dk dX10_of_0 59 rfl) (by decide) ?_
            refine e_lv [2, 3, 0] rfl ?_
            exact ih _ _ _ h hOK
        · rw [if_neg c4] at h
          refine e_aload_n C 1 (dk dX10_of_0 21 rfl) rfl rfl ?_
          refine e_iload_n C 0 (dk dX10_of_0 22 rfl) rfl rfl ?_
          refine e_callV (ci := 10) C cal_X10_push im_X10_push se_X10_push ml_X10_33 rfl hR (by decide) (dk dX10_of_0 23 rfl) (K.1 _ (by rw [ht]; decide)) (ent_o10 ht) (c_X10_push K ht (rfl : F_X10_push t v3 M = _)) ⟨Nat.zero_le _, Nat.zero_le _⟩ (Nat.le_of_ble_eq_true rfl) rfl ?_
          refine e_goto C 108 (dk dX10_of_0 24 rfl) (by decide) ?_
          refine e_iinc C [(2, .int (x2 + 1)), (3, .int v3), (0, .ref (g_N g + t)), (1, .ref (g_N g + a0))] 3 1 (dk dX10_of_0 58 rfl) rfl (by decide) (by decide) rfl ?_
          refine e_goto C 7 (dk dX10_of_0 59 rfl) (by decide) ?_
          refine e_lv [2, 3, 0] rfl ?_
          exact ih _ _ _ h hOK
set_option maxRecDepth 20000 in
theorem lb_X10_of_7 {X : FX} {g : WC} {Xo : Nat → va_E} {n : Nat} {kd : Nat → Nat} (C : Cx X g RX10 cX10_of 5) (K : KD n kd) {t : Nat} {a0 : Nat} {n0 : Nat} (ht : kd t = 11) (ha0 : IA kd a0 n0) (hR : x_R X = rm 2) {T9 : Type} {f9 : Mem → Option T9} {b9 : T9} (hx : ∀ s, f9 s = some b9 → EW X g (x_s X).heap.size n 5 (ent g Xo kd s) 0 0 114 [(0, .ref (g_N g + t))] []) {x2 : Int32} {M : Mem} (h : (L_X10_of_7 t a0 n0 FU x2 M).bind f9 = some b9) : EW X g (x_s X).heap.size n 5 (ent g Xo kd M) 0 0 7 [(0, .ref (g_N g + t)), (1, .ref (g_N g + a0)), (2, .int x2)] [] := by
  obtain ⟨q, hq, h⟩ := ob h
  exact l_X10_of_7 C K ht ha0 hR (OK := fun q => f9 q = some b9) hx FU x2 M q hq h
set_option maxRecDepth 20000 in
theorem j_X10_of_j114 {X : FX} {g : WC} {Xo : Nat → va_E} {n : Nat} {kd : Nat → Nat} (C : Cx X g RX10 cX10_of 5) (K : KD n kd) {t : Nat} {a0 : Nat} {n0 : Nat} (ht : kd t = 11) (ha0 : IA kd a0 n0) (hR : x_R X = rm 2) {M : Mem} {res : Int32 × Mem} (h : J_X10_of_j114 t a0 n0 M = some res) (B : Bx X g (some .int) 2 n (some (.int res.1)) (ent g Xo kd res.2)) : EW X g (x_s X).heap.size n 5 (ent g Xo kd M) 0 0 114 [(0, .ref (g_N g + t))] [] := by
  rw [J_X10_of_j114] at h
  refine e_aload_n C 0 (dk dX10_of_1 0 rfl) rfl rfl ?_
  refine e_callV (ci := 10) C cal_X10_pop im_X10_pop se_X10_pop ml_X10_40 rfl hR (by decide) (dk dX10_of_1 1 rfl) (K.1 _ (by rw [ht]; decide)) (ent_o10 ht) (c_X10_pop K ht (rfl : F_X10_pop t M = _)) ⟨Nat.zero_le _, Nat.zero_le _⟩ (Nat.le_of_ble_eq_true rfl) rfl ?_
  obtain rfl := Option.some.inj h
  exact e_iret C B (nar1 _) (dk dX10_of_1 2 rfl)
set_option maxRecDepth 20000 in
theorem c_X10_of {g : WC} {Xo : Nat → va_E} {n : Nat} {kd : Nat → Nat} (K : KD n kd) {t : Nat} {a0 : Nat} {n0 : Nat} (ht : kd t = 11) (ha0 : IA kd a0 n0) {M : Mem} {res : Int32 × Mem} (h : F_X10_of t a0 n0 M = some res) : MC g yX10_of cX10_of 5 (some .int) 2 n [.ref (g_N g + t), .ref (g_N g + a0)] (ent g Xo kd M) (some (.int res.1)) (ent g Xo kd res.2) := by
  refine MC_of pn_X10 (Nat.le_of_ble_eq_true rfl) (fun X C B => ?_)
  have hR := B.1
  rw [F_X10_of] at h
  refine e_aload_n C 0 (dk dX10_of_0 0 rfl) rfl rfl ?_
  refine e_iconst C 0 (dk dX10_of_0 1 rfl) (by decide) ?_
  refine pf_X10_height C K ht fl_X10_22 (dk dX10_of_0 2 rfl) ?_
  refine e_iconst C 0 (dk dX10_of_0 3 rfl) (by decide) ?_
  refine e_istore_n C [(2, .int 0), (0, .ref (g_N g + t)), (1, .ref (g_N g + a0))] (dk dX10_of_0 4 rfl) rfl (by decide) rfl ?_
  refine e_lv [1, 2, 0] rfl ?_
  refine lb_X10_of_7 C K ht ha0 hR (fun s11 h => ?_) h
  exact j_X10_of_j114 C K ht ha0 hR h B
set_option maxRecDepth 20000 in
theorem l_X11_firstSeen_17 {X : FX} {g : WC} {Xo : Nat → va_E} {n : Nat} {kd : Nat → Nat} (C : Cx X g RX11 cX11_firstSeen 4) (K : KD n kd) {t : Nat} (ht : kd t = 12) {x1 : Int32} {x2 : Int32} {M : Mem} (hR : x_R X = rm 4) {OK : Sum (Int32) (Unit) → Prop} (hB : ∀ v, OK (Sum.inl v) → Bx X g (some .int) 4 n (some (.int v)) (ent g Xo kd M)) (hx : ∀ s, OK (Sum.inr s) → EW X g (x_s X).heap.size n 4 (ent g Xo kd M) 0 0 51 [] []) : ∀ (N9 : Nat) (x3 : Int32) (q : Sum (Int32) (Unit)), L_X11_firstSeen_17 t x1 x2 M N9 x3 = some q → OK q → EW X g (x_s X).heap.size n 4 (ent g Xo kd M) 0 0 17 [(0, .ref (g_N g + t)), (1, .int x1), (2, .int x2), (3, .int x3)] [] := by
  intro N9
  induction N9 with
  | zero =>
    intro x3 q h
    rw [L_X11_firstSeen_17.eq_1] at h
    cases h
  | succ m9 ih =>
    intro x3 q h hOK
    rw [L_X11_firstSeen_17.eq_2] at h
    refine e_iload_n C 3 (dk dX11_firstSeen 9 rfl) rfl rfl ?_
    refine e_bipush C 40 (dk dX11_firstSeen 10 rfl) (by decide) ?_
    refine e_icmp_gt C 51 (dk dX11_firstSeen 11 rfl) (by decide) (fun c1 => ?_) (fun c1 => ?_)
    · rw [if_pos c1] at h
      obtain rfl := Option.some.inj h
      refine e_lv [] rfl ?_
      exact hx _ hOK
    · rw [if_neg c1] at h
      refine e_aload_n C 0 (dk dX11_firstSeen 12 rfl) rfl rfl ?_
      obtain ⟨w2, hw2, h⟩ := ob h
      have gw2 := grd_some K (Or.inl ht) hw2
      refine gf_X11_plan C K ht fl_X11_19 (dk dX11_firstSeen 13 rfl) ?_
      rw [gw2.1]
      refine e_aload_n C 0 (dk dX11_firstSeen 14 rfl) rfl rfl ?_
      refine gf_X11_book C K ht fl_X11_30 (dk dX11_firstSeen 15 rfl) ?_
      refine gf_X0_town C K (kd_X11_book K ht) fl_X11_119 (dk dX11_firstSeen 16 rfl) ?_
      refine e_iload_n C 1 (dk dX11_firstSeen 17 rfl) rfl rfl ?_
      refine e_iload_n C 2 (dk dX11_firstSeen 18 rfl) rfl rfl ?_
      refine e_iload_n C 3 (dk dX11_firstSeen 19 rfl) rfl rfl ?_
      obtain ⟨q3, hq3, h⟩ := ob h
      refine e_callV (ci := 9) C cal_X9_seenIn im_X9_seenIn se_X9_seenIn ml_X11_200 rfl hR (by decide) (dk dX11_firstSeen 20 rfl) (K.1 _ (by rw [gw2.2]; decide)) (ent_o9 gw2.2) (c_X9_seenIn K gw2.2 (kd_X0_town K (kd_X11_book K ht)) hq3) ⟨Nat.zero_le _, Nat.zero_le _⟩ (Nat.le_of_ble_eq_true rfl) rfl ?_
      refine e_if_eq C 45 (dk dX11_firstSeen 21 rfl) (by decide) (fun c4 => ?_) (fun c4 => ?_)
      · rw [if_pos c4] at h
        refine e_iinc C [(3, .int (x3 + 1)), (0, .ref (g_N g + t)), (1, .int x1), (2, .int x2)] 3 1 (dk dX11_firstSeen 24 rfl) rfl (by decide) (by decide) rfl ?_
        refine e_goto C 17 (dk dX11_firstSeen 25 rfl) (by decide) ?_
        refine e_lv [1, 2, 3, 0] rfl ?_
        exact ih _ _ h hOK
      · rw [if_neg c4] at h
        refine e_iload_n C 3 (dk dX11_firstSeen 22 rfl) rfl rfl ?_
        obtain rfl := Option.some.inj h
        exact e_iret C (hB _ hOK) (nar1 _) (dk dX11_firstSeen 23 rfl)
set_option maxRecDepth 20000 in
theorem lb_X11_firstSeen_17 {X : FX} {g : WC} {Xo : Nat → va_E} {n : Nat} {kd : Nat → Nat} (C : Cx X g RX11 cX11_firstSeen 4) (K : KD n kd) {t : Nat} (ht : kd t = 12) {x1 : Int32} {x2 : Int32} {M : Mem} (hR : x_R X = rm 4) {T9 : Type} {f9 : Sum (Int32) (Unit) → Option T9} {b9 : T9} (hB : ∀ v, f9 (Sum.inl v) = some b9 → Bx X g (some .int) 4 n (some (.int v)) (ent g Xo kd M)) (hx : ∀ s, f9 (Sum.inr s) = some b9 → EW X g (x_s X).heap.size n 4 (ent g Xo kd M) 0 0 51 [] []) {x3 : Int32} (h : (L_X11_firstSeen_17 t x1 x2 M FU x3).bind f9 = some b9) : EW X g (x_s X).heap.size n 4 (ent g Xo kd M) 0 0 17 [(0, .ref (g_N g + t)), (1, .int x1), (2, .int x2), (3, .int x3)] [] := by
  obtain ⟨q, hq, h⟩ := ob h
  exact l_X11_firstSeen_17 C K ht hR (OK := fun q => f9 q = some b9) hB hx FU x3 q hq h
set_option maxRecDepth 20000 in
theorem c_X11_firstSeen {g : WC} {Xo : Nat → va_E} {n : Nat} {kd : Nat → Nat} (K : KD n kd) {t : Nat} {p0 : Int32} (ht : kd t = 12) {M : Mem} {res : Int32} (h : F_X11_firstSeen t p0 M = some res) : MC g yX11_firstSeen cX11_firstSeen 4 (some .int) 4 n [.ref (g_N g + t), .int p0] (ent g Xo kd M) (some (.int res)) (ent g Xo kd M) := by
  refine MC_of pn_X11 (Nat.le_of_ble_eq_true rfl) (fun X C B => ?_)
  have hR := B.1
  rw [F_X11_firstSeen] at h
  refine e_aload_n C 0 (dk dX11_firstSeen 0 rfl) rfl rfl ?_
  refine gf_X11_book C K ht fl_X11_30 (dk dX11_firstSeen 1 rfl) ?_
  refine gf_X0_town C K (kd_X11_book K ht) fl_X11_119 (dk dX11_firstSeen 2 rfl) ?_
  refine gf_X8_walks C K (kd_X0_town K (kd_X11_book K ht)) fl_X11_197 (dk dX11_firstSeen 3 rfl) ?_
  refine e_iload_n C 1 (dk dX11_firstSeen 4 rfl) rfl rfl ?_
  refine e_callS C cal_X11_at sm_X11_at ml_X11_172 hR (by decide) (dk dX11_firstSeen 5 rfl) (c_X11_at K (kd_X8_walks K (kd_X0_town K (kd_X11_book K ht))) (rfl : F_X11_at (((t + 24) + 1) + 3) 7 p0 M = _)) ⟨Nat.zero_le _, Nat.zero_le _⟩ (Nat.le_of_ble_eq_true rfl) rfl ?_
  refine e_istore_n C [(2, .int (F_X11_at (((t + 24) + 1) + 3) 7 p0 M)), (0, .ref (g_N g + t)), (1, .int p0)] (dk dX11_firstSeen 6 rfl) rfl (by decide) rfl ?_
  refine e_iconst C 1 (dk dX11_firstSeen 7 rfl) (by decide) ?_
  refine e_istore_n C [(3, .int 1), (2, .int (F_X11_at (((t + 24) + 1) + 3) 7 p0 M)), (0, .ref (g_N g + t)), (1, .int p0)] (dk dX11_firstSeen 8 rfl) rfl (by decide) rfl ?_
  refine e_lv [2, 3, 1, 0] rfl ?_
  refine lb_X11_firstSeen_17 C K ht hR (fun v h => ?_) (fun s6 h => ?_) h
  · obtain rfl := Option.some.inj (show some v = some _ from h)
    exact B
  dsimp only [Sum.elim_inr] at h
  refine e_iconst C (-1) (dk dX11_firstSeen 26 rfl) (by decide) ?_
  obtain rfl := Option.some.inj h
  exact e_iret C B (nar1 _) (dk dX11_firstSeen 27 rfl)
set_option maxRecDepth 20000 in
theorem c_X11_drawEvent {g : WC} {Xo : Nat → va_E} {n : Nat} {kd : Nat → Nat} (K : KD n kd) {t : Nat} (ht : kd t = 12) {M : Mem} {res : Mem} (h : F_X11_drawEvent t M = some res) : MC g yX11_drawEvent cX11_drawEvent 4 none 2 n [.ref (g_N g + t)] (ent g Xo kd M) none (ent g Xo kd res) := by
  refine MC_of pn_X11 (Nat.le_of_ble_eq_true rfl) (fun X C B => ?_)
  have hR := B.1
  rw [F_X11_drawEvent] at h
  refine e_aload_n C 0 (dk dX11_drawEvent 0 rfl) rfl rfl ?_
  refine gf_X11_dice C K ht fl_X11_72 (dk dX11_drawEvent 1 rfl) ?_
  refine e_iconst C 4 (dk dX11_drawEvent 2 rfl) (by decide) ?_
  obtain ⟨q1, hq1, h⟩ := ob h
  refine e_callV (ci := 2) C cal_X2_draw im_X2_draw se_X2_draw ml_X11_349 rfl hR (by decide) (dk dX11_drawEvent 3 rfl) (K.1 _ (by rw [(kd_X11_dice K ht)]; decide)) (ent_o2 (kd_X11_dice K ht)) (c_X2_draw K (kd_X11_dice K ht) hq1) ⟨Nat.zero_le _, Nat.zero_le _⟩ (Nat.le_of_ble_eq_true rfl) rfl ?_
  refine e_istore_n C [(1, .int q1.1), (0, .ref (g_N g + t))] (dk dX11_drawEvent 4 rfl) rfl (by decide) rfl ?_
  refine e_aload_n C 1 (dk dX11_drawEvent 5 rfl) rfl rfl ?_
  obtain ⟨w2, hw2, h⟩ := ob h
  have gw2 := grd_some K (Or.inl ht) hw2
  refine gf_X11_plan C K ht fl_X11_19 (dk dX11_drawEvent 6 rfl) ?_
  rw [gw2.1]
  refine gf_X9_people C K gw2.2 fl_X11_128 (dk dX11_drawEvent 7 rfl) ?_
  refine e_if_ne C 20 (dk dX11_drawEvent 8 rfl) (by decide) (fun c3 => ?_) (fun c3 => ?_)
  · rw [if_neg c3] at h
    refine e_iload_n C 0 (dk dX11_drawEvent 10 rfl) rfl rfl ?_
    refine e_if_ne C 50 (dk dX11_drawEvent 11 rfl) (by decide) (fun c4 => ?_) (fun c4 => ?_)
    · rw [if_neg c4] at h
      refine e_iload_n C 0 (dk dX11_drawEvent 23 rfl) rfl rfl ?_
      refine e_iconst C 1 (dk dX11_drawEvent 24 rfl) (by decide) ?_
      refine e_icmp_ne C 112 (dk dX11_drawEvent 25 rfl) (by decide) (fun c5 => ?_) (fun c5 => ?_)
      · rw [if_neg c5] at h
        obtain rfl := Option.some.inj h
        exact e_vret C B (dk dX11_drawEvent 53 rfl)
      · rw [if_pos c5] at h
        refine e_aload_n C 1 (dk dX11_drawEvent 26 rfl) rfl rfl ?_
        refine gf_X11_dice C K ht fl_X11_72 (dk dX11_drawEvent 27 rfl) ?_
        refine e_aload_n C 1 (dk dX11_drawEvent 28 rfl) rfl rfl ?_
        obtain ⟨w6, hw6, h⟩ := ob h
        have gw6 := grd_some K (Or.inl ht) hw6
        refine gf_X11_plan C K ht fl_X11_19 (dk dX11_drawEvent 29 rfl) ?_
        rw [gw6.1]
        refine gf_X9_people C K gw6.2 fl_X11_128 (dk dX11_drawEvent 30 rfl) ?_
        obtain ⟨q7, hq7, h⟩ := ob h
        refine e_callV (ci := 2) C cal_X2_draw im_X2_draw se_X2_draw ml_X11_349 rfl hR (by decide) (dk dX11_drawEvent 31 rfl) (K.1 _ (by rw [(kd_X11_dice K ht)]; decide)) (ent_o2 (kd_X11_dice K ht)) (c_X2_draw K (kd_X11_dice K ht) hq7) ⟨Nat.zero_le _, Nat.zero_le _⟩ (Nat.le_of_ble_eq_true rfl) rfl ?_
        refine e_istore_n C [(2, .int q7.1), (1, .int q1.1), (0, .ref (g_N g + t))] (dk dX11_drawEvent 32 rfl) rfl (by decide) rfl ?_
        refine e_aload_n C 2 (dk dX11_drawEvent 33 rfl) rfl rfl ?_
        refine gf_X11_dice C K ht fl_X11_72 (dk dX11_drawEvent 34 rfl) ?_
        refine e_aload_n C 2 (dk dX11_drawEvent 35 rfl) rfl rfl ?_
        obtain ⟨w8, hw8, h⟩ := ob h
        have gw8 := grd_some K (Or.inl ht) hw8
        refine gf_X11_plan C K ht fl_X11_19 (dk dX11_drawEvent 36 rfl) ?_
        rw [gw8.1]
        refine gf_X9_lengths C K gw8.2 fl_X11_188 (dk dX11_drawEvent 37 rfl) ?_
        refine e_iload_n C 0 (dk dX11_drawEvent 38 rfl) rfl rfl ?_
        refine e_callS C cal_X11_at sm_X11_at ml_X11_172 hR (by decide) (dk dX11_drawEvent 39 rfl) (c_X11_at K (kd_X9_lengths K gw8.2) (rfl : F_X11_at (w8 + 4) 7 q7.1 q7.2 = _)) ⟨Nat.zero_le _, Nat.zero_le _⟩ (Nat.le_of_ble_eq_true rfl) rfl ?_
        obtain ⟨q9, hq9, h⟩ := ob h
        refine e_callV (ci := 2) C cal_X2_draw im_X2_draw se_X2_draw ml_X11_349 rfl hR (by decide) (dk dX11_drawEvent 40 rfl) (K.1 _ (by rw [(kd_X11_dice K ht)]; decide)) (ent_o2 (kd_X11_dice K ht)) (c_X2_draw K (kd_X11_dice K ht) hq9) ⟨Nat.zero_le _, Nat.zero_le _⟩ (Nat.le_of_ble_eq_true rfl) rfl ?_
        refine e_istore_n C [(3, .int q9.1), (2, .int q7.1), (1, .int q1.1), (0, .ref (g_N g + t))] (dk dX11_drawEvent 41 rfl) rfl (by decide) rfl ?_
        refine e_aload_n C 3 (dk dX11_drawEvent 42 rfl) rfl rfl ?_
        refine gf_X11_later C K ht fl_X11_44 (dk dX11_drawEvent 43 rfl) ?_
        refine e_iload_n C 1 (dk dX11_drawEvent 44 rfl) rfl rfl ?_
        refine e_iload_n C 0 (dk dX11_drawEvent 45 rfl) rfl rfl ?_
        refine e_aload_n C 3 (dk dX11_drawEvent 46 rfl) rfl rfl ?_
        refine gf_X11_dice C K ht fl_X11_72 (dk dX11_drawEvent 47 rfl) ?_
        refine e_aload_n C 3 (dk dX11_drawEvent 48 rfl) rfl rfl ?_
        obtain ⟨w10, hw10, h⟩ := ob h
        have gw10 := grd_some K (Or.inl ht) hw10
        refine gf_X11_plan C K ht fl_X11_19 (dk dX11_drawEvent 49 rfl) ?_
        rw [gw10.1]
        refine gf_X9_streets C K gw10.2 fl_X11_122 (dk dX11_drawEvent 50 rfl) ?_
        obtain ⟨q11, hq11, h⟩ := ob h
        refine e_callV (ci := 2) C cal_X2_draw im_X2_draw se_X2_draw ml_X11_349 rfl hR (by decide) (dk dX11_drawEvent 51 rfl) (K.1 _ (by rw [(kd_X11_dice K ht)]; decide)) (ent_o2 (kd_X11_dice K ht)) (c_X2_draw K (kd_X11_dice K ht) hq11) ⟨Nat.zero_le _, Nat.zero_le _⟩ (Nat.le_of_ble_eq_true rfl) rfl ?_
        refine e_callV (ci := 8) C cal_X8_move im_X8_move se_X8_move ml_X11_225 rfl hR (by decide) (dk dX11_drawEvent 52 rfl) (K.1 _ (by rw [(kd_X11_later K ht)]; decide)) (ent_o8 (kd_X11_later K ht)) (c_X8_move K (kd_X11_later K ht) (rfl : F_X8_move (t + 48) q7.1 q9.1 q11.1 q11.2 = _)) ⟨Nat.zero_le _, Nat.zero_le _⟩ (Nat.le_of_ble_eq_true rfl) rfl ?_
        obtain rfl := Option.some.inj h
        exact e_vret C B (dk dX11_drawEvent 53 rfl)
    · rw [if_pos c4] at h
      refine e_aload_n C 1 (dk dX11_drawEvent 12 rfl) rfl rfl ?_
      refine gf_X11_later C K ht fl_X11_44 (dk dX11_drawEvent 13 rfl) ?_
      refine e_aload_n C 1 (dk dX11_drawEvent 14 rfl) rfl rfl ?_
      refine gf_X11_dice C K ht fl_X11_72 (dk dX11_drawEvent 15 rfl) ?_
      refine e_aload_n C 1 (dk dX11_drawEvent 16 rfl) rfl rfl ?_
      obtain ⟨w12, hw12, h⟩ := ob h
      have gw12 := grd_some K (Or.inl ht) hw12
      refine gf_X11_plan C K ht fl_X11_19 (dk dX11_drawEvent 17 rfl) ?_
      rw [gw12.1]
      refine gf_X9_people C K gw12.2 fl_X11_128 (dk dX11_drawEvent 18 rfl) ?_
      obtain ⟨q13, hq13, h⟩ := ob h
      refine e_callV (ci := 2) C cal_X2_draw im_X2_draw se_X2_draw ml_X11_349 rfl hR (by decide) (dk dX11_drawEvent 19 rfl) (K.1 _ (by rw [(kd_X11_dice K ht)]; decide)) (ent_o2 (kd_X11_dice K ht)) (c_X2_draw K (kd_X11_dice K ht) hq13) ⟨Nat.zero_le _, Nat.zero_le _⟩ (Nat.le_of_ble_eq_true rfl) rfl ?_
      refine e_bipush C 20 (dk dX11_drawEvent 20 rfl) (by decide) ?_
      refine e_callV (ci := 8) C cal_X8_addCoins im_X8_addCoins se_X8_addCoins ml_X11_229 rfl hR (by decide) (dk dX11_drawEvent 21 rfl) (K.1 _ (by rw [(kd_X11_later K ht)]; decide)) (ent_o8 (kd_X11_later K ht)) (c_X8_addCoins K (kd_X11_later K ht) (rfl : F_X8_addCoins (t + 48) q13.1 20 q13.2 = _)) ⟨Nat.zero_le _, Nat.zero_le _⟩ (Nat.le_of_ble_eq_true rfl) rfl ?_
      refine e_goto C 112 (dk dX11_drawEvent 22 rfl) (by decide) ?_
      obtain rfl := Option.some.inj h
      exact e_vret C B (dk dX11_drawEvent 53 rfl)
  · rw [if_pos c3] at h
    obtain rfl := Option.some.inj h
    exact e_vret C B (dk dX11_drawEvent 9 rfl)
set_option maxRecDepth 20000 in
theorem c_X0_keepAct {g : WC} {Xo : Nat → va_E} {n : Nat} {kd : Nat → Nat} (K : KD n kd) {t : Nat} (ht : kd t = 1) {M : Mem} {res : Mem} (h : F_X0_keepAct t M = some res) : MC g yX0_keepAct cX0_keepAct 1 none 3 n [.ref (g_N g + t)] (ent g Xo kd M) none (ent g Xo kd res) := by
  refine MC_of pn_X0 (Nat.le_of_ble_eq_true rfl) (fun X C B => ?_)
  have hR := B.1
  rw [F_X0_keepAct] at h
  refine e_aload_n C 0 (dk dX0_keepAct 0 rfl) rfl rfl ?_
  refine gf_X0_diary C K ht fl_X0_21 (dk dX0_keepAct 1 rfl) ?_
  refine e_aload_n C 0 (dk dX0_keepAct 2 rfl) rfl rfl ?_
  refine gf_X0_town C K ht fl_X0_12 (dk dX0_keepAct 3 rfl) ?_
  obtain ⟨q1, hq1, h⟩ := ob h
  refine e_callV (ci := 1) C cal_X1_add im_X1_add se_X1_add ml_X0_45 rfl hR (by decide) (dk dX0_keepAct 4 rfl) (K.1 _ (by rw [(kd_X0_diary K ht)]; decide)) (ent_o1 (kd_X0_diary K ht)) (c_X1_add K (kd_X0_diary K ht) (kd_X0_town K ht) hq1) ⟨Nat.zero_le _, Nat.zero_le _⟩ (Nat.le_of_ble_eq_true rfl) rfl ?_
  obtain rfl := Option.some.inj h
  exact e_vret C B (dk dX0_keepAct 5 rfl)
set_option maxRecDepth 20000 in
theorem c_X0_undoAct {g : WC} {Xo : Nat → va_E} {n : Nat} {kd : Nat → Nat} (K : KD n kd) {t : Nat} (ht : kd t = 1) {M : Mem} {res : Bool × Mem} (h : F_X0_undoAct t M = some res) : MC g yX0_undoAct cX0_undoAct 1 (some .boolean) 3 n [.ref (g_N g + t)] (ent g Xo kd M) (some (.int (bi res.1))) (ent g Xo kd res.2) := by
  refine MC_of pn_X0 (Nat.le_of_ble_eq_true rfl) (fun X C B => ?_)
  have hR := B.1
  rw [F_X0_undoAct] at h
  refine e_aload_n C 0 (dk dX0_undoAct 0 rfl) rfl rfl ?_
  refine gf_X0_diary C K ht fl_X0_21 (dk dX0_undoAct 1 rfl) ?_
  refine e_aload_n C 0 (dk dX0_undoAct 2 rfl) rfl rfl ?_
  refine gf_X0_town C K ht fl_X0_12 (dk dX0_undoAct 3 rfl) ?_
  obtain ⟨q1, hq1, h⟩ := ob h
  refine e_callV (ci := 1) C cal_X1_takeBack im_X1_takeBack se_X1_takeBack ml_X0_49 rfl hR (by decide) (dk dX0_undoAct 4 rfl) (K.1 _ (by rw [(kd_X0_diary K ht)]; decide)) (ent_o1 (kd_X0_diary K ht)) (c_X1_takeBack K (kd_X0_diary K ht) (kd_X0_town K ht) hq1) ⟨Nat.zero_le _, Nat.zero_le _⟩ (Nat.le_of_ble_eq_true rfl) rfl ?_
  obtain rfl := Option.some.inj h
  exact e_iret (v := bi q1.1) C B (nar_bi _) (dk dX0_undoAct 5 rfl)
set_option maxRecDepth 20000 in
theorem c_X0_copy {g : WC} {Xo : Nat → va_E} {n : Nat} {kd : Nat → Nat} (K : KD n kd) {t : Nat} {w0 : Nat} (ht : kd t = 1) (hw0 : kd w0 = 1) {M : Mem} {res : Mem} (h : F_X0_copy t w0 M = some res) : MC g yX0_copy cX0_copy 2 none 2 n [.ref (g_N g + t), .ref (g_N g + w0)] (ent g Xo kd M) none (ent g Xo kd res) := by
  refine MC_of pn_X0 (Nat.le_of_ble_eq_true rfl) (fun X C B => ?_)
  have hR := B.1
  rw [F_X0_copy] at h
  refine e_aload_n C 0 (dk dX0_copy 0 rfl) rfl rfl ?_
  refine gf_X0_town C K ht fl_X0_12 (dk dX0_copy 1 rfl) ?_
  refine e_aload_n C 1 (dk dX0_copy 2 rfl) rfl rfl ?_
  refine gf_X0_town C K hw0 fl_X0_12 (dk dX0_copy 3 rfl) ?_
  obtain ⟨q1, hq1, h⟩ := ob h
  refine e_callV (ci := 8) C cal_X8_copy im_X8_copy se_X8_copy ml_X0_61 rfl hR (by decide) (dk dX0_copy 4 rfl) (K.1 _ (by rw [(kd_X0_town K ht)]; decide)) (ent_o8 (kd_X0_town K ht)) (c_X8_copy K (kd_X0_town K ht) (kd_X0_town K hw0) hq1) ⟨Nat.zero_le _, Nat.zero_le _⟩ (Nat.le_of_ble_eq_true rfl) rfl ?_
  refine e_aload_n C 0 (dk dX0_copy 5 rfl) rfl rfl ?_
  refine gf_X0_diary C K ht fl_X0_21 (dk dX0_copy 6 rfl) ?_
  refine e_aload_n C 1 (dk dX0_copy 7 rfl) rfl rfl ?_
  refine gf_X0_diary C K hw0 fl_X0_21 (dk dX0_copy 8 rfl) ?_
  obtain ⟨q2, hq2, h⟩ := ob h
  refine e_callV (ci := 1) C cal_X1_copy im_X1_copy se_X1_copy ml_X0_64 rfl hR (by decide) (dk dX0_copy 9 rfl) (K.1 _ (by rw [(kd_X0_diary K ht)]; decide)) (ent_o1 (kd_X0_diary K ht)) (c_X1_copy K (kd_X0_diary K ht) (kd_X0_diary K hw0) hq2) ⟨Nat.zero_le _, Nat.zero_le _⟩ (Nat.le_of_ble_eq_true rfl) rfl ?_
  refine e_aload_n C 0 (dk dX0_copy 10 rfl) rfl rfl ?_
  refine gf_X0_told C K ht fl_X0_28 (dk dX0_copy 11 rfl) ?_
  refine e_aload_n C 1 (dk dX0_copy 12 rfl) rfl rfl ?_
  refine gf_X0_told C K hw0 fl_X0_28 (dk dX0_copy 13 rfl) ?_
  obtain ⟨q3, hq3, h⟩ := ob h
  refine e_callV (ci := 7) C cal_X7_copy im_X7_copy se_X7_copy ml_X0_67 rfl hR (by decide) (dk dX0_copy 14 rfl) (K.1 _ (by rw [(kd_X0_told K ht)]; decide)) (ent_o7 (kd_X0_told K ht)) (c_X7_copy K (kd_X0_told K ht) (kd_X0_told K hw0) hq3) ⟨Nat.zero_le _, Nat.zero_le _⟩ (Nat.le_of_ble_eq_true rfl) rfl ?_
  refine e_aload_n C 1 (dk dX0_copy 15 rfl) rfl rfl ?_
  refine gf_X0_status C K hw0 fl_X0_32 (dk dX0_copy 16 rfl) ?_
  refine e_aload_n C 0 (dk dX0_copy 17 rfl) rfl rfl ?_
  refine gf_X0_status C K ht fl_X0_32 (dk dX0_copy 18 rfl) ?_
  obtain ⟨q4, hq4, h⟩ := ob h
  refine e_callSN C cal_X11_copyRow sm_X11_copyRow mn_X0_70 hR (by decide) (dk dX0_copy 19 rfl) (c_X11_copyRow K (kd_X0_status K hw0) (kd_X0_status K ht) hq4) ⟨Nat.zero_le _, Nat.zero_le _⟩ (Nat.le_of_ble_eq_true rfl) rfl ?_
  obtain rfl := Option.some.inj h
  exact e_vret C B (dk dX0_copy 20 rfl)
set_option maxRecDepth 20000 in
theorem l_X4_nightsOf_6 {X : FX} {g : WC} {Xo : Nat → va_E} {n : Nat} {kd : Nat → Nat} (C : Cx X g RX4 cX4_nightsOf 6) (K : KD n kd) {w0 : Nat} {w1 : Nat} (hw0 : kd w0 = 10) (hw1 : kd w1 = 9) {x2 : Int32} {x3 : Int32} {M : Mem} (hR : x_R X = rm 4) {OK : Int32 → Prop} (hx : ∀ s, OK s → EW X g (x_s X).heap.size n 6 (ent g Xo kd M) 0 0 42 [(4, .int s)] []) : ∀ (N9 : Nat) (x4 : Int32) (x5 : Int32) (q : Int32), L_X4_nightsOf_6 w0 w1 x2 x3 M N9 x4 x5 = some q → OK q → EW X g (x_s X).heap.size n 6 (ent g Xo kd M) 0 0 6 [(0, .ref (g_N g + w0)), (1, .ref (g_N g + w1)), (2, .int x2), (3, .int x3), (4, .int x4), (5, .int x5)] [] := by
  intro N9
  induction N9 with
  | zero =>
    intro x4 x5 q h
    rw [L_X4_nightsOf_6.eq_1] at h
    cases h
  | succ m9 ih =>
    intro x4 x5 q h hOK
    rw [L_X4_nightsOf_6.eq_2] at h
    refine e_iload C 5 (dk dX4_nightsOf 4 rfl) rfl ?_
    refine e_bipush C 12 (dk dX4_nightsOf 5 rfl) (by decide) ?_
    refine e_icmp_gt C 42 (dk dX4_nightsOf 6 rfl) (by decide) (fun c1 => ?_) (fun c1 => ?_)
    · rw [if_pos c1] at h
      obtain rfl := Option.some.inj h
      refine e_lv [4] rfl ?_
      exact hx _ hOK
    · rw [if_neg c1] at h
      refine e_aload_n C 0 (dk dX4_nightsOf 7 rfl) rfl rfl ?_
      refine e_aload_n C 1 (dk dX4_nightsOf 8 rfl) rfl rfl ?_
      refine e_iload_n C 2 (dk dX4_nightsOf 9 rfl) rfl rfl ?_
      refine e_iload_n C 3 (dk dX4_nightsOf 10 rfl) rfl rfl ?_
      refine e_iload C 5 (dk dX4_nightsOf 11 rfl) rfl ?_
      obtain ⟨q2, hq2, h⟩ := ob h
      refine e_callV (ci := 9) C cal_X9_seenIn im_X9_seenIn se_X9_seenIn ml_X4_79 rfl hR (by decide) (dk dX4_nightsOf 12 rfl) (K.1 _ (by rw [hw0]; decide)) (ent_o9 hw0) (c_X9_seenIn K hw0 hw1 hq2) ⟨Nat.zero_le _, Nat.zero_le _⟩ (Nat.le_of_ble_eq_true rfl) rfl ?_
      refine e_if_eq C 36 (dk dX4_nightsOf 13 rfl) (by decide) (fun c3 => ?_) (fun c3 => ?_)
      · rw [if_pos c3] at h
        refine e_iinc C [(5, .int (x5 + 1)), (0, .ref (g_N g + w0)), (1, .ref (g_N g + w1)), (2, .int x2), (3, .int x3), (4, .int x4)] 5 1 (dk dX4_nightsOf 22 rfl) rfl (by decide) (by decide) rfl ?_
        refine e_goto C 6 (dk dX4_nightsOf 23 rfl) (by decide) ?_
        refine e_lv [1, 2, 3, 4, 5, 0] rfl ?_
        exact ih _ _ _ h hOK
      · rw [if_neg c3] at h
        refine e_iload C 4 (dk dX4_nightsOf 14 rfl) rfl ?_
        refine e_iconst C 1 (dk dX4_nightsOf 15 rfl) (by decide) ?_
        refine e_iload C 5 (dk dX4_nightsOf 16 rfl) rfl ?_
        refine e_iconst C 1 (dk dX4_nightsOf 17 rfl) (by decide) ?_
        refine e_isub C (dk dX4_nightsOf 18 rfl) ?_
        refine e_ishl C (dk dX4_nightsOf 19 rfl) ?_
        refine e_ior C (dk dX4_nightsOf 20 rfl) ?_
        refine e_istore C [(4, .int (x4 ||| ((1 : Int32) <<< ((x5 - 1) &&& 31)))), (0, .ref (g_N g + w0)), (1, .ref (g_N g + w1)), (2, .int x2), (3, .int x3), (5, .int x5)] (dk dX4_nightsOf 21 rfl) (by decide) rfl ?_
        refine e_iinc C [(5, .int (x5 + 1)), (4, .int (x4 ||| ((1 : Int32) <<< ((x5 - 1) &&& 31)))), (0, .ref (g_N g + w0)), (1, .ref (g_N g + w1)), (2, .int x2), (3, .int x3)] 5 1 (dk dX4_nightsOf 22 rfl) rfl (by decide) (by decide) rfl ?_
        refine e_goto C 6 (dk dX4_nightsOf 23 rfl) (by decide) ?_
        refine e_lv [2, 3, 4, 5, 1, 0] rfl ?_
        exact ih _ _ _ h hOK
set_option maxRecDepth 20000 in
theorem lb_X4_nightsOf_6 {X : FX} {g : WC} {Xo : Nat → va_E} {n : Nat} {kd : Nat → Nat} (C : Cx X g RX4 cX4_nightsOf 6) (K : KD n kd) {w0 : Nat} {w1 : Nat} (hw0 : kd w0 = 10) (hw1 : kd w1 = 9) {x2 : Int32} {x3 : Int32} {M : Mem} (hR : x_R X = rm 4) {T9 : Type} {f9 : Int32 → Option T9} {b9 : T9} (hx : ∀ s, f9 s = some b9 → EW X g (x_s X).heap.size n 6 (ent g Xo kd M) 0 0 42 [(4, .int s)] []) {x4 : Int32} {x5 : Int32} (h : (L_X4_nightsOf_6 w0 w1 x2 x3 M FU x4 x5).bind f9 = some b9) : EW X g (x_s X).heap.size n 6 (ent g Xo kd M) 0 0 6 [(0, .ref (g_N g + w0)), (1, .ref (g_N g + w1)), (2, .int x2), (3, .int x3), (4, .int x4), (5, .int x5)] [] := by
  obtain ⟨q, hq, h⟩ := ob h
  exact l_X4_nightsOf_6 C K hw0 hw1 hR (OK := fun q => f9 q = some b9) hx FU x4 x5 q hq h
set_option maxRecDepth 20000 in
theorem c_X4_nightsOf {g : WC} {Xo : Nat → va_E} {n : Nat} {kd : Nat → Nat} (K : KD n kd) {w0 : Nat} {w1 : Nat} {p2 : Int32} {p3 : Int32} (hw0 : kd w0 = 10) (hw1 : kd w1 = 9) {M : Mem} {res : Int32} (h : F_X4_nightsOf w0 w1 p2 p3 M = some res) : MC g yX4_nightsOf cX4_nightsOf 6 (some .int) 4 n [.ref (g_N g + w0), .ref (g_N g + w1), .int p2, .int p3] (ent g Xo kd M) (some (.int res)) (ent g Xo kd M) := by
  refine MC_of pn_X4 (Nat.le_of_ble_eq_true rfl) (fun X C B => ?_)
  have hR := B.1
  rw [F_X4_nightsOf] at h
  refine e_iconst C 0 (dk dX4_nightsOf 0 rfl) (by decide) ?_
  refine e_istore C [(4, .int 0), (0, .ref (g_N g + w0)), (1, .ref (g_N g + w1)), (2, .int p2), (3, .int p3)] (dk dX4_nightsOf 1 rfl) (by decide) rfl ?_
  refine e_iconst C 1 (dk dX4_nightsOf 2 rfl) (by decide) ?_
  refine e_istore C [(5, .int 1), (4, .int 0), (0, .ref (g_N g + w0)), (1, .ref (g_N g + w1)), (2, .int p2), (3, .int p3)] (dk dX4_nightsOf 3 rfl) (by decide) rfl ?_
  refine e_lv [2, 3, 4, 5, 1, 0] rfl ?_
  refine lb_X4_nightsOf_6 C K hw0 hw1 hR (fun s5 h => ?_) h
  refine e_iload C 0 (dk dX4_nightsOf 24 rfl) rfl ?_
  obtain rfl := Option.some.inj h
  exact e_iret C B (nar1 _) (dk dX4_nightsOf 25 rfl)
set_option maxRecDepth 20000 in
theorem l_X5_advance_8 {X : FX} {g : WC} {Xo : Nat → va_E} {n : Nat} {kd : Nat → Nat} (C : Cx X g RX5 cX5_advance 2) (K : KD n kd) {t : Nat} (ht : kd t = 6) (hR : x_R X = rm 2) {OK : Mem → Prop} (hx : ∀ s, OK s → EW X g (x_s X).heap.size n 2 (ent g Xo kd s) 0 0 49 [(0, .ref (g_N g + t))] []) : ∀ (N9 : Nat) (M : Mem) (q : Mem), L_X5_advance_8 t N9 M = some q → OK q → EW X g (x_s X).heap.size n 2 (ent g Xo kd M) 0 0 8 [(0, .ref (g_N g + t))] [] := by
  intro N9
  induction N9 with
  | zero =>
    intro M q h
    rw [L_X5_advance_8.eq_1] at h
    cases h
  | succ m9 ih =>
    intro M q h hOK
    rw [L_X5_advance_8.eq_2] at h
    refine e_aload_n C 0 (dk dX5_advance_0 4 rfl) rfl rfl ?_
    refine gf_X5_start C K ht fl_X5_29 (dk dX5_advance_0 5 rfl) ?_
    refine e_aload_n C 0 (dk dX5_advance_0 6 rfl) rfl rfl ?_
    refine gf_X5_end C K ht fl_X5_26 (dk dX5_advance_0 7 rfl) ?_
    refine e_icmp_ge C 49 (dk dX5_advance_0 8 rfl) (by decide) (fun c1 => ?_) (fun c1 => ?_)
    · rw [if_pos c1] at h
      obtain rfl := Option.some.inj h
      exact hx _ hOK
    · rw [if_neg c1] at h
      refine e_aload_n C 0 (dk dX5_advance_0 9 rfl) rfl rfl ?_
      refine gf_X5_tape C K ht fl_X5_9 (dk dX5_advance_0 10 rfl) ?_
      refine e_aload_n C 0 (dk dX5_advance_0 11 rfl) rfl rfl ?_
      refine gf_X5_start C K ht fl_X5_29 (dk dX5_advance_0 12 rfl) ?_
      refine e_callSN C cal_X11_at sm_X11_at mn_X5_68 hR (by decide) (dk dX5_advance_0 13 rfl) (c_X11_at K (kd_X5_tape K ht) (rfl : F_X11_at (t + 1) 700 (M t 4) M = _)) ⟨Nat.zero_le _, Nat.zero_le _⟩ (Nat.le_of_ble_eq_true rfl) rfl ?_
      refine e_callS C cal_X5_isBlank sm_X5_isBlank ml_X5_72 hR (by decide) (dk dX5_advance_0 14 rfl) (c_X5_isBlank K (rfl : F_X5_isBlank (F_X11_at (t + 1) 700 (M t 4) M) = _)) ⟨Nat.zero_le _, Nat.zero_le _⟩ (Nat.le_of_ble_eq_true rfl) rfl ?_
      refine e_if_eq C 49 (dk dX5_advance_0 15 rfl) (by decide) (fun c2 => ?_) (fun c2 => ?_)
      · rw [if_pos c2] at h
        obtain rfl := Option.some.inj h
        exact hx _ hOK
      · rw [if_neg c2] at h
        refine e_aload_n C 0 (dk dX5_advance_0 16 rfl) rfl rfl ?_
        refine e_dup C (dk dX5_advance_0 17 rfl) rfl ?_
        refine gf_X5_start C K ht fl_X5_29 (dk dX5_advance_0 18 rfl) ?_
        refine e_iconst C 1 (dk dX5_advance_0 19 rfl) (by decide) ?_
        refine e_iadd C (dk dX5_advance_0 20 rfl) ?_
        refine pf_X5_start C K ht fl_X5_29 (dk dX5_advance_0 21 rfl) ?_
        refine e_goto C 8 (dk dX5_advance_0 22 rfl) (by decide) ?_
        exact ih _ _ h hOK
set_option maxRecDepth 20000 in
theorem lb_X5_advance_8 {X : FX} {g : WC} {Xo : Nat → va_E} {n : Nat} {kd : Nat → Nat} (C : Cx X g RX5 cX5_advance 2) (K : KD n kd) {t : Nat} (ht : kd t = 6) (hR : x_R X = rm 2) {T9 : Type} {f9 : Mem → Option T9} {b9 : T9} (hx : ∀ s, f9 s = some b9 → EW X g (x_s X).heap.size n 2 (ent g Xo kd s) 0 0 49 [(0, .ref (g_N g + t))] []) {M : Mem} (h : (L_X5_advance_8 t FU M).bind f9 = some b9) : EW X g (x_s X).heap.size n 2 (ent g Xo kd M) 0 0 8 [(0, .ref (g_N g + t))] [] := by
  obtain ⟨q, hq, h⟩ := ob h
  exact l_X5_advance_8 C K ht hR (OK := fun q => f9 q = some b9) hx FU M q hq h
set_option maxRecDepth 20000 in
theorem l_X5_advance_98 {X : FX} {g : WC} {Xo : Nat → va_E} {n : Nat} {kd : Nat → Nat} (C : Cx X g RX5 cX5_advance 2) (K : KD n kd) {t : Nat} (ht : kd t = 6) (hR : x_R X = rm 2) {OK : Mem → Prop} (hx : ∀ s, OK s → EW X g (x_s X).heap.size n 2 (ent g Xo kd s) 0 0 184 [] []) : ∀ (N9 : Nat) (M : Mem) (q : Mem), L_X5_advance_98 t N9 M = some q → OK q → EW X g (x_s X).heap.size n 2 (ent g Xo kd M) 0 0 98 [(0, .ref (g_N g + t))] [] := by
  intro N9
  induction N9 with
  | zero =>
    intro M q h
    rw [L_X5_advance_98.eq_1] at h
    cases h
  | succ m9 ih =>
    intro M q h hOK
    rw [L_X5_advance_98.eq_2] at h
    refine e_aload_n C 0 (dk dX5_advance_0 48 rfl) rfl rfl ?_
    refine gf_X5_next C K ht fl_X5_32 (dk dX5_advance_0 49 rfl) ?_
    refine e_aload_n C 0 (dk dX5_advance_0 50 rfl) rfl rfl ?_
    refine gf_X5_end C K ht fl_X5_26 (dk dX5_advance_0 51 rfl) ?_
    refine e_icmp_ge C 184 (dk dX5_advance_0 52 rfl) (by decide) (fun c11 => ?_) (fun c11 => ?_)
    · rw [if_pos c11] at h
      obtain rfl := Option.some.inj h
      refine e_lv [] rfl ?_
      exact hx _ hOK
    · rw [if_neg c11] at h
      refine e_aload_n C 0 (dk dX5_advance_0 53 rfl) rfl rfl ?_
      refine gf_X5_tape C K ht fl_X5_9 (dk dX5_advance_0 54 rfl) ?_
      refine e_aload_n C 0 (dk dX5_advance_0 55 rfl) rfl rfl ?_
      refine gf_X5_next C K ht fl_X5_32 (dk dX5_advance_0 56 rfl) ?_
      refine e_callSN C cal_X11_at sm_X11_at mn_X5_68 hR (by decide) (dk dX5_advance_0 57 rfl) (c_X11_at K (kd_X5_tape K ht) (rfl : F_X11_at (t + 1) 700 (M t 5) M = _)) ⟨Nat.zero_le _, Nat.zero_le _⟩ (Nat.le_of_ble_eq_true rfl) rfl ?_
      refine e_callS C cal_X5_isLetter sm_X5_isLetter ml_X5_76 hR (by decide) (dk dX5_advance_0 58 rfl) (c_X5_isLetter K (rfl : F_X5_isLetter (F_X11_at (t + 1) 700 (M t 5) M) = _)) ⟨Nat.zero_le _, Nat.zero_le _⟩ (Nat.le_of_ble_eq_true rfl) rfl ?_
      refine e_if_eq C 184 (dk dX5_advance_0 59 rfl) (by decide) (fun c12 => ?_) (fun c12 => ?_)
      · rw [if_pos c12] at h
        obtain rfl := Option.some.inj h
        refine e_lv [] rfl ?_
        exact hx _ hOK
      · rw [if_neg c12] at h
        refine e_aload_n C 0 (dk dX5_advance_1 0 rfl) rfl rfl ?_
        refine e_dup C (dk dX5_advance_1 1 rfl) rfl ?_
        refine gf_X5_next C K ht fl_X5_32 (dk dX5_advance_1 2 rfl) ?_
        refine e_iconst C 1 (dk dX5_advance_1 3 rfl) (by decide) ?_
        refine e_iadd C (dk dX5_advance_1 4 rfl) ?_
        refine pf_X5_next C K ht fl_X5_32 (dk dX5_advance_1 5 rfl) ?_
        refine e_goto C 98 (dk dX5_advance_1 6 rfl) (by decide) ?_
        exact ih _ _ h hOK
set_option maxRecDepth 20000 in
theorem lb_X5_advance_98 {X : FX} {g : WC} {Xo : Nat → va_E} {n : Nat} {kd : Nat → Nat} (C : Cx X g RX5 cX5_advance 2) (K : KD n kd) {t : Nat} (ht : kd t = 6) (hR : x_R X = rm 2) {T9 : Type} {f9 : Mem → Option T9} {b9 : T9} (hx : ∀ s, f9 s = some b9 → EW X g (x_s X).heap.size n 2 (ent g Xo kd s) 0 0 184 [] []) {M : Mem} (h : (L_X5_advance_98 t FU M).bind f9 = some b9) : EW X g (x_s X).heap.size n 2 (ent g Xo kd M) 0 0 98 [(0, .ref (g_N g + t))] [] := by
  obtain ⟨q, hq, h⟩ := ob h
  exact l_X5_advance_98 C K ht hR (OK := fun q => f9 q = some b9) hx FU M q hq h
set_option maxRecDepth 20000 in
theorem j_X5_advance_j49 {X : FX} {g : WC} {Xo : Nat → va_E} {n : Nat} {kd : Nat → Nat} (C : Cx X g RX5 cX5_advance 2) (K : KD n kd) {t : Nat} (ht : kd t = 6) (hR : x_R X = rm 2) {M : Mem} {res : Mem} (h : J_X5_advance_j49 t M = some res) (B : Bx X g none 2 n none (ent g Xo kd res)) : EW X g (x_s X).heap.size n 2 (ent g Xo kd M) 0 0 49 [(0, .ref (g_N g + t))] [] := by
  rw [J_X5_advance_j49] at h
  refine e_aload_n C 0 (dk dX5_advance_0 23 rfl) rfl rfl ?_
  refine e_aload_n C 0 (dk dX5_advance_0 24 rfl) rfl rfl ?_
  refine gf_X5_start C K ht fl_X5_29 (dk dX5_advance_0 25 rfl) ?_
  refine pf_X5_next C K ht fl_X5_32 (dk dX5_advance_0 26 rfl) ?_
  refine e_aload_n C 0 (dk dX5_advance_0 27 rfl) rfl rfl ?_
  refine gf_X5_start C K ht fl_X5_29 (dk dX5_advance_0 28 rfl) ?_
  refine e_aload_n C 0 (dk dX5_advance_0 29 rfl) rfl rfl ?_
  refine gf_X5_end C K ht fl_X5_26 (dk dX5_advance_0 30 rfl) ?_
  refine e_icmp_lt C 74 (dk dX5_advance_0 31 rfl) (by decide) (fun c5 => ?_) (fun c5 => ?_)
  · rw [if_pos c5] at h
    refine e_aload_n C 0 (dk dX5_advance_0 36 rfl) rfl rfl ?_
    refine gf_X5_tape C K ht fl_X5_9 (dk dX5_advance_0 37 rfl) ?_
    refine e_aload_n C 0 (dk dX5_advance_0 38 rfl) rfl rfl ?_
    refine gf_X5_start C K ht fl_X5_29 (dk dX5_advance_0 39 rfl) ?_
    refine e_callSN C cal_X11_at sm_X11_at mn_X5_68 hR (by decide) (dk dX5_advance_0 40 rfl) (c_X11_at K (kd_X5_tape K ht) (rfl : F_X11_at (t + 1) 700 ((up M t 5 (M t 4)) t 4) (up M t 5 (M t 4)) = _)) ⟨Nat.zero_le _, Nat.zero_le _⟩ (Nat.le_of_ble_eq_true rfl) rfl ?_
    refine e_istore_n C [(1, .int (F_X11_at (t + 1) 700 ((up M t 5 (M t 4)) t 4) (up M t 5 (M t 4)))), (0, .ref (g_N g + t))] (dk dX5_advance_0 41 rfl) rfl (by decide) rfl ?_
    refine e_iload_n C 0 (dk dX5_advance_0 42 rfl) rfl rfl ?_
    refine e_callS C cal_X5_isLetter sm_X5_isLetter ml_X5_76 hR (by decide) (dk dX5_advance_0 43 rfl) (c_X5_isLetter K (rfl : F_X5_isLetter (F_X11_at (t + 1) 700 ((up M t 5 (M t 4)) t 4) (up M t 5 (M t 4))) = _)) ⟨Nat.zero_le _, Nat.zero_le _⟩ (Nat.le_of_ble_eq_true rfl) rfl ?_
    refine e_if_eq C 139 (dk dX5_advance_0 44 rfl) (by decide) (fun c6 => ?_) (fun c6 => ?_)
    · rw [if_pos c6] at h
      refine e_iload_n C 0 (dk dX5_advance_1 7 rfl) rfl rfl ?_
      refine e_callS C cal_X5_isDigit sm_X5_isDigit ml_X5_79 hR (by decide) (dk dX5_advance_1 8 rfl) (c_X5_isDigit K (rfl : F_X5_isDigit (F_X11_at (t + 1) 700 ((up M t 5 (M t 4)) t 4) (up M t 5 (M t 4))) = _)) ⟨Nat.zero_le _, Nat.zero_le _⟩ (Nat.le_of_ble_eq_true rfl) rfl ?_
      refine e_if_eq C 158 (dk dX5_advance_1 9 rfl) (by decide) (fun c7 => ?_) (fun c7 => ?_)
      · rw [if_pos c7] at h
        refine e_aload_n C 1 (dk dX5_advance_1 16 rfl) rfl rfl ?_
        refine e_iload_n C 0 (dk dX5_advance_1 17 rfl) rfl rfl ?_
        refine e_callS C cal_X5_isSign sm_X5_isSign ml_X5_85 hR (by decide) (dk dX5_advance_1 18 rfl) (c_X5_isSign K (rfl : F_X5_isSign (F_X11_at (t + 1) 700 ((up M t 5 (M t 4)) t 4) (up M t 5 (M t 4))) (up M t 5 (M t 4)) = _)) ⟨Nat.zero_le _, Nat.zero_le _⟩ (Nat.le_of_ble_eq_true rfl) rfl ?_
        suffices hm9 : EW X g (x_s X).heap.size n 2 (ent g Xo kd (up M t 5 (M t 4))) 0 0 171 [(1, .int (F_X11_at (t + 1) 700 ((up M t 5 (M t 4)) t 4) (up M t 5 (M t 4)))), (0, .ref (g_N g + t))] [.int (if (bi (F_X5_isSign (F_X11_at (t + 1) 700 ((up M t 5 (M t 4)) t 4) (up M t 5 (M t 4))) (up M t 5 (M t 4)))) = 0 then (3 : Int32) else (F_X11_at (t + 1) 700 ((up M t 5 (M t 4)) t 4) (up M t 5 (M t 4)))), .ref (g_N g + t)] from (by
          refine e_if_eq C 170 (dk dX5_advance_1 19 rfl) (by decide) (fun c8 => ?_) (fun c8 => ?_)
          · rw [show (if (bi (F_X5_isSign (F_X11_at (t + 1) 700 ((up M t 5 (M t 4)) t 4) (up M t 5 (M t 4))) (up M t 5 (M t 4)))) = 0 then (3 : Int32) else (F_X11_at (t + 1) 700 ((up M t 5 (M t 4)) t 4) (up M t 5 (M t 4)))) = (3 : Int32) from if_pos c8] at hm9
            refine e_iconst C 3 (dk dX5_advance_1 22 rfl) (by decide) ?_
            exact hm9
          · rw [show (if (bi (F_X5_isSign (F_X11_at (t + 1) 700 ((up M t 5 (M t 4)) t 4) (up M t 5 (M t 4))) (up M t 5 (M t 4)))) = 0 then (3 : Int32) else (F_X11_at (t + 1) 700 ((up M t 5 (M t 4)) t 4) (up M t 5 (M t 4)))) = (F_X11_at (t + 1) 700 ((up M t 5 (M t 4)) t 4) (up M t 5 (M t 4))) from if_neg c8] at hm9
            refine e_iload_n C 0 (dk dX5_advance_1 20 rfl) rfl rfl ?_
            refine e_goto C 171 (dk dX5_advance_1 21 rfl) (by decide) ?_
            exact hm9)
        refine pf_X5_kind C K ht fl_X5_35 (dk dX5_advance_1 23 rfl) ?_
        refine e_aload_n C 1 (dk dX5_advance_1 24 rfl) rfl rfl ?_
        refine e_dup C (dk dX5_advance_1 25 rfl) rfl ?_
        refine gf_X5_next C K ht fl_X5_32 (dk dX5_advance_1 26 rfl) ?_
        refine e_iconst C 1 (dk dX5_advance_1 27 rfl) (by decide) ?_
        refine e_iadd C (dk dX5_advance_1 28 rfl) ?_
        refine pf_X5_next C K ht fl_X5_32 (dk dX5_advance_1 29 rfl) ?_
        obtain rfl := Option.some.inj h
        exact e_vret C B (dk dX5_advance_1 30 rfl)
      · rw [if_neg c7] at h
        refine e_aload_n C 1 (dk dX5_advance_1 10 rfl) rfl rfl ?_
        refine e_iconst C 2 (dk dX5_advance_1 11 rfl) (by decide) ?_
        refine pf_X5_kind C K ht fl_X5_35 (dk dX5_advance_1 12 rfl) ?_
        refine e_aload_n C 1 (dk dX5_advance_1 13 rfl) rfl rfl ?_
        obtain ⟨q10, hq10, h⟩ := ob h
        refine e_callV (ci := 5) C cal_X5_readDigits im_X5_readDigits se_X5_readDigits ml_X5_82 rfl hR (by decide) (dk dX5_advance_1 14 rfl) (K.1 _ (by rw [ht]; decide)) (ent_o5 ht) (c_X5_readDigits K ht hq10) ⟨Nat.zero_le _, Nat.zero_le _⟩ (Nat.le_of_ble_eq_true rfl) rfl ?_
        refine e_goto C 184 (dk dX5_advance_1 15 rfl) (by decide) ?_
        obtain rfl := Option.some.inj h
        exact e_vret C B (dk dX5_advance_1 30 rfl)
    · rw [if_neg c6] at h
      refine e_aload_n C 1 (dk dX5_advance_0 45 rfl) rfl rfl ?_
      refine e_iconst C 1 (dk dX5_advance_0 46 rfl) (by decide) ?_
      refine pf_X5_kind C K ht fl_X5_35 (dk dX5_advance_0 47 rfl) ?_
      refine e_lv [1] rfl ?_
      refine lb_X5_advance_98 C K ht hR (fun s14 h => ?_) h
      obtain rfl := Option.some.inj h
      exact e_vret C B (dk dX5_advance_1 30 rfl)
  · rw [if_neg c5] at h
    refine e_aload_n C 0 (dk dX5_advance_0 32 rfl) rfl rfl ?_
    refine e_iconst C 0 (dk dX5_advance_0 33 rfl) (by decide) ?_
    refine pf_X5_kind C K ht fl_X5_35 (dk dX5_advance_0 34 rfl) ?_
    obtain rfl := Option.some.inj h
    exact e_vret C B (dk dX5_advance_0 35 rfl)
set_option maxRecDepth 20000 in
theorem c_X5_advance {g : WC} {Xo : Nat → va_E} {n : Nat} {kd : Nat → Nat} (K : KD n kd) {t : Nat} (ht : kd t = 6) {M : Mem} {res : Mem} (h : F_X5_advance t M = some res) : MC g yX5_advance cX5_advance 2 none 2 n [.ref (g_N g + t)] (ent g Xo kd M) none (ent g Xo kd res) := by
  refine MC_of pn_X5 (Nat.le_of_ble_eq_true rfl) (fun X C B => ?_)
  have hR := B.1
  rw [F_X5_advance] at h
  refine e_aload_n C 0 (dk dX5_advance_0 0 rfl) rfl rfl ?_
  refine e_aload_n C 0 (dk dX5_advance_0 1 rfl) rfl rfl ?_
  refine gf_X5_next C K ht fl_X5_32 (dk dX5_advance_0 2 rfl) ?_
  refine pf_X5_start C K ht fl_X5_29 (dk dX5_advance_0 3 rfl) ?_
  refine lb_X5_advance_8 C K ht hR (fun s4 h => ?_) h
  exact j_X5_advance_j49 C K ht hR h B
set_option maxRecDepth 20000 in
theorem c_X5_once {g : WC} {Xo : Nat → va_E} {n : Nat} {kd : Nat → Nat} (K : KD n kd) {t : Nat} {p0 : Int32} (ht : kd t = 6) {M : Mem} {res : Bool × Mem} (h : F_X5_once t p0 M = some res) : MC g yX5_once cX5_once 2 (some .boolean) 3 n [.ref (g_N g + t), .int p0] (ent g Xo kd M) (some (.int (bi res.1))) (ent g Xo kd res.2) := by
  refine MC_of pn_X5 (Nat.le_of_ble_eq_true rfl) (fun X C B => ?_)
  have hR := B.1
  rw [F_X5_once] at h
  refine e_aload_n C 0 (dk dX5_once 0 rfl) rfl rfl ?_
  refine gf_X5_linesTold C K ht fl_X5_44 (dk dX5_once 1 rfl) ?_
  refine e_iload_n C 1 (dk dX5_once 2 rfl) rfl rfl ?_
  refine e_iand C (dk dX5_once 3 rfl) ?_
  refine e_if_eq C 15 (dk dX5_once 4 rfl) (by decide) (fun c1 => ?_) (fun c1 => ?_)
  · rw [if_pos c1] at h
    refine e_aload_n C 0 (dk dX5_once 9 rfl) rfl rfl ?_
    refine e_dup C (dk dX5_once 10 rfl) rfl ?_
    refine gf_X5_linesTold C K ht fl_X5_44 (dk dX5_once 11 rfl) ?_
    refine e_iload_n C 1 (dk dX5_once 12 rfl) rfl rfl ?_
    refine e_ior C (dk dX5_once 13 rfl) ?_
    refine pf_X5_linesTold C K ht fl_X5_44 (dk dX5_once 14 rfl) ?_
    refine e_aload_n C 0 (dk dX5_once 15 rfl) rfl rfl ?_
    obtain ⟨q2, hq2, h⟩ := ob h
    refine e_callV (ci := 5) C cal_X5_advance im_X5_advance se_X5_advance ml_X5_61 rfl hR (by decide) (dk dX5_once 16 rfl) (K.1 _ (by rw [ht]; decide)) (ent_o5 ht) (c_X5_advance K ht hq2) ⟨Nat.zero_le _, Nat.zero_le _⟩ (Nat.le_of_ble_eq_true rfl) rfl ?_
    refine e_iconst C 1 (dk dX5_once 17 rfl) (by decide) ?_
    obtain rfl := Option.some.inj h
    exact e_iret (v := bi true) C B (nar_bi _) (dk dX5_once 18 rfl)
  · rw [if_neg c1] at h
    refine e_aload_n C 0 (dk dX5_once 5 rfl) rfl rfl ?_
    refine e_iconst C 5 (dk dX5_once 6 rfl) (by decide) ?_
    refine e_callV (ci := 5) C cal_X5_refuse im_X5_refuse se_X5_refuse ml_X5_98 rfl hR (by decide) (dk dX5_once 7 rfl) (K.1 _ (by rw [ht]; decide)) (ent_o5 ht) (c_X5_refuse K ht (rfl : F_X5_refuse t 5 M = _)) ⟨Nat.zero_le _, Nat.zero_le _⟩ (Nat.le_of_ble_eq_true rfl) rfl ?_
    obtain rfl := Option.some.inj h
    exact e_iret (v := bi ((F_X5_refuse t 5 M).1)) C B (nar_bi _) (dk dX5_once 8 rfl)
set_option maxRecDepth 20000 in
theorem c_X5_sign {g : WC} {Xo : Nat → va_E} {n : Nat} {kd : Nat → Nat} (K : KD n kd) {t : Nat} {p0 : Int32} (ht : kd t = 6) {M : Mem} {res : Bool × Mem} (h : F_X5_sign t p0 M = some res) : MC g yX5_sign cX5_sign 2 (some .boolean) 3 n [.ref (g_N g + t), .int p0] (ent g Xo kd M) (some (.int (bi res.1))) (ent g Xo kd res.2) := by
  refine MC_of pn_X5 (Nat.le_of_ble_eq_true rfl) (fun X C B => ?_)
  have hR := B.1
  rw [F_X5_sign] at h
  refine e_aload_n C 0 (dk dX5_sign 0 rfl) rfl rfl ?_
  refine gf_X5_kind C K ht fl_X5_35 (dk dX5_sign 1 rfl) ?_
  refine e_iload_n C 1 (dk dX5_sign 2 rfl) rfl rfl ?_
  refine e_icmp_eq C 14 (dk dX5_sign 3 rfl) (by decide) (fun c1 => ?_) (fun c1 => ?_)
  · rw [if_pos c1] at h
    refine e_aload_n C 0 (dk dX5_sign 8 rfl) rfl rfl ?_
    obtain ⟨q2, hq2, h⟩ := ob h
    refine e_callV (ci := 5) C cal_X5_advance im_X5_advance se_X5_advance ml_X5_61 rfl hR (by decide) (dk dX5_sign 9 rfl) (K.1 _ (by rw [ht]; decide)) (ent_o5 ht) (c_X5_advance K ht hq2) ⟨Nat.zero_le _, Nat.zero_le _⟩ (Nat.le_of_ble_eq_true rfl) rfl ?_
    refine e_iconst C 1 (dk dX5_sign 10 rfl) (by decide) ?_
    obtain rfl := Option.some.inj h
    exact e_iret (v := bi true) C B (nar_bi _) (dk dX5_sign 11 rfl)
  · rw [if_neg c1] at h
    refine e_aload_n C 0 (dk dX5_sign 4 rfl) rfl rfl ?_
    refine e_iconst C 1 (dk dX5_sign 5 rfl) (by decide) ?_
    refine e_callV (ci := 5) C cal_X5_refuse im_X5_refuse se_X5_refuse ml_X5_98 rfl hR (by decide) (dk dX5_sign 6 rfl) (K.1 _ (by rw [ht]; decide)) (ent_o5 ht) (c_X5_refuse K ht (rfl : F_X5_refuse t 1 M = _)) ⟨Nat.zero_le _, Nat.zero_le _⟩ (Nat.le_of_ble_eq_true rfl) rfl ?_
    obtain rfl := Option.some.inj h
    exact e_iret (v := bi ((F_X5_refuse t 1 M).1)) C B (nar_bi _) (dk dX5_sign 7 rfl)
set_option maxRecDepth 20000 in
theorem j_X5_readRow_j48 {X : FX} {g : WC} {Xo : Nat → va_E} {n : Nat} {kd : Nat → Nat} (C : Cx X g RX5 cX5_readRow 4) (K : KD n kd) {t : Nat} (ht : kd t = 6) {x1 : Int32} {x2 : Int32} (hR : x_R X = rm 3) {OK : Sum (Int32 × Mem) (Mem) → Prop} (hB : ∀ v, OK (Sum.inl v) → Bx X g (some .int) 3 n (some (.int v.1)) (ent g Xo kd v.2)) (hx : ∀ s, OK (Sum.inr s) → EW X g (x_s X).heap.size n 4 (ent g Xo kd s) 0 0 15 [(0, .ref (g_N g + t))] []) {rec : Int32 → Mem → Option (Sum (Int32 × Mem) (Mem))} (hrec : ∀ (x3 : Int32) (M : Mem) (q : Sum (Int32 × Mem) (Mem)), rec x3 M = some q → OK q → EW X g (x_s X).heap.size n 4 (ent g Xo kd M) 0 0 2 [(0, .ref (g_N g + t)), (1, .int x1), (2, .int x2), (3, .int x3)] []) {x3 : Int32} {M : Mem} (q : Sum (Int32 × Mem) (Mem)) (h : J_X5_readRow_j48 t rec x1 x2 x3 M = some q) (hOK : OK q) : EW X g (x_s X).heap.size n 4 (ent g Xo kd M) 0 0 48 [(0, .ref (g_N g + t)), (1, .int x1), (2, .int x2), (3, .int x3)] [] := by
  rw [J_X5_readRow_j48] at h
  refine e_aload_n C 0 (dk dX5_readRow 27 rfl) rfl rfl ?_
  refine gf_X5_row C K ht fl_X5_51 (dk dX5_readRow 28 rfl) ?_
  refine e_iload_n C 3 (dk dX5_readRow 29 rfl) rfl rfl ?_
  refine e_aload_n C 0 (dk dX5_readRow 30 rfl) rfl rfl ?_
  refine gf_X5_value C K ht fl_X5_38 (dk dX5_readRow 31 rfl) ?_
  refine e_callSN C cal_X11_put sm_X11_put mn_X5_54 hR (by decide) (dk dX5_readRow 32 rfl) (c_X11_put K (kd_X5_row K ht) (rfl : F_X11_put (t + 12) 8 x3 (M t 7) M = _)) ⟨Nat.zero_le _, Nat.zero_le _⟩ (Nat.le_of_ble_eq_true rfl) rfl ?_
  refine e_iinc C [(3, .int (x3 + 1)), (0, .ref (g_N g + t)), (1, .int x1), (2, .int x2)] 3 1 (dk dX5_readRow 33 rfl) rfl (by decide) (by decide) rfl ?_
  refine e_aload_n C 1 (dk dX5_readRow 34 rfl) rfl rfl ?_
  obtain ⟨q4, hq4, h⟩ := ob h
  refine e_callV (ci := 5) C cal_X5_advance im_X5_advance se_X5_advance ml_X5_61 rfl hR (by decide) (dk dX5_readRow 35 rfl) (K.1 _ (by rw [ht]; decide)) (ent_o5 ht) (c_X5_advance K ht hq4) ⟨Nat.zero_le _, Nat.zero_le _⟩ (Nat.le_of_ble_eq_true rfl) rfl ?_
  refine e_aload_n C 1 (dk dX5_readRow 36 rfl) rfl rfl ?_
  refine gf_X5_kind C K ht fl_X5_35 (dk dX5_readRow 37 rfl) ?_
  refine e_iconst C 2 (dk dX5_readRow 38 rfl) (by decide) ?_
  refine e_icmp_ne C 80 (dk dX5_readRow 39 rfl) (by decide) (fun c5 => ?_) (fun c5 => ?_)
  · rw [if_neg c5] at h
    refine e_iload_n C 0 (dk dX5_readRow 43 rfl) rfl rfl ?_
    obtain rfl := Option.some.inj h
    exact e_iret C (hB _ hOK) (nar1 _) (dk dX5_readRow 44 rfl)
  · rw [if_pos c5] at h
    refine e_iload_n C 0 (dk dX5_readRow 40 rfl) rfl rfl ?_
    refine e_iload_n C 2 (dk dX5_readRow 41 rfl) rfl rfl ?_
    refine e_icmp_le C 2 (dk dX5_readRow 42 rfl) (by decide) (fun c6 => ?_) (fun c6 => ?_)
    · rw [if_pos c6] at h
      refine e_lv [1, 2, 3, 0] rfl ?_
      exact hrec _ _ _ h hOK
    · rw [if_neg c6] at h
      refine e_iload_n C 0 (dk dX5_readRow 43 rfl) rfl rfl ?_
      obtain rfl := Option.some.inj h
      exact e_iret C (hB _ hOK) (nar1 _) (dk dX5_readRow 44 rfl)
set_option maxRecDepth 20000 in
theorem j_X5_readRow_j22 {X : FX} {g : WC} {Xo : Nat → va_E} {n : Nat} {kd : Nat → Nat} (C : Cx X g RX5 cX5_readRow 4) (K : KD n kd) {t : Nat} (ht : kd t = 6) {x1 : Int32} {x2 : Int32} (hR : x_R X = rm 3) {OK : Sum (Int32 × Mem) (Mem) → Prop} (hB : ∀ v, OK (Sum.inl v) → Bx X g (some .int) 3 n (some (.int v.1)) (ent g Xo kd v.2)) (hx : ∀ s, OK (Sum.inr s) → EW X g (x_s X).heap.size n 4 (ent g Xo kd s) 0 0 15 [(0, .ref (g_N g + t))] []) {rec : Int32 → Mem → Option (Sum (Int32 × Mem) (Mem))} (hrec : ∀ (x3 : Int32) (M : Mem) (q : Sum (Int32 × Mem) (Mem)), rec x3 M = some q → OK q → EW X g (x_s X).heap.size n 4 (ent g Xo kd M) 0 0 2 [(0, .ref (g_N g + t)), (1, .int x1), (2, .int x2), (3, .int x3)] []) {x3 : Int32} {M : Mem} (q : Sum (Int32 × Mem) (Mem)) (h : J_X5_readRow_j22 t rec x1 x2 x3 M = some q) (hOK : OK q) : EW X g (x_s X).heap.size n 4 (ent g Xo kd M) 0 0 22 [(0, .ref (g_N g + t)), (1, .int x1), (2, .int x2), (3, .int x3)] [] := by
  rw [J_X5_readRow_j22] at h
  refine e_iload_n C 2 (dk dX5_readRow 14 rfl) rfl rfl ?_
  refine e_if_eq C 36 (dk dX5_readRow 15 rfl) (by decide) (fun c2 => ?_) (fun c2 => ?_)
  · rw [if_pos c2] at h
    refine e_aload_n C 0 (dk dX5_readRow 20 rfl) rfl rfl ?_
    refine e_iconst C 0 (dk dX5_readRow 21 rfl) (by decide) ?_
    refine e_bipush C 9 (dk dX5_readRow 22 rfl) (by decide) ?_
    refine e_callV (ci := 5) C cal_X5_number im_X5_number se_X5_number ml_X5_101 rfl hR (by decide) (dk dX5_readRow 23 rfl) (K.1 _ (by rw [ht]; decide)) (ent_o5 ht) (c_X5_number K ht (rfl : F_X5_number t 0 9 M = _)) ⟨Nat.zero_le _, Nat.zero_le _⟩ (Nat.le_of_ble_eq_true rfl) rfl ?_
    refine e_if_ne C 48 (dk dX5_readRow 24 rfl) (by decide) (fun c3 => ?_) (fun c3 => ?_)
    · rw [if_neg c3] at h
      exact j_X5_readRow_j48 C K ht hR hB hx hrec _ h hOK
    · rw [if_pos c3] at h
      refine e_iconst C (-1) (dk dX5_readRow 25 rfl) (by decide) ?_
      obtain rfl := Option.some.inj h
      exact e_iret C (hB _ hOK) (nar1 _) (dk dX5_readRow 26 rfl)
  · rw [if_neg c2] at h
    refine e_aload_n C 0 (dk dX5_readRow 16 rfl) rfl rfl ?_
    obtain ⟨q7, hq7, h⟩ := ob h
    refine e_callV (ci := 5) C cal_X5_street im_X5_street se_X5_street ml_X5_108 rfl hR (by decide) (dk dX5_readRow 17 rfl) (K.1 _ (by rw [ht]; decide)) (ent_o5 ht) (c_X5_street K ht hq7) ⟨Nat.zero_le _, Nat.zero_le _⟩ (Nat.le_of_ble_eq_true rfl) rfl ?_
    refine e_if_eq C 46 (dk dX5_readRow 18 rfl) (by decide) (fun c8 => ?_) (fun c8 => ?_)
    · rw [if_pos c8] at h
      refine e_iconst C (-1) (dk dX5_readRow 25 rfl) (by decide) ?_
      obtain rfl := Option.some.inj h
      exact e_iret C (hB _ hOK) (nar1 _) (dk dX5_readRow 26 rfl)
    · rw [if_neg c8] at h
      refine e_goto C 48 (dk dX5_readRow 19 rfl) (by decide) ?_
      exact j_X5_readRow_j48 C K ht hR hB hx hrec _ h hOK
set_option maxRecDepth 20000 in
theorem l_X5_readRow_2 {X : FX} {g : WC} {Xo : Nat → va_E} {n : Nat} {kd : Nat → Nat} (C : Cx X g RX5 cX5_readRow 4) (K : KD n kd) {t : Nat} (ht : kd t = 6) {x1 : Int32} {x2 : Int32} (hR : x_R X = rm 3) {OK : Sum (Int32 × Mem) (Mem) → Prop} (hB : ∀ v, OK (Sum.inl v) → Bx X g (some .int) 3 n (some (.int v.1)) (ent g Xo kd v.2)) (hx : ∀ s, OK (Sum.inr s) → EW X g (x_s X).heap.size n 4 (ent g Xo kd s) 0 0 15 [(0, .ref (g_N g + t))] []) : ∀ (N9 : Nat) (x3 : Int32) (M : Mem) (q : Sum (Int32 × Mem) (Mem)), L_X5_readRow_2 t x1 x2 N9 x3 M = some q → OK q → EW X g (x_s X).heap.size n 4 (ent g Xo kd M) 0 0 2 [(0, .ref (g_N g + t)), (1, .int x1), (2, .int x2), (3, .int x3)] [] := by
  intro N9
  induction N9 with
  | zero =>
    intro x3 M q h
    rw [L_X5_readRow_2.eq_1] at h
    cases h
  | succ m9 ih =>
    intro x3 M q h hOK
    rw [L_X5_readRow_2.eq_2] at h
    refine e_iload_n C 3 (dk dX5_readRow 2 rfl) rfl rfl ?_
    refine e_iload_n C 1 (dk dX5_readRow 3 rfl) rfl rfl ?_
    refine e_icmp_lt C 22 (dk dX5_readRow 4 rfl) (by decide) (fun c1 => ?_) (fun c1 => ?_)
    · rw [if_pos c1] at h
      exact j_X5_readRow_j22 C K ht hR hB hx ih _ h hOK
    · rw [if_neg c1] at h
      refine e_aload_n C 0 (dk dX5_readRow 5 rfl) rfl rfl ?_
      refine gf_X5_kind C K ht fl_X5_35 (dk dX5_readRow 6 rfl) ?_
      refine e_iconst C 2 (dk dX5_readRow 7 rfl) (by decide) ?_
      refine e_icmp_ne C 22 (dk dX5_readRow 8 rfl) (by decide) (fun c9 => ?_) (fun c9 => ?_)
      · rw [if_neg c9] at h
        exact j_X5_readRow_j22 C K ht hR hB hx ih _ h hOK
      · rw [if_pos c9] at h
        obtain rfl := Option.some.inj h
        refine e_lv [0] rfl ?_
        exact hx _ hOK
set_option maxRecDepth 20000 in
theorem lb_X5_readRow_2 {X : FX} {g : WC} {Xo : Nat → va_E} {n : Nat} {kd : Nat → Nat} (C : Cx X g RX5 cX5_readRow 4) (K : KD n kd) {t : Nat} (ht : kd t = 6) {x1 : Int32} {x2 : Int32} (hR : x_R X = rm 3) {T9 : Type} {f9 : Sum (Int32 × Mem) (Mem) → Option T9} {b9 : T9} (hB : ∀ v, f9 (Sum.inl v) = some b9 → Bx X g (some .int) 3 n (some (.int v.1)) (ent g Xo kd v.2)) (hx : ∀ s, f9 (Sum.inr s) = some b9 → EW X g (x_s X).heap.size n 4 (ent g Xo kd s) 0 0 15 [(0, .ref (g_N g + t))] []) {x3 : Int32} {M : Mem} (h : (L_X5_readRow_2 t x1 x2 FU x3 M).bind f9 = some b9) : EW X g (x_s X).heap.size n 4 (ent g Xo kd M) 0 0 2 [(0, .ref (g_N g + t)), (1, .int x1), (2, .int x2), (3, .int x3)] [] := by
  obtain ⟨q, hq, h⟩ := ob h
  exact l_X5_readRow_2 C K ht hR (OK := fun q => f9 q = some b9) hB hx FU x3 M q hq h
set_option maxRecDepth 20000 in
theorem c_X5_readRow {g : WC} {Xo : Nat → va_E} {n : Nat} {kd : Nat → Nat} (K : KD n kd) {t : Nat} {p0 : Int32} {p1 : Int32} (ht : kd t = 6) {M : Mem} {res : Int32 × Mem} (h : F_X5_readRow t p0 p1 M = some res) : MC g yX5_readRow cX5_readRow 4 (some .int) 3 n [.ref (g_N g + t), .int p0, .int p1] (ent g Xo kd M) (some (.int res.1)) (ent g Xo kd res.2) := by
  refine MC_of pn_X5 (Nat.le_of_ble_eq_true rfl) (fun X C B => ?_)
  have hR := B.1
  rw [F_X5_readRow] at h
  refine e_iconst C 0 (dk dX5_readRow 0 rfl) (by decide) ?_
  refine e_istore_n C [(3, .int 0), (0, .ref (g_N g + t)), (1, .int p0), (2, .int p1)] (dk dX5_readRow 1 rfl) rfl (by decide) rfl ?_
  refine e_lv [1, 2, 3, 0] rfl ?_
  refine lb_X5_readRow_2 C K ht hR (fun v h => ?_) (fun s11 h => ?_) h
  · obtain rfl := Option.some.inj (show some v = some _ from h)
    exact B
  dsimp only [Sum.elim_inr] at h
  refine e_aload_n C 0 (dk dX5_readRow 9 rfl) rfl rfl ?_
  refine e_iconst C 2 (dk dX5_readRow 10 rfl) (by decide) ?_
  refine pf_X5_found C K ht fl_X5_41 (dk dX5_readRow 11 rfl) ?_
  refine e_iconst C (-1) (dk dX5_readRow 12 rfl) (by decide) ?_
  obtain rfl := Option.some.inj h
  exact e_iret C B (nar1 _) (dk dX5_readRow 13 rfl)
set_option maxRecDepth 20000 in
theorem c_X5_streetsLine {g : WC} {Xo : Nat → va_E} {n : Nat} {kd : Nat → Nat} (K : KD n kd) {t : Nat} (ht : kd t = 6) {M : Mem} {res : Bool × Mem} (h : F_X5_streetsLine t M = some res) : MC g yX5_streetsLine cX5_streetsLine 1 (some .boolean) 4 n [.ref (g_N g + t)] (ent g Xo kd M) (some (.int (bi res.1))) (ent g Xo kd res.2) := by
  refine MC_of pn_X5 (Nat.le_of_ble_eq_true rfl) (fun X C B => ?_)
  have hR := B.1
  rw [F_X5_streetsLine] at h
  refine e_aload_n C 0 (dk dX5_streetsLine 0 rfl) rfl rfl ?_
  refine gf_X5_hasStreet C K ht fl_X5_47 (dk dX5_streetsLine 1 rfl) ?_
  refine e_if_eq C 13 (dk dX5_streetsLine 2 rfl) (by decide) (fun c1 => ?_) (fun c1 => ?_)
  · rw [if_pos c1] at h
    refine e_aload_n C 0 (dk dX5_streetsLine 7 rfl) rfl rfl ?_
    refine e_iconst C 1 (dk dX5_streetsLine 8 rfl) (by decide) ?_
    obtain ⟨q2, hq2, h⟩ := ob h
    refine e_callV (ci := 5) C cal_X5_once im_X5_once se_X5_once ml_X5_149 rfl hR (by decide) (dk dX5_streetsLine 9 rfl) (K.1 _ (by rw [ht]; decide)) (ent_o5 ht) (c_X5_once K ht hq2) ⟨Nat.zero_le _, Nat.zero_le _⟩ (Nat.le_of_ble_eq_true rfl) rfl ?_
    refine e_if_eq C 31 (dk dX5_streetsLine 10 rfl) (by decide) (fun c3 => ?_) (fun c3 => ?_)
    · rw [if_pos c3] at h
      refine e_iconst C 0 (dk dX5_streetsLine 16 rfl) (by decide) ?_
      obtain rfl := Option.some.inj h
      exact e_iret (v := bi false) C B (nar_bi _) (dk dX5_streetsLine 17 rfl)
    · rw [if_neg c3] at h
      refine e_aload_n C 0 (dk dX5_streetsLine 11 rfl) rfl rfl ?_
      refine e_iconst C 2 (dk dX5_streetsLine 12 rfl) (by decide) ?_
      refine e_bipush C 8 (dk dX5_streetsLine 13 rfl) (by decide) ?_
      refine e_callV (ci := 5) C cal_X5_number im_X5_number se_X5_number ml_X5_101 rfl hR (by decide) (dk dX5_streetsLine 14 rfl) (K.1 _ (by rw [ht]; decide)) (ent_o5 ht) (c_X5_number K ht (rfl : F_X5_number t 2 8 q2.2 = _)) ⟨Nat.zero_le _, Nat.zero_le _⟩ (Nat.le_of_ble_eq_true rfl) rfl ?_
      refine e_if_ne C 33 (dk dX5_streetsLine 15 rfl) (by decide) (fun c4 => ?_) (fun c4 => ?_)
      · rw [if_neg c4] at h
        refine e_aload_n C 0 (dk dX5_streetsLine 18 rfl) rfl rfl ?_
        obtain ⟨w5, hw5, h⟩ := ob h
        have gw5 := grd_some K (Or.inr ht) hw5
        refine gf_X5_draft C K ht fl_X5_22 (dk dX5_streetsLine 19 rfl) ?_
        rw [gw5.1]
        refine e_aload_n C 0 (dk dX5_streetsLine 20 rfl) rfl rfl ?_
        refine gf_X5_value C K ht fl_X5_38 (dk dX5_streetsLine 21 rfl) ?_
        refine pf_X9_streets C K gw5.2 fl_X5_105 (dk dX5_streetsLine 22 rfl) ?_
        refine e_aload_n C 0 (dk dX5_streetsLine 23 rfl) rfl rfl ?_
        obtain ⟨q6, hq6, h⟩ := ob h
        refine e_callV (ci := 5) C cal_X5_advance im_X5_advance se_X5_advance ml_X5_61 rfl hR (by decide) (dk dX5_streetsLine 24 rfl) (K.1 _ (by rw [ht]; decide)) (ent_o5 ht) (c_X5_advance K ht hq6) ⟨Nat.zero_le _, Nat.zero_le _⟩ (Nat.le_of_ble_eq_true rfl) rfl ?_
        refine e_aload_n C 0 (dk dX5_streetsLine 25 rfl) rfl rfl ?_
        refine e_bipush C 59 (dk dX5_streetsLine 26 rfl) (by decide) ?_
        obtain ⟨q7, hq7, h⟩ := ob h
        refine e_callV (ci := 5) C cal_X5_sign im_X5_sign se_X5_sign ml_X5_155 rfl hR (by decide) (dk dX5_streetsLine 27 rfl) (K.1 _ (by rw [ht]; decide)) (ent_o5 ht) (c_X5_sign K ht hq7) ⟨Nat.zero_le _, Nat.zero_le _⟩ (Nat.le_of_ble_eq_true rfl) rfl ?_
        obtain rfl := Option.some.inj h
        exact e_iret (v := bi q7.1) C B (nar_bi _) (dk dX5_streetsLine 28 rfl)
      · rw [if_pos c4] at h
        refine e_iconst C 0 (dk dX5_streetsLine 16 rfl) (by decide) ?_
        obtain rfl := Option.some.inj h
        exact e_iret (v := bi false) C B (nar_bi _) (dk dX5_streetsLine 17 rfl)
  · rw [if_neg c1] at h
    refine e_aload_n C 0 (dk dX5_streetsLine 3 rfl) rfl rfl ?_
    refine e_iconst C 4 (dk dX5_streetsLine 4 rfl) (by decide) ?_
    refine e_callV (ci := 5) C cal_X5_refuse im_X5_refuse se_X5_refuse ml_X5_98 rfl hR (by decide) (dk dX5_streetsLine 5 rfl) (K.1 _ (by rw [ht]; decide)) (ent_o5 ht) (c_X5_refuse K ht (rfl : F_X5_refuse t 4 M = _)) ⟨Nat.zero_le _, Nat.zero_le _⟩ (Nat.le_of_ble_eq_true rfl) rfl ?_
    obtain rfl := Option.some.inj h
    exact e_iret (v := bi ((F_X5_refuse t 4 M).1)) C B (nar_bi _) (dk dX5_streetsLine 6 rfl)
set_option maxRecDepth 20000 in
theorem j_X5_pathLine_j78 {X : FX} {g : WC} {Xo : Nat → va_E} {n : Nat} {kd : Nat → Nat} (C : Cx X g RX5 cX5_pathLine 2) (K : KD n kd) {t : Nat} (ht : kd t = 6) (hR : x_R X = rm 4) {M : Mem} {res : Bool × Mem} (h : J_X5_pathLine_j78 t M = some res) (B : Bx X g (some .boolean) 4 n (some (.int (bi res.1))) (ent g Xo kd res.2)) : EW X g (x_s X).heap.size n 2 (ent g Xo kd M) 0 0 78 [(0, .ref (g_N g + t))] [] := by
  rw [J_X5_pathLine_j78] at h
  refine e_aload_n C 0 (dk dX5_pathLine 41 rfl) rfl rfl ?_
  refine e_iconst C 4 (dk dX5_pathLine 42 rfl) (by decide) ?_
  refine e_callV (ci := 5) C cal_X5_refuse im_X5_refuse se_X5_refuse ml_X5_98 rfl hR (by decide) (dk dX5_pathLine 43 rfl) (K.1 _ (by rw [ht]; decide)) (ent_o5 ht) (c_X5_refuse K ht (rfl : F_X5_refuse t 4 M = _)) ⟨Nat.zero_le _, Nat.zero_le _⟩ (Nat.le_of_ble_eq_true rfl) rfl ?_
  obtain rfl := Option.some.inj h
  exact e_iret (v := bi ((F_X5_refuse t 4 M).1)) C B (nar_bi _) (dk dX5_pathLine 44 rfl)
set_option maxRecDepth 20000 in
theorem c_X5_pathLine {g : WC} {Xo : Nat → va_E} {n : Nat} {kd : Nat → Nat} (K : KD n kd) {t : Nat} (ht : kd t = 6) {M : Mem} {res : Bool × Mem} (h : F_X5_pathLine t M = some res) : MC g yX5_pathLine cX5_pathLine 2 (some .boolean) 4 n [.ref (g_N g + t)] (ent g Xo kd M) (some (.int (bi res.1))) (ent g Xo kd res.2) := by
  refine MC_of pn_X5 (Nat.le_of_ble_eq_true rfl) (fun X C B => ?_)
  have hR := B.1
  rw [F_X5_pathLine] at h
  refine e_aload_n C 0 (dk dX5_pathLine 0 rfl) rfl rfl ?_
  obtain ⟨w1, hw1, h⟩ := ob h
  have gw1 := grd_some K (Or.inr ht) hw1
  refine gf_X5_draft C K ht fl_X5_22 (dk dX5_pathLine 1 rfl) ?_
  rw [gw1.1]
  refine gf_X9_paths C K gw1.2 fl_X5_159 (dk dX5_pathLine 2 rfl) ?_
  refine e_bipush C 14 (dk dX5_pathLine 3 rfl) (by decide) ?_
  refine e_icmp_lt C 18 (dk dX5_pathLine 4 rfl) (by decide) (fun c2 => ?_) (fun c2 => ?_)
  · rw [if_pos c2] at h
    refine e_aload_n C 0 (dk dX5_pathLine 9 rfl) rfl rfl ?_
    obtain ⟨q3, hq3, h⟩ := ob h
    refine e_callV (ci := 5) C cal_X5_advance im_X5_advance se_X5_advance ml_X5_61 rfl hR (by decide) (dk dX5_pathLine 10 rfl) (K.1 _ (by rw [ht]; decide)) (ent_o5 ht) (c_X5_advance K ht hq3) ⟨Nat.zero_le _, Nat.zero_le _⟩ (Nat.le_of_ble_eq_true rfl) rfl ?_
    refine e_aload_n C 0 (dk dX5_pathLine 11 rfl) rfl rfl ?_
    obtain ⟨q4, hq4, h⟩ := ob h
    refine e_callV (ci := 5) C cal_X5_street im_X5_street se_X5_street ml_X5_108 rfl hR (by decide) (dk dX5_pathLine 12 rfl) (K.1 _ (by rw [ht]; decide)) (ent_o5 ht) (c_X5_street K ht hq4) ⟨Nat.zero_le _, Nat.zero_le _⟩ (Nat.le_of_ble_eq_true rfl) rfl ?_
    refine e_if_ne C 31 (dk dX5_pathLine 13 rfl) (by decide) (fun c5 => ?_) (fun c5 => ?_)
    · rw [if_neg c5] at h
      refine e_aload_n C 0 (dk dX5_pathLine 16 rfl) rfl rfl ?_
      refine gf_X5_value C K ht fl_X5_38 (dk dX5_pathLine 17 rfl) ?_
      refine e_istore_n C [(1, .int (q4.2 t 7)), (0, .ref (g_N g + t))] (dk dX5_pathLine 18 rfl) rfl (by decide) rfl ?_
      refine e_aload_n C 1 (dk dX5_pathLine 19 rfl) rfl rfl ?_
      obtain ⟨q6, hq6, h⟩ := ob h
      refine e_callV (ci := 5) C cal_X5_advance im_X5_advance se_X5_advance ml_X5_61 rfl hR (by decide) (dk dX5_pathLine 20 rfl) (K.1 _ (by rw [ht]; decide)) (ent_o5 ht) (c_X5_advance K ht hq6) ⟨Nat.zero_le _, Nat.zero_le _⟩ (Nat.le_of_ble_eq_true rfl) rfl ?_
      refine e_aload_n C 1 (dk dX5_pathLine 21 rfl) rfl rfl ?_
      obtain ⟨q7, hq7, h⟩ := ob h
      refine e_callV (ci := 5) C cal_X5_street im_X5_street se_X5_street ml_X5_108 rfl hR (by decide) (dk dX5_pathLine 22 rfl) (K.1 _ (by rw [ht]; decide)) (ent_o5 ht) (c_X5_street K ht hq7) ⟨Nat.zero_le _, Nat.zero_le _⟩ (Nat.le_of_ble_eq_true rfl) rfl ?_
      refine e_if_ne C 49 (dk dX5_pathLine 23 rfl) (by decide) (fun c8 => ?_) (fun c8 => ?_)
      · rw [if_neg c8] at h
        refine e_aload_n C 1 (dk dX5_pathLine 26 rfl) rfl rfl ?_
        refine gf_X5_value C K ht fl_X5_38 (dk dX5_pathLine 27 rfl) ?_
        refine e_iload_n C 0 (dk dX5_pathLine 28 rfl) rfl rfl ?_
        refine e_icmp_eq C 78 (dk dX5_pathLine 29 rfl) (by decide) (fun c9 => ?_) (fun c9 => ?_)
        · rw [if_pos c9] at h
          refine e_lv [1] rfl ?_
          exact j_X5_pathLine_j78 C K ht hR h B
        · rw [if_neg c9] at h
          refine e_aload_n C 1 (dk dX5_pathLine 30 rfl) rfl rfl ?_
          obtain ⟨w10, hw10, h⟩ := ob h
          have gw10 := grd_some K (Or.inr ht) hw10
          refine gf_X5_draft C K ht fl_X5_22 (dk dX5_pathLine 31 rfl) ?_
          rw [gw10.1]
          refine gf_X9_near C K gw10.2 fl_X5_162 (dk dX5_pathLine 32 rfl) ?_
          refine e_iload_n C 0 (dk dX5_pathLine 33 rfl) rfl rfl ?_
          refine e_callSN C cal_X11_at sm_X11_at mn_X5_68 hR (by decide) (dk dX5_pathLine 34 rfl) (c_X11_at K (kd_X9_near K gw10.2) (rfl : F_X11_at (w10 + 1) 8 (q4.2 t 7) q7.2 = _)) ⟨Nat.zero_le _, Nat.zero_le _⟩ (Nat.le_of_ble_eq_true rfl) rfl ?_
          refine e_aload_n C 1 (dk dX5_pathLine 35 rfl) rfl rfl ?_
          refine gf_X5_value C K ht fl_X5_38 (dk dX5_pathLine 36 rfl) ?_
          refine e_ishr C (dk dX5_pathLine 37 rfl) ?_
          refine e_iconst C 1 (dk dX5_pathLine 38 rfl) (by decide) ?_
          refine e_iand C (dk dX5_pathLine 39 rfl) ?_
          refine e_if_eq C 84 (dk dX5_pathLine 40 rfl) (by decide) (fun c11 => ?_) (fun c11 => ?_)
          · rw [if_pos c11] at h
            refine e_aload_n C 1 (dk dX5_pathLine 45 rfl) rfl rfl ?_
            obtain ⟨w12, hw12, h⟩ := ob h
            have gw12 := grd_some K (Or.inr ht) hw12
            refine gf_X5_draft C K ht fl_X5_22 (dk dX5_pathLine 46 rfl) ?_
            rw [gw12.1]
            refine e_iload_n C 0 (dk dX5_pathLine 47 rfl) rfl rfl ?_
            refine e_aload_n C 1 (dk dX5_pathLine 48 rfl) rfl rfl ?_
            refine gf_X5_value C K ht fl_X5_38 (dk dX5_pathLine 49 rfl) ?_
            refine e_callV (ci := 9) C cal_X9_join im_X9_join se_X9_join ml_X5_165 rfl hR (by decide) (dk dX5_pathLine 50 rfl) (K.1 _ (by rw [gw12.2]; decide)) (ent_o9 gw12.2) (c_X9_join K gw12.2 (rfl : F_X9_join w12 (q4.2 t 7) (q7.2 t 7) q7.2 = _)) ⟨Nat.zero_le _, Nat.zero_le _⟩ (Nat.le_of_ble_eq_true rfl) rfl ?_
            refine e_aload_n C 1 (dk dX5_pathLine 51 rfl) rfl rfl ?_
            obtain ⟨q13, hq13, h⟩ := ob h
            refine e_callV (ci := 5) C cal_X5_advance im_X5_advance se_X5_advance ml_X5_61 rfl hR (by decide) (dk dX5_pathLine 52 rfl) (K.1 _ (by rw [ht]; decide)) (ent_o5 ht) (c_X5_advance K ht hq13) ⟨Nat.zero_le _, Nat.zero_le _⟩ (Nat.le_of_ble_eq_true rfl) rfl ?_
            refine e_aload_n C 1 (dk dX5_pathLine 53 rfl) rfl rfl ?_
            refine e_bipush C 59 (dk dX5_pathLine 54 rfl) (by decide) ?_
            obtain ⟨q14, hq14, h⟩ := ob h
            refine e_callV (ci := 5) C cal_X5_sign im_X5_sign se_X5_sign ml_X5_155 rfl hR (by decide) (dk dX5_pathLine 55 rfl) (K.1 _ (by rw [ht]; decide)) (ent_o5 ht) (c_X5_sign K ht hq14) ⟨Nat.zero_le _, Nat.zero_le _⟩ (Nat.le_of_ble_eq_true rfl) rfl ?_
            obtain rfl := Option.some.inj h
            exact e_iret (v := bi q14.1) C B (nar_bi _) (dk dX5_pathLine 56 rfl)
          · rw [if_neg c11] at h
            refine e_lv [1] rfl ?_
            exact j_X5_pathLine_j78 C K ht hR h B
      · rw [if_pos c8] at h
        refine e_iconst C 0 (dk dX5_pathLine 24 rfl) (by decide) ?_
        obtain rfl := Option.some.inj h
        exact e_iret (v := bi false) C B (nar_bi _) (dk dX5_pathLine 25 rfl)
    · rw [if_pos c5] at h
      refine e_iconst C 0 (dk dX5_pathLine 14 rfl) (by decide) ?_
      obtain rfl := Option.some.inj h
      exact e_iret (v := bi false) C B (nar_bi _) (dk dX5_pathLine 15 rfl)
  · rw [if_neg c2] at h
    refine e_aload_n C 0 (dk dX5_pathLine 5 rfl) rfl rfl ?_
    refine e_iconst C 2 (dk dX5_pathLine 6 rfl) (by decide) ?_
    refine e_callV (ci := 5) C cal_X5_refuse im_X5_refuse se_X5_refuse ml_X5_98 rfl hR (by decide) (dk dX5_pathLine 7 rfl) (K.1 _ (by rw [ht]; decide)) (ent_o5 ht) (c_X5_refuse K ht (rfl : F_X5_refuse t 2 M = _)) ⟨Nat.zero_le _, Nat.zero_le _⟩ (Nat.le_of_ble_eq_true rfl) rfl ?_
    obtain rfl := Option.some.inj h
    exact e_iret (v := bi ((F_X5_refuse t 2 M).1)) C B (nar_bi _) (dk dX5_pathLine 8 rfl)
set_option maxRecDepth 20000 in
theorem c_X5_roundLine {g : WC} {Xo : Nat → va_E} {n : Nat} {kd : Nat → Nat} (K : KD n kd) {t : Nat} (ht : kd t = 6) {M : Mem} {res : Bool × Mem} (h : F_X5_roundLine t M = some res) : MC g yX5_roundLine cX5_roundLine 2 (some .boolean) 4 n [.ref (g_N g + t)] (ent g Xo kd M) (some (.int (bi res.1))) (ent g Xo kd res.2) := by
  refine MC_of pn_X5 (Nat.le_of_ble_eq_true rfl) (fun X C B => ?_)
  have hR := B.1
  rw [F_X5_roundLine] at h
  refine e_aload_n C 0 (dk dX5_roundLine 0 rfl) rfl rfl ?_
  refine e_iconst C 2 (dk dX5_roundLine 1 rfl) (by decide) ?_
  obtain ⟨q1, hq1, h⟩ := ob h
  refine e_callV (ci := 5) C cal_X5_once im_X5_once se_X5_once ml_X5_149 rfl hR (by decide) (dk dX5_roundLine 2 rfl) (K.1 _ (by rw [ht]; decide)) (ent_o5 ht) (c_X5_once K ht hq1) ⟨Nat.zero_le _, Nat.zero_le _⟩ (Nat.le_of_ble_eq_true rfl) rfl ?_
  refine e_if_ne C 10 (dk dX5_roundLine 3 rfl) (by decide) (fun c2 => ?_) (fun c2 => ?_)
  · rw [if_neg c2] at h
    refine e_aload_n C 0 (dk dX5_roundLine 6 rfl) rfl rfl ?_
    refine e_bipush C 8 (dk dX5_roundLine 7 rfl) (by decide) ?_
    refine e_iconst C 1 (dk dX5_roundLine 8 rfl) (by decide) ?_
    obtain ⟨q3, hq3, h⟩ := ob h
    refine e_callV (ci := 5) C cal_X5_readRow im_X5_readRow se_X5_readRow ml_X5_169 rfl hR (by decide) (dk dX5_roundLine 9 rfl) (K.1 _ (by rw [ht]; decide)) (ent_o5 ht) (c_X5_readRow K ht hq3) ⟨Nat.zero_le _, Nat.zero_le _⟩ (Nat.le_of_ble_eq_true rfl) rfl ?_
    refine e_istore_n C [(1, .int q3.1), (0, .ref (g_N g + t))] (dk dX5_roundLine 10 rfl) rfl (by decide) rfl ?_
    refine e_iload_n C 0 (dk dX5_roundLine 11 rfl) rfl rfl ?_
    refine e_iconst C (-1) (dk dX5_roundLine 12 rfl) (by decide) ?_
    refine e_icmp_ne C 25 (dk dX5_roundLine 13 rfl) (by decide) (fun c4 => ?_) (fun c4 => ?_)
    · rw [if_neg c4] at h
      refine e_aload_n C 1 (dk dX5_roundLine 16 rfl) rfl rfl ?_
      obtain ⟨w5, hw5, h⟩ := ob h
      have gw5 := grd_some K (Or.inr ht) hw5
      refine gf_X5_draft C K ht fl_X5_22 (dk dX5_roundLine 17 rfl) ?_
      rw [gw5.1]
      refine e_iload_n C 0 (dk dX5_roundLine 18 rfl) rfl rfl ?_
      refine pf_X9_rounds C K gw5.2 fl_X5_173 (dk dX5_roundLine 19 rfl) ?_
      refine e_aload_n C 1 (dk dX5_roundLine 20 rfl) rfl rfl ?_
      refine gf_X5_row C K ht fl_X5_51 (dk dX5_roundLine 21 rfl) ?_
      refine e_aload_n C 1 (dk dX5_roundLine 22 rfl) rfl rfl ?_
      obtain ⟨w6, hw6, h⟩ := ob h
      have gw6 := grd_some K (Or.inr ht) hw6
      refine gf_X5_draft C K ht fl_X5_22 (dk dX5_roundLine 23 rfl) ?_
      rw [gw6.1]
      refine gf_X9_round C K gw6.2 fl_X5_176 (dk dX5_roundLine 24 rfl) ?_
      obtain ⟨q7, hq7, h⟩ := ob h
      refine e_callSN C cal_X11_copyRow sm_X11_copyRow mn_X5_178 hR (by decide) (dk dX5_roundLine 25 rfl) (c_X11_copyRow K (kd_X5_row K ht) (kd_X9_round K gw6.2) hq7) ⟨Nat.zero_le _, Nat.zero_le _⟩ (Nat.le_of_ble_eq_true rfl) rfl ?_
      refine e_aload_n C 1 (dk dX5_roundLine 26 rfl) rfl rfl ?_
      refine e_bipush C 59 (dk dX5_roundLine 27 rfl) (by decide) ?_
      obtain ⟨q8, hq8, h⟩ := ob h
      refine e_callV (ci := 5) C cal_X5_sign im_X5_sign se_X5_sign ml_X5_155 rfl hR (by decide) (dk dX5_roundLine 28 rfl) (K.1 _ (by rw [ht]; decide)) (ent_o5 ht) (c_X5_sign K ht hq8) ⟨Nat.zero_le _, Nat.zero_le _⟩ (Nat.le_of_ble_eq_true rfl) rfl ?_
      obtain rfl := Option.some.inj h
      exact e_iret (v := bi q8.1) C B (nar_bi _) (dk dX5_roundLine 29 rfl)
    · rw [if_pos c4] at h
      refine e_iconst C 0 (dk dX5_roundLine 14 rfl) (by decide) ?_
      obtain rfl := Option.some.inj h
      exact e_iret (v := bi false) C B (nar_bi _) (dk dX5_roundLine 15 rfl)
  · rw [if_pos c2] at h
    refine e_iconst C 0 (dk dX5_roundLine 4 rfl) (by decide) ?_
    obtain rfl := Option.some.inj h
    exact e_iret (v := bi false) C B (nar_bi _) (dk dX5_roundLine 5 rfl)
set_option maxRecDepth 20000 in
theorem c_X5_personLine {g : WC} {Xo : Nat → va_E} {n : Nat} {kd : Nat → Nat} (K : KD n kd) {t : Nat} {p0 : Int32} (ht : kd t = 6) {M : Mem} {res : Bool × Mem} (h : F_X5_personLine t p0 M = some res) : MC g yX5_personLine cX5_personLine 4 (some .boolean) 4 n [.ref (g_N g + t), .int p0] (ent g Xo kd M) (some (.int (bi res.1))) (ent g Xo kd res.2) := by
  refine MC_of pn_X5 (Nat.le_of_ble_eq_true rfl) (fun X C B => ?_)
  have hR := B.1
  rw [F_X5_personLine] at h
  refine e_aload_n C 0 (dk dX5_personLine 0 rfl) rfl rfl ?_
  obtain ⟨w1, hw1, h⟩ := ob h
  have gw1 := grd_some K (Or.inr ht) hw1
  refine gf_X5_draft C K ht fl_X5_22 (dk dX5_personLine 1 rfl) ?_
  rw [gw1.1]
  refine gf_X9_people C K gw1.2 fl_X5_182 (dk dX5_personLine 2 rfl) ?_
  refine e_bipush C 7 (dk dX5_personLine 3 rfl) (by decide) ?_
  refine e_icmp_lt C 18 (dk dX5_personLine 4 rfl) (by decide) (fun c2 => ?_) (fun c2 => ?_)
  · rw [if_pos c2] at h
    refine e_aload_n C 0 (dk dX5_personLine 9 rfl) rfl rfl ?_
    obtain ⟨q3, hq3, h⟩ := ob h
    refine e_callV (ci := 5) C cal_X5_advance im_X5_advance se_X5_advance ml_X5_61 rfl hR (by decide) (dk dX5_personLine 10 rfl) (K.1 _ (by rw [ht]; decide)) (ent_o5 ht) (c_X5_advance K ht hq3) ⟨Nat.zero_le _, Nat.zero_le _⟩ (Nat.le_of_ble_eq_true rfl) rfl ?_
    refine e_aload_n C 0 (dk dX5_personLine 11 rfl) rfl rfl ?_
    refine e_iconst C 0 (dk dX5_personLine 12 rfl) (by decide) ?_
    refine e_sipush C 999 (dk dX5_personLine 13 rfl) (by decide) ?_
    refine e_callV (ci := 5) C cal_X5_number im_X5_number se_X5_number ml_X5_101 rfl hR (by decide) (dk dX5_personLine 14 rfl) (K.1 _ (by rw [ht]; decide)) (ent_o5 ht) (c_X5_number K ht (rfl : F_X5_number t 0 999 q3 = _)) ⟨Nat.zero_le _, Nat.zero_le _⟩ (Nat.le_of_ble_eq_true rfl) rfl ?_
    refine e_if_ne C 35 (dk dX5_personLine 15 rfl) (by decide) (fun c4 => ?_) (fun c4 => ?_)
    · rw [if_neg c4] at h
      refine e_aload_n C 0 (dk dX5_personLine 18 rfl) rfl rfl ?_
      refine gf_X5_value C K ht fl_X5_38 (dk dX5_personLine 19 rfl) ?_
      refine e_istore_n C [(2, .int ((F_X5_number t 0 999 q3).2 t 7)), (0, .ref (g_N g + t)), (1, .int p0)] (dk dX5_personLine 20 rfl) rfl (by decide) rfl ?_
      refine e_aload_n C 1 (dk dX5_personLine 21 rfl) rfl rfl ?_
      obtain ⟨q5, hq5, h⟩ := ob h
      refine e_callV (ci := 5) C cal_X5_advance im_X5_advance se_X5_advance ml_X5_61 rfl hR (by decide) (dk dX5_personLine 22 rfl) (K.1 _ (by rw [ht]; decide)) (ent_o5 ht) (c_X5_advance K ht hq5) ⟨Nat.zero_le _, Nat.zero_le _⟩ (Nat.le_of_ble_eq_true rfl) rfl ?_
      refine e_aload_n C 1 (dk dX5_personLine 23 rfl) rfl rfl ?_
      refine e_bipush C 6 (dk dX5_personLine 24 rfl) (by decide) ?_
      refine e_iconst C 1 (dk dX5_personLine 25 rfl) (by decide) ?_
      obtain ⟨q6, hq6, h⟩ := ob h
      refine e_callV (ci := 5) C cal_X5_readRow im_X5_readRow se_X5_readRow ml_X5_169 rfl hR (by decide) (dk dX5_personLine 26 rfl) (K.1 _ (by rw [ht]; decide)) (ent_o5 ht) (c_X5_readRow K ht hq6) ⟨Nat.zero_le _, Nat.zero_le _⟩ (Nat.le_of_ble_eq_true rfl) rfl ?_
      refine e_istore_n C [(3, .int q6.1), (2, .int ((F_X5_number t 0 999 q3).2 t 7)), (0, .ref (g_N g + t)), (1, .int p0)] (dk dX5_personLine 27 rfl) rfl (by decide) rfl ?_
      refine e_iload_n C 0 (dk dX5_personLine 28 rfl) rfl rfl ?_
      refine e_iconst C (-1) (dk dX5_personLine 29 rfl) (by decide) ?_
      refine e_icmp_ne C 59 (dk dX5_personLine 30 rfl) (by decide) (fun c7 => ?_) (fun c7 => ?_)
      · rw [if_neg c7] at h
        refine e_aload_n C 2 (dk dX5_personLine 33 rfl) rfl rfl ?_
        obtain ⟨w8, hw8, h⟩ := ob h
        have gw8 := grd_some K (Or.inr ht) hw8
        refine gf_X5_draft C K ht fl_X5_22 (dk dX5_personLine 34 rfl) ?_
        rw [gw8.1]
        refine e_iload_n C 1 (dk dX5_personLine 35 rfl) rfl rfl ?_
        refine e_iload_n C 3 (dk dX5_personLine 36 rfl) rfl rfl ?_
        refine e_aload_n C 2 (dk dX5_personLine 37 rfl) rfl rfl ?_
        refine gf_X5_row C K ht fl_X5_51 (dk dX5_personLine 38 rfl) ?_
        refine e_iload_n C 0 (dk dX5_personLine 39 rfl) rfl rfl ?_
        obtain ⟨q9, hq9, h⟩ := ob h
        refine e_callV (ci := 9) C cal_X9_addPerson im_X9_addPerson se_X9_addPerson ml_X5_185 rfl hR (by decide) (dk dX5_personLine 40 rfl) (K.1 _ (by rw [gw8.2]; decide)) (ent_o9 gw8.2) (c_X9_addPerson K gw8.2 (kd_X5_row K ht) hq9) ⟨Nat.zero_le _, Nat.zero_le _⟩ (Nat.le_of_ble_eq_true rfl) rfl ?_
        refine e_aload_n C 2 (dk dX5_personLine 41 rfl) rfl rfl ?_
        refine e_bipush C 59 (dk dX5_personLine 42 rfl) (by decide) ?_
        obtain ⟨q10, hq10, h⟩ := ob h
        refine e_callV (ci := 5) C cal_X5_sign im_X5_sign se_X5_sign ml_X5_155 rfl hR (by decide) (dk dX5_personLine 43 rfl) (K.1 _ (by rw [ht]; decide)) (ent_o5 ht) (c_X5_sign K ht hq10) ⟨Nat.zero_le _, Nat.zero_le _⟩ (Nat.le_of_ble_eq_true rfl) rfl ?_
        obtain rfl := Option.some.inj h
        exact e_iret (v := bi q10.1) C B (nar_bi _) (dk dX5_personLine 44 rfl)
      · rw [if_pos c7] at h
        refine e_iconst C 0 (dk dX5_personLine 31 rfl) (by decide) ?_
        obtain rfl := Option.some.inj h
        exact e_iret (v := bi false) C B (nar_bi _) (dk dX5_personLine 32 rfl)
    · rw [if_pos c4] at h
      refine e_iconst C 0 (dk dX5_personLine 16 rfl) (by decide) ?_
      obtain rfl := Option.some.inj h
      exact e_iret (v := bi false) C B (nar_bi _) (dk dX5_personLine 17 rfl)
  · rw [if_neg c2] at h
    refine e_aload_n C 0 (dk dX5_personLine 5 rfl) rfl rfl ?_
    refine e_iconst C 2 (dk dX5_personLine 6 rfl) (by decide) ?_
    refine e_callV (ci := 5) C cal_X5_refuse im_X5_refuse se_X5_refuse ml_X5_98 rfl hR (by decide) (dk dX5_personLine 7 rfl) (K.1 _ (by rw [ht]; decide)) (ent_o5 ht) (c_X5_refuse K ht (rfl : F_X5_refuse t 2 M = _)) ⟨Nat.zero_le _, Nat.zero_le _⟩ (Nat.le_of_ble_eq_true rfl) rfl ?_
    obtain rfl := Option.some.inj h
    exact e_iret (v := bi ((F_X5_refuse t 2 M).1)) C B (nar_bi _) (dk dX5_personLine 8 rfl)
set_option maxRecDepth 20000 in
theorem c_X5_fogLine {g : WC} {Xo : Nat → va_E} {n : Nat} {kd : Nat → Nat} (K : KD n kd) {t : Nat} (ht : kd t = 6) {M : Mem} {res : Bool × Mem} (h : F_X5_fogLine t M = some res) : MC g yX5_fogLine cX5_fogLine 2 (some .boolean) 4 n [.ref (g_N g + t)] (ent g Xo kd M) (some (.int (bi res.1))) (ent g Xo kd res.2) := by
  refine MC_of pn_X5 (Nat.le_of_ble_eq_true rfl) (fun X C B => ?_)
  have hR := B.1
  rw [F_X5_fogLine] at h
  refine e_aload_n C 0 (dk dX5_fogLine 0 rfl) rfl rfl ?_
  refine e_iconst C 4 (dk dX5_fogLine 1 rfl) (by decide) ?_
  obtain ⟨q1, hq1, h⟩ := ob h
  refine e_callV (ci := 5) C cal_X5_once im_X5_once se_X5_once ml_X5_149 rfl hR (by decide) (dk dX5_fogLine 2 rfl) (K.1 _ (by rw [ht]; decide)) (ent_o5 ht) (c_X5_once K ht hq1) ⟨Nat.zero_le _, Nat.zero_le _⟩ (Nat.le_of_ble_eq_true rfl) rfl ?_
  refine e_if_ne C 10 (dk dX5_fogLine 3 rfl) (by decide) (fun c2 => ?_) (fun c2 => ?_)
  · rw [if_neg c2] at h
    refine e_aload_n C 0 (dk dX5_fogLine 6 rfl) rfl rfl ?_
    refine e_bipush C 8 (dk dX5_fogLine 7 rfl) (by decide) ?_
    refine e_iconst C 0 (dk dX5_fogLine 8 rfl) (by decide) ?_
    obtain ⟨q3, hq3, h⟩ := ob h
    refine e_callV (ci := 5) C cal_X5_readRow im_X5_readRow se_X5_readRow ml_X5_169 rfl hR (by decide) (dk dX5_fogLine 9 rfl) (K.1 _ (by rw [ht]; decide)) (ent_o5 ht) (c_X5_readRow K ht hq3) ⟨Nat.zero_le _, Nat.zero_le _⟩ (Nat.le_of_ble_eq_true rfl) rfl ?_
    refine e_istore_n C [(1, .int q3.1), (0, .ref (g_N g + t))] (dk dX5_fogLine 10 rfl) rfl (by decide) rfl ?_
    refine e_iload_n C 0 (dk dX5_fogLine 11 rfl) rfl rfl ?_
    refine e_iconst C (-1) (dk dX5_fogLine 12 rfl) (by decide) ?_
    refine e_icmp_ne C 25 (dk dX5_fogLine 13 rfl) (by decide) (fun c4 => ?_) (fun c4 => ?_)
    · rw [if_neg c4] at h
      refine e_aload_n C 1 (dk dX5_fogLine 16 rfl) rfl rfl ?_
      obtain ⟨w5, hw5, h⟩ := ob h
      have gw5 := grd_some K (Or.inr ht) hw5
      refine gf_X5_draft C K ht fl_X5_22 (dk dX5_fogLine 17 rfl) ?_
      rw [gw5.1]
      refine e_iload_n C 0 (dk dX5_fogLine 18 rfl) rfl rfl ?_
      refine pf_X9_fogs C K gw5.2 fl_X5_189 (dk dX5_fogLine 19 rfl) ?_
      refine e_aload_n C 1 (dk dX5_fogLine 20 rfl) rfl rfl ?_
      refine gf_X5_row C K ht fl_X5_51 (dk dX5_fogLine 21 rfl) ?_
      refine e_aload_n C 1 (dk dX5_fogLine 22 rfl) rfl rfl ?_
      obtain ⟨w6, hw6, h⟩ := ob h
      have gw6 := grd_some K (Or.inr ht) hw6
      refine gf_X5_draft C K ht fl_X5_22 (dk dX5_fogLine 23 rfl) ?_
      rw [gw6.1]
      refine gf_X9_fog C K gw6.2 fl_X5_192 (dk dX5_fogLine 24 rfl) ?_
      obtain ⟨q7, hq7, h⟩ := ob h
      refine e_callSN C cal_X11_copyRow sm_X11_copyRow mn_X5_178 hR (by decide) (dk dX5_fogLine 25 rfl) (c_X11_copyRow K (kd_X5_row K ht) (kd_X9_fog K gw6.2) hq7) ⟨Nat.zero_le _, Nat.zero_le _⟩ (Nat.le_of_ble_eq_true rfl) rfl ?_
      refine e_aload_n C 1 (dk dX5_fogLine 26 rfl) rfl rfl ?_
      refine e_bipush C 59 (dk dX5_fogLine 27 rfl) (by decide) ?_
      obtain ⟨q8, hq8, h⟩ := ob h
      refine e_callV (ci := 5) C cal_X5_sign im_X5_sign se_X5_sign ml_X5_155 rfl hR (by decide) (dk dX5_fogLine 28 rfl) (K.1 _ (by rw [ht]; decide)) (ent_o5 ht) (c_X5_sign K ht hq8) ⟨Nat.zero_le _, Nat.zero_le _⟩ (Nat.le_of_ble_eq_true rfl) rfl ?_
      obtain rfl := Option.some.inj h
      exact e_iret (v := bi q8.1) C B (nar_bi _) (dk dX5_fogLine 29 rfl)
    · rw [if_pos c4] at h
      refine e_iconst C 0 (dk dX5_fogLine 14 rfl) (by decide) ?_
      obtain rfl := Option.some.inj h
      exact e_iret (v := bi false) C B (nar_bi _) (dk dX5_fogLine 15 rfl)
  · rw [if_pos c2] at h
    refine e_iconst C 0 (dk dX5_fogLine 4 rfl) (by decide) ?_
    obtain rfl := Option.some.inj h
    exact e_iret (v := bi false) C B (nar_bi _) (dk dX5_fogLine 5 rfl)
set_option maxRecDepth 20000 in
theorem c_X5_reserveLine {g : WC} {Xo : Nat → va_E} {n : Nat} {kd : Nat → Nat} (K : KD n kd) {t : Nat} (ht : kd t = 6) {M : Mem} {res : Bool × Mem} (h : F_X5_reserveLine t M = some res) : MC g yX5_reserveLine cX5_reserveLine 1 (some .boolean) 4 n [.ref (g_N g + t)] (ent g Xo kd M) (some (.int (bi res.1))) (ent g Xo kd res.2) := by
  refine MC_of pn_X5 (Nat.le_of_ble_eq_true rfl) (fun X C B => ?_)
  have hR := B.1
  rw [F_X5_reserveLine] at h
  refine e_aload_n C 0 (dk dX5_reserveLine 0 rfl) rfl rfl ?_
  refine e_bipush C 8 (dk dX5_reserveLine 1 rfl) (by decide) ?_
  obtain ⟨q1, hq1, h⟩ := ob h
  refine e_callV (ci := 5) C cal_X5_once im_X5_once se_X5_once ml_X5_149 rfl hR (by decide) (dk dX5_reserveLine 2 rfl) (K.1 _ (by rw [ht]; decide)) (ent_o5 ht) (c_X5_once K ht hq1) ⟨Nat.zero_le _, Nat.zero_le _⟩ (Nat.le_of_ble_eq_true rfl) rfl ?_
  refine e_if_eq C 19 (dk dX5_reserveLine 3 rfl) (by decide) (fun c2 => ?_) (fun c2 => ?_)
  · rw [if_pos c2] at h
    refine e_iconst C 0 (dk dX5_reserveLine 9 rfl) (by decide) ?_
    obtain rfl := Option.some.inj h
    exact e_iret (v := bi false) C B (nar_bi _) (dk dX5_reserveLine 10 rfl)
  · rw [if_neg c2] at h
    refine e_aload_n C 0 (dk dX5_reserveLine 4 rfl) rfl rfl ?_
    refine e_iconst C 0 (dk dX5_reserveLine 5 rfl) (by decide) ?_
    refine e_bipush C 99 (dk dX5_reserveLine 6 rfl) (by decide) ?_
    refine e_callV (ci := 5) C cal_X5_number im_X5_number se_X5_number ml_X5_101 rfl hR (by decide) (dk dX5_reserveLine 7 rfl) (K.1 _ (by rw [ht]; decide)) (ent_o5 ht) (c_X5_number K ht (rfl : F_X5_number t 0 99 q1.2 = _)) ⟨Nat.zero_le _, Nat.zero_le _⟩ (Nat.le_of_ble_eq_true rfl) rfl ?_
    refine e_if_ne C 21 (dk dX5_reserveLine 8 rfl) (by decide) (fun c3 => ?_) (fun c3 => ?_)
    · rw [if_neg c3] at h
      refine e_aload_n C 0 (dk dX5_reserveLine 11 rfl) rfl rfl ?_
      obtain ⟨w4, hw4, h⟩ := ob h
      have gw4 := grd_some K (Or.inr ht) hw4
      refine gf_X5_draft C K ht fl_X5_22 (dk dX5_reserveLine 12 rfl) ?_
      rw [gw4.1]
      refine e_aload_n C 0 (dk dX5_reserveLine 13 rfl) rfl rfl ?_
      refine gf_X5_value C K ht fl_X5_38 (dk dX5_reserveLine 14 rfl) ?_
      refine pf_X9_reserve C K gw4.2 fl_X5_194 (dk dX5_reserveLine 15 rfl) ?_
      refine e_aload_n C 0 (dk dX5_reserveLine 16 rfl) rfl rfl ?_
      obtain ⟨q5, hq5, h⟩ := ob h
      refine e_callV (ci := 5) C cal_X5_advance im_X5_advance se_X5_advance ml_X5_61 rfl hR (by decide) (dk dX5_reserveLine 17 rfl) (K.1 _ (by rw [ht]; decide)) (ent_o5 ht) (c_X5_advance K ht hq5) ⟨Nat.zero_le _, Nat.zero_le _⟩ (Nat.le_of_ble_eq_true rfl) rfl ?_
      refine e_aload_n C 0 (dk dX5_reserveLine 18 rfl) rfl rfl ?_
      refine e_bipush C 59 (dk dX5_reserveLine 19 rfl) (by decide) ?_
      obtain ⟨q6, hq6, h⟩ := ob h
      refine e_callV (ci := 5) C cal_X5_sign im_X5_sign se_X5_sign ml_X5_155 rfl hR (by decide) (dk dX5_reserveLine 20 rfl) (K.1 _ (by rw [ht]; decide)) (ent_o5 ht) (c_X5_sign K ht hq6) ⟨Nat.zero_le _, Nat.zero_le _⟩ (Nat.le_of_ble_eq_true rfl) rfl ?_
      obtain rfl := Option.some.inj h
      exact e_iret (v := bi q6.1) C B (nar_bi _) (dk dX5_reserveLine 21 rfl)
    · rw [if_pos c3] at h
      refine e_iconst C 0 (dk dX5_reserveLine 9 rfl) (by decide) ?_
      obtain rfl := Option.some.inj h
      exact e_iret (v := bi false) C B (nar_bi _) (dk dX5_reserveLine 10 rfl)
set_option maxRecDepth 20000 in
theorem j_X6_open_j79 {X : FX} {g : WC} {Xo : Nat → va_E} {n : Nat} {kd : Nat → Nat} (C : Cx X g RX6 cX6_open 7) (K : KD n kd) {t : Nat} {w0 : Nat} {w1 : Nat} (ht : kd t = 7) (hw0 : kd w0 = 10) (hw1 : kd w1 = 9) {x3 : Int32} (hR : x_R X = rm 3) {OK : Mem → Prop} (hx : ∀ s, OK s → EW X g (x_s X).heap.size n 7 (ent g Xo kd s) 0 0 137 [] []) {rec : Int32 → Mem → Option (Mem)} (hrec : ∀ (x4 : Int32) (M : Mem) (q : Mem), rec x4 M = some q → OK q → EW X g (x_s X).heap.size n 7 (ent g Xo kd M) 0 0 13 [(0, .ref (g_N g + t)), (1, .ref (g_N g + w0)), (2, .ref (g_N g + w1)), (3, .int x3), (4, .int x4)] []) {x4 : Int32} {y0 : Int32} {M : Mem} (q : Mem) (h : J_X6_open_j79 t w0 w1 rec x3 x4 y0 M = some q) (hOK : OK q) : EW X g (x_s X).heap.size n 7 (ent g Xo kd M) 0 0 79 [(0, .ref (g_N g + t)), (1, .ref (g_N g + w0)), (2, .ref (g_N g + w1)), (3, .int x3), (4, .int x4)] [.int y0] := by
  rw [J_X6_open_j79] at h
  refine e_istore C [(6, .int y0), (0, .ref (g_N g + t)), (1, .ref (g_N g + w0)), (2, .ref (g_N g + w1)), (3, .int x3), (4, .int x4)] (dk dX6_open_0 39 rfl) (by decide) rfl ?_
  refine e_aload_n C 1 (dk dX6_open_0 40 rfl) rfl rfl ?_
  refine gf_X6_hours C K ht fl_X6_9 (dk dX6_open_0 41 rfl) ?_
  refine e_iload C 5 (dk dX6_open_0 42 rfl) rfl ?_
  refine e_iload C 0 (dk dX6_open_0 43 rfl) rfl ?_
  refine e_callSN C cal_X11_put sm_X11_put mn_X6_58 hR (by decide) (dk dX6_open_0 44 rfl) (c_X11_put K (kd_X6_hours K ht) (rfl : F_X11_put (t + 1) 7 x4 y0 M = _)) ⟨Nat.zero_le _, Nat.zero_le _⟩ (Nat.le_of_ble_eq_true rfl) rfl ?_
  refine e_aload_n C 1 (dk dX6_open_0 45 rfl) rfl rfl ?_
  refine gf_X6_buyers C K ht fl_X6_20 (dk dX6_open_0 46 rfl) ?_
  refine e_iload C 5 (dk dX6_open_0 47 rfl) rfl ?_
  refine e_iconst C (-1) (dk dX6_open_0 48 rfl) (by decide) ?_
  refine e_callSN C cal_X11_put sm_X11_put mn_X6_58 hR (by decide) (dk dX6_open_0 49 rfl) (c_X11_put K (kd_X6_buyers K ht) (rfl : F_X11_put (t + 3) 7 x4 (-1) (F_X11_put (t + 1) 7 x4 y0 M) = _)) ⟨Nat.zero_le _, Nat.zero_le _⟩ (Nat.le_of_ble_eq_true rfl) rfl ?_
  refine e_aload_n C 1 (dk dX6_open_0 50 rfl) rfl rfl ?_
  refine gf_X6_prices C K ht fl_X6_23 (dk dX6_open_0 51 rfl) ?_
  refine e_iload C 5 (dk dX6_open_0 52 rfl) rfl ?_
  refine e_iconst C (-1) (dk dX6_open_0 53 rfl) (by decide) ?_
  refine e_callSN C cal_X11_put sm_X11_put mn_X6_58 hR (by decide) (dk dX6_open_0 54 rfl) (c_X11_put K (kd_X6_prices K ht) (rfl : F_X11_put (t + 4) 7 x4 (-1) (F_X11_put (t + 3) 7 x4 (-1) (F_X11_put (t + 1) 7 x4 y0 M)) = _)) ⟨Nat.zero_le _, Nat.zero_le _⟩ (Nat.le_of_ble_eq_true rfl) rfl ?_
  refine e_aload_n C 1 (dk dX6_open_0 55 rfl) rfl rfl ?_
  refine e_dup C (dk dX6_open_0 56 rfl) rfl ?_
  refine gf_X6_lotCount C K ht fl_X6_26 (dk dX6_open_0 57 rfl) ?_
  refine e_iload C 0 (dk dX6_open_0 58 rfl) rfl ?_
  suffices hm6 : EW X g (x_s X).heap.size n 7 (ent g Xo kd (F_X11_put (t + 4) 7 x4 (-1) (F_X11_put (t + 3) 7 x4 (-1) (F_X11_put (t + 1) 7 x4 y0 M)))) 0 0 127 [(6, .int y0), (0, .ref (g_N g + t)), (1, .ref (g_N g + w0)), (2, .ref (g_N g + w1)), (3, .int x3), (4, .int x4)] [.int (if y0 = 0 then (0 : Int32) else (1 : Int32)), .int ((F_X11_put (t + 4) 7 x4 (-1) (F_X11_put (t + 3) 7 x4 (-1) (F_X11_put (t + 1) 7 x4 y0 M))) t 4), .ref (g_N g + t)] from (by
    refine e_if_eq C 126 (dk dX6_open_0 59 rfl) (by decide) (fun c5 => ?_) (fun c5 => ?_)
    · rw [show (if y0 = 0 then (0 : Int32) else (1 : Int32)) = (0 : Int32) from if_pos c5] at hm6
      refine e_iconst C 0 (dk dX6_open_1 2 rfl) (by decide) ?_
      exact hm6
    · rw [show (if y0 = 0 then (0 : Int32) else (1 : Int32)) = (1 : Int32) from if_neg c5] at hm6
      refine e_iconst C 1 (dk dX6_open_1 0 rfl) (by decide) ?_
      refine e_goto C 127 (dk dX6_open_1 1 rfl) (by decide) ?_
      exact hm6)
  refine e_iadd C (dk dX6_open_1 3 rfl) ?_
  refine pf_X6_lotCount C K ht fl_X6_26 (dk dX6_open_1 4 rfl) ?_
  refine e_iinc C [(4, .int (x4 + 1)), (6, .int y0), (0, .ref (g_N g + t)), (1, .ref (g_N g + w0)), (2, .ref (g_N g + w1)), (3, .int x3)] 5 1 (dk dX6_open_1 5 rfl) rfl (by decide) (by decide) rfl ?_
  refine e_goto C 13 (dk dX6_open_1 6 rfl) (by decide) ?_
  refine e_lv [2, 3, 4, 5, 0] rfl ?_
  exact hrec _ _ _ h hOK
set_option maxRecDepth 20000 in
theorem j_X6_open_j49 {X : FX} {g : WC} {Xo : Nat → va_E} {n : Nat} {kd : Nat → Nat} (C : Cx X g RX6 cX6_open 7) (K : KD n kd) {t : Nat} {w0 : Nat} {w1 : Nat} (ht : kd t = 7) (hw0 : kd w0 = 10) (hw1 : kd w1 = 9) {x3 : Int32} (hR : x_R X = rm 3) {OK : Mem → Prop} (hx : ∀ s, OK s → EW X g (x_s X).heap.size n 7 (ent g Xo kd s) 0 0 137 [] []) {rec : Int32 → Mem → Option (Mem)} (hrec : ∀ (x4 : Int32) (M : Mem) (q : Mem), rec x4 M = some q → OK q → EW X g (x_s X).heap.size n 7 (ent g Xo kd M) 0 0 13 [(0, .ref (g_N g + t)), (1, .ref (g_N g + w0)), (2, .ref (g_N g + w1)), (3, .int x3), (4, .int x4)] []) {x4 : Int32} {y0 : Int32} {M : Mem} (q : Mem) (h : J_X6_open_j49 t w0 w1 rec x3 x4 y0 M = some q) (hOK : OK q) : EW X g (x_s X).heap.size n 7 (ent g Xo kd M) 0 0 49 [(0, .ref (g_N g + t)), (1, .ref (g_N g + w0)), (2, .ref (g_N g + w1)), (3, .int x3), (4, .int x4)] [.int y0] := by
  rw [J_X6_open_j49] at h
  refine e_istore C [(5, .int y0), (0, .ref (g_N g + t)), (1, .ref (g_N g + w0)), (2, .ref (g_N g + w1)), (3, .int x3), (4, .int x4)] (dk dX6_open_0 25 rfl) (by decide) rfl ?_
  refine e_iload C 0 (dk dX6_open_0 26 rfl) rfl ?_
  refine e_if_eq C 60 (dk dX6_open_0 27 rfl) (by decide) (fun c3 => ?_) (fun c3 => ?_)
  · rw [if_pos c3] at h
    refine e_aload_n C 2 (dk dX6_open_0 30 rfl) rfl rfl ?_
    refine e_iload C 5 (dk dX6_open_0 31 rfl) rfl ?_
    refine e_aload_n C 3 (dk dX6_open_0 32 rfl) rfl rfl ?_
    refine gf_X8_walks C K hw1 fl_X6_44 (dk dX6_open_0 33 rfl) ?_
    refine e_iload C 5 (dk dX6_open_0 34 rfl) rfl ?_
    refine e_callSN C cal_X11_at sm_X11_at mn_X6_47 hR (by decide) (dk dX6_open_0 35 rfl) (c_X11_at K (kd_X8_walks K hw1) (rfl : F_X11_at (w1 + 3) 7 x4 M = _)) ⟨Nat.zero_le _, Nat.zero_le _⟩ (Nat.le_of_ble_eq_true rfl) rfl ?_
    refine e_aload_n C 3 (dk dX6_open_0 36 rfl) rfl rfl ?_
    refine gf_X8_night C K hw1 fl_X6_51 (dk dX6_open_0 37 rfl) ?_
    obtain ⟨q4, hq4, h⟩ := ob h
    refine e_callV (ci := 9) C cal_X9_hoursMet im_X9_hoursMet se_X9_hoursMet ml_X6_54 rfl hR (by decide) (dk dX6_open_0 38 rfl) (K.1 _ (by rw [hw0]; decide)) (ent_o9 hw0) (c_X9_hoursMet K hw0 hq4) ⟨Nat.zero_le _, Nat.zero_le _⟩ (Nat.le_of_ble_eq_true rfl) rfl ?_
    refine e_lv [1, 2, 3, 4, 5] rfl ?_
    exact j_X6_open_j79 C K ht hw0 hw1 hR hx hrec _ h hOK
  · rw [if_neg c3] at h
    refine e_iconst C 0 (dk dX6_open_0 28 rfl) (by decide) ?_
    refine e_goto C 79 (dk dX6_open_0 29 rfl) (by decide) ?_
    refine e_lv [1, 2, 3, 4, 5] rfl ?_
    exact j_X6_open_j79 C K ht hw0 hw1 hR hx hrec _ h hOK
set_option maxRecDepth 20000 in
theorem j_X6_open_j44 {X : FX} {g : WC} {Xo : Nat → va_E} {n : Nat} {kd : Nat → Nat} (C : Cx X g RX6 cX6_open 7) (K : KD n kd) {t : Nat} {w0 : Nat} {w1 : Nat} (ht : kd t = 7) (hw0 : kd w0 = 10) (hw1 : kd w1 = 9) {x3 : Int32} (hR : x_R X = rm 3) {OK : Mem → Prop} (hx : ∀ s, OK s → EW X g (x_s X).heap.size n 7 (ent g Xo kd s) 0 0 137 [] []) {rec : Int32 → Mem → Option (Mem)} (hrec : ∀ (x4 : Int32) (M : Mem) (q : Mem), rec x4 M = some q → OK q → EW X g (x_s X).heap.size n 7 (ent g Xo kd M) 0 0 13 [(0, .ref (g_N g + t)), (1, .ref (g_N g + w0)), (2, .ref (g_N g + w1)), (3, .int x3), (4, .int x4)] []) {x4 : Int32} {M : Mem} (q : Mem) (h : J_X6_open_j44 t w0 w1 rec x3 x4 M = some q) (hOK : OK q) : EW X g (x_s X).heap.size n 7 (ent g Xo kd M) 0 0 44 [(0, .ref (g_N g + t)), (1, .ref (g_N g + w0)), (2, .ref (g_N g + w1)), (3, .int x3), (4, .int x4)] [] := by
  rw [J_X6_open_j44] at h
  refine e_iconst C 1 (dk dX6_open_0 22 rfl) (by decide) ?_
  refine e_goto C 49 (dk dX6_open_0 23 rfl) (by decide) ?_
  exact j_X6_open_j49 C K ht hw0 hw1 hR hx hrec _ h hOK
set_option maxRecDepth 20000 in
theorem l_X6_open_13 {X : FX} {g : WC} {Xo : Nat → va_E} {n : Nat} {kd : Nat → Nat} (C : Cx X g RX6 cX6_open 7) (K : KD n kd) {t : Nat} {w0 : Nat} {w1 : Nat} (ht : kd t = 7) (hw0 : kd w0 = 10) (hw1 : kd w1 = 9) {x3 : Int32} (hR : x_R X = rm 3) {OK : Mem → Prop} (hx : ∀ s, OK s → EW X g (x_s X).heap.size n 7 (ent g Xo kd s) 0 0 137 [] []) : ∀ (N9 : Nat) (x4 : Int32) (M : Mem) (q : Mem), L_X6_open_13 t w0 w1 x3 N9 x4 M = some q → OK q → EW X g (x_s X).heap.size n 7 (ent g Xo kd M) 0 0 13 [(0, .ref (g_N g + t)), (1, .ref (g_N g + w0)), (2, .ref (g_N g + w1)), (3, .int x3), (4, .int x4)] [] := by
  intro N9
  induction N9 with
  | zero =>
    intro x4 M q h
    rw [L_X6_open_13.eq_1] at h
    cases h
  | succ m9 ih =>
    intro x4 M q h hOK
    rw [L_X6_open_13.eq_2] at h
    refine e_iload C 4 (dk dX6_open_0 8 rfl) rfl ?_
    refine e_bipush C 7 (dk dX6_open_0 9 rfl) (by decide) ?_
    refine e_icmp_ge C 137 (dk dX6_open_0 10 rfl) (by decide) (fun c1 => ?_) (fun c1 => ?_)
    · rw [if_pos c1] at h
      obtain rfl := Option.some.inj h
      refine e_lv [] rfl ?_
      exact hx _ hOK
    · rw [if_neg c1] at h
      refine e_iload C 4 (dk dX6_open_0 11 rfl) rfl ?_
      refine e_aload_n C 1 (dk dX6_open_0 12 rfl) rfl rfl ?_
      refine gf_X9_people C K hw0 fl_X6_33 (dk dX6_open_0 13 rfl) ?_
      refine e_icmp_ge C 44 (dk dX6_open_0 14 rfl) (by decide) (fun c2 => ?_) (fun c2 => ?_)
      · rw [if_pos c2] at h
        exact j_X6_open_j44 C K ht hw0 hw1 hR hx ih _ h hOK
      · rw [if_neg c2] at h
        refine e_iload_n C 3 (dk dX6_open_0 15 rfl) rfl rfl ?_
        refine e_bipush C 7 (dk dX6_open_0 16 rfl) (by decide) ?_
        refine e_icmp_ge C 44 (dk dX6_open_0 17 rfl) (by decide) (fun c7 => ?_) (fun c7 => ?_)
        · rw [if_pos c7] at h
          exact j_X6_open_j44 C K ht hw0 hw1 hR hx ih _ h hOK
        · rw [if_neg c7] at h
          refine e_aload_n C 2 (dk dX6_open_0 18 rfl) rfl rfl ?_
          refine e_iload C 4 (dk dX6_open_0 19 rfl) rfl ?_
          refine e_callV (ci := 8) C cal_X8_isBribing im_X8_isBribing se_X8_isBribing ml_X6_38 rfl hR (by decide) (dk dX6_open_0 20 rfl) (K.1 _ (by rw [hw1]; decide)) (ent_o8 hw1) (c_X8_isBribing K hw1 (rfl : F_X8_isBribing w1 x4 M = _)) ⟨Nat.zero_le _, Nat.zero_le _⟩ (Nat.le_of_ble_eq_true rfl) rfl ?_
          refine e_if_eq C 48 (dk dX6_open_0 21 rfl) (by decide) (fun c8 => ?_) (fun c8 => ?_)
          · rw [if_pos c8] at h
            refine e_iconst C 0 (dk dX6_open_0 24 rfl) (by decide) ?_
            exact j_X6_open_j49 C K ht hw0 hw1 hR hx ih _ h hOK
          · rw [if_neg c8] at h
            exact j_X6_open_j44 C K ht hw0 hw1 hR hx ih _ h hOK
set_option maxRecDepth 20000 in
theorem lb_X6_open_13 {X : FX} {g : WC} {Xo : Nat → va_E} {n : Nat} {kd : Nat → Nat} (C : Cx X g RX6 cX6_open 7) (K : KD n kd) {t : Nat} {w0 : Nat} {w1 : Nat} (ht : kd t = 7) (hw0 : kd w0 = 10) (hw1 : kd w1 = 9) {x3 : Int32} (hR : x_R X = rm 3) {T9 : Type} {f9 : Mem → Option T9} {b9 : T9} (hx : ∀ s, f9 s = some b9 → EW X g (x_s X).heap.size n 7 (ent g Xo kd s) 0 0 137 [] []) {x4 : Int32} {M : Mem} (h : (L_X6_open_13 t w0 w1 x3 FU x4 M).bind f9 = some b9) : EW X g (x_s X).heap.size n 7 (ent g Xo kd M) 0 0 13 [(0, .ref (g_N g + t)), (1, .ref (g_N g + w0)), (2, .ref (g_N g + w1)), (3, .int x3), (4, .int x4)] [] := by
  obtain ⟨q, hq, h⟩ := ob h
  exact l_X6_open_13 C K ht hw0 hw1 hR (OK := fun q => f9 q = some b9) hx FU x4 M q hq h
set_option maxRecDepth 20000 in
theorem c_X6_open {g : WC} {Xo : Nat → va_E} {n : Nat} {kd : Nat → Nat} (K : KD n kd) {t : Nat} {w0 : Nat} {w1 : Nat} {p2 : Int32} (ht : kd t = 7) (hw0 : kd w0 = 10) (hw1 : kd w1 = 9) {M : Mem} {res : Mem} (h : F_X6_open t w0 w1 p2 M = some res) : MC g yX6_open cX6_open 7 none 3 n [.ref (g_N g + t), .ref (g_N g + w0), .ref (g_N g + w1), .int p2] (ent g Xo kd M) none (ent g Xo kd res) := by
  refine MC_of pn_X6 (Nat.le_of_ble_eq_true rfl) (fun X C B => ?_)
  have hR := B.1
  rw [F_X6_open] at h
  refine e_aload_n C 0 (dk dX6_open_0 0 rfl) rfl rfl ?_
  refine e_iconst C 0 (dk dX6_open_0 1 rfl) (by decide) ?_
  refine pf_X6_lotCount C K ht fl_X6_26 (dk dX6_open_0 2 rfl) ?_
  refine e_aload_n C 0 (dk dX6_open_0 3 rfl) rfl rfl ?_
  refine e_iconst C 0 (dk dX6_open_0 4 rfl) (by decide) ?_
  refine pf_X6_bought C K ht fl_X6_30 (dk dX6_open_0 5 rfl) ?_
  refine e_iconst C 0 (dk dX6_open_0 6 rfl) (by decide) ?_
  refine e_istore C [(4, .int 0), (0, .ref (g_N g + t)), (1, .ref (g_N g + w0)), (2, .ref (g_N g + w1)), (3, .int p2)] (dk dX6_open_0 7 rfl) (by decide) rfl ?_
  refine e_lv [1, 2, 3, 4, 0] rfl ?_
  refine lb_X6_open_13 C K ht hw0 hw1 hR (fun s10 h => ?_) h
  obtain rfl := Option.some.inj h
  exact e_vret C B (dk dX6_open_1 7 rfl)
set_option maxRecDepth 20000 in
theorem j_X6_bid_j30 {X : FX} {g : WC} {Xo : Nat → va_E} {n : Nat} {kd : Nat → Nat} (C : Cx X g RX6 cX6_bid 6) (K : KD n kd) {t : Nat} {w0 : Nat} {w1 : Nat} (ht : kd t = 7) (hw0 : kd w0 = 10) (hw1 : kd w1 = 9) (hR : x_R X = rm 3) {x3 : Int32} {x4 : Int32} {x5 : Int32} {M : Mem} {res : Int32 × Mem} (h : J_X6_bid_j30 t w0 w1 x3 x4 x5 M = some res) (B : Bx X g (some .int) 3 n (some (.int res.1)) (ent g Xo kd res.2)) : EW X g (x_s X).heap.size n 6 (ent g Xo kd M) 0 0 30 [(0, .ref (g_N g + t)), (1, .ref (g_N g + w0)), (2, .ref (g_N g + w1)), (3, .int x3), (4, .int x4), (5, .int x5)] [] := by
  rw [J_X6_bid_j30] at h
  refine e_aload_n C 1 (dk dX6_bid 17 rfl) rfl rfl ?_
  refine gf_X9_worth C K hw0 fl_X6_68 (dk dX6_bid 18 rfl) ?_
  refine e_callV (ci := 10) C cal_X10_isTold im_X10_isTold se_X10_isTold ml_X6_72 rfl hR (by decide) (dk dX6_bid 19 rfl) (K.1 _ (by rw [(kd_X9_worth K hw0)]; decide)) (ent_o10 (kd_X9_worth K hw0)) (c_X10_isTold K (kd_X9_worth K hw0) (rfl : F_X10_isTold (w0 + 7) M = _)) ⟨Nat.zero_le _, Nat.zero_le _⟩ (Nat.le_of_ble_eq_true rfl) rfl ?_
  refine e_if_ne C 58 (dk dX6_bid 20 rfl) (by decide) (fun c2 => ?_) (fun c2 => ?_)
  · rw [if_neg c2] at h
    refine e_aload_n C 0 (dk dX6_bid 31 rfl) rfl rfl ?_
    refine e_aload_n C 1 (dk dX6_bid 32 rfl) rfl rfl ?_
    refine e_aload_n C 2 (dk dX6_bid 33 rfl) rfl rfl ?_
    refine e_iload_n C 3 (dk dX6_bid 34 rfl) rfl rfl ?_
    refine e_iload C 4 (dk dX6_bid 35 rfl) rfl ?_
    obtain ⟨q3, hq3, h⟩ := ob h
    refine e_callV (ci := 6) C cal_X6_putValues im_X6_putValues se_X6_putValues ml_X6_89 rfl hR (by decide) (dk dX6_bid 36 rfl) (K.1 _ (by rw [ht]; decide)) (ent_o6 ht) (c_X6_putValues K ht hw0 hw1 hq3) ⟨Nat.zero_le _, Nat.zero_le _⟩ (Nat.le_of_ble_eq_true rfl) rfl ?_
    refine e_iconst C 0 (dk dX6_bid 37 rfl) (by decide) ?_
    refine e_aload_n C 1 (dk dX6_bid 38 rfl) rfl rfl ?_
    refine gf_X9_worth C K hw0 fl_X6_68 (dk dX6_bid 39 rfl) ?_
    refine e_aload_n C 0 (dk dX6_bid 40 rfl) rfl rfl ?_
    refine gf_X6_values C K ht fl_X6_17 (dk dX6_bid 41 rfl) ?_
    obtain ⟨q4, hq4, h⟩ := ob h
    refine e_callV (ci := 10) C cal_X10_of im_X10_of se_X10_of ml_X6_93 rfl hR (by decide) (dk dX6_bid 42 rfl) (K.1 _ (by rw [(kd_X9_worth K hw0)]; decide)) (ent_o10 (kd_X9_worth K hw0)) (c_X10_of K (kd_X9_worth K hw0) (kd_X6_values K ht) hq4) ⟨Nat.zero_le _, Nat.zero_le _⟩ (Nat.le_of_ble_eq_true rfl) rfl ?_
    refine e_iload C 5 (dk dX6_bid 43 rfl) rfl ?_
    refine e_mmin C hR ml_X6_80 (dk dX6_bid 44 rfl) (Nat.le_of_ble_eq_true rfl) ?_
    refine e_mmax C hR ml_X6_86 (dk dX6_bid 45 rfl) (Nat.le_of_ble_eq_true rfl) ?_
    obtain rfl := Option.some.inj h
    exact e_iret C B (nar1 _) (dk dX6_bid 46 rfl)
  · rw [if_pos c2] at h
    refine e_iconst C 0 (dk dX6_bid 21 rfl) (by decide) ?_
    refine e_aload_n C 0 (dk dX6_bid 22 rfl) rfl rfl ?_
    refine e_aload_n C 2 (dk dX6_bid 23 rfl) rfl rfl ?_
    refine e_iload_n C 3 (dk dX6_bid 24 rfl) rfl rfl ?_
    refine e_iload C 4 (dk dX6_bid 25 rfl) rfl ?_
    refine e_callV (ci := 6) C cal_X6_plainWorth im_X6_plainWorth se_X6_plainWorth ml_X6_76 rfl hR (by decide) (dk dX6_bid 26 rfl) (K.1 _ (by rw [ht]; decide)) (ent_o6 ht) (c_X6_plainWorth K ht hw1 (rfl : F_X6_plainWorth t w1 x3 x4 M = _)) ⟨Nat.zero_le _, Nat.zero_le _⟩ (Nat.le_of_ble_eq_true rfl) rfl ?_
    refine e_iload C 5 (dk dX6_bid 27 rfl) rfl ?_
    refine e_mmin C hR ml_X6_80 (dk dX6_bid 28 rfl) (Nat.le_of_ble_eq_true rfl) ?_
    refine e_mmax C hR ml_X6_86 (dk dX6_bid 29 rfl) (Nat.le_of_ble_eq_true rfl) ?_
    obtain rfl := Option.some.inj h
    exact e_iret C B (nar1 _) (dk dX6_bid 30 rfl)
set_option maxRecDepth 20000 in
theorem c_X6_bid {g : WC} {Xo : Nat → va_E} {n : Nat} {kd : Nat → Nat} (K : KD n kd) {t : Nat} {w0 : Nat} {w1 : Nat} {p2 : Int32} {p3 : Int32} (ht : kd t = 7) (hw0 : kd w0 = 10) (hw1 : kd w1 = 9) {M : Mem} {res : Int32 × Mem} (h : F_X6_bid t w0 w1 p2 p3 M = some res) : MC g yX6_bid cX6_bid 6 (some .int) 3 n [.ref (g_N g + t), .ref (g_N g + w0), .ref (g_N g + w1), .int p2, .int p3] (ent g Xo kd M) (some (.int res.1)) (ent g Xo kd res.2) := by
  refine MC_of pn_X6 (Nat.le_of_ble_eq_true rfl) (fun X C B => ?_)
  have hR := B.1
  rw [F_X6_bid] at h
  refine e_aload_n C 2 (dk dX6_bid 0 rfl) rfl rfl ?_
  refine gf_X8_coins C K hw1 fl_X6_62 (dk dX6_bid 1 rfl) ?_
  refine e_iload_n C 3 (dk dX6_bid 2 rfl) rfl rfl ?_
  refine e_callSN C cal_X11_at sm_X11_at mn_X6_47 hR (by decide) (dk dX6_bid 3 rfl) (c_X11_at K (kd_X8_coins K hw1) (rfl : F_X11_at (w1 + 1) 7 p2 M = _)) ⟨Nat.zero_le _, Nat.zero_le _⟩ (Nat.le_of_ble_eq_true rfl) rfl ?_
  refine e_istore C [(5, .int (F_X11_at (w1 + 1) 7 p2 M)), (0, .ref (g_N g + t)), (1, .ref (g_N g + w0)), (2, .ref (g_N g + w1)), (3, .int p2), (4, .int p3)] (dk dX6_bid 4 rfl) (by decide) rfl ?_
  refine e_iload_n C 4 (dk dX6_bid 5 rfl) rfl rfl ?_
  refine e_iload C 5 (dk dX6_bid 6 rfl) rfl ?_
  refine e_icmp_ne C 30 (dk dX6_bid 7 rfl) (by decide) (fun c1 => ?_) (fun c1 => ?_)
  · rw [if_neg c1] at h
    refine e_lv [1, 2, 3, 4, 5, 0] rfl ?_
    exact j_X6_bid_j30 C K ht hw0 hw1 hR h B
  · rw [if_pos c1] at h
    refine e_aload_n C 2 (dk dX6_bid 8 rfl) rfl rfl ?_
    refine gf_X9_bishops C K hw0 fl_X6_65 (dk dX6_bid 9 rfl) ?_
    refine e_iload_n C 4 (dk dX6_bid 10 rfl) rfl rfl ?_
    refine e_ishr C (dk dX6_bid 11 rfl) ?_
    refine e_iconst C 1 (dk dX6_bid 12 rfl) (by decide) ?_
    refine e_iand C (dk dX6_bid 13 rfl) ?_
    refine e_if_eq C 30 (dk dX6_bid 14 rfl) (by decide) (fun c5 => ?_) (fun c5 => ?_)
    · rw [if_pos c5] at h
      refine e_lv [1, 2, 3, 4, 5, 0] rfl ?_
      exact j_X6_bid_j30 C K ht hw0 hw1 hR h B
    · rw [if_neg c5] at h
      refine e_iload C 0 (dk dX6_bid 15 rfl) rfl ?_
      obtain rfl := Option.some.inj h
      exact e_iret C B (nar1 _) (dk dX6_bid 16 rfl)
set_option maxRecDepth 20000 in
theorem l_X6_sell_21 {X : FX} {g : WC} {Xo : Nat → va_E} {n : Nat} {kd : Nat → Nat} (C : Cx X g RX6 cX6_sell 9) (K : KD n kd) {t : Nat} {w0 : Nat} {w1 : Nat} (ht : kd t = 7) (hw0 : kd w0 = 10) (hw1 : kd w1 = 9) {x3 : Int32} (hR : x_R X = rm 4) {OK : Int32 × Int32 × Int32 × Mem → Prop} (hx : ∀ s, OK s → EW X g (x_s X).heap.size n 9 (ent g Xo kd s.2.2.2) 0 0 80 [(0, .ref (g_N g + t)), (2, .ref (g_N g + w1)), (3, .int x3), (4, .int s.1), (5, .int s.2.1), (6, .int s.2.2.1)] []) : ∀ (N9 : Nat) (x4 : Int32) (x5 : Int32) (x6 : Int32) (x7 : Int32) (M : Mem) (q : Int32 × Int32 × Int32 × Mem), L_X6_sell_21 t w0 w1 x3 N9 x4 x5 x6 x7 M = some q → OK q → EW X g (x_s X).heap.size n 9 (ent g Xo kd M) 0 0 21 [(0, .ref (g_N g + t)), (1, .ref (g_N g + w0)), (2, .ref (g_N g + w1)), (3, .int x3), (4, .int x4), (5, .int x5), (6, .int x6), (7, .int x7)] [] := by
  intro N9
  induction N9 with
  | zero =>
    intro x4 x5 x6 x7 M q h
    rw [L_X6_sell_21.eq_1] at h
    cases h
  | succ m9 ih =>
    intro x4 x5 x6 x7 M q h hOK
    rw [L_X6_sell_21.eq_2] at h
    refine e_iload C 7 (dk dX6_sell_0 13 rfl) rfl ?_
    refine e_aload_n C 1 (dk dX6_sell_0 14 rfl) rfl rfl ?_
    refine gf_X9_people C K hw0 fl_X6_33 (dk dX6_sell_0 15 rfl) ?_
    refine e_icmp_ge C 80 (dk dX6_sell_0 16 rfl) (by decide) (fun c2 => ?_) (fun c2 => ?_)
    · rw [if_pos c2] at h
      obtain rfl := Option.some.inj h
      refine e_lv [0, 2, 3, 4, 5, 6] rfl ?_
      exact hx _ hOK
    · rw [if_neg c2] at h
      refine e_aload_n C 0 (dk dX6_sell_0 17 rfl) rfl rfl ?_
      refine e_aload_n C 1 (dk dX6_sell_0 18 rfl) rfl rfl ?_
      refine e_aload_n C 2 (dk dX6_sell_0 19 rfl) rfl rfl ?_
      refine e_iload C 7 (dk dX6_sell_0 20 rfl) rfl ?_
      refine e_iload_n C 3 (dk dX6_sell_0 21 rfl) rfl rfl ?_
      obtain ⟨q3, hq3, h⟩ := ob h
      refine e_callV (ci := 6) C cal_X6_bid im_X6_bid se_X6_bid ml_X6_119 rfl hR (by decide) (dk dX6_sell_0 22 rfl) (K.1 _ (by rw [ht]; decide)) (ent_o6 ht) (c_X6_bid K ht hw0 hw1 hq3) ⟨Nat.zero_le _, Nat.zero_le _⟩ (Nat.le_of_ble_eq_true rfl) rfl ?_
      refine e_istore C [(8, .int q3.1), (0, .ref (g_N g + t)), (1, .ref (g_N g + w0)), (2, .ref (g_N g + w1)), (3, .int x3), (4, .int x4), (5, .int x5), (6, .int x6), (7, .int x7)] (dk dX6_sell_0 23 rfl) (by decide) rfl ?_
      refine e_iload C 0 (dk dX6_sell_0 24 rfl) rfl ?_
      refine e_iload C 6 (dk dX6_sell_0 25 rfl) rfl ?_
      refine e_icmp_le C 63 (dk dX6_sell_0 26 rfl) (by decide) (fun c4 => ?_) (fun c4 => ?_)
      · rw [if_pos c4] at h
        refine e_iload C 0 (dk dX6_sell_0 34 rfl) rfl ?_
        refine e_iload C 7 (dk dX6_sell_0 35 rfl) rfl ?_
        refine e_icmp_le C 74 (dk dX6_sell_0 36 rfl) (by decide) (fun c5 => ?_) (fun c5 => ?_)
        · rw [if_pos c5] at h
          refine e_iinc C [(7, .int (x7 + 1)), (8, .int q3.1), (0, .ref (g_N g + t)), (1, .ref (g_N g + w0)), (2, .ref (g_N g + w1)), (3, .int x3), (4, .int x4), (5, .int x5), (6, .int x6)] 8 1 (dk dX6_sell_0 39 rfl) rfl (by decide) (by decide) rfl ?_
          refine e_goto C 21 (dk dX6_sell_0 40 rfl) (by decide) ?_
          refine e_lv [2, 3, 4, 5, 6, 7, 8, 0] rfl ?_
          exact ih _ _ _ _ _ _ h hOK
        · rw [if_neg c5] at h
          refine e_iload C 0 (dk dX6_sell_0 37 rfl) rfl ?_
          refine e_istore C [(6, .int q3.1), (8, .int q3.1), (0, .ref (g_N g + t)), (1, .ref (g_N g + w0)), (2, .ref (g_N g + w1)), (3, .int x3), (4, .int x4), (5, .int x5), (7, .int x7)] (dk dX6_sell_0 38 rfl) (by decide) rfl ?_
          refine e_iinc C [(7, .int (x7 + 1)), (6, .int q3.1), (8, .int q3.1), (0, .ref (g_N g + t)), (1, .ref (g_N g + w0)), (2, .ref (g_N g + w1)), (3, .int x3), (4, .int x4), (5, .int x5)] 8 1 (dk dX6_sell_0 39 rfl) rfl (by decide) (by decide) rfl ?_
          refine e_goto C 21 (dk dX6_sell_0 40 rfl) (by decide) ?_
          refine e_lv [3, 4, 5, 6, 7, 8, 1, 0] rfl ?_
          exact ih _ _ _ _ _ _ h hOK
      · rw [if_neg c4] at h
        refine e_iload C 6 (dk dX6_sell_0 27 rfl) rfl ?_
        refine e_istore C [(6, .int x5), (8, .int q3.1), (0, .ref (g_N g + t)), (1, .ref (g_N g + w0)), (2, .ref (g_N g + w1)), (3, .int x3), (4, .int x4), (5, .int x5), (7, .int x7)] (dk dX6_sell_0 28 rfl) (by decide) rfl ?_
        refine e_iload C 1 (dk dX6_sell_0 29 rfl) rfl ?_
        refine e_istore C [(5, .int q3.1), (6, .int x5), (8, .int q3.1), (0, .ref (g_N g + t)), (1, .ref (g_N g + w0)), (2, .ref (g_N g + w1)), (3, .int x3), (4, .int x4), (7, .int x7)] (dk dX6_sell_0 30 rfl) (by decide) rfl ?_
        refine e_iload C 8 (dk dX6_sell_0 31 rfl) rfl ?_
        refine e_istore C [(4, .int x7), (5, .int q3.1), (6, .int x5), (8, .int q3.1), (0, .ref (g_N g + t)), (1, .ref (g_N g + w0)), (2, .ref (g_N g + w1)), (3, .int x3), (7, .int x7)] (dk dX6_sell_0 32 rfl) (by decide) rfl ?_
        refine e_goto C 74 (dk dX6_sell_0 33 rfl) (by decide) ?_
        refine e_iinc C [(7, .int (x7 + 1)), (4, .int x7), (5, .int q3.1), (6, .int x5), (8, .int q3.1), (0, .ref (g_N g + t)), (1, .ref (g_N g + w0)), (2, .ref (g_N g + w1)), (3, .int x3)] 8 1 (dk dX6_sell_0 39 rfl) rfl (by decide) (by decide) rfl ?_
        refine e_goto C 21 (dk dX6_sell_0 40 rfl) (by decide) ?_
        refine e_lv [5, 6, 7, 8, 1, 2, 3, 0] rfl ?_
        exact ih _ _ _ _ _ _ h hOK
set_option maxRecDepth 20000 in
theorem lb_X6_sell_21 {X : FX} {g : WC} {Xo : Nat → va_E} {n : Nat} {kd : Nat → Nat} (C : Cx X g RX6 cX6_sell 9) (K : KD n kd) {t : Nat} {w0 : Nat} {w1 : Nat} (ht : kd t = 7) (hw0 : kd w0 = 10) (hw1 : kd w1 = 9) {x3 : Int32} (hR : x_R X = rm 4) {T9 : Type} {f9 : Int32 × Int32 × Int32 × Mem → Option T9} {b9 : T9} (hx : ∀ s, f9 s = some b9 → EW X g (x_s X).heap.size n 9 (ent g Xo kd s.2.2.2) 0 0 80 [(0, .ref (g_N g + t)), (2, .ref (g_N g + w1)), (3, .int x3), (4, .int s.1), (5, .int s.2.1), (6, .int s.2.2.1)] []) {x4 : Int32} {x5 : Int32} {x6 : Int32} {x7 : Int32} {M : Mem} (h : (L_X6_sell_21 t w0 w1 x3 FU x4 x5 x6 x7 M).bind f9 = some b9) : EW X g (x_s X).heap.size n 9 (ent g Xo kd M) 0 0 21 [(0, .ref (g_N g + t)), (1, .ref (g_N g + w0)), (2, .ref (g_N g + w1)), (3, .int x3), (4, .int x4), (5, .int x5), (6, .int x6), (7, .int x7)] [] := by
  obtain ⟨q, hq, h⟩ := ob h
  exact l_X6_sell_21 C K ht hw0 hw1 hR (OK := fun q => f9 q = some b9) hx FU x4 x5 x6 x7 M q hq h
set_option maxRecDepth 20000 in
theorem j_X6_sell_j95 {X : FX} {g : WC} {Xo : Nat → va_E} {n : Nat} {kd : Nat → Nat} (C : Cx X g RX6 cX6_sell 9) (K : KD n kd) {t : Nat} {w0 : Nat} {w1 : Nat} (ht : kd t = 7) (hw0 : kd w0 = 10) (hw1 : kd w1 = 9) (hR : x_R X = rm 4) {M : Mem} {res : Mem} (h : J_X6_sell_j95 t w0 w1 M = some res) (B : Bx X g none 4 n none (ent g Xo kd res)) : EW X g (x_s X).heap.size n 9 (ent g Xo kd M) 0 0 95 [(2, .ref (g_N g + w1))] [] := by
  rw [J_X6_sell_j95] at h
  refine e_aload_n C 0 (dk dX6_sell_0 48 rfl) rfl rfl ?_
  refine e_dup C (dk dX6_sell_0 49 rfl) rfl ?_
  refine gf_X8_dark C K hw1 fl_X6_126 (dk dX6_sell_0 50 rfl) ?_
  refine e_iconst C 1 (dk dX6_sell_0 51 rfl) (by decide) ?_
  refine e_iadd C (dk dX6_sell_0 52 rfl) ?_
  refine pf_X8_dark C K hw1 fl_X6_126 (dk dX6_sell_0 53 rfl) ?_
  refine e_goto C 125 (dk dX6_sell_0 54 rfl) (by decide) ?_
  obtain rfl := Option.some.inj h
  exact e_vret C B (dk dX6_sell_1 4 rfl)
set_option maxRecDepth 20000 in
theorem c_X6_sell {g : WC} {Xo : Nat → va_E} {n : Nat} {kd : Nat → Nat} (K : KD n kd) {t : Nat} {w0 : Nat} {w1 : Nat} {p2 : Int32} (ht : kd t = 7) (hw0 : kd w0 = 10) (hw1 : kd w1 = 9) {M : Mem} {res : Mem} (h : F_X6_sell t w0 w1 p2 M = some res) : MC g yX6_sell cX6_sell 9 none 4 n [.ref (g_N g + t), .ref (g_N g + w0), .ref (g_N g + w1), .int p2] (ent g Xo kd M) none (ent g Xo kd res) := by
  refine MC_of pn_X6 (Nat.le_of_ble_eq_true rfl) (fun X C B => ?_)
  have hR := B.1
  rw [F_X6_sell] at h
  refine e_aload_n C 0 (dk dX6_sell_0 0 rfl) rfl rfl ?_
  refine e_iload_n C 3 (dk dX6_sell_0 1 rfl) rfl rfl ?_
  refine e_callV (ci := 6) C cal_X6_hasLot im_X6_hasLot se_X6_hasLot ml_X6_116 rfl hR (by decide) (dk dX6_sell_0 2 rfl) (K.1 _ (by rw [ht]; decide)) (ent_o6 ht) (c_X6_hasLot K ht (rfl : F_X6_hasLot t p2 M = _)) ⟨Nat.zero_le _, Nat.zero_le _⟩ (Nat.le_of_ble_eq_true rfl) rfl ?_
  refine e_if_ne C 9 (dk dX6_sell_0 3 rfl) (by decide) (fun c1 => ?_) (fun c1 => ?_)
  · rw [if_neg c1] at h
    refine e_iconst C (-1) (dk dX6_sell_0 5 rfl) (by decide) ?_
    refine e_istore C [(4, .int (-1)), (0, .ref (g_N g + t)), (1, .ref (g_N g + w0)), (2, .ref (g_N g + w1)), (3, .int p2)] (dk dX6_sell_0 6 rfl) (by decide) rfl ?_
    refine e_iconst C 0 (dk dX6_sell_0 7 rfl) (by decide) ?_
    refine e_istore C [(5, .int 0), (4, .int (-1)), (0, .ref (g_N g + t)), (1, .ref (g_N g + w0)), (2, .ref (g_N g + w1)), (3, .int p2)] (dk dX6_sell_0 8 rfl) (by decide) rfl ?_
    refine e_iconst C 0 (dk dX6_sell_0 9 rfl) (by decide) ?_
    refine e_istore C [(6, .int 0), (5, .int 0), (4, .int (-1)), (0, .ref (g_N g + t)), (1, .ref (g_N g + w0)), (2, .ref (g_N g + w1)), (3, .int p2)] (dk dX6_sell_0 10 rfl) (by decide) rfl ?_
    refine e_iconst C 0 (dk dX6_sell_0 11 rfl) (by decide) ?_
    refine e_istore C [(7, .int 0), (6, .int 0), (5, .int 0), (4, .int (-1)), (0, .ref (g_N g + t)), (1, .ref (g_N g + w0)), (2, .ref (g_N g + w1)), (3, .int p2)] (dk dX6_sell_0 12 rfl) (by decide) rfl ?_
    refine e_lv [4, 5, 6, 7, 3, 2, 1, 0] rfl ?_
    refine lb_X6_sell_21 C K ht hw0 hw1 hR (fun s7 h => ?_) h
    refine e_iload C 3 (dk dX6_sell_0 41 rfl) rfl ?_
    refine e_iconst C (-1) (dk dX6_sell_0 42 rfl) (by decide) ?_
    refine e_icmp_eq C 95 (dk dX6_sell_0 43 rfl) (by decide) (fun c8 => ?_) (fun c8 => ?_)
    · rw [if_pos c8] at h
      refine e_lv [1] rfl ?_
      exact j_X6_sell_j95 C K ht hw0 hw1 hR h B
    · rw [if_neg c8] at h
      refine e_iload C 4 (dk dX6_sell_0 44 rfl) rfl ?_
      refine e_aload_n C 1 (dk dX6_sell_0 45 rfl) rfl rfl ?_
      refine gf_X8_reserve C K hw1 fl_X6_123 (dk dX6_sell_0 46 rfl) ?_
      refine e_icmp_ge C 108 (dk dX6_sell_0 47 rfl) (by decide) (fun c9 => ?_) (fun c9 => ?_)
      · rw [if_pos c9] at h
        refine e_aload_n C 0 (dk dX6_sell_0 55 rfl) rfl rfl ?_
        refine e_aload_n C 1 (dk dX6_sell_0 56 rfl) rfl rfl ?_
        refine e_iload_n C 2 (dk dX6_sell_0 57 rfl) rfl rfl ?_
        refine e_iload C 3 (dk dX6_sell_0 58 rfl) rfl ?_
        refine e_iload C 5 (dk dX6_sell_0 59 rfl) rfl ?_
        refine e_aload_n C 1 (dk dX6_sell_1 0 rfl) rfl rfl ?_
        refine gf_X8_reserve C K hw1 fl_X6_123 (dk dX6_sell_1 1 rfl) ?_
        refine e_mmax C hR ml_X6_86 (dk dX6_sell_1 2 rfl) (Nat.le_of_ble_eq_true rfl) ?_
        refine e_callV (ci := 6) C cal_X6_handOver im_X6_handOver se_X6_handOver ml_X6_129 rfl hR (by decide) (dk dX6_sell_1 3 rfl) (K.1 _ (by rw [ht]; decide)) (ent_o6 ht) (c_X6_handOver K ht hw1 (rfl : F_X6_handOver t w1 p2 s7.1 (imax s7.2.2.1 (s7.2.2.2 w1 3)) s7.2.2.2 = _)) ⟨Nat.zero_le _, Nat.zero_le _⟩ (Nat.le_of_ble_eq_true rfl) rfl ?_
        obtain rfl := Option.some.inj h
        exact e_vret C B (dk dX6_sell_1 4 rfl)
      · rw [if_neg c9] at h
        refine e_lv [1] rfl ?_
        exact j_X6_sell_j95 C K ht hw0 hw1 hR h B
  · rw [if_pos c1] at h
    obtain rfl := Option.some.inj h
    exact e_vret C B (dk dX6_sell_0 4 rfl)
set_option maxRecDepth 20000 in
theorem l_X6_pass_10 {X : FX} {g : WC} {Xo : Nat → va_E} {n : Nat} {kd : Nat → Nat} (C : Cx X g RX6 cX6_pass 5) (K : KD n kd) {t : Nat} {w0 : Nat} {w1 : Nat} (ht : kd t = 7) (hw0 : kd w0 = 10) (hw1 : kd w1 = 9) (hR : x_R X = rm 5) {OK : Mem → Prop} (hx : ∀ s, OK s → EW X g (x_s X).heap.size n 5 (ent g Xo kd s) 0 0 33 [(2, .ref (g_N g + w1))] []) : ∀ (N9 : Nat) (x4 : Int32) (M : Mem) (q : Mem), L_X6_pass_10 t w0 w1 N9 x4 M = some q → OK q → EW X g (x_s X).heap.size n 5 (ent g Xo kd M) 0 0 10 [(0, .ref (g_N g + t)), (1, .ref (g_N g + w0)), (2, .ref (g_N g + w1)), (4, .int x4)] [] := by
  intro N9
  induction N9 with
  | zero =>
    intro x4 M q h
    rw [L_X6_pass_10.eq_1] at h
    cases h
  | succ m9 ih =>
    intro x4 M q h hOK
    rw [L_X6_pass_10.eq_2] at h
    refine e_iload C 3 (dk dX6_pass 7 rfl) rfl ?_
    refine e_aload_n C 1 (dk dX6_pass 8 rfl) rfl rfl ?_
    refine gf_X9_people C K hw0 fl_X6_33 (dk dX6_pass 9 rfl) ?_
    refine e_icmp_ge C 33 (dk dX6_pass 10 rfl) (by decide) (fun c2 => ?_) (fun c2 => ?_)
    · rw [if_pos c2] at h
      obtain rfl := Option.some.inj h
      refine e_lv [2] rfl ?_
      exact hx _ hOK
    · rw [if_neg c2] at h
      refine e_aload_n C 0 (dk dX6_pass 11 rfl) rfl rfl ?_
      refine e_aload_n C 1 (dk dX6_pass 12 rfl) rfl rfl ?_
      refine e_aload_n C 2 (dk dX6_pass 13 rfl) rfl rfl ?_
      refine e_iload C 3 (dk dX6_pass 14 rfl) rfl ?_
      obtain ⟨q3, hq3, h⟩ := ob h
      refine e_callV (ci := 6) C cal_X6_sell im_X6_sell se_X6_sell ml_X6_140 rfl hR (by decide) (dk dX6_pass 15 rfl) (K.1 _ (by rw [ht]; decide)) (ent_o6 ht) (c_X6_sell K ht hw0 hw1 hq3) ⟨Nat.zero_le _, Nat.zero_le _⟩ (Nat.le_of_ble_eq_true rfl) rfl ?_
      refine e_iinc C [(4, .int (x4 + 1)), (0, .ref (g_N g + t)), (1, .ref (g_N g + w0)), (2, .ref (g_N g + w1))] 3 1 (dk dX6_pass 16 rfl) rfl (by decide) (by decide) rfl ?_
      refine e_goto C 10 (dk dX6_pass 17 rfl) (by decide) ?_
      refine e_lv [1, 2, 3, 0] rfl ?_
      exact ih _ _ _ h hOK
set_option maxRecDepth 20000 in
theorem lb_X6_pass_10 {X : FX} {g : WC} {Xo : Nat → va_E} {n : Nat} {kd : Nat → Nat} (C : Cx X g RX6 cX6_pass 5) (K : KD n kd) {t : Nat} {w0 : Nat} {w1 : Nat} (ht : kd t = 7) (hw0 : kd w0 = 10) (hw1 : kd w1 = 9) (hR : x_R X = rm 5) {T9 : Type} {f9 : Mem → Option T9} {b9 : T9} (hx : ∀ s, f9 s = some b9 → EW X g (x_s X).heap.size n 5 (ent g Xo kd s) 0 0 33 [(2, .ref (g_N g + w1))] []) {x4 : Int32} {M : Mem} (h : (L_X6_pass_10 t w0 w1 FU x4 M).bind f9 = some b9) : EW X g (x_s X).heap.size n 5 (ent g Xo kd M) 0 0 10 [(0, .ref (g_N g + t)), (1, .ref (g_N g + w0)), (2, .ref (g_N g + w1)), (4, .int x4)] [] := by
  obtain ⟨q, hq, h⟩ := ob h
  exact l_X6_pass_10 C K ht hw0 hw1 hR (OK := fun q => f9 q = some b9) hx FU x4 M q hq h
set_option maxRecDepth 20000 in
theorem c_X6_pass {g : WC} {Xo : Nat → va_E} {n : Nat} {kd : Nat → Nat} (K : KD n kd) {t : Nat} {w0 : Nat} {w1 : Nat} {p2 : Int32} (ht : kd t = 7) (hw0 : kd w0 = 10) (hw1 : kd w1 = 9) {M : Mem} {res : Mem} (h : F_X6_pass t w0 w1 p2 M = some res) : MC g yX6_pass cX6_pass 5 none 5 n [.ref (g_N g + t), .ref (g_N g + w0), .ref (g_N g + w1), .int p2] (ent g Xo kd M) none (ent g Xo kd res) := by
  refine MC_of pn_X6 (Nat.le_of_ble_eq_true rfl) (fun X C B => ?_)
  have hR := B.1
  rw [F_X6_pass] at h
  refine e_aload_n C 0 (dk dX6_pass 0 rfl) rfl rfl ?_
  refine e_aload_n C 1 (dk dX6_pass 1 rfl) rfl rfl ?_
  refine e_aload_n C 2 (dk dX6_pass 2 rfl) rfl rfl ?_
  refine e_iload_n C 3 (dk dX6_pass 3 rfl) rfl rfl ?_
  obtain ⟨q1, hq1, h⟩ := ob h
  refine e_callV (ci := 6) C cal_X6_open im_X6_open se_X6_open ml_X6_136 rfl hR (by decide) (dk dX6_pass 4 rfl) (K.1 _ (by rw [ht]; decide)) (ent_o6 ht) (c_X6_open K ht hw0 hw1 hq1) ⟨Nat.zero_le _, Nat.zero_le _⟩ (Nat.le_of_ble_eq_true rfl) rfl ?_
  refine e_iconst C 0 (dk dX6_pass 5 rfl) (by decide) ?_
  refine e_istore C [(4, .int 0), (0, .ref (g_N g + t)), (1, .ref (g_N g + w0)), (2, .ref (g_N g + w1)), (3, .int p2)] (dk dX6_pass 6 rfl) (by decide) rfl ?_
  refine e_lv [1, 2, 3, 0] rfl ?_
  refine lb_X6_pass_10 C K ht hw0 hw1 hR (fun s5 h => ?_) h
  refine e_aload_n C 0 (dk dX6_pass 18 rfl) rfl rfl ?_
  refine e_iconst C 0 (dk dX6_pass 19 rfl) (by decide) ?_
  refine pf_X8_bribing C K hw1 fl_X6_143 (dk dX6_pass 20 rfl) ?_
  refine e_aload_n C 0 (dk dX6_pass 21 rfl) rfl rfl ?_
  refine e_dup C (dk dX6_pass 22 rfl) rfl ?_
  refine gf_X8_night C K hw1 fl_X6_51 (dk dX6_pass 23 rfl) ?_
  refine e_iconst C 1 (dk dX6_pass 24 rfl) (by decide) ?_
  refine e_iadd C (dk dX6_pass 25 rfl) ?_
  refine pf_X8_night C K hw1 fl_X6_51 (dk dX6_pass 26 rfl) ?_
  obtain rfl := Option.some.inj h
  exact e_vret C B (dk dX6_pass 27 rfl)
set_option maxRecDepth 20000 in
theorem j_X11_nights_j29 {X : FX} {g : WC} {Xo : Nat → va_E} {n : Nat} {kd : Nat → Nat} (C : Cx X g RX11 cX11_nights 3) (K : KD n kd) {t : Nat} (ht : kd t = 12) (hR : x_R X = rm 6) {M : Mem} {res : Int32 × Mem} (h : J_X11_nights_j29 t M = some res) (B : Bx X g (some .int) 6 n (some (.int res.1)) (ent g Xo kd res.2)) : EW X g (x_s X).heap.size n 3 (ent g Xo kd M) 0 0 29 [(0, .ref (g_N g + t))] [] := by
  rw [J_X11_nights_j29] at h
  refine e_aload_n C 0 (dk dX11_nights 14 rfl) rfl rfl ?_
  refine gf_X11_book C K ht fl_X11_30 (dk dX11_nights 15 rfl) ?_
  refine e_iconst C 1 (dk dX11_nights 16 rfl) (by decide) ?_
  refine e_callV (ci := 0) C cal_X0_refuse im_X0_refuse se_X0_refuse ml_X11_104 rfl hR (by decide) (dk dX11_nights 17 rfl) (K.1 _ (by rw [(kd_X11_book K ht)]; decide)) (ent_o0 (kd_X11_book K ht)) (c_X0_refuse K (kd_X11_book K ht) (rfl : F_X0_refuse (t + 24) 1 M = _)) ⟨Nat.zero_le _, Nat.zero_le _⟩ (Nat.le_of_ble_eq_true rfl) rfl ?_
  obtain rfl := Option.some.inj h
  exact e_iret C B (nar1 _) (dk dX11_nights 18 rfl)
set_option maxRecDepth 20000 in
theorem l_X11_nights_47 {X : FX} {g : WC} {Xo : Nat → va_E} {n : Nat} {kd : Nat → Nat} (C : Cx X g RX11 cX11_nights 3) (K : KD n kd) {t : Nat} (ht : kd t = 12) {x1 : Int32} (hR : x_R X = rm 6) {OK : Mem → Prop} (hx : ∀ s, OK s → EW X g (x_s X).heap.size n 3 (ent g Xo kd s) 0 0 93 [(0, .ref (g_N g + t))] []) : ∀ (N9 : Nat) (x2 : Int32) (M : Mem) (q : Mem), L_X11_nights_47 t x1 N9 x2 M = some q → OK q → EW X g (x_s X).heap.size n 3 (ent g Xo kd M) 0 0 47 [(0, .ref (g_N g + t)), (1, .int x1), (2, .int x2)] [] := by
  intro N9
  induction N9 with
  | zero =>
    intro x2 M q h
    rw [L_X11_nights_47.eq_1] at h
    cases h
  | succ m9 ih =>
    intro x2 M q h hOK
    rw [L_X11_nights_47.eq_2] at h
    refine e_iload_n C 2 (dk dX11_nights 24 rfl) rfl rfl ?_
    refine e_iload_n C 1 (dk dX11_nights 25 rfl) rfl rfl ?_
    refine e_icmp_ge C 93 (dk dX11_nights 26 rfl) (by decide) (fun c5 => ?_) (fun c5 => ?_)
    · rw [if_pos c5] at h
      obtain rfl := Option.some.inj h
      refine e_lv [0] rfl ?_
      exact hx _ hOK
    · rw [if_neg c5] at h
      refine e_aload_n C 0 (dk dX11_nights 27 rfl) rfl rfl ?_
      refine gf_X11_sale C K ht fl_X11_51 (dk dX11_nights 28 rfl) ?_
      refine e_aload_n C 0 (dk dX11_nights 29 rfl) rfl rfl ?_
      obtain ⟨w6, hw6, h⟩ := ob h
      have gw6 := grd_some K (Or.inl ht) hw6
      refine gf_X11_plan C K ht fl_X11_19 (dk dX11_nights 30 rfl) ?_
      rw [gw6.1]
      refine e_aload_n C 0 (dk dX11_nights 31 rfl) rfl rfl ?_
      refine gf_X11_book C K ht fl_X11_30 (dk dX11_nights 32 rfl) ?_
      refine gf_X0_town C K (kd_X11_book K ht) fl_X11_119 (dk dX11_nights 33 rfl) ?_
      refine e_aload_n C 0 (dk dX11_nights 34 rfl) rfl rfl ?_
      obtain ⟨w7, hw7, h⟩ := ob h
      have gw7 := grd_some K (Or.inl ht) hw7
      refine gf_X11_plan C K ht fl_X11_19 (dk dX11_nights 35 rfl) ?_
      rw [gw7.1]
      refine e_aload_n C 0 (dk dX11_nights 36 rfl) rfl rfl ?_
      refine gf_X11_book C K ht fl_X11_30 (dk dX11_nights 37 rfl) ?_
      refine gf_X0_town C K (kd_X11_book K ht) fl_X11_119 (dk dX11_nights 38 rfl) ?_
      refine gf_X8_night C K (kd_X0_town K (kd_X11_book K ht)) fl_X11_134 (dk dX11_nights 39 rfl) ?_
      obtain ⟨q8, hq8, h⟩ := ob h
      refine e_callV (ci := 9) C cal_X9_fogOf im_X9_fogOf se_X9_fogOf ml_X11_137 rfl hR (by decide) (dk dX11_nights 40 rfl) (K.1 _ (by rw [gw7.2]; decide)) (ent_o9 gw7.2) (c_X9_fogOf K gw7.2 hq8) ⟨Nat.zero_le _, Nat.zero_le _⟩ (Nat.le_of_ble_eq_true rfl) rfl ?_
      obtain ⟨q9, hq9, h⟩ := ob h
      refine e_callV (ci := 6) C cal_X6_pass im_X6_pass se_X6_pass ml_X11_214 rfl hR (by decide) (dk dX11_nights 41 rfl) (K.1 _ (by rw [(kd_X11_sale K ht)]; decide)) (ent_o6 (kd_X11_sale K ht)) (c_X6_pass K (kd_X11_sale K ht) gw6.2 (kd_X0_town K (kd_X11_book K ht)) hq9) ⟨Nat.zero_le _, Nat.zero_le _⟩ (Nat.le_of_ble_eq_true rfl) rfl ?_
      refine e_iinc C [(2, .int (x2 + 1)), (0, .ref (g_N g + t)), (1, .int x1)] 2 1 (dk dX11_nights 42 rfl) rfl (by decide) (by decide) rfl ?_
      refine e_goto C 47 (dk dX11_nights 43 rfl) (by decide) ?_
      refine e_lv [1, 2, 0] rfl ?_
      exact ih _ _ _ h hOK
set_option maxRecDepth 20000 in
theorem lb_X11_nights_47 {X : FX} {g : WC} {Xo : Nat → va_E} {n : Nat} {kd : Nat → Nat} (C : Cx X g RX11 cX11_nights 3) (K : KD n kd) {t : Nat} (ht : kd t = 12) {x1 : Int32} (hR : x_R X = rm 6) {T9 : Type} {f9 : Mem → Option T9} {b9 : T9} (hx : ∀ s, f9 s = some b9 → EW X g (x_s X).heap.size n 3 (ent g Xo kd s) 0 0 93 [(0, .ref (g_N g + t))] []) {x2 : Int32} {M : Mem} (h : (L_X11_nights_47 t x1 FU x2 M).bind f9 = some b9) : EW X g (x_s X).heap.size n 3 (ent g Xo kd M) 0 0 47 [(0, .ref (g_N g + t)), (1, .int x1), (2, .int x2)] [] := by
  obtain ⟨q, hq, h⟩ := ob h
  exact l_X11_nights_47 C K ht hR (OK := fun q => f9 q = some b9) hx FU x2 M q hq h
set_option maxRecDepth 20000 in
theorem c_X11_nights {g : WC} {Xo : Nat → va_E} {n : Nat} {kd : Nat → Nat} (K : KD n kd) {t : Nat} {p0 : Int32} (ht : kd t = 12) {M : Mem} {res : Int32 × Mem} (h : F_X11_nights t p0 M = some res) : MC g yX11_nights cX11_nights 3 (some .int) 6 n [.ref (g_N g + t), .int p0] (ent g Xo kd M) (some (.int res.1)) (ent g Xo kd res.2) := by
  refine MC_of pn_X11 (Nat.le_of_ble_eq_true rfl) (fun X C B => ?_)
  have hR := B.1
  rw [F_X11_nights] at h
  refine e_iload_n C 1 (dk dX11_nights 0 rfl) rfl rfl ?_
  refine e_iconst C 1 (dk dX11_nights 1 rfl) (by decide) ?_
  refine e_icmp_lt C 29 (dk dX11_nights 2 rfl) (by decide) (fun c1 => ?_) (fun c1 => ?_)
  · rw [if_pos c1] at h
    refine e_lv [0] rfl ?_
    exact j_X11_nights_j29 C K ht hR h B
  · rw [if_neg c1] at h
    refine e_iload_n C 1 (dk dX11_nights 3 rfl) rfl rfl ?_
    refine e_bipush C 20 (dk dX11_nights 4 rfl) (by decide) ?_
    refine e_icmp_gt C 29 (dk dX11_nights 5 rfl) (by decide) (fun c2 => ?_) (fun c2 => ?_)
    · rw [if_pos c2] at h
      refine e_lv [0] rfl ?_
      exact j_X11_nights_j29 C K ht hR h B
    · rw [if_neg c2] at h
      refine e_aload_n C 0 (dk dX11_nights 6 rfl) rfl rfl ?_
      refine gf_X11_book C K ht fl_X11_30 (dk dX11_nights 7 rfl) ?_
      refine gf_X0_town C K (kd_X11_book K ht) fl_X11_119 (dk dX11_nights 8 rfl) ?_
      refine gf_X8_night C K (kd_X0_town K (kd_X11_book K ht)) fl_X11_134 (dk dX11_nights 9 rfl) ?_
      refine e_iload_n C 1 (dk dX11_nights 10 rfl) rfl rfl ?_
      refine e_iadd C (dk dX11_nights 11 rfl) ?_
      refine e_sipush C 999 (dk dX11_nights 12 rfl) (by decide) ?_
      refine e_icmp_le C 38 (dk dX11_nights 13 rfl) (by decide) (fun c3 => ?_) (fun c3 => ?_)
      · rw [if_pos c3] at h
        refine e_aload_n C 0 (dk dX11_nights 19 rfl) rfl rfl ?_
        refine gf_X11_book C K ht fl_X11_30 (dk dX11_nights 20 rfl) ?_
        obtain ⟨q4, hq4, h⟩ := ob h
        refine e_callV (ci := 0) C cal_X0_keepAct im_X0_keepAct se_X0_keepAct ml_X11_211 rfl hR (by decide) (dk dX11_nights 21 rfl) (K.1 _ (by rw [(kd_X11_book K ht)]; decide)) (ent_o0 (kd_X11_book K ht)) (c_X0_keepAct K (kd_X11_book K ht) hq4) ⟨Nat.zero_le _, Nat.zero_le _⟩ (Nat.le_of_ble_eq_true rfl) rfl ?_
        refine e_iconst C 0 (dk dX11_nights 22 rfl) (by decide) ?_
        refine e_istore_n C [(2, .int 0), (0, .ref (g_N g + t)), (1, .int p0)] (dk dX11_nights 23 rfl) rfl (by decide) rfl ?_
        refine e_lv [1, 2, 0] rfl ?_
        refine lb_X11_nights_47 C K ht hR (fun s11 h => ?_) h
        refine e_aload_n C 0 (dk dX11_nights 44 rfl) rfl rfl ?_
        refine gf_X11_book C K ht fl_X11_30 (dk dX11_nights 45 rfl) ?_
        refine gf_X0_town C K (kd_X11_book K ht) fl_X11_119 (dk dX11_nights 46 rfl) ?_
        refine gf_X8_night C K (kd_X0_town K (kd_X11_book K ht)) fl_X11_134 (dk dX11_nights 47 rfl) ?_
        obtain rfl := Option.some.inj h
        exact e_iret C B (nar1 _) (dk dX11_nights 48 rfl)
      · rw [if_neg c3] at h
        refine e_lv [0] rfl ?_
        exact j_X11_nights_j29 C K ht hR h B
set_option maxRecDepth 20000 in
theorem j_X11_reserve_j10 {X : FX} {g : WC} {Xo : Nat → va_E} {n : Nat} {kd : Nat → Nat} (C : Cx X g RX11 cX11_reserve 3) (K : KD n kd) {t : Nat} (ht : kd t = 12) (hR : x_R X = rm 4) {M : Mem} {res : Int32 × Mem} (h : J_X11_reserve_j10 t M = some res) (B : Bx X g (some .int) 4 n (some (.int res.1)) (ent g Xo kd res.2)) : EW X g (x_s X).heap.size n 3 (ent g Xo kd M) 0 0 10 [(0, .ref (g_N g + t))] [] := by
  rw [J_X11_reserve_j10] at h
  refine e_aload_n C 0 (dk dX11_reserve 5 rfl) rfl rfl ?_
  refine gf_X11_book C K ht fl_X11_30 (dk dX11_reserve 6 rfl) ?_
  refine e_iconst C 1 (dk dX11_reserve 7 rfl) (by decide) ?_
  refine e_callV (ci := 0) C cal_X0_refuse im_X0_refuse se_X0_refuse ml_X11_104 rfl hR (by decide) (dk dX11_reserve 8 rfl) (K.1 _ (by rw [(kd_X11_book K ht)]; decide)) (ent_o0 (kd_X11_book K ht)) (c_X0_refuse K (kd_X11_book K ht) (rfl : F_X0_refuse (t + 24) 1 M = _)) ⟨Nat.zero_le _, Nat.zero_le _⟩ (Nat.le_of_ble_eq_true rfl) rfl ?_
  obtain rfl := Option.some.inj h
  exact e_iret C B (nar1 _) (dk dX11_reserve 9 rfl)
set_option maxRecDepth 20000 in
theorem c_X11_reserve {g : WC} {Xo : Nat → va_E} {n : Nat} {kd : Nat → Nat} (K : KD n kd) {t : Nat} {p0 : Int32} (ht : kd t = 12) {M : Mem} {res : Int32 × Mem} (h : F_X11_reserve t p0 M = some res) : MC g yX11_reserve cX11_reserve 3 (some .int) 4 n [.ref (g_N g + t), .int p0] (ent g Xo kd M) (some (.int res.1)) (ent g Xo kd res.2) := by
  refine MC_of pn_X11 (Nat.le_of_ble_eq_true rfl) (fun X C B => ?_)
  have hR := B.1
  rw [F_X11_reserve] at h
  refine e_iload_n C 1 (dk dX11_reserve 0 rfl) rfl rfl ?_
  refine e_if_lt C 10 (dk dX11_reserve 1 rfl) (by decide) (fun c1 => ?_) (fun c1 => ?_)
  · rw [if_pos c1] at h
    refine e_lv [0] rfl ?_
    exact j_X11_reserve_j10 C K ht hR h B
  · rw [if_neg c1] at h
    refine e_iload_n C 1 (dk dX11_reserve 2 rfl) rfl rfl ?_
    refine e_bipush C 99 (dk dX11_reserve 3 rfl) (by decide) ?_
    refine e_icmp_le C 19 (dk dX11_reserve 4 rfl) (by decide) (fun c2 => ?_) (fun c2 => ?_)
    · rw [if_pos c2] at h
      refine e_aload_n C 0 (dk dX11_reserve 10 rfl) rfl rfl ?_
      refine gf_X11_book C K ht fl_X11_30 (dk dX11_reserve 11 rfl) ?_
      obtain ⟨q3, hq3, h⟩ := ob h
      refine e_callV (ci := 0) C cal_X0_keepAct im_X0_keepAct se_X0_keepAct ml_X11_211 rfl hR (by decide) (dk dX11_reserve 12 rfl) (K.1 _ (by rw [(kd_X11_book K ht)]; decide)) (ent_o0 (kd_X11_book K ht)) (c_X0_keepAct K (kd_X11_book K ht) hq3) ⟨Nat.zero_le _, Nat.zero_le _⟩ (Nat.le_of_ble_eq_true rfl) rfl ?_
      refine e_aload_n C 0 (dk dX11_reserve 13 rfl) rfl rfl ?_
      refine gf_X11_book C K ht fl_X11_30 (dk dX11_reserve 14 rfl) ?_
      refine gf_X0_town C K (kd_X11_book K ht) fl_X11_119 (dk dX11_reserve 15 rfl) ?_
      refine gf_X8_reserve C K (kd_X0_town K (kd_X11_book K ht)) fl_X11_140 (dk dX11_reserve 16 rfl) ?_
      refine e_istore_n C [(2, .int (q3 ((t + 24) + 1) 3)), (0, .ref (g_N g + t)), (1, .int p0)] (dk dX11_reserve 17 rfl) rfl (by decide) rfl ?_
      refine e_aload_n C 1 (dk dX11_reserve 18 rfl) rfl rfl ?_
      refine gf_X11_book C K ht fl_X11_30 (dk dX11_reserve 19 rfl) ?_
      refine gf_X0_town C K (kd_X11_book K ht) fl_X11_119 (dk dX11_reserve 20 rfl) ?_
      refine e_iload_n C 2 (dk dX11_reserve 21 rfl) rfl rfl ?_
      refine pf_X8_reserve C K (kd_X0_town K (kd_X11_book K ht)) fl_X11_140 (dk dX11_reserve 22 rfl) ?_
      refine e_iload_n C 0 (dk dX11_reserve 23 rfl) rfl rfl ?_
      obtain rfl := Option.some.inj h
      exact e_iret C B (nar1 _) (dk dX11_reserve 24 rfl)
    · rw [if_neg c2] at h
      refine e_lv [0] rfl ?_
      exact j_X11_reserve_j10 C K ht hR h B
set_option maxRecDepth 20000 in
theorem c_X11_undo {g : WC} {Xo : Nat → va_E} {n : Nat} {kd : Nat → Nat} (K : KD n kd) {t : Nat} (ht : kd t = 12) {M : Mem} {res : Int32 × Mem} (h : F_X11_undo t M = some res) : MC g yX11_undo cX11_undo 1 (some .int) 4 n [.ref (g_N g + t)] (ent g Xo kd M) (some (.int res.1)) (ent g Xo kd res.2) := by
  refine MC_of pn_X11 (Nat.le_of_ble_eq_true rfl) (fun X C B => ?_)
  have hR := B.1
  rw [F_X11_undo] at h
  refine e_aload_n C 0 (dk dX11_undo 0 rfl) rfl rfl ?_
  refine gf_X11_book C K ht fl_X11_30 (dk dX11_undo 1 rfl) ?_
  obtain ⟨q1, hq1, h⟩ := ob h
  refine e_callV (ci := 0) C cal_X0_undoAct im_X0_undoAct se_X0_undoAct ml_X11_232 rfl hR (by decide) (dk dX11_undo 2 rfl) (K.1 _ (by rw [(kd_X11_book K ht)]; decide)) (ent_o0 (kd_X11_book K ht)) (c_X0_undoAct K (kd_X11_book K ht) hq1) ⟨Nat.zero_le _, Nat.zero_le _⟩ (Nat.le_of_ble_eq_true rfl) rfl ?_
  suffices hm3 : EW X g (x_s X).heap.size n 1 (ent g Xo kd q1.2) 0 0 24 [(0, .ref (g_N g + t))] [.int (if (bi q1.1) = 0 then (-1 : Int32) else (q1.2 ((t + 24) + 5) 1))] from (by
    refine e_if_eq C 23 (dk dX11_undo 3 rfl) (by decide) (fun c2 => ?_) (fun c2 => ?_)
    · rw [show (if (bi q1.1) = 0 then (-1 : Int32) else (q1.2 ((t + 24) + 5) 1)) = (-1 : Int32) from if_pos c2] at hm3
      refine e_iconst C (-1) (dk dX11_undo 9 rfl) (by decide) ?_
      exact hm3
    · rw [show (if (bi q1.1) = 0 then (-1 : Int32) else (q1.2 ((t + 24) + 5) 1)) = (q1.2 ((t + 24) + 5) 1) from if_neg c2] at hm3
      refine e_aload_n C 0 (dk dX11_undo 4 rfl) rfl rfl ?_
      refine gf_X11_book C K ht fl_X11_30 (dk dX11_undo 5 rfl) ?_
      refine gf_X0_diary C K (kd_X11_book K ht) fl_X11_153 (dk dX11_undo 6 rfl) ?_
      refine gf_X1_count C K (kd_X0_diary K (kd_X11_book K ht)) fl_X11_157 (dk dX11_undo 7 rfl) ?_
      refine e_goto C 24 (dk dX11_undo 8 rfl) (by decide) ?_
      exact hm3)
  obtain rfl := Option.some.inj h
  exact e_iret C B (nar1 _) (dk dX11_undo 10 rfl)
