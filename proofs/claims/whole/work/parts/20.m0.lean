set_option maxRecDepth 20000 in
theorem c_X0_refuse {g : WC} {Xo : Nat → va_E} {n : Nat} {kd : Nat → Nat} (K : KD n kd) {t : Nat} {p0 : Int32} (ht : kd t = 1) {M : Mem} {res : Int32 × Mem} (h : F_X0_refuse t p0 M = res) : MC g yX0_refuse cX0_refuse 2 (some .int) 1 n [.ref (g_N g + t), .int p0] (ent g Xo kd M) (some (.int res.1)) (ent g Xo kd res.2) := by
  refine MC_of pn_X0 (Nat.le_of_ble_eq_true rfl) (fun X C B => ?_)
  have hR := B.1
  rw [F_X0_refuse] at h
  refine e_aload_n C 0 (dk dX0_refuse 0 rfl) rfl rfl ?_
  refine gf_X0_status C K ht fl_X0_32 (dk dX0_refuse 1 rfl) ?_
  refine e_iload_n C 1 (dk dX0_refuse 2 rfl) rfl rfl ?_
  refine e_aload_n C 0 (dk dX0_refuse 3 rfl) rfl rfl ?_
  refine gf_X0_status C K ht fl_X0_32 (dk dX0_refuse 4 rfl) ?_
  refine e_iload_n C 1 (dk dX0_refuse 5 rfl) rfl rfl ?_
  refine e_callSN C cal_X11_at sm_X11_at mn_X0_53 hR (by decide) (dk dX0_refuse 6 rfl) (c_X11_at K (kd_X0_status K ht) (rfl : F_X11_at (t + 11) 3 p0 M = _)) ⟨Nat.zero_le _, Nat.zero_le _⟩ (Nat.le_of_ble_eq_true rfl) rfl ?_
  refine e_iconst C 1 (dk dX0_refuse 7 rfl) (by decide) ?_
  refine e_iadd C (dk dX0_refuse 8 rfl) ?_
  refine e_callSN C cal_X11_put sm_X11_put mn_X0_57 hR (by decide) (dk dX0_refuse 9 rfl) (c_X11_put K (kd_X0_status K ht) (rfl : F_X11_put (t + 11) 3 p0 ((F_X11_at (t + 11) 3 p0 M) + 1) M = _)) ⟨Nat.zero_le _, Nat.zero_le _⟩ (Nat.le_of_ble_eq_true rfl) rfl ?_
  refine e_iconst C (-1) (dk dX0_refuse 10 rfl) (by decide) ?_
  subst h
  exact e_iret C B (nar1 _) (dk dX0_refuse 11 rfl)
set_option maxRecDepth 20000 in
theorem l_X1_copy_10 {X : FX} {g : WC} {Xo : Nat → va_E} {n : Nat} {kd : Nat → Nat} (C : Cx X g RX1 cX1_copy 3) (K : KD n kd) {t : Nat} {w0 : Nat} (ht : kd t = 2) (hw0 : kd w0 = 2) (hR : x_R X = rm 1) {OK : Mem → Prop} (hx : ∀ s, OK s → EW X g (x_s X).heap.size n 3 (ent g Xo kd s) 0 0 43 [] []) : ∀ (N9 : Nat) (x2 : Int32) (M : Mem) (q : Mem), L_X1_copy_10 t w0 N9 x2 M = some q → OK q → EW X g (x_s X).heap.size n 3 (ent g Xo kd M) 0 0 10 [(0, .ref (g_N g + t)), (1, .ref (g_N g + w0)), (2, .int x2)] [] := by
  intro N9
  induction N9 with
  | zero =>
    intro x2 M q h
    rw [L_X1_copy_10.eq_1] at h
    cases h
  | succ m9 ih =>
    intro x2 M q h hOK
    rw [L_X1_copy_10.eq_2] at h
    refine e_iload_n C 2 (dk dX1_copy 6 rfl) rfl rfl ?_
    refine e_aload_n C 0 (dk dX1_copy 7 rfl) rfl rfl ?_
    refine gf_X1_count C K ht fl_X1_17 (dk dX1_copy 8 rfl) ?_
    refine e_bipush C 25 (dk dX1_copy 9 rfl) (by decide) ?_
    refine e_imul C (dk dX1_copy 10 rfl) ?_
    refine e_icmp_ge C 43 (dk dX1_copy 11 rfl) (by decide) (fun c1 => ?_) (fun c1 => ?_)
    · rw [if_pos c1] at h
      obtain rfl := Option.some.inj h
      refine e_lv [] rfl ?_
      exact hx _ hOK
    · rw [if_neg c1] at h
      refine e_aload_n C 0 (dk dX1_copy 12 rfl) rfl rfl ?_
      refine gf_X1_rows C K ht fl_X1_11 (dk dX1_copy 13 rfl) ?_
      refine e_iload_n C 2 (dk dX1_copy 14 rfl) rfl rfl ?_
      refine e_aload_n C 1 (dk dX1_copy 15 rfl) rfl rfl ?_
      refine gf_X1_rows C K hw0 fl_X1_11 (dk dX1_copy 16 rfl) ?_
      refine e_iload_n C 2 (dk dX1_copy 17 rfl) rfl rfl ?_
      refine e_callSN C cal_X11_at sm_X11_at mn_X1_31 hR (by decide) (dk dX1_copy 18 rfl) (c_X11_at K (kd_X1_rows K hw0) (rfl : F_X11_at (w0 + 1) 1000 x2 M = _)) ⟨Nat.zero_le _, Nat.zero_le _⟩ (Nat.le_of_ble_eq_true rfl) rfl ?_
      refine e_callSN C cal_X11_put sm_X11_put mn_X1_35 hR (by decide) (dk dX1_copy 19 rfl) (c_X11_put K (kd_X1_rows K ht) (rfl : F_X11_put (t + 1) 1000 x2 (F_X11_at (w0 + 1) 1000 x2 M) M = _)) ⟨Nat.zero_le _, Nat.zero_le _⟩ (Nat.le_of_ble_eq_true rfl) rfl ?_
      refine e_iinc C [(2, .int (x2 + 1)), (0, .ref (g_N g + t)), (1, .ref (g_N g + w0))] 2 1 (dk dX1_copy 20 rfl) rfl (by decide) (by decide) rfl ?_
      refine e_goto C 10 (dk dX1_copy 21 rfl) (by decide) ?_
      refine e_lv [1, 2, 0] rfl ?_
      exact ih _ _ _ h hOK
set_option maxRecDepth 20000 in
theorem lb_X1_copy_10 {X : FX} {g : WC} {Xo : Nat → va_E} {n : Nat} {kd : Nat → Nat} (C : Cx X g RX1 cX1_copy 3) (K : KD n kd) {t : Nat} {w0 : Nat} (ht : kd t = 2) (hw0 : kd w0 = 2) (hR : x_R X = rm 1) {T9 : Type} {f9 : Mem → Option T9} {b9 : T9} (hx : ∀ s, f9 s = some b9 → EW X g (x_s X).heap.size n 3 (ent g Xo kd s) 0 0 43 [] []) {x2 : Int32} {M : Mem} (h : (L_X1_copy_10 t w0 FU x2 M).bind f9 = some b9) : EW X g (x_s X).heap.size n 3 (ent g Xo kd M) 0 0 10 [(0, .ref (g_N g + t)), (1, .ref (g_N g + w0)), (2, .int x2)] [] := by
  obtain ⟨q, hq, h⟩ := ob h
  exact l_X1_copy_10 C K ht hw0 hR (OK := fun q => f9 q = some b9) hx FU x2 M q hq h
set_option maxRecDepth 20000 in
theorem c_X1_copy {g : WC} {Xo : Nat → va_E} {n : Nat} {kd : Nat → Nat} (K : KD n kd) {t : Nat} {w0 : Nat} (ht : kd t = 2) (hw0 : kd w0 = 2) {M : Mem} {res : Mem} (h : F_X1_copy t w0 M = some res) : MC g yX1_copy cX1_copy 3 none 1 n [.ref (g_N g + t), .ref (g_N g + w0)] (ent g Xo kd M) none (ent g Xo kd res) := by
  refine MC_of pn_X1 (Nat.le_of_ble_eq_true rfl) (fun X C B => ?_)
  have hR := B.1
  rw [F_X1_copy] at h
  refine e_aload_n C 0 (dk dX1_copy 0 rfl) rfl rfl ?_
  refine e_aload_n C 1 (dk dX1_copy 1 rfl) rfl rfl ?_
  refine gf_X1_count C K hw0 fl_X1_17 (dk dX1_copy 2 rfl) ?_
  refine pf_X1_count C K ht fl_X1_17 (dk dX1_copy 3 rfl) ?_
  refine e_iconst C 0 (dk dX1_copy 4 rfl) (by decide) ?_
  refine e_istore_n C [(2, .int 0), (0, .ref (g_N g + t)), (1, .ref (g_N g + w0))] (dk dX1_copy 5 rfl) rfl (by decide) rfl ?_
  refine e_lv [1, 2, 0] rfl ?_
  refine lb_X1_copy_10 C K ht hw0 hR (fun s3 h => ?_) h
  obtain rfl := Option.some.inj h
  exact e_vret C B (dk dX1_copy 22 rfl)
set_option maxRecDepth 20000 in
theorem l_X1_dropOldest_2 {X : FX} {g : WC} {Xo : Nat → va_E} {n : Nat} {kd : Nat → Nat} (C : Cx X g RX1 cX1_dropOldest 2) (K : KD n kd) {t : Nat} (ht : kd t = 2) (hR : x_R X = rm 0) {OK : Mem → Prop} (hx : ∀ s, OK s → EW X g (x_s X).heap.size n 2 (ent g Xo kd s) 0 0 35 [(0, .ref (g_N g + t))] []) : ∀ (N9 : Nat) (x1 : Int32) (M : Mem) (q : Mem), L_X1_dropOldest_2 t N9 x1 M = some q → OK q → EW X g (x_s X).heap.size n 2 (ent g Xo kd M) 0 0 2 [(0, .ref (g_N g + t)), (1, .int x1)] [] := by
  intro N9
  induction N9 with
  | zero =>
    intro x1 M q h
    rw [L_X1_dropOldest_2.eq_1] at h
    cases h
  | succ m9 ih =>
    intro x1 M q h hOK
    rw [L_X1_dropOldest_2.eq_2] at h
    refine e_iload_n C 1 (dk dX1_dropOldest 2 rfl) rfl rfl ?_
    refine e_bipush C 25 (dk dX1_dropOldest 3 rfl) (by decide) ?_
    refine e_iadd C (dk dX1_dropOldest 4 rfl) ?_
    refine e_aload_n C 0 (dk dX1_dropOldest 5 rfl) rfl rfl ?_
    refine gf_X1_rows C K ht fl_X1_11 (dk dX1_dropOldest 6 rfl) ?_
    refine m_alen C K (kd_X1_rows K ht) 1000 (by decide) (dk dX1_dropOldest 7 rfl) ?_
    refine e_icmp_ge C 35 (dk dX1_dropOldest 8 rfl) (by decide) (fun c1 => ?_) (fun c1 => ?_)
    · rw [if_pos c1] at h
      obtain rfl := Option.some.inj h
      refine e_lv [0] rfl ?_
      exact hx _ hOK
    · rw [if_neg c1] at h
      refine e_aload_n C 0 (dk dX1_dropOldest 9 rfl) rfl rfl ?_
      refine gf_X1_rows C K ht fl_X1_11 (dk dX1_dropOldest 10 rfl) ?_
      refine e_iload_n C 1 (dk dX1_dropOldest 11 rfl) rfl rfl ?_
      refine e_aload_n C 0 (dk dX1_dropOldest 12 rfl) rfl rfl ?_
      refine gf_X1_rows C K ht fl_X1_11 (dk dX1_dropOldest 13 rfl) ?_
      refine e_iload_n C 1 (dk dX1_dropOldest 14 rfl) rfl rfl ?_
      refine e_bipush C 25 (dk dX1_dropOldest 15 rfl) (by decide) ?_
      refine e_iadd C (dk dX1_dropOldest 16 rfl) ?_
      obtain ⟨v2, hv2, h⟩ := ob h
      refine m_ald C K (kd_X1_rows K ht) (dk dX1_dropOldest 17 rfl) hv2 ?_
      obtain ⟨M3, hM3, h⟩ := ob h
      refine m_ast C K (kd_X1_rows K ht) (dk dX1_dropOldest 18 rfl) hM3 ?_
      refine e_iinc C [(1, .int (x1 + 1)), (0, .ref (g_N g + t))] 1 1 (dk dX1_dropOldest 19 rfl) rfl (by decide) (by decide) rfl ?_
      refine e_goto C 2 (dk dX1_dropOldest 20 rfl) (by decide) ?_
      refine e_lv [1, 0] rfl ?_
      exact ih _ _ _ h hOK
set_option maxRecDepth 20000 in
theorem lb_X1_dropOldest_2 {X : FX} {g : WC} {Xo : Nat → va_E} {n : Nat} {kd : Nat → Nat} (C : Cx X g RX1 cX1_dropOldest 2) (K : KD n kd) {t : Nat} (ht : kd t = 2) (hR : x_R X = rm 0) {T9 : Type} {f9 : Mem → Option T9} {b9 : T9} (hx : ∀ s, f9 s = some b9 → EW X g (x_s X).heap.size n 2 (ent g Xo kd s) 0 0 35 [(0, .ref (g_N g + t))] []) {x1 : Int32} {M : Mem} (h : (L_X1_dropOldest_2 t FU x1 M).bind f9 = some b9) : EW X g (x_s X).heap.size n 2 (ent g Xo kd M) 0 0 2 [(0, .ref (g_N g + t)), (1, .int x1)] [] := by
  obtain ⟨q, hq, h⟩ := ob h
  exact l_X1_dropOldest_2 C K ht hR (OK := fun q => f9 q = some b9) hx FU x1 M q hq h
set_option maxRecDepth 20000 in
theorem c_X1_dropOldest {g : WC} {Xo : Nat → va_E} {n : Nat} {kd : Nat → Nat} (K : KD n kd) {t : Nat} (ht : kd t = 2) {M : Mem} {res : Mem} (h : F_X1_dropOldest t M = some res) : MC g yX1_dropOldest cX1_dropOldest 2 none 0 n [.ref (g_N g + t)] (ent g Xo kd M) none (ent g Xo kd res) := by
  refine MC_of pn_X1 (Nat.le_of_ble_eq_true rfl) (fun X C B => ?_)
  have hR := B.1
  rw [F_X1_dropOldest] at h
  refine e_iconst C 0 (dk dX1_dropOldest 0 rfl) (by decide) ?_
  refine e_istore_n C [(1, .int 0), (0, .ref (g_N g + t))] (dk dX1_dropOldest 1 rfl) rfl (by decide) rfl ?_
  refine e_lv [1, 0] rfl ?_
  refine lb_X1_dropOldest_2 C K ht hR (fun s5 h => ?_) h
  refine e_aload_n C 0 (dk dX1_dropOldest 21 rfl) rfl rfl ?_
  refine e_dup C (dk dX1_dropOldest 22 rfl) rfl ?_
  refine gf_X1_count C K ht fl_X1_17 (dk dX1_dropOldest 23 rfl) ?_
  refine e_iconst C 1 (dk dX1_dropOldest 24 rfl) (by decide) ?_
  refine e_isub C (dk dX1_dropOldest 25 rfl) ?_
  refine pf_X1_count C K ht fl_X1_17 (dk dX1_dropOldest 26 rfl) ?_
  obtain rfl := Option.some.inj h
  exact e_vret C B (dk dX1_dropOldest 27 rfl)
set_option maxRecDepth 20000 in
theorem c_X2_start {g : WC} {Xo : Nat → va_E} {n : Nat} {kd : Nat → Nat} (K : KD n kd) {t : Nat} {p0 : Int32} (ht : kd t = 3) {M : Mem} {res : Mem} (h : F_X2_start t p0 M = res) : MC g yX2_start cX2_start 2 none 0 n [.ref (g_N g + t), .int p0] (ent g Xo kd M) none (ent g Xo kd res) := by
  refine MC_of pn_X2 (Nat.le_of_ble_eq_true rfl) (fun X C B => ?_)
  have hR := B.1
  rw [F_X2_start] at h
  refine e_aload_n C 0 (dk dX2_start 0 rfl) rfl rfl ?_
  refine e_iload_n C 1 (dk dX2_start 1 rfl) rfl rfl ?_
  refine pf_X2_seed C K ht fl_X2_7 (dk dX2_start 2 rfl) ?_
  subst h
  exact e_vret C B (dk dX2_start 3 rfl)
set_option maxRecDepth 20000 in
theorem c_X2_draw {g : WC} {Xo : Nat → va_E} {n : Nat} {kd : Nat → Nat} (K : KD n kd) {t : Nat} {p0 : Int32} (ht : kd t = 3) {M : Mem} {res : Int32 × Mem} (h : F_X2_draw t p0 M = some res) : MC g yX2_draw cX2_draw 2 (some .int) 0 n [.ref (g_N g + t), .int p0] (ent g Xo kd M) (some (.int res.1)) (ent g Xo kd res.2) := by
  refine MC_of pn_X2 (Nat.le_of_ble_eq_true rfl) (fun X C B => ?_)
  have hR := B.1
  rw [F_X2_draw] at h
  refine e_aload_n C 0 (dk dX2_draw 0 rfl) rfl rfl ?_
  refine e_aload_n C 0 (dk dX2_draw 1 rfl) rfl rfl ?_
  refine gf_X2_seed C K ht fl_X2_7 (dk dX2_draw 2 rfl) ?_
  refine e_ldc C kc_X2_13 (dk dX2_draw 3 rfl) ?_
  refine e_imul C (dk dX2_draw 4 rfl) ?_
  refine e_sipush C 12345 (dk dX2_draw 5 rfl) (by decide) ?_
  refine e_iadd C (dk dX2_draw 6 rfl) ?_
  refine pf_X2_seed C K ht fl_X2_7 (dk dX2_draw 7 rfl) ?_
  refine e_iload_n C 1 (dk dX2_draw 8 rfl) rfl rfl ?_
  refine e_if_le C 35 (dk dX2_draw 9 rfl) (by decide) (fun c1 => ?_) (fun c1 => ?_)
  · rw [if_pos c1] at h
    refine e_iconst C 0 (dk dX2_draw 19 rfl) (by decide) ?_
    obtain rfl := Option.some.inj h
    exact e_iret C B (nar1 _) (dk dX2_draw 20 rfl)
  · rw [if_neg c1] at h
    refine e_aload_n C 0 (dk dX2_draw 10 rfl) rfl rfl ?_
    refine gf_X2_seed C K ht fl_X2_7 (dk dX2_draw 11 rfl) ?_
    refine e_bipush C 16 (dk dX2_draw 12 rfl) (by decide) ?_
    refine e_iushr C (dk dX2_draw 13 rfl) ?_
    refine e_sipush C 32767 (dk dX2_draw 14 rfl) (by decide) ?_
    refine e_iand C (dk dX2_draw 15 rfl) ?_
    refine e_iload_n C 1 (dk dX2_draw 16 rfl) rfl rfl ?_
    obtain ⟨v2, hv2, h⟩ := ob h
    have gv2 := irm_some hv2
    refine e_irem C (dk dX2_draw 17 rfl) gv2.1 ?_
    rw [gv2.2]
    refine e_goto C 36 (dk dX2_draw 18 rfl) (by decide) ?_
    obtain rfl := Option.some.inj h
    exact e_iret C B (nar1 _) (dk dX2_draw 20 rfl)
set_option maxRecDepth 20000 in
theorem c_X3_allTogether {g : WC} {Xo : Nat → va_E} {n : Nat} {kd : Nat → Nat} (K : KD n kd) {t : Nat} (ht : kd t = 4) {M : Mem} {res : Int32} (h : F_X3_allTogether t M = res) : MC g yX3_allTogether cX3_allTogether 1 (some .int) 1 n [.ref (g_N g + t)] (ent g Xo kd M) (some (.int res)) (ent g Xo kd M) := by
  refine MC_of pn_X3 (Nat.le_of_ble_eq_true rfl) (fun X C B => ?_)
  have hR := B.1
  rw [F_X3_allTogether] at h
  refine e_aload_n C 0 (dk dX3_allTogether 0 rfl) rfl rfl ?_
  refine gf_X3_best C K ht fl_X3_15 (dk dX3_allTogether 1 rfl) ?_
  refine e_iconst C 0 (dk dX3_allTogether 2 rfl) (by decide) ?_
  refine e_callSN C cal_X11_at sm_X11_at mn_X3_48 hR (by decide) (dk dX3_allTogether 3 rfl) (c_X11_at K (kd_X3_best K ht) (rfl : F_X11_at (t + 2) 1024 0 M = _)) ⟨Nat.zero_le _, Nat.zero_le _⟩ (Nat.le_of_ble_eq_true rfl) rfl ?_
  subst h
  exact e_iret C B (nar1 _) (dk dX3_allTogether 4 rfl)
set_option maxRecDepth 20000 in
theorem c_X3_sumWith {g : WC} {Xo : Nat → va_E} {n : Nat} {kd : Nat → Nat} (K : KD n kd) {t : Nat} {p0 : Int32} {p1 : Int32} {p2 : Int32} (ht : kd t = 4) {M : Mem} {res : Int32} (h : F_X3_sumWith t p0 p1 p2 M = res) : MC g yX3_sumWith cX3_sumWith 5 (some .int) 1 n [.ref (g_N g + t), .int p0, .int p1, .int p2] (ent g Xo kd M) (some (.int res)) (ent g Xo kd M) := by
  refine MC_of pn_X3 (Nat.le_of_ble_eq_true rfl) (fun X C B => ?_)
  have hR := B.1
  rw [F_X3_sumWith] at h
  refine e_aload_n C 0 (dk dX3_sumWith 0 rfl) rfl rfl ?_
  refine gf_X3_bids C K ht fl_X3_9 (dk dX3_sumWith 1 rfl) ?_
  refine e_iload_n C 1 (dk dX3_sumWith 2 rfl) rfl rfl ?_
  refine e_bipush C 7 (dk dX3_sumWith 3 rfl) (by decide) ?_
  refine e_imul C (dk dX3_sumWith 4 rfl) ?_
  refine e_iload_n C 2 (dk dX3_sumWith 5 rfl) rfl rfl ?_
  refine e_iadd C (dk dX3_sumWith 6 rfl) ?_
  refine e_callSN C cal_X11_at sm_X11_at mn_X3_48 hR (by decide) (dk dX3_sumWith 7 rfl) (c_X11_at K (kd_X3_bids K ht) (rfl : F_X11_at (t + 1) 49 ((p0 * 7) + p1) M = _)) ⟨Nat.zero_le _, Nat.zero_le _⟩ (Nat.le_of_ble_eq_true rfl) rfl ?_
  refine e_istore C [(4, .int (F_X11_at (t + 1) 49 ((p0 * 7) + p1) M)), (0, .ref (g_N g + t)), (1, .int p0), (2, .int p1), (3, .int p2)] (dk dX3_sumWith 8 rfl) (by decide) rfl ?_
  refine e_iload C 0 (dk dX3_sumWith 9 rfl) rfl ?_
  refine e_if_le C 28 (dk dX3_sumWith 10 rfl) (by decide) (fun c1 => ?_) (fun c1 => ?_)
  · rw [if_pos c1] at h
    refine e_iconst C (-1) (dk dX3_sumWith 17 rfl) (by decide) ?_
    subst h
    exact e_iret C B (nar1 _) (dk dX3_sumWith 18 rfl)
  · rw [if_neg c1] at h
    refine e_iload_n C 4 (dk dX3_sumWith 11 rfl) rfl rfl ?_
    refine e_iload_n C 3 (dk dX3_sumWith 12 rfl) rfl rfl ?_
    refine e_ishr C (dk dX3_sumWith 13 rfl) ?_
    refine e_iconst C 1 (dk dX3_sumWith 14 rfl) (by decide) ?_
    refine e_iand C (dk dX3_sumWith 15 rfl) ?_
    refine e_if_eq C 30 (dk dX3_sumWith 16 rfl) (by decide) (fun c2 => ?_) (fun c2 => ?_)
    · rw [if_pos c2] at h
      refine e_iload C 0 (dk dX3_sumWith 19 rfl) rfl ?_
      refine e_aload_n C 1 (dk dX3_sumWith 20 rfl) rfl rfl ?_
      refine gf_X3_best C K ht fl_X3_15 (dk dX3_sumWith 21 rfl) ?_
      refine e_iload_n C 2 (dk dX3_sumWith 22 rfl) rfl rfl ?_
      refine e_iconst C 1 (dk dX3_sumWith 23 rfl) (by decide) ?_
      refine e_iadd C (dk dX3_sumWith 24 rfl) ?_
      refine e_sipush C 128 (dk dX3_sumWith 25 rfl) (by decide) ?_
      refine e_imul C (dk dX3_sumWith 26 rfl) ?_
      refine e_iload_n C 4 (dk dX3_sumWith 27 rfl) rfl rfl ?_
      refine e_iconst C 1 (dk dX3_sumWith 28 rfl) (by decide) ?_
      refine e_iload_n C 3 (dk dX3_sumWith 29 rfl) rfl rfl ?_
      refine e_ishl C (dk dX3_sumWith 30 rfl) ?_
      refine e_ior C (dk dX3_sumWith 31 rfl) ?_
      refine e_iadd C (dk dX3_sumWith 32 rfl) ?_
      refine e_callSN C cal_X11_at sm_X11_at mn_X3_48 hR (by decide) (dk dX3_sumWith 33 rfl) (c_X11_at K (kd_X3_best K ht) (rfl : F_X11_at (t + 2) 1024 (((p0 + 1) * 128) + (p2 ||| ((1 : Int32) <<< (p1 &&& 31)))) M = _)) ⟨Nat.zero_le _, Nat.zero_le _⟩ (Nat.le_of_ble_eq_true rfl) rfl ?_
      refine e_iadd C (dk dX3_sumWith 34 rfl) ?_
      subst h
      exact e_iret C B (nar1 _) (dk dX3_sumWith 35 rfl)
    · rw [if_neg c2] at h
      refine e_iconst C (-1) (dk dX3_sumWith 17 rfl) (by decide) ?_
      subst h
      exact e_iret C B (nar1 _) (dk dX3_sumWith 18 rfl)
set_option maxRecDepth 20000 in
theorem l_X3_bestFrom_20 {X : FX} {g : WC} {Xo : Nat → va_E} {n : Nat} {kd : Nat → Nat} (C : Cx X g RX3 cX3_bestFrom 5) (K : KD n kd) {t : Nat} (ht : kd t = 4) {x1 : Int32} {x2 : Int32} {M : Mem} (hR : x_R X = rm 2) {OK : Int32 → Prop} (hx : ∀ s, OK s → EW X g (x_s X).heap.size n 5 (ent g Xo kd M) 0 0 46 [(3, .int s)] []) : ∀ (N9 : Nat) (x3 : Int32) (x4 : Int32) (q : Int32), L_X3_bestFrom_20 t x1 x2 M N9 x3 x4 = some q → OK q → EW X g (x_s X).heap.size n 5 (ent g Xo kd M) 0 0 20 [(0, .ref (g_N g + t)), (1, .int x1), (2, .int x2), (3, .int x3), (4, .int x4)] [] := by
  intro N9
  induction N9 with
  | zero =>
    intro x3 x4 q h
    rw [L_X3_bestFrom_20.eq_1] at h
    cases h
  | succ m9 ih =>
    intro x3 x4 q h hOK
    rw [L_X3_bestFrom_20.eq_2] at h
    refine e_iload C 4 (dk dX3_bestFrom 13 rfl) rfl ?_
    refine e_bipush C 7 (dk dX3_bestFrom 14 rfl) (by decide) ?_
    refine e_icmp_ge C 46 (dk dX3_bestFrom 15 rfl) (by decide) (fun c1 => ?_) (fun c1 => ?_)
    · rw [if_pos c1] at h
      obtain rfl := Option.some.inj h
      refine e_lv [3] rfl ?_
      exact hx _ hOK
    · rw [if_neg c1] at h
      refine e_iload_n C 3 (dk dX3_bestFrom 16 rfl) rfl rfl ?_
      refine e_aload_n C 0 (dk dX3_bestFrom 17 rfl) rfl rfl ?_
      refine e_iload_n C 1 (dk dX3_bestFrom 18 rfl) rfl rfl ?_
      refine e_iload C 4 (dk dX3_bestFrom 19 rfl) rfl ?_
      refine e_iload_n C 2 (dk dX3_bestFrom 20 rfl) rfl rfl ?_
      refine e_callV (ci := 3) C cal_X3_sumWith im_X3_sumWith se_X3_sumWith ml_X3_52 rfl hR (by decide) (dk dX3_bestFrom 21 rfl) (K.1 _ (by rw [ht]; decide)) (ent_o3 ht) (c_X3_sumWith K ht (rfl : F_X3_sumWith t x1 x4 x2 M = _)) ⟨Nat.zero_le _, Nat.zero_le _⟩ (Nat.le_of_ble_eq_true rfl) rfl ?_
      refine e_mmax C hR ml_X3_56 (dk dX3_bestFrom 22 rfl) (Nat.le_of_ble_eq_true rfl) ?_
      refine e_istore_n C [(3, .int (imax x3 (F_X3_sumWith t x1 x4 x2 M))), (0, .ref (g_N g + t)), (1, .int x1), (2, .int x2), (4, .int x4)] (dk dX3_bestFrom 23 rfl) rfl (by decide) rfl ?_
      refine e_iinc C [(4, .int (x4 + 1)), (3, .int (imax x3 (F_X3_sumWith t x1 x4 x2 M))), (0, .ref (g_N g + t)), (1, .int x1), (2, .int x2)] 4 1 (dk dX3_bestFrom 24 rfl) rfl (by decide) (by decide) rfl ?_
      refine e_goto C 20 (dk dX3_bestFrom 25 rfl) (by decide) ?_
      refine e_lv [2, 3, 4, 1, 0] rfl ?_
      exact ih _ _ _ h hOK
set_option maxRecDepth 20000 in
theorem lb_X3_bestFrom_20 {X : FX} {g : WC} {Xo : Nat → va_E} {n : Nat} {kd : Nat → Nat} (C : Cx X g RX3 cX3_bestFrom 5) (K : KD n kd) {t : Nat} (ht : kd t = 4) {x1 : Int32} {x2 : Int32} {M : Mem} (hR : x_R X = rm 2) {T9 : Type} {f9 : Int32 → Option T9} {b9 : T9} (hx : ∀ s, f9 s = some b9 → EW X g (x_s X).heap.size n 5 (ent g Xo kd M) 0 0 46 [(3, .int s)] []) {x3 : Int32} {x4 : Int32} (h : (L_X3_bestFrom_20 t x1 x2 M FU x3 x4).bind f9 = some b9) : EW X g (x_s X).heap.size n 5 (ent g Xo kd M) 0 0 20 [(0, .ref (g_N g + t)), (1, .int x1), (2, .int x2), (3, .int x3), (4, .int x4)] [] := by
  obtain ⟨q, hq, h⟩ := ob h
  exact l_X3_bestFrom_20 C K ht hR (OK := fun q => f9 q = some b9) hx FU x3 x4 q hq h
set_option maxRecDepth 20000 in
theorem c_X3_bestFrom {g : WC} {Xo : Nat → va_E} {n : Nat} {kd : Nat → Nat} (K : KD n kd) {t : Nat} {p0 : Int32} {p1 : Int32} (ht : kd t = 4) {M : Mem} {res : Int32} (h : F_X3_bestFrom t p0 p1 M = some res) : MC g yX3_bestFrom cX3_bestFrom 5 (some .int) 2 n [.ref (g_N g + t), .int p0, .int p1] (ent g Xo kd M) (some (.int res)) (ent g Xo kd M) := by
  refine MC_of pn_X3 (Nat.le_of_ble_eq_true rfl) (fun X C B => ?_)
  have hR := B.1
  rw [F_X3_bestFrom] at h
  refine e_aload_n C 0 (dk dX3_bestFrom 0 rfl) rfl rfl ?_
  refine gf_X3_best C K ht fl_X3_15 (dk dX3_bestFrom 1 rfl) ?_
  refine e_iload_n C 1 (dk dX3_bestFrom 2 rfl) rfl rfl ?_
  refine e_iconst C 1 (dk dX3_bestFrom 3 rfl) (by decide) ?_
  refine e_iadd C (dk dX3_bestFrom 4 rfl) ?_
  refine e_sipush C 128 (dk dX3_bestFrom 5 rfl) (by decide) ?_
  refine e_imul C (dk dX3_bestFrom 6 rfl) ?_
  refine e_iload_n C 2 (dk dX3_bestFrom 7 rfl) rfl rfl ?_
  refine e_iadd C (dk dX3_bestFrom 8 rfl) ?_
  refine e_callSN C cal_X11_at sm_X11_at mn_X3_48 hR (by decide) (dk dX3_bestFrom 9 rfl) (c_X11_at K (kd_X3_best K ht) (rfl : F_X11_at (t + 2) 1024 (((p0 + 1) * 128) + p1) M = _)) ⟨Nat.zero_le _, Nat.zero_le _⟩ (Nat.le_of_ble_eq_true rfl) rfl ?_
  refine e_istore_n C [(3, .int (F_X11_at (t + 2) 1024 (((p0 + 1) * 128) + p1) M)), (0, .ref (g_N g + t)), (1, .int p0), (2, .int p1)] (dk dX3_bestFrom 10 rfl) rfl (by decide) rfl ?_
  refine e_iconst C 0 (dk dX3_bestFrom 11 rfl) (by decide) ?_
  refine e_istore C [(4, .int 0), (3, .int (F_X11_at (t + 2) 1024 (((p0 + 1) * 128) + p1) M)), (0, .ref (g_N g + t)), (1, .int p0), (2, .int p1)] (dk dX3_bestFrom 12 rfl) (by decide) rfl ?_
  refine e_lv [2, 3, 4, 1, 0] rfl ?_
  refine lb_X3_bestFrom_20 C K ht hR (fun s3 h => ?_) h
  refine e_iload_n C 0 (dk dX3_bestFrom 26 rfl) rfl rfl ?_
  obtain rfl := Option.some.inj h
  exact e_iret C B (nar1 _) (dk dX3_bestFrom 27 rfl)
set_option maxRecDepth 20000 in
theorem l_X3_takerOf_18 {X : FX} {g : WC} {Xo : Nat → va_E} {n : Nat} {kd : Nat → Nat} (C : Cx X g RX3 cX3_takerOf 5) (K : KD n kd) {t : Nat} (ht : kd t = 4) {x1 : Int32} {x2 : Int32} {x3 : Int32} {M : Mem} (hR : x_R X = rm 2) {OK : Sum (Int32) (Unit) → Prop} (hB : ∀ v, OK (Sum.inl v) → Bx X g (some .int) 2 n (some (.int v)) (ent g Xo kd M)) (hx : ∀ s, OK (Sum.inr s) → EW X g (x_s X).heap.size n 5 (ent g Xo kd M) 0 0 46 [] []) : ∀ (N9 : Nat) (x4 : Int32) (q : Sum (Int32) (Unit)), L_X3_takerOf_18 t x1 x2 x3 M N9 x4 = some q → OK q → EW X g (x_s X).heap.size n 5 (ent g Xo kd M) 0 0 18 [(0, .ref (g_N g + t)), (1, .int x1), (2, .int x2), (3, .int x3), (4, .int x4)] [] := by
  intro N9
  induction N9 with
  | zero =>
    intro x4 q h
    rw [L_X3_takerOf_18.eq_1] at h
    cases h
  | succ m9 ih =>
    intro x4 q h hOK
    rw [L_X3_takerOf_18.eq_2] at h
    refine e_iload C 4 (dk dX3_takerOf 11 rfl) rfl ?_
    refine e_bipush C 7 (dk dX3_takerOf 12 rfl) (by decide) ?_
    refine e_icmp_ge C 46 (dk dX3_takerOf 13 rfl) (by decide) (fun c1 => ?_) (fun c1 => ?_)
    · rw [if_pos c1] at h
      obtain rfl := Option.some.inj h
      refine e_lv [] rfl ?_
      exact hx _ hOK
    · rw [if_neg c1] at h
      refine e_aload_n C 0 (dk dX3_takerOf 14 rfl) rfl rfl ?_
      refine e_iload_n C 1 (dk dX3_takerOf 15 rfl) rfl rfl ?_
      refine e_iload C 4 (dk dX3_takerOf 16 rfl) rfl ?_
      refine e_iload_n C 2 (dk dX3_takerOf 17 rfl) rfl rfl ?_
      refine e_callV (ci := 3) C cal_X3_sumWith im_X3_sumWith se_X3_sumWith ml_X3_52 rfl hR (by decide) (dk dX3_takerOf 18 rfl) (K.1 _ (by rw [ht]; decide)) (ent_o3 ht) (c_X3_sumWith K ht (rfl : F_X3_sumWith t x1 x4 x2 M = _)) ⟨Nat.zero_le _, Nat.zero_le _⟩ (Nat.le_of_ble_eq_true rfl) rfl ?_
      refine e_iload_n C 3 (dk dX3_takerOf 19 rfl) rfl rfl ?_
      refine e_icmp_ne C 40 (dk dX3_takerOf 20 rfl) (by decide) (fun c2 => ?_) (fun c2 => ?_)
      · rw [if_neg c2] at h
        refine e_iinc C [(4, .int (x4 + 1)), (0, .ref (g_N g + t)), (1, .int x1), (2, .int x2), (3, .int x3)] 4 1 (dk dX3_takerOf 23 rfl) rfl (by decide) (by decide) rfl ?_
        refine e_goto C 18 (dk dX3_takerOf 24 rfl) (by decide) ?_
        refine e_lv [1, 2, 3, 4, 0] rfl ?_
        exact ih _ _ h hOK
      · rw [if_pos c2] at h
        refine e_iload C 4 (dk dX3_takerOf 21 rfl) rfl ?_
        obtain rfl := Option.some.inj h
        exact e_iret C (hB _ hOK) (nar1 _) (dk dX3_takerOf 22 rfl)
set_option maxRecDepth 20000 in
theorem lb_X3_takerOf_18 {X : FX} {g : WC} {Xo : Nat → va_E} {n : Nat} {kd : Nat → Nat} (C : Cx X g RX3 cX3_takerOf 5) (K : KD n kd) {t : Nat} (ht : kd t = 4) {x1 : Int32} {x2 : Int32} {x3 : Int32} {M : Mem} (hR : x_R X = rm 2) {T9 : Type} {f9 : Sum (Int32) (Unit) → Option T9} {b9 : T9} (hB : ∀ v, f9 (Sum.inl v) = some b9 → Bx X g (some .int) 2 n (some (.int v)) (ent g Xo kd M)) (hx : ∀ s, f9 (Sum.inr s) = some b9 → EW X g (x_s X).heap.size n 5 (ent g Xo kd M) 0 0 46 [] []) {x4 : Int32} (h : (L_X3_takerOf_18 t x1 x2 x3 M FU x4).bind f9 = some b9) : EW X g (x_s X).heap.size n 5 (ent g Xo kd M) 0 0 18 [(0, .ref (g_N g + t)), (1, .int x1), (2, .int x2), (3, .int x3), (4, .int x4)] [] := by
  obtain ⟨q, hq, h⟩ := ob h
  exact l_X3_takerOf_18 C K ht hR (OK := fun q => f9 q = some b9) hB hx FU x4 q hq h
set_option maxRecDepth 20000 in
theorem c_X3_takerOf {g : WC} {Xo : Nat → va_E} {n : Nat} {kd : Nat → Nat} (K : KD n kd) {t : Nat} {p0 : Int32} {p1 : Int32} (ht : kd t = 4) {M : Mem} {res : Int32} (h : F_X3_takerOf t p0 p1 M = some res) : MC g yX3_takerOf cX3_takerOf 5 (some .int) 2 n [.ref (g_N g + t), .int p0, .int p1] (ent g Xo kd M) (some (.int res)) (ent g Xo kd M) := by
  refine MC_of pn_X3 (Nat.le_of_ble_eq_true rfl) (fun X C B => ?_)
  have hR := B.1
  rw [F_X3_takerOf] at h
  refine e_aload_n C 0 (dk dX3_takerOf 0 rfl) rfl rfl ?_
  refine gf_X3_best C K ht fl_X3_15 (dk dX3_takerOf 1 rfl) ?_
  refine e_iload_n C 1 (dk dX3_takerOf 2 rfl) rfl rfl ?_
  refine e_sipush C 128 (dk dX3_takerOf 3 rfl) (by decide) ?_
  refine e_imul C (dk dX3_takerOf 4 rfl) ?_
  refine e_iload_n C 2 (dk dX3_takerOf 5 rfl) rfl rfl ?_
  refine e_iadd C (dk dX3_takerOf 6 rfl) ?_
  refine e_callSN C cal_X11_at sm_X11_at mn_X3_48 hR (by decide) (dk dX3_takerOf 7 rfl) (c_X11_at K (kd_X3_best K ht) (rfl : F_X11_at (t + 2) 1024 ((p0 * 128) + p1) M = _)) ⟨Nat.zero_le _, Nat.zero_le _⟩ (Nat.le_of_ble_eq_true rfl) rfl ?_
  refine e_istore_n C [(3, .int (F_X11_at (t + 2) 1024 ((p0 * 128) + p1) M)), (0, .ref (g_N g + t)), (1, .int p0), (2, .int p1)] (dk dX3_takerOf 8 rfl) rfl (by decide) rfl ?_
  refine e_iconst C 0 (dk dX3_takerOf 9 rfl) (by decide) ?_
  refine e_istore C [(4, .int 0), (3, .int (F_X11_at (t + 2) 1024 ((p0 * 128) + p1) M)), (0, .ref (g_N g + t)), (1, .int p0), (2, .int p1)] (dk dX3_takerOf 10 rfl) (by decide) rfl ?_
  refine e_lv [2, 3, 4, 1, 0] rfl ?_
  refine lb_X3_takerOf_18 C K ht hR (fun v h => ?_) (fun s4 h => ?_) h
  · obtain rfl := Option.some.inj (show some v = some _ from h)
    exact B
  dsimp only [Sum.elim_inr] at h
  refine e_iconst C (-1) (dk dX3_takerOf 25 rfl) (by decide) ?_
  obtain rfl := Option.some.inj h
  exact e_iret C B (nar1 _) (dk dX3_takerOf 26 rfl)
set_option maxRecDepth 20000 in
theorem l_X4_note_43 {X : FX} {g : WC} {Xo : Nat → va_E} {n : Nat} {kd : Nat → Nat} (C : Cx X g RX4 cX4_note 6) (K : KD n kd) {t : Nat} (ht : kd t = 5) {x2 : Int32} {x3 : Int32} {M : Mem} (hR : x_R X = rm 1) {OK : Int32 → Prop} (hx : ∀ s, OK s → EW X g (x_s X).heap.size n 6 (ent g Xo kd M) 0 0 76 [(0, .ref (g_N g + t)), (2, .int x2), (3, .int x3), (4, .int s)] []) : ∀ (N9 : Nat) (x4 : Int32) (x5 : Int32) (q : Int32), L_X4_note_43 t x2 x3 M N9 x4 x5 = some q → OK q → EW X g (x_s X).heap.size n 6 (ent g Xo kd M) 0 0 43 [(0, .ref (g_N g + t)), (2, .int x2), (3, .int x3), (4, .int x4), (5, .int x5)] [] := by
  intro N9
  induction N9 with
  | zero =>
    intro x4 x5 q h
    rw [L_X4_note_43.eq_1] at h
    cases h
  | succ m9 ih =>
    intro x4 x5 q h hOK
    rw [L_X4_note_43.eq_2] at h
    refine e_iload C 4 (dk dX4_note_0 24 rfl) rfl ?_
    refine e_iload_n C 1 (dk dX4_note_0 25 rfl) rfl rfl ?_
    refine e_icmp_ge C 76 (dk dX4_note_0 26 rfl) (by decide) (fun c4 => ?_) (fun c4 => ?_)
    · rw [if_pos c4] at h
      obtain rfl := Option.some.inj h
      refine e_lv [0, 1, 2, 3] rfl ?_
      exact hx _ hOK
    · rw [if_neg c4] at h
      refine e_iload C 3 (dk dX4_note_0 27 rfl) rfl ?_
      refine e_aload_n C 0 (dk dX4_note_0 28 rfl) rfl rfl ?_
      refine gf_X4_nightsSeen C K ht fl_X4_9 (dk dX4_note_0 29 rfl) ?_
      refine e_iload C 4 (dk dX4_note_0 30 rfl) rfl ?_
      refine e_callSN C cal_X11_at sm_X11_at mn_X4_39 hR (by decide) (dk dX4_note_0 31 rfl) (c_X11_at K (kd_X4_nightsSeen K ht) (rfl : F_X11_at (t + 1) 7 x5 M = _)) ⟨Nat.zero_le _, Nat.zero_le _⟩ (Nat.le_of_ble_eq_true rfl) rfl ?_
      refine e_iload_n C 2 (dk dX4_note_0 32 rfl) rfl rfl ?_
      refine e_ishr C (dk dX4_note_0 33 rfl) ?_
      refine e_iconst C 1 (dk dX4_note_0 34 rfl) (by decide) ?_
      refine e_iand C (dk dX4_note_0 35 rfl) ?_
      refine e_iload C 4 (dk dX4_note_0 36 rfl) rfl ?_
      refine e_ishl C (dk dX4_note_0 37 rfl) ?_
      refine e_ior C (dk dX4_note_0 38 rfl) ?_
      refine e_istore C [(4, .int (x4 ||| ((((F_X11_at (t + 1) 7 x5 M) >>> (x3 &&& 31)) &&& 1) <<< (x5 &&& 31)))), (0, .ref (g_N g + t)), (2, .int x2), (3, .int x3), (5, .int x5)] (dk dX4_note_0 39 rfl) (by decide) rfl ?_
      refine e_iinc C [(5, .int (x5 + 1)), (4, .int (x4 ||| ((((F_X11_at (t + 1) 7 x5 M) >>> (x3 &&& 31)) &&& 1) <<< (x5 &&& 31)))), (0, .ref (g_N g + t)), (2, .int x2), (3, .int x3)] 4 1 (dk dX4_note_0 40 rfl) rfl (by decide) (by decide) rfl ?_
      refine e_goto C 43 (dk dX4_note_0 41 rfl) (by decide) ?_
      refine e_lv [2, 3, 4, 1, 0] rfl ?_
      exact ih _ _ _ h hOK
set_option maxRecDepth 20000 in
theorem lb_X4_note_43 {X : FX} {g : WC} {Xo : Nat → va_E} {n : Nat} {kd : Nat → Nat} (C : Cx X g RX4 cX4_note 6) (K : KD n kd) {t : Nat} (ht : kd t = 5) {x2 : Int32} {x3 : Int32} {M : Mem} (hR : x_R X = rm 1) {T9 : Type} {f9 : Int32 → Option T9} {b9 : T9} (hx : ∀ s, f9 s = some b9 → EW X g (x_s X).heap.size n 6 (ent g Xo kd M) 0 0 76 [(0, .ref (g_N g + t)), (2, .int x2), (3, .int x3), (4, .int s)] []) {x4 : Int32} {x5 : Int32} (h : (L_X4_note_43 t x2 x3 M FU x4 x5).bind f9 = some b9) : EW X g (x_s X).heap.size n 6 (ent g Xo kd M) 0 0 43 [(0, .ref (g_N g + t)), (2, .int x2), (3, .int x3), (4, .int x4), (5, .int x5)] [] := by
  obtain ⟨q, hq, h⟩ := ob h
  exact l_X4_note_43 C K ht hR (OK := fun q => f9 q = some b9) hx FU x4 x5 q hq h
set_option maxRecDepth 20000 in
theorem l_X4_note_31 {X : FX} {g : WC} {Xo : Nat → va_E} {n : Nat} {kd : Nat → Nat} (C : Cx X g RX4 cX4_note 6) (K : KD n kd) {t : Nat} (ht : kd t = 5) {x2 : Int32} (hR : x_R X = rm 1) {OK : Mem → Prop} (hx : ∀ s, OK s → EW X g (x_s X).heap.size n 6 (ent g Xo kd s) 0 0 124 [] []) : ∀ (N9 : Nat) (x3 : Int32) (M : Mem) (q : Mem), L_X4_note_31 t x2 N9 x3 M = some q → OK q → EW X g (x_s X).heap.size n 6 (ent g Xo kd M) 0 0 31 [(0, .ref (g_N g + t)), (2, .int x2), (3, .int x3)] [] := by
  intro N9
  induction N9 with
  | zero =>
    intro x3 M q h
    rw [L_X4_note_31.eq_1] at h
    cases h
  | succ m9 ih =>
    intro x3 M q h hOK
    rw [L_X4_note_31.eq_2] at h
    refine e_iload_n C 2 (dk dX4_note_0 17 rfl) rfl rfl ?_
    refine e_bipush C 12 (dk dX4_note_0 18 rfl) (by decide) ?_
    refine e_icmp_ge C 124 (dk dX4_note_0 19 rfl) (by decide) (fun c3 => ?_) (fun c3 => ?_)
    · rw [if_pos c3] at h
      obtain rfl := Option.some.inj h
      refine e_lv [] rfl ?_
      exact hx _ hOK
    · rw [if_neg c3] at h
      refine e_iconst C 0 (dk dX4_note_0 20 rfl) (by decide) ?_
      refine e_istore C [(4, .int 0), (0, .ref (g_N g + t)), (2, .int x2), (3, .int x3)] (dk dX4_note_0 21 rfl) (by decide) rfl ?_
      refine e_iconst C 0 (dk dX4_note_0 22 rfl) (by decide) ?_
      refine e_istore C [(5, .int 0), (4, .int 0), (0, .ref (g_N g + t)), (2, .int x2), (3, .int x3)] (dk dX4_note_0 23 rfl) (by decide) rfl ?_
      refine e_lv [2, 3, 4, 1, 0] rfl ?_
      refine lb_X4_note_43 C K ht hR (fun s6 h => ?_) h
      refine e_iload_n C 2 (dk dX4_note_0 42 rfl) rfl rfl ?_
      refine e_sipush C 128 (dk dX4_note_0 43 rfl) (by decide) ?_
      refine e_imul C (dk dX4_note_0 44 rfl) ?_
      refine e_iload C 3 (dk dX4_note_0 45 rfl) rfl ?_
      refine e_iadd C (dk dX4_note_0 46 rfl) ?_
      refine e_istore C [(5, .int ((x3 * 128) + s6)), (0, .ref (g_N g + t)), (2, .int x2), (3, .int x3), (4, .int s6)] (dk dX4_note_0 47 rfl) (by decide) rfl ?_
      refine e_aload_n C 1 (dk dX4_note_0 48 rfl) rfl rfl ?_
      refine gf_X4_marks C K ht fl_X4_15 (dk dX4_note_0 49 rfl) ?_
      refine e_iload C 0 (dk dX4_note_0 50 rfl) rfl ?_
      refine e_bipush C 32 (dk dX4_note_0 51 rfl) (by decide) ?_
      refine e_idiv C (dk dX4_note_0 52 rfl) (by decide) ?_
      refine e_aload_n C 1 (dk dX4_note_0 53 rfl) rfl rfl ?_
      refine gf_X4_marks C K ht fl_X4_15 (dk dX4_note_0 54 rfl) ?_
      refine e_iload C 0 (dk dX4_note_0 55 rfl) rfl ?_
      refine e_bipush C 32 (dk dX4_note_0 56 rfl) (by decide) ?_
      refine e_idiv C (dk dX4_note_0 57 rfl) (by decide) ?_
      refine e_callSN C cal_X11_at sm_X11_at mn_X4_39 hR (by decide) (dk dX4_note_0 58 rfl) (c_X11_at K (kd_X4_marks K ht) (rfl : F_X11_at (t + 2) 48 (((x3 * 128) + s6) / 32) M = _)) ⟨Nat.zero_le _, Nat.zero_le _⟩ (Nat.le_of_ble_eq_true rfl) rfl ?_
      refine e_iconst C 1 (dk dX4_note_0 59 rfl) (by decide) ?_
      refine e_iload C 0 (dk dX4_note_1 0 rfl) rfl ?_
      refine e_bipush C 32 (dk dX4_note_1 1 rfl) (by decide) ?_
      refine e_irem C (dk dX4_note_1 2 rfl) (by decide) ?_
      refine e_ishl C (dk dX4_note_1 3 rfl) ?_
      refine e_ior C (dk dX4_note_1 4 rfl) ?_
      refine e_callSN C cal_X11_put sm_X11_put mn_X4_47 hR (by decide) (dk dX4_note_1 5 rfl) (c_X11_put K (kd_X4_marks K ht) (rfl : F_X11_put (t + 2) 48 (((x3 * 128) + s6) / 32) ((F_X11_at (t + 2) 48 (((x3 * 128) + s6) / 32) M) ||| ((1 : Int32) <<< ((irem ((x3 * 128) + s6) 32) &&& 31))) M = _)) ⟨Nat.zero_le _, Nat.zero_le _⟩ (Nat.le_of_ble_eq_true rfl) rfl ?_
      refine e_iinc C [(3, .int (x3 + 1)), (5, .int ((x3 * 128) + s6)), (0, .ref (g_N g + t)), (2, .int x2), (4, .int s6)] 3 1 (dk dX4_note_1 6 rfl) rfl (by decide) (by decide) rfl ?_
      refine e_goto C 31 (dk dX4_note_1 7 rfl) (by decide) ?_
      refine e_lv [2, 3, 0] rfl ?_
      exact ih _ _ _ h hOK
set_option maxRecDepth 20000 in
theorem lb_X4_note_31 {X : FX} {g : WC} {Xo : Nat → va_E} {n : Nat} {kd : Nat → Nat} (C : Cx X g RX4 cX4_note 6) (K : KD n kd) {t : Nat} (ht : kd t = 5) {x2 : Int32} (hR : x_R X = rm 1) {T9 : Type} {f9 : Mem → Option T9} {b9 : T9} (hx : ∀ s, f9 s = some b9 → EW X g (x_s X).heap.size n 6 (ent g Xo kd s) 0 0 124 [] []) {x3 : Int32} {M : Mem} (h : (L_X4_note_31 t x2 FU x3 M).bind f9 = some b9) : EW X g (x_s X).heap.size n 6 (ent g Xo kd M) 0 0 31 [(0, .ref (g_N g + t)), (2, .int x2), (3, .int x3)] [] := by
  obtain ⟨q, hq, h⟩ := ob h
  exact l_X4_note_31 C K ht hR (OK := fun q => f9 q = some b9) hx FU x3 M q hq h
set_option maxRecDepth 20000 in
theorem c_X4_note {g : WC} {Xo : Nat → va_E} {n : Nat} {kd : Nat → Nat} (K : KD n kd) {t : Nat} {p0 : Int32} {p1 : Int32} (ht : kd t = 5) {M : Mem} {res : Mem} (h : F_X4_note t p0 p1 M = some res) : MC g yX4_note cX4_note 6 none 1 n [.ref (g_N g + t), .int p0, .int p1] (ent g Xo kd M) none (ent g Xo kd res) := by
  refine MC_of pn_X4 (Nat.le_of_ble_eq_true rfl) (fun X C B => ?_)
  have hR := B.1
  rw [F_X4_note] at h
  refine e_aload_n C 0 (dk dX4_note_0 0 rfl) rfl rfl ?_
  refine e_aload_n C 0 (dk dX4_note_0 1 rfl) rfl rfl ?_
  refine gf_X4_count C K ht fl_X4_18 (dk dX4_note_0 2 rfl) ?_
  suffices hm2 : EW X g (x_s X).heap.size n 6 (ent g Xo kd M) 0 0 16 [(0, .ref (g_N g + t)), (1, .int p0), (2, .int p1)] [.int (if (M t 2) = 0 then p0 else (M t 3)), .ref (g_N g + t)] from (by
    refine e_if_ne C 12 (dk dX4_note_0 3 rfl) (by decide) (fun c1 => ?_) (fun c1 => ?_)
    · rw [show (if (M t 2) = 0 then p0 else (M t 3)) = (M t 3) from if_neg c1] at hm2
      refine e_aload_n C 0 (dk dX4_note_0 6 rfl) rfl rfl ?_
      refine gf_X4_first C K ht fl_X4_22 (dk dX4_note_0 7 rfl) ?_
      exact hm2
    · rw [show (if (M t 2) = 0 then p0 else (M t 3)) = p0 from if_pos c1] at hm2
      refine e_iload_n C 1 (dk dX4_note_0 4 rfl) rfl rfl ?_
      refine e_goto C 16 (dk dX4_note_0 5 rfl) (by decide) ?_
      exact hm2)
  refine pf_X4_first C K ht fl_X4_22 (dk dX4_note_0 8 rfl) ?_
  refine e_aload_n C 0 (dk dX4_note_0 9 rfl) rfl rfl ?_
  refine e_dup C (dk dX4_note_0 10 rfl) rfl ?_
  refine gf_X4_count C K ht fl_X4_18 (dk dX4_note_0 11 rfl) ?_
  refine e_iconst C 1 (dk dX4_note_0 12 rfl) (by decide) ?_
  refine e_iadd C (dk dX4_note_0 13 rfl) ?_
  refine pf_X4_count C K ht fl_X4_18 (dk dX4_note_0 14 rfl) ?_
  refine e_iconst C 0 (dk dX4_note_0 15 rfl) (by decide) ?_
  refine e_istore_n C [(3, .int 0), (0, .ref (g_N g + t)), (1, .int p0), (2, .int p1)] (dk dX4_note_0 16 rfl) rfl (by decide) rfl ?_
  refine e_lv [1, 3, 0] rfl ?_
  refine lb_X4_note_31 C K ht hR (fun s8 h => ?_) h
  obtain rfl := Option.some.inj h
  exact e_vret C B (dk dX4_note_1 8 rfl)
set_option maxRecDepth 20000 in
theorem l_X5_append_3 {X : FX} {g : WC} {Xo : Nat → va_E} {n : Nat} {kd : Nat → Nat} (C : Cx X g RX5 cX5_append 3) (K : KD n kd) {t : Nat} (ht : kd t = 6) {x1 : Int32} (hR : x_R X = rm 1) {OK : Mem → Prop} (hx : ∀ s, OK s → EW X g (x_s X).heap.size n 3 (ent g Xo kd s) 0 0 41 [] []) : ∀ (N9 : Nat) (x2 : Int32) (M : Mem) (q : Mem), L_X5_append_3 t x1 N9 x2 M = some q → OK q → EW X g (x_s X).heap.size n 3 (ent g Xo kd M) 0 0 3 [(0, .ref (g_N g + t)), (1, .int x1), (2, .int x2)] [] := by
  intro N9
  induction N9 with
  | zero =>
    intro x2 M q h
    rw [L_X5_append_3.eq_1] at h
    cases h
  | succ m9 ih =>
    intro x2 M q h hOK
    rw [L_X5_append_3.eq_2] at h
    refine e_iload_n C 2 (dk dX5_append 2 rfl) rfl rfl ?_
    refine e_if_lt C 41 (dk dX5_append 3 rfl) (by decide) (fun c1 => ?_) (fun c1 => ?_)
    · rw [if_pos c1] at h
      obtain rfl := Option.some.inj h
      refine e_lv [] rfl ?_
      exact hx _ hOK
    · rw [if_neg c1] at h
      refine e_aload_n C 0 (dk dX5_append 4 rfl) rfl rfl ?_
      refine gf_X5_tape C K ht fl_X5_9 (dk dX5_append 5 rfl) ?_
      refine e_aload_n C 0 (dk dX5_append 6 rfl) rfl rfl ?_
      refine gf_X5_taped C K ht fl_X5_15 (dk dX5_append 7 rfl) ?_
      refine e_iload_n C 1 (dk dX5_append 8 rfl) rfl rfl ?_
      refine e_iload_n C 2 (dk dX5_append 9 rfl) rfl rfl ?_
      refine e_ishr C (dk dX5_append 10 rfl) ?_
      refine e_sipush C 255 (dk dX5_append 11 rfl) (by decide) ?_
      refine e_iand C (dk dX5_append 12 rfl) ?_
      refine e_callSN C cal_X11_put sm_X11_put mn_X5_54 hR (by decide) (dk dX5_append 13 rfl) (c_X11_put K (kd_X5_tape K ht) (rfl : F_X11_put (t + 1) 700 (M t 1) ((x1 >>> (x2 &&& 31)) &&& 255) M = _)) ⟨Nat.zero_le _, Nat.zero_le _⟩ (Nat.le_of_ble_eq_true rfl) rfl ?_
      refine e_aload_n C 0 (dk dX5_append 14 rfl) rfl rfl ?_
      refine e_dup C (dk dX5_append 15 rfl) rfl ?_
      refine gf_X5_taped C K ht fl_X5_15 (dk dX5_append 16 rfl) ?_
      refine e_iconst C 1 (dk dX5_append 17 rfl) (by decide) ?_
      refine e_iadd C (dk dX5_append 18 rfl) ?_
      refine pf_X5_taped C K ht fl_X5_15 (dk dX5_append 19 rfl) ?_
      refine e_iinc C [(2, .int (x2 + (-8))), (0, .ref (g_N g + t)), (1, .int x1)] 2 (-8) (dk dX5_append 20 rfl) rfl (by decide) (by decide) rfl ?_
      refine e_goto C 3 (dk dX5_append 21 rfl) (by decide) ?_
      refine e_lv [1, 2, 0] rfl ?_
      exact ih _ _ _ h hOK
set_option maxRecDepth 20000 in
theorem lb_X5_append_3 {X : FX} {g : WC} {Xo : Nat → va_E} {n : Nat} {kd : Nat → Nat} (C : Cx X g RX5 cX5_append 3) (K : KD n kd) {t : Nat} (ht : kd t = 6) {x1 : Int32} (hR : x_R X = rm 1) {T9 : Type} {f9 : Mem → Option T9} {b9 : T9} (hx : ∀ s, f9 s = some b9 → EW X g (x_s X).heap.size n 3 (ent g Xo kd s) 0 0 41 [] []) {x2 : Int32} {M : Mem} (h : (L_X5_append_3 t x1 FU x2 M).bind f9 = some b9) : EW X g (x_s X).heap.size n 3 (ent g Xo kd M) 0 0 3 [(0, .ref (g_N g + t)), (1, .int x1), (2, .int x2)] [] := by
  obtain ⟨q, hq, h⟩ := ob h
  exact l_X5_append_3 C K ht hR (OK := fun q => f9 q = some b9) hx FU x2 M q hq h
set_option maxRecDepth 20000 in
theorem c_X5_append {g : WC} {Xo : Nat → va_E} {n : Nat} {kd : Nat → Nat} (K : KD n kd) {t : Nat} {p0 : Int32} (ht : kd t = 6) {M : Mem} {res : Mem} (h : F_X5_append t p0 M = some res) : MC g yX5_append cX5_append 3 none 1 n [.ref (g_N g + t), .int p0] (ent g Xo kd M) none (ent g Xo kd res) := by
  refine MC_of pn_X5 (Nat.le_of_ble_eq_true rfl) (fun X C B => ?_)
  have hR := B.1
  rw [F_X5_append] at h
  refine e_bipush C 24 (dk dX5_append 0 rfl) (by decide) ?_
  refine e_istore_n C [(2, .int 24), (0, .ref (g_N g + t)), (1, .int p0)] (dk dX5_append 1 rfl) rfl (by decide) rfl ?_
  refine e_lv [1, 2, 0] rfl ?_
  refine lb_X5_append_3 C K ht hR (fun s3 h => ?_) h
  obtain rfl := Option.some.inj h
  exact e_vret C B (dk dX5_append 22 rfl)
set_option maxRecDepth 20000 in
theorem c_X5_exchange {g : WC} {Xo : Nat → va_E} {n : Nat} {kd : Nat → Nat} (K : KD n kd) {t : Nat} {w0 : Nat} (ht : kd t = 6) (hw0 : kd w0 = 10) {M : Mem} {res : Nat × Mem} (h : F_X5_exchange t w0 M = some res) : MC g yX5_exchange cX5_exchange 3 (some (.object "WatchLots$Ward")) 0 n [.ref (g_N g + t), .ref (g_N g + w0)] (ent g Xo kd M) (some (.ref (g_N g + res.1))) (ent g Xo kd res.2) := by
  refine MC_of pn_X5 (Nat.le_of_ble_eq_true rfl) (fun X C B => ?_)
  have hR := B.1
  rw [F_X5_exchange] at h
  refine e_aload_n C 0 (dk dX5_exchange 0 rfl) rfl rfl ?_
  obtain ⟨w1, hw1, h⟩ := ob h
  have gw1 := grd_some K (Or.inr ht) hw1
  refine gf_X5_draft C K ht fl_X5_22 (dk dX5_exchange 1 rfl) ?_
  rw [gw1.1]
  refine e_astore_n C [(2, .ref (g_N g + w1)), (0, .ref (g_N g + t)), (1, .ref (g_N g + w0))] (dk dX5_exchange 2 rfl) rfl (by decide) rfl ?_
  refine e_aload_n C 1 (dk dX5_exchange 3 rfl) rfl rfl ?_
  refine e_aload_n C 2 (dk dX5_exchange 4 rfl) rfl rfl ?_
  refine pf_X5_draft C K ht hw0 fl_X5_22 (dk dX5_exchange 5 rfl) ?_
  refine e_aload_n C 0 (dk dX5_exchange 6 rfl) rfl rfl ?_
  obtain rfl := Option.some.inj h
  exact e_aret C B (dk dX5_exchange 7 rfl)
set_option maxRecDepth 20000 in
theorem c_X5_isBlank {g : WC} {Xo : Nat → va_E} {n : Nat} {kd : Nat → Nat} (K : KD n kd) {p0 : Int32} {M : Mem} {res : Bool} (h : F_X5_isBlank p0 = res) : MC g yX5_isBlank cX5_isBlank 1 (some .boolean) 0 n [.int p0] (ent g Xo kd M) (some (.int (bi res))) (ent g Xo kd M) := by
  refine MC_of pn_X5 (Nat.le_of_ble_eq_true rfl) (fun X C B => ?_)
  have hR := B.1
  rw [F_X5_isBlank] at h
  refine e_iload_n C 0 (dk dX5_isBlank 0 rfl) rfl rfl ?_
  refine e_bipush C 32 (dk dX5_isBlank 1 rfl) (by decide) ?_
  refine e_icmp_eq C 12 (dk dX5_isBlank 2 rfl) (by decide) (fun c1 => ?_) (fun c1 => ?_)
  · rw [if_pos c1] at h
    refine e_iconst C 1 (dk dX5_isBlank 6 rfl) (by decide) ?_
    refine e_goto C 17 (dk dX5_isBlank 7 rfl) (by decide) ?_
    subst h
    exact e_iret (v := bi true) C B (nar_bi _) (dk dX5_isBlank 9 rfl)
  · rw [if_neg c1] at h
    refine e_iload_n C 0 (dk dX5_isBlank 3 rfl) rfl rfl ?_
    refine e_bipush C 10 (dk dX5_isBlank 4 rfl) (by decide) ?_
    refine e_icmp_ne C 16 (dk dX5_isBlank 5 rfl) (by decide) (fun c2 => ?_) (fun c2 => ?_)
    · rw [if_neg c2] at h
      refine e_iconst C 0 (dk dX5_isBlank 8 rfl) (by decide) ?_
      subst h
      exact e_iret (v := bi false) C B (nar_bi _) (dk dX5_isBlank 9 rfl)
    · rw [if_pos c2] at h
      refine e_iconst C 1 (dk dX5_isBlank 6 rfl) (by decide) ?_
      refine e_goto C 17 (dk dX5_isBlank 7 rfl) (by decide) ?_
      subst h
      exact e_iret (v := bi true) C B (nar_bi _) (dk dX5_isBlank 9 rfl)
set_option maxRecDepth 20000 in
theorem c_X5_isLetter {g : WC} {Xo : Nat → va_E} {n : Nat} {kd : Nat → Nat} (K : KD n kd) {p0 : Int32} {M : Mem} {res : Bool} (h : F_X5_isLetter p0 = res) : MC g yX5_isLetter cX5_isLetter 1 (some .boolean) 0 n [.int p0] (ent g Xo kd M) (some (.int (bi res))) (ent g Xo kd M) := by
  refine MC_of pn_X5 (Nat.le_of_ble_eq_true rfl) (fun X C B => ?_)
  have hR := B.1
  rw [F_X5_isLetter] at h
  refine e_iload_n C 0 (dk dX5_isLetter 0 rfl) rfl rfl ?_
  refine e_bipush C 97 (dk dX5_isLetter 1 rfl) (by decide) ?_
  refine e_icmp_lt C 16 (dk dX5_isLetter 2 rfl) (by decide) (fun c1 => ?_) (fun c1 => ?_)
  · rw [if_pos c1] at h
    refine e_iconst C 0 (dk dX5_isLetter 8 rfl) (by decide) ?_
    subst h
    exact e_iret (v := bi false) C B (nar_bi _) (dk dX5_isLetter 9 rfl)
  · rw [if_neg c1] at h
    refine e_iload_n C 0 (dk dX5_isLetter 3 rfl) rfl rfl ?_
    refine e_bipush C 122 (dk dX5_isLetter 4 rfl) (by decide) ?_
    refine e_icmp_gt C 16 (dk dX5_isLetter 5 rfl) (by decide) (fun c2 => ?_) (fun c2 => ?_)
    · rw [if_pos c2] at h
      refine e_iconst C 0 (dk dX5_isLetter 8 rfl) (by decide) ?_
      subst h
      exact e_iret (v := bi false) C B (nar_bi _) (dk dX5_isLetter 9 rfl)
    · rw [if_neg c2] at h
      refine e_iconst C 1 (dk dX5_isLetter 6 rfl) (by decide) ?_
      refine e_goto C 17 (dk dX5_isLetter 7 rfl) (by decide) ?_
      subst h
      exact e_iret (v := bi true) C B (nar_bi _) (dk dX5_isLetter 9 rfl)
set_option maxRecDepth 20000 in
theorem c_X5_isDigit {g : WC} {Xo : Nat → va_E} {n : Nat} {kd : Nat → Nat} (K : KD n kd) {p0 : Int32} {M : Mem} {res : Bool} (h : F_X5_isDigit p0 = res) : MC g yX5_isDigit cX5_isDigit 1 (some .boolean) 0 n [.int p0] (ent g Xo kd M) (some (.int (bi res))) (ent g Xo kd M) := by
  refine MC_of pn_X5 (Nat.le_of_ble_eq_true rfl) (fun X C B => ?_)
  have hR := B.1
  rw [F_X5_isDigit] at h
  refine e_iload_n C 0 (dk dX5_isDigit 0 rfl) rfl rfl ?_
  refine e_bipush C 48 (dk dX5_isDigit 1 rfl) (by decide) ?_
  refine e_icmp_lt C 16 (dk dX5_isDigit 2 rfl) (by decide) (fun c1 => ?_) (fun c1 => ?_)
  · rw [if_pos c1] at h
    refine e_iconst C 0 (dk dX5_isDigit 8 rfl) (by decide) ?_
    subst h
    exact e_iret (v := bi false) C B (nar_bi _) (dk dX5_isDigit 9 rfl)
  · rw [if_neg c1] at h
    refine e_iload_n C 0 (dk dX5_isDigit 3 rfl) rfl rfl ?_
    refine e_bipush C 57 (dk dX5_isDigit 4 rfl) (by decide) ?_
    refine e_icmp_gt C 16 (dk dX5_isDigit 5 rfl) (by decide) (fun c2 => ?_) (fun c2 => ?_)
    · rw [if_pos c2] at h
      refine e_iconst C 0 (dk dX5_isDigit 8 rfl) (by decide) ?_
      subst h
      exact e_iret (v := bi false) C B (nar_bi _) (dk dX5_isDigit 9 rfl)
    · rw [if_neg c2] at h
      refine e_iconst C 1 (dk dX5_isDigit 6 rfl) (by decide) ?_
      refine e_goto C 17 (dk dX5_isDigit 7 rfl) (by decide) ?_
      subst h
      exact e_iret (v := bi true) C B (nar_bi _) (dk dX5_isDigit 9 rfl)
set_option maxRecDepth 20000 in
theorem j_X5_isSign_j12 {X : FX} {g : WC} {Xo : Nat → va_E} {n : Nat} {kd : Nat → Nat} (C : Cx X g RX5 cX5_isSign 1) (K : KD n kd) (hR : x_R X = rm 0) {x0 : Int32} {M : Mem} {res : Bool} (h : J_X5_isSign_j12 x0 M = res) (B : Bx X g (some .boolean) 0 n (some (.int (bi res))) (ent g Xo kd M)) : EW X g (x_s X).heap.size n 1 (ent g Xo kd M) 0 0 12 [(0, .int x0)] [] := by
  rw [J_X5_isSign_j12] at h
  refine e_iload_n C 0 (dk dX5_isSign 6 rfl) rfl rfl ?_
  refine e_bipush C 45 (dk dX5_isSign 7 rfl) (by decide) ?_
  refine e_icmp_eq C 36 (dk dX5_isSign 8 rfl) (by decide) (fun c2 => ?_) (fun c2 => ?_)
  · rw [if_pos c2] at h
    refine e_iconst C 1 (dk dX5_isSign 18 rfl) (by decide) ?_
    refine e_goto C 41 (dk dX5_isSign 19 rfl) (by decide) ?_
    subst h
    exact e_iret (v := bi true) C B (nar_bi _) (dk dX5_isSign 21 rfl)
  · rw [if_neg c2] at h
    refine e_iload_n C 0 (dk dX5_isSign 9 rfl) rfl rfl ?_
    refine e_bipush C 47 (dk dX5_isSign 10 rfl) (by decide) ?_
    refine e_icmp_eq C 36 (dk dX5_isSign 11 rfl) (by decide) (fun c3 => ?_) (fun c3 => ?_)
    · rw [if_pos c3] at h
      refine e_iconst C 1 (dk dX5_isSign 18 rfl) (by decide) ?_
      refine e_goto C 41 (dk dX5_isSign 19 rfl) (by decide) ?_
      subst h
      exact e_iret (v := bi true) C B (nar_bi _) (dk dX5_isSign 21 rfl)
    · rw [if_neg c3] at h
      refine e_iload_n C 0 (dk dX5_isSign 12 rfl) rfl rfl ?_
      refine e_bipush C 59 (dk dX5_isSign 13 rfl) (by decide) ?_
      refine e_icmp_lt C 40 (dk dX5_isSign 14 rfl) (by decide) (fun c4 => ?_) (fun c4 => ?_)
      · rw [if_pos c4] at h
        refine e_iconst C 0 (dk dX5_isSign 20 rfl) (by decide) ?_
        subst h
        exact e_iret (v := bi false) C B (nar_bi _) (dk dX5_isSign 21 rfl)
      · rw [if_neg c4] at h
        refine e_iload_n C 0 (dk dX5_isSign 15 rfl) rfl rfl ?_
        refine e_bipush C 61 (dk dX5_isSign 16 rfl) (by decide) ?_
        refine e_icmp_gt C 40 (dk dX5_isSign 17 rfl) (by decide) (fun c5 => ?_) (fun c5 => ?_)
        · rw [if_pos c5] at h
          refine e_iconst C 0 (dk dX5_isSign 20 rfl) (by decide) ?_
          subst h
          exact e_iret (v := bi false) C B (nar_bi _) (dk dX5_isSign 21 rfl)
        · rw [if_neg c5] at h
          refine e_iconst C 1 (dk dX5_isSign 18 rfl) (by decide) ?_
          refine e_goto C 41 (dk dX5_isSign 19 rfl) (by decide) ?_
          subst h
          exact e_iret (v := bi true) C B (nar_bi _) (dk dX5_isSign 21 rfl)
set_option maxRecDepth 20000 in
theorem c_X5_isSign {g : WC} {Xo : Nat → va_E} {n : Nat} {kd : Nat → Nat} (K : KD n kd) {p0 : Int32} {M : Mem} {res : Bool} (h : F_X5_isSign p0 M = res) : MC g yX5_isSign cX5_isSign 1 (some .boolean) 0 n [.int p0] (ent g Xo kd M) (some (.int (bi res))) (ent g Xo kd M) := by
  refine MC_of pn_X5 (Nat.le_of_ble_eq_true rfl) (fun X C B => ?_)
  have hR := B.1
  rw [F_X5_isSign] at h
  refine e_iload_n C 0 (dk dX5_isSign 0 rfl) rfl rfl ?_
  refine e_bipush C 40 (dk dX5_isSign 1 rfl) (by decide) ?_
  refine e_icmp_lt C 12 (dk dX5_isSign 2 rfl) (by decide) (fun c1 => ?_) (fun c1 => ?_)
  · rw [if_pos c1] at h
    exact j_X5_isSign_j12 C K hR h B
  · rw [if_neg c1] at h
    refine e_iload_n C 0 (dk dX5_isSign 3 rfl) rfl rfl ?_
    refine e_bipush C 43 (dk dX5_isSign 4 rfl) (by decide) ?_
    refine e_icmp_le C 36 (dk dX5_isSign 5 rfl) (by decide) (fun c6 => ?_) (fun c6 => ?_)
    · rw [if_pos c6] at h
      refine e_iconst C 1 (dk dX5_isSign 18 rfl) (by decide) ?_
      refine e_goto C 41 (dk dX5_isSign 19 rfl) (by decide) ?_
      subst h
      exact e_iret (v := bi true) C B (nar_bi _) (dk dX5_isSign 21 rfl)
    · rw [if_neg c6] at h
      exact j_X5_isSign_j12 C K hR h B
set_option maxRecDepth 20000 in
theorem l_X5_isWord_28 {X : FX} {g : WC} {Xo : Nat → va_E} {n : Nat} {kd : Nat → Nat} (C : Cx X g RX5 cX5_isWord 3) (K : KD n kd) {t : Nat} {u0 : Nat} (ht : kd t = 6) (hu0 : u0 < 38) {M : Mem} (hR : x_R X = rm 4) {OK : Sum (Bool) (Unit) → Prop} (hB : ∀ v, OK (Sum.inl v) → Bx X g (some .boolean) 4 n (some (.int (bi v))) (ent g Xo kd M)) (hx : ∀ s, OK (Sum.inr s) → EW X g (x_s X).heap.size n 3 (ent g Xo kd M) 0 0 65 [] []) : ∀ (N9 : Nat) (x2 : Int32) (q : Sum (Bool) (Unit)), L_X5_isWord_28 t u0 M N9 x2 = some q → OK q → EW X g (x_s X).heap.size n 3 (ent g Xo kd M) 0 0 28 [(0, .ref (g_N g + t)), (1, .ref (g_sa g u0)), (2, .int x2)] [] := by
  intro N9
  induction N9 with
  | zero =>
    intro x2 q h
    rw [L_X5_isWord_28.eq_1] at h
    cases h
  | succ m9 ih =>
    intro x2 q h hOK
    rw [L_X5_isWord_28.eq_2] at h
    refine e_iload_n C 2 (dk dX5_isWord 16 rfl) rfl rfl ?_
    refine e_aload_n C 1 (dk dX5_isWord 17 rfl) rfl rfl ?_
    refine e_callT (as := []) hu0 C cal_J0_length_8abf5 im_J0_length_8abf5 se_J0_length_8abf5 ml_X5_88 hR (by decide) (dk dX5_isWord 18 rfl) (c_slen K hu0 (rfl : F_slen u0 = _)) ⟨Nat.zero_le _, Nat.zero_le _⟩ (Nat.le_of_ble_eq_true rfl) rfl ?_
    refine e_icmp_ge C 65 (dk dX5_isWord 19 rfl) (by decide) (fun c3 => ?_) (fun c3 => ?_)
    · rw [if_pos c3] at h
      obtain rfl := Option.some.inj h
      refine e_lv [] rfl ?_
      exact hx _ hOK
    · rw [if_neg c3] at h
      refine e_aload_n C 0 (dk dX5_isWord 20 rfl) rfl rfl ?_
      refine gf_X5_tape C K ht fl_X5_9 (dk dX5_isWord 21 rfl) ?_
      refine e_aload_n C 0 (dk dX5_isWord 22 rfl) rfl rfl ?_
      refine gf_X5_start C K ht fl_X5_29 (dk dX5_isWord 23 rfl) ?_
      refine e_iload_n C 2 (dk dX5_isWord 24 rfl) rfl rfl ?_
      refine e_iadd C (dk dX5_isWord 25 rfl) ?_
      refine e_callSN C cal_X11_at sm_X11_at mn_X5_68 hR (by decide) (dk dX5_isWord 26 rfl) (c_X11_at K (kd_X5_tape K ht) (rfl : F_X11_at (t + 1) 700 ((M t 4) + x2) M = _)) ⟨Nat.zero_le _, Nat.zero_le _⟩ (Nat.le_of_ble_eq_true rfl) rfl ?_
      refine e_aload_n C 1 (dk dX5_isWord 27 rfl) rfl rfl ?_
      refine e_iload_n C 2 (dk dX5_isWord 28 rfl) rfl rfl ?_
      obtain ⟨v4, hv4, h⟩ := ob h
      refine e_callT (as := [.int x2]) hu0 C cal_J0_charAt_5068e im_J0_charAt_5068e se_J0_charAt_5068e ml_X5_94 hR (by decide) (dk dX5_isWord 29 rfl) (c_schar K hu0 hv4) ⟨Nat.zero_le _, Nat.zero_le _⟩ (Nat.le_of_ble_eq_true rfl) rfl ?_
      refine e_icmp_eq C 59 (dk dX5_isWord 30 rfl) (by decide) (fun c5 => ?_) (fun c5 => ?_)
      · rw [if_pos c5] at h
        refine e_iinc C [(2, .int (x2 + 1)), (0, .ref (g_N g + t)), (1, .ref (g_sa g u0))] 2 1 (dk dX5_isWord 33 rfl) rfl (by decide) (by decide) rfl ?_
        refine e_goto C 28 (dk dX5_isWord 34 rfl) (by decide) ?_
        refine e_lv [1, 2, 0] rfl ?_
        exact ih _ _ h hOK
      · rw [if_neg c5] at h
        refine e_iconst C 0 (dk dX5_isWord 31 rfl) (by decide) ?_
        obtain rfl := Option.some.inj h
        exact e_iret (v := bi false) C (hB _ hOK) (nar_bi _) (dk dX5_isWord 32 rfl)
set_option maxRecDepth 20000 in
theorem lb_X5_isWord_28 {X : FX} {g : WC} {Xo : Nat → va_E} {n : Nat} {kd : Nat → Nat} (C : Cx X g RX5 cX5_isWord 3) (K : KD n kd) {t : Nat} {u0 : Nat} (ht : kd t = 6) (hu0 : u0 < 38) {M : Mem} (hR : x_R X = rm 4) {T9 : Type} {f9 : Sum (Bool) (Unit) → Option T9} {b9 : T9} (hB : ∀ v, f9 (Sum.inl v) = some b9 → Bx X g (some .boolean) 4 n (some (.int (bi v))) (ent g Xo kd M)) (hx : ∀ s, f9 (Sum.inr s) = some b9 → EW X g (x_s X).heap.size n 3 (ent g Xo kd M) 0 0 65 [] []) {x2 : Int32} (h : (L_X5_isWord_28 t u0 M FU x2).bind f9 = some b9) : EW X g (x_s X).heap.size n 3 (ent g Xo kd M) 0 0 28 [(0, .ref (g_N g + t)), (1, .ref (g_sa g u0)), (2, .int x2)] [] := by
  obtain ⟨q, hq, h⟩ := ob h
  exact l_X5_isWord_28 C K ht hu0 hR (OK := fun q => f9 q = some b9) hB hx FU x2 q hq h
set_option maxRecDepth 20000 in
theorem c_X5_isWord {g : WC} {Xo : Nat → va_E} {n : Nat} {kd : Nat → Nat} (K : KD n kd) {t : Nat} {u0 : Nat} (ht : kd t = 6) (hu0 : u0 < 38) {M : Mem} {res : Bool} (h : F_X5_isWord t u0 M = some res) : MC g yX5_isWord cX5_isWord 3 (some .boolean) 4 n [.ref (g_N g + t), .ref (g_sa g u0)] (ent g Xo kd M) (some (.int (bi res))) (ent g Xo kd M) := by
  refine MC_of pn_X5 (Nat.le_of_ble_eq_true rfl) (fun X C B => ?_)
  have hR := B.1
  rw [F_X5_isWord] at h
  refine e_aload_n C 0 (dk dX5_isWord 0 rfl) rfl rfl ?_
  refine gf_X5_kind C K ht fl_X5_35 (dk dX5_isWord 1 rfl) ?_
  refine e_iconst C 1 (dk dX5_isWord 2 rfl) (by decide) ?_
  refine e_icmp_ne C 24 (dk dX5_isWord 3 rfl) (by decide) (fun c1 => ?_) (fun c1 => ?_)
  · rw [if_neg c1] at h
    refine e_iconst C 0 (dk dX5_isWord 12 rfl) (by decide) ?_
    obtain rfl := Option.some.inj h
    exact e_iret (v := bi false) C B (nar_bi _) (dk dX5_isWord 13 rfl)
  · rw [if_pos c1] at h
    refine e_aload_n C 0 (dk dX5_isWord 4 rfl) rfl rfl ?_
    refine gf_X5_next C K ht fl_X5_32 (dk dX5_isWord 5 rfl) ?_
    refine e_aload_n C 0 (dk dX5_isWord 6 rfl) rfl rfl ?_
    refine gf_X5_start C K ht fl_X5_29 (dk dX5_isWord 7 rfl) ?_
    refine e_isub C (dk dX5_isWord 8 rfl) ?_
    refine e_aload_n C 1 (dk dX5_isWord 9 rfl) rfl rfl ?_
    refine e_callT (as := []) hu0 C cal_J0_length_8abf5 im_J0_length_8abf5 se_J0_length_8abf5 ml_X5_88 hR (by decide) (dk dX5_isWord 10 rfl) (c_slen K hu0 (rfl : F_slen u0 = _)) ⟨Nat.zero_le _, Nat.zero_le _⟩ (Nat.le_of_ble_eq_true rfl) rfl ?_
    refine e_icmp_eq C 26 (dk dX5_isWord 11 rfl) (by decide) (fun c2 => ?_) (fun c2 => ?_)
    · rw [if_pos c2] at h
      refine e_iconst C 0 (dk dX5_isWord 14 rfl) (by decide) ?_
      refine e_istore_n C [(2, .int 0), (0, .ref (g_N g + t)), (1, .ref (g_sa g u0))] (dk dX5_isWord 15 rfl) rfl (by decide) rfl ?_
      refine e_lv [1, 2, 0] rfl ?_
      refine lb_X5_isWord_28 C K ht hu0 hR (fun v h => ?_) (fun s7 h => ?_) h
      · obtain rfl := Option.some.inj (show some v = some _ from h)
        exact B
      dsimp only [Sum.elim_inr] at h
      refine e_iconst C 1 (dk dX5_isWord 35 rfl) (by decide) ?_
      obtain rfl := Option.some.inj h
      exact e_iret (v := bi true) C B (nar_bi _) (dk dX5_isWord 36 rfl)
    · rw [if_neg c2] at h
      refine e_iconst C 0 (dk dX5_isWord 12 rfl) (by decide) ?_
      obtain rfl := Option.some.inj h
      exact e_iret (v := bi false) C B (nar_bi _) (dk dX5_isWord 13 rfl)
set_option maxRecDepth 20000 in
theorem c_X5_refuse {g : WC} {Xo : Nat → va_E} {n : Nat} {kd : Nat → Nat} (K : KD n kd) {t : Nat} {p0 : Int32} (ht : kd t = 6) {M : Mem} {res : Bool × Mem} (h : F_X5_refuse t p0 M = res) : MC g yX5_refuse cX5_refuse 2 (some .boolean) 0 n [.ref (g_N g + t), .int p0] (ent g Xo kd M) (some (.int (bi res.1))) (ent g Xo kd res.2) := by
  refine MC_of pn_X5 (Nat.le_of_ble_eq_true rfl) (fun X C B => ?_)
  have hR := B.1
  rw [F_X5_refuse] at h
  refine e_aload_n C 0 (dk dX5_refuse 0 rfl) rfl rfl ?_
  refine e_iload_n C 1 (dk dX5_refuse 1 rfl) rfl rfl ?_
  refine pf_X5_found C K ht fl_X5_41 (dk dX5_refuse 2 rfl) ?_
  refine e_iconst C 0 (dk dX5_refuse 3 rfl) (by decide) ?_
  subst h
  exact e_iret (v := bi false) C B (nar_bi _) (dk dX5_refuse 4 rfl)
set_option maxRecDepth 20000 in
theorem j_X5_number_j43 {X : FX} {g : WC} {Xo : Nat → va_E} {n : Nat} {kd : Nat → Nat} (C : Cx X g RX5 cX5_number 3) (K : KD n kd) {t : Nat} (ht : kd t = 6) (hR : x_R X = rm 1) {M : Mem} {res : Bool × Mem} (h : J_X5_number_j43 t M = res) (B : Bx X g (some .boolean) 1 n (some (.int (bi res.1))) (ent g Xo kd res.2)) : EW X g (x_s X).heap.size n 3 (ent g Xo kd M) 0 0 43 [(0, .ref (g_N g + t))] [] := by
  rw [J_X5_number_j43] at h
  refine e_aload_n C 0 (dk dX5_number 23 rfl) rfl rfl ?_
  refine e_iconst C 2 (dk dX5_number 24 rfl) (by decide) ?_
  refine e_callV (ci := 5) C cal_X5_refuse im_X5_refuse se_X5_refuse ml_X5_98 rfl hR (by decide) (dk dX5_number 25 rfl) (K.1 _ (by rw [ht]; decide)) (ent_o5 ht) (c_X5_refuse K ht (rfl : F_X5_refuse t 2 M = _)) ⟨Nat.zero_le _, Nat.zero_le _⟩ (Nat.le_of_ble_eq_true rfl) rfl ?_
  subst h
  exact e_iret (v := bi ((F_X5_refuse t 2 M).1)) C B (nar_bi _) (dk dX5_number 26 rfl)
set_option maxRecDepth 20000 in
theorem c_X5_number {g : WC} {Xo : Nat → va_E} {n : Nat} {kd : Nat → Nat} (K : KD n kd) {t : Nat} {p0 : Int32} {p1 : Int32} (ht : kd t = 6) {M : Mem} {res : Bool × Mem} (h : F_X5_number t p0 p1 M = res) : MC g yX5_number cX5_number 3 (some .boolean) 1 n [.ref (g_N g + t), .int p0, .int p1] (ent g Xo kd M) (some (.int (bi res.1))) (ent g Xo kd res.2) := by
  refine MC_of pn_X5 (Nat.le_of_ble_eq_true rfl) (fun X C B => ?_)
  have hR := B.1
  rw [F_X5_number] at h
  refine e_aload_n C 0 (dk dX5_number 0 rfl) rfl rfl ?_
  refine gf_X5_kind C K ht fl_X5_35 (dk dX5_number 1 rfl) ?_
  refine e_iconst C 2 (dk dX5_number 2 rfl) (by decide) ?_
  refine e_icmp_eq C 14 (dk dX5_number 3 rfl) (by decide) (fun c1 => ?_) (fun c1 => ?_)
  · rw [if_pos c1] at h
    refine e_aload_n C 0 (dk dX5_number 8 rfl) rfl rfl ?_
    refine gf_X5_next C K ht fl_X5_32 (dk dX5_number 9 rfl) ?_
    refine e_aload_n C 0 (dk dX5_number 10 rfl) rfl rfl ?_
    refine gf_X5_start C K ht fl_X5_29 (dk dX5_number 11 rfl) ?_
    refine e_isub C (dk dX5_number 12 rfl) ?_
    refine e_iconst C 4 (dk dX5_number 13 rfl) (by decide) ?_
    refine e_icmp_gt C 43 (dk dX5_number 14 rfl) (by decide) (fun c2 => ?_) (fun c2 => ?_)
    · rw [if_pos c2] at h
      refine e_lv [0] rfl ?_
      exact j_X5_number_j43 C K ht hR h B
    · rw [if_neg c2] at h
      refine e_aload_n C 0 (dk dX5_number 15 rfl) rfl rfl ?_
      refine gf_X5_value C K ht fl_X5_38 (dk dX5_number 16 rfl) ?_
      refine e_iload_n C 1 (dk dX5_number 17 rfl) rfl rfl ?_
      refine e_icmp_lt C 43 (dk dX5_number 18 rfl) (by decide) (fun c3 => ?_) (fun c3 => ?_)
      · rw [if_pos c3] at h
        refine e_lv [0] rfl ?_
        exact j_X5_number_j43 C K ht hR h B
      · rw [if_neg c3] at h
        refine e_aload_n C 0 (dk dX5_number 19 rfl) rfl rfl ?_
        refine gf_X5_value C K ht fl_X5_38 (dk dX5_number 20 rfl) ?_
        refine e_iload_n C 2 (dk dX5_number 21 rfl) rfl rfl ?_
        refine e_icmp_le C 49 (dk dX5_number 22 rfl) (by decide) (fun c4 => ?_) (fun c4 => ?_)
        · rw [if_pos c4] at h
          refine e_iconst C 1 (dk dX5_number 27 rfl) (by decide) ?_
          subst h
          exact e_iret (v := bi true) C B (nar_bi _) (dk dX5_number 28 rfl)
        · rw [if_neg c4] at h
          refine e_lv [0] rfl ?_
          exact j_X5_number_j43 C K ht hR h B
  · rw [if_neg c1] at h
    refine e_aload_n C 0 (dk dX5_number 4 rfl) rfl rfl ?_
    refine e_iconst C 1 (dk dX5_number 5 rfl) (by decide) ?_
    refine e_callV (ci := 5) C cal_X5_refuse im_X5_refuse se_X5_refuse ml_X5_98 rfl hR (by decide) (dk dX5_number 6 rfl) (K.1 _ (by rw [ht]; decide)) (ent_o5 ht) (c_X5_refuse K ht (rfl : F_X5_refuse t 1 M = _)) ⟨Nat.zero_le _, Nat.zero_le _⟩ (Nat.le_of_ble_eq_true rfl) rfl ?_
    subst h
    exact e_iret (v := bi ((F_X5_refuse t 1 M).1)) C B (nar_bi _) (dk dX5_number 7 rfl)
set_option maxRecDepth 20000 in
theorem c_X5_street {g : WC} {Xo : Nat → va_E} {n : Nat} {kd : Nat → Nat} (K : KD n kd) {t : Nat} (ht : kd t = 6) {M : Mem} {res : Bool × Mem} (h : F_X5_street t M = some res) : MC g yX5_street cX5_street 1 (some .boolean) 2 n [.ref (g_N g + t)] (ent g Xo kd M) (some (.int (bi res.1))) (ent g Xo kd res.2) := by
  refine MC_of pn_X5 (Nat.le_of_ble_eq_true rfl) (fun X C B => ?_)
  have hR := B.1
  rw [F_X5_street] at h
  refine e_aload_n C 0 (dk dX5_street 0 rfl) rfl rfl ?_
  refine e_iconst C 0 (dk dX5_street 1 rfl) (by decide) ?_
  refine e_sipush C 9999 (dk dX5_street 2 rfl) (by decide) ?_
  refine e_callV (ci := 5) C cal_X5_number im_X5_number se_X5_number ml_X5_101 rfl hR (by decide) (dk dX5_street 3 rfl) (K.1 _ (by rw [ht]; decide)) (ent_o5 ht) (c_X5_number K ht (rfl : F_X5_number t 0 9999 M = _)) ⟨Nat.zero_le _, Nat.zero_le _⟩ (Nat.le_of_ble_eq_true rfl) rfl ?_
  refine e_if_ne C 13 (dk dX5_street 4 rfl) (by decide) (fun c1 => ?_) (fun c1 => ?_)
  · rw [if_neg c1] at h
    refine e_aload_n C 0 (dk dX5_street 7 rfl) rfl rfl ?_
    refine e_iconst C 1 (dk dX5_street 8 rfl) (by decide) ?_
    refine pf_X5_hasStreet (b := true) C K ht fl_X5_47 (dk dX5_street 9 rfl) ?_
    refine e_aload_n C 0 (dk dX5_street 10 rfl) rfl rfl ?_
    refine gf_X5_value C K ht fl_X5_38 (dk dX5_street 11 rfl) ?_
    refine e_aload_n C 0 (dk dX5_street 12 rfl) rfl rfl ?_
    obtain ⟨w2, hw2, h⟩ := ob h
    have gw2 := grd_some K (Or.inr ht) hw2
    refine gf_X5_draft C K ht fl_X5_22 (dk dX5_street 13 rfl) ?_
    rw [gw2.1]
    refine gf_X9_streets C K gw2.2 fl_X5_105 (dk dX5_street 14 rfl) ?_
    refine e_icmp_lt C 40 (dk dX5_street 15 rfl) (by decide) (fun c3 => ?_) (fun c3 => ?_)
    · rw [if_pos c3] at h
      refine e_iconst C 1 (dk dX5_street 20 rfl) (by decide) ?_
      refine e_goto C 45 (dk dX5_street 21 rfl) (by decide) ?_
      obtain rfl := Option.some.inj h
      exact e_iret (v := bi true) C B (nar_bi _) (dk dX5_street 23 rfl)
    · rw [if_neg c3] at h
      refine e_aload_n C 0 (dk dX5_street 16 rfl) rfl rfl ?_
      refine e_iconst C 3 (dk dX5_street 17 rfl) (by decide) ?_
      refine e_callV (ci := 5) C cal_X5_refuse im_X5_refuse se_X5_refuse ml_X5_98 rfl hR (by decide) (dk dX5_street 18 rfl) (K.1 _ (by rw [ht]; decide)) (ent_o5 ht) (c_X5_refuse K ht (rfl : F_X5_refuse t 3 (up (F_X5_number t 0 9999 M).2 t 10 (bi true)) = _)) ⟨Nat.zero_le _, Nat.zero_le _⟩ (Nat.le_of_ble_eq_true rfl) rfl ?_
      refine e_if_eq C 44 (dk dX5_street 19 rfl) (by decide) (fun c4 => ?_) (fun c4 => ?_)
      · rw [if_pos c4] at h
        refine e_iconst C 0 (dk dX5_street 22 rfl) (by decide) ?_
        obtain rfl := Option.some.inj h
        exact e_iret (v := bi false) C B (nar_bi _) (dk dX5_street 23 rfl)
      · rw [if_neg c4] at h
        refine e_iconst C 1 (dk dX5_street 20 rfl) (by decide) ?_
        refine e_goto C 45 (dk dX5_street 21 rfl) (by decide) ?_
        obtain rfl := Option.some.inj h
        exact e_iret (v := bi true) C B (nar_bi _) (dk dX5_street 23 rfl)
  · rw [if_pos c1] at h
    refine e_iconst C 0 (dk dX5_street 5 rfl) (by decide) ?_
    obtain rfl := Option.some.inj h
    exact e_iret (v := bi false) C B (nar_bi _) (dk dX5_street 6 rfl)
set_option maxRecDepth 20000 in
theorem c_X5_valueHere {g : WC} {Xo : Nat → va_E} {n : Nat} {kd : Nat → Nat} (K : KD n kd) {t : Nat} (ht : kd t = 6) {M : Mem} {res : Int32} (h : F_X5_valueHere t M = some res) : MC g yX5_valueHere cX5_valueHere 1 (some .int) 5 n [.ref (g_N g + t)] (ent g Xo kd M) (some (.int res)) (ent g Xo kd M) := by
  refine MC_of pn_X5 (Nat.le_of_ble_eq_true rfl) (fun X C B => ?_)
  have hR := B.1
  rw [F_X5_valueHere] at h
  refine e_aload_n C 0 (dk dX5_valueHere 0 rfl) rfl rfl ?_
  refine e_ldcS C sr_X5_235 (dk dX5_valueHere 1 rfl) ?_
  obtain ⟨q1, hq1, h⟩ := ob h
  refine e_callV (ci := 5) C cal_X5_isWord im_X5_isWord se_X5_isWord ml_X5_112 rfl hR (by decide) (dk dX5_valueHere 2 rfl) (K.1 _ (by rw [ht]; decide)) (ent_o5 ht) (c_X5_isWord K ht (by decide) hq1) ⟨Nat.zero_le _, Nat.zero_le _⟩ (Nat.le_of_ble_eq_true rfl) rfl ?_
  refine e_if_eq C 11 (dk dX5_valueHere 3 rfl) (by decide) (fun c2 => ?_) (fun c2 => ?_)
  · rw [if_pos c2] at h
    refine e_aload_n C 0 (dk dX5_valueHere 6 rfl) rfl rfl ?_
    refine e_ldcS C sr_X5_237 (dk dX5_valueHere 7 rfl) ?_
    obtain ⟨q3, hq3, h⟩ := ob h
    refine e_callV (ci := 5) C cal_X5_isWord im_X5_isWord se_X5_isWord ml_X5_112 rfl hR (by decide) (dk dX5_valueHere 8 rfl) (K.1 _ (by rw [ht]; decide)) (ent_o5 ht) (c_X5_isWord K ht (by decide) hq3) ⟨Nat.zero_le _, Nat.zero_le _⟩ (Nat.le_of_ble_eq_true rfl) rfl ?_
    refine e_if_eq C 22 (dk dX5_valueHere 9 rfl) (by decide) (fun c4 => ?_) (fun c4 => ?_)
    · rw [if_pos c4] at h
      refine e_aload_n C 0 (dk dX5_valueHere 12 rfl) rfl rfl ?_
      refine e_ldcS C sr_X5_239 (dk dX5_valueHere 13 rfl) ?_
      obtain ⟨q5, hq5, h⟩ := ob h
      refine e_callV (ci := 5) C cal_X5_isWord im_X5_isWord se_X5_isWord ml_X5_112 rfl hR (by decide) (dk dX5_valueHere 14 rfl) (K.1 _ (by rw [ht]; decide)) (ent_o5 ht) (c_X5_isWord K ht (by decide) hq5) ⟨Nat.zero_le _, Nat.zero_le _⟩ (Nat.le_of_ble_eq_true rfl) rfl ?_
      refine e_if_eq C 33 (dk dX5_valueHere 15 rfl) (by decide) (fun c6 => ?_) (fun c6 => ?_)
      · rw [if_pos c6] at h
        refine e_aload_n C 0 (dk dX5_valueHere 18 rfl) rfl rfl ?_
        refine e_ldcS C sr_X5_241 (dk dX5_valueHere 19 rfl) ?_
        obtain ⟨q7, hq7, h⟩ := ob h
        refine e_callV (ci := 5) C cal_X5_isWord im_X5_isWord se_X5_isWord ml_X5_112 rfl hR (by decide) (dk dX5_valueHere 20 rfl) (K.1 _ (by rw [ht]; decide)) (ent_o5 ht) (c_X5_isWord K ht (by decide) hq7) ⟨Nat.zero_le _, Nat.zero_le _⟩ (Nat.le_of_ble_eq_true rfl) rfl ?_
        refine e_if_eq C 44 (dk dX5_valueHere 21 rfl) (by decide) (fun c8 => ?_) (fun c8 => ?_)
        · rw [if_pos c8] at h
          refine e_aload_n C 0 (dk dX5_valueHere 24 rfl) rfl rfl ?_
          refine e_ldcS C sr_X5_243 (dk dX5_valueHere 25 rfl) ?_
          obtain ⟨q9, hq9, h⟩ := ob h
          refine e_callV (ci := 5) C cal_X5_isWord im_X5_isWord se_X5_isWord ml_X5_112 rfl hR (by decide) (dk dX5_valueHere 26 rfl) (K.1 _ (by rw [ht]; decide)) (ent_o5 ht) (c_X5_isWord K ht (by decide) hq9) ⟨Nat.zero_le _, Nat.zero_le _⟩ (Nat.le_of_ble_eq_true rfl) rfl ?_
          refine e_if_eq C 55 (dk dX5_valueHere 27 rfl) (by decide) (fun c10 => ?_) (fun c10 => ?_)
          · rw [if_pos c10] at h
            refine e_aload_n C 0 (dk dX5_valueHere 30 rfl) rfl rfl ?_
            refine e_ldcS C sr_X5_245 (dk dX5_valueHere 31 rfl) ?_
            obtain ⟨q11, hq11, h⟩ := ob h
            refine e_callV (ci := 5) C cal_X5_isWord im_X5_isWord se_X5_isWord ml_X5_112 rfl hR (by decide) (dk dX5_valueHere 32 rfl) (K.1 _ (by rw [ht]; decide)) (ent_o5 ht) (c_X5_isWord K ht (by decide) hq11) ⟨Nat.zero_le _, Nat.zero_le _⟩ (Nat.le_of_ble_eq_true rfl) rfl ?_
            refine e_if_eq C 66 (dk dX5_valueHere 33 rfl) (by decide) (fun c12 => ?_) (fun c12 => ?_)
            · rw [if_pos c12] at h
              refine e_aload_n C 0 (dk dX5_valueHere 36 rfl) rfl rfl ?_
              refine e_ldcS C sr_X5_246 (dk dX5_valueHere 37 rfl) ?_
              obtain ⟨q13, hq13, h⟩ := ob h
              refine e_callV (ci := 5) C cal_X5_isWord im_X5_isWord se_X5_isWord ml_X5_112 rfl hR (by decide) (dk dX5_valueHere 38 rfl) (K.1 _ (by rw [ht]; decide)) (ent_o5 ht) (c_X5_isWord K ht (by decide) hq13) ⟨Nat.zero_le _, Nat.zero_le _⟩ (Nat.le_of_ble_eq_true rfl) rfl ?_
              refine e_if_eq C 78 (dk dX5_valueHere 39 rfl) (by decide) (fun c14 => ?_) (fun c14 => ?_)
              · rw [if_pos c14] at h
                refine e_aload_n C 0 (dk dX5_valueHere 42 rfl) rfl rfl ?_
                refine e_ldcS C sr_X5_248 (dk dX5_valueHere 43 rfl) ?_
                obtain ⟨q15, hq15, h⟩ := ob h
                refine e_callV (ci := 5) C cal_X5_isWord im_X5_isWord se_X5_isWord ml_X5_112 rfl hR (by decide) (dk dX5_valueHere 44 rfl) (K.1 _ (by rw [ht]; decide)) (ent_o5 ht) (c_X5_isWord K ht (by decide) hq15) ⟨Nat.zero_le _, Nat.zero_le _⟩ (Nat.le_of_ble_eq_true rfl) rfl ?_
                suffices hm17 : EW X g (x_s X).heap.size n 1 (ent g Xo kd M) 0 0 93 [(0, .ref (g_N g + t))] [.int (if (bi q15) = 0 then (-1 : Int32) else (7 : Int32))] from (by
                  refine e_if_eq C 92 (dk dX5_valueHere 45 rfl) (by decide) (fun c16 => ?_) (fun c16 => ?_)
                  · rw [show (if (bi q15) = 0 then (-1 : Int32) else (7 : Int32)) = (-1 : Int32) from if_pos c16] at hm17
                    refine e_iconst C (-1) (dk dX5_valueHere 48 rfl) (by decide) ?_
                    exact hm17
                  · rw [show (if (bi q15) = 0 then (-1 : Int32) else (7 : Int32)) = (7 : Int32) from if_neg c16] at hm17
                    refine e_bipush C 7 (dk dX5_valueHere 46 rfl) (by decide) ?_
                    refine e_goto C 93 (dk dX5_valueHere 47 rfl) (by decide) ?_
                    exact hm17)
                obtain rfl := Option.some.inj h
                exact e_iret C B (nar1 _) (dk dX5_valueHere 49 rfl)
              · rw [if_neg c14] at h
                refine e_bipush C 6 (dk dX5_valueHere 40 rfl) (by decide) ?_
                obtain rfl := Option.some.inj h
                exact e_iret C B (nar1 _) (dk dX5_valueHere 41 rfl)
            · rw [if_neg c12] at h
              refine e_iconst C 5 (dk dX5_valueHere 34 rfl) (by decide) ?_
              obtain rfl := Option.some.inj h
              exact e_iret C B (nar1 _) (dk dX5_valueHere 35 rfl)
          · rw [if_neg c10] at h
            refine e_iconst C 4 (dk dX5_valueHere 28 rfl) (by decide) ?_
            obtain rfl := Option.some.inj h
            exact e_iret C B (nar1 _) (dk dX5_valueHere 29 rfl)
        · rw [if_neg c8] at h
          refine e_iconst C 3 (dk dX5_valueHere 22 rfl) (by decide) ?_
          obtain rfl := Option.some.inj h
          exact e_iret C B (nar1 _) (dk dX5_valueHere 23 rfl)
      · rw [if_neg c6] at h
        refine e_iconst C 2 (dk dX5_valueHere 16 rfl) (by decide) ?_
        obtain rfl := Option.some.inj h
        exact e_iret C B (nar1 _) (dk dX5_valueHere 17 rfl)
    · rw [if_neg c4] at h
      refine e_iconst C 1 (dk dX5_valueHere 10 rfl) (by decide) ?_
      obtain rfl := Option.some.inj h
      exact e_iret C B (nar1 _) (dk dX5_valueHere 11 rfl)
  · rw [if_neg c2] at h
    refine e_iconst C 0 (dk dX5_valueHere 4 rfl) (by decide) ?_
    obtain rfl := Option.some.inj h
    exact e_iret C B (nar1 _) (dk dX5_valueHere 5 rfl)
set_option maxRecDepth 20000 in
theorem c_X6_hasLot {g : WC} {Xo : Nat → va_E} {n : Nat} {kd : Nat → Nat} (K : KD n kd) {t : Nat} {p0 : Int32} (ht : kd t = 7) {M : Mem} {res : Bool} (h : F_X6_hasLot t p0 M = res) : MC g yX6_hasLot cX6_hasLot 2 (some .boolean) 1 n [.ref (g_N g + t), .int p0] (ent g Xo kd M) (some (.int (bi res))) (ent g Xo kd M) := by
  refine MC_of pn_X6 (Nat.le_of_ble_eq_true rfl) (fun X C B => ?_)
  have hR := B.1
  rw [F_X6_hasLot] at h
  refine e_aload_n C 0 (dk dX6_hasLot 0 rfl) rfl rfl ?_
  refine gf_X6_hours C K ht fl_X6_9 (dk dX6_hasLot 1 rfl) ?_
  refine e_iload_n C 1 (dk dX6_hasLot 2 rfl) rfl rfl ?_
  refine e_callSN C cal_X11_at sm_X11_at mn_X6_47 hR (by decide) (dk dX6_hasLot 3 rfl) (c_X11_at K (kd_X6_hours K ht) (rfl : F_X11_at (t + 1) 7 p0 M = _)) ⟨Nat.zero_le _, Nat.zero_le _⟩ (Nat.le_of_ble_eq_true rfl) rfl ?_
  refine e_if_eq C 15 (dk dX6_hasLot 4 rfl) (by decide) (fun c1 => ?_) (fun c1 => ?_)
  · rw [if_pos c1] at h
    refine e_iconst C 0 (dk dX6_hasLot 7 rfl) (by decide) ?_
    subst h
    exact e_iret (v := bi false) C B (nar_bi _) (dk dX6_hasLot 8 rfl)
  · rw [if_neg c1] at h
    refine e_iconst C 1 (dk dX6_hasLot 5 rfl) (by decide) ?_
    refine e_goto C 16 (dk dX6_hasLot 6 rfl) (by decide) ?_
    subst h
    exact e_iret (v := bi true) C B (nar_bi _) (dk dX6_hasLot 8 rfl)
set_option maxRecDepth 20000 in
theorem c_X6_handOver {g : WC} {Xo : Nat → va_E} {n : Nat} {kd : Nat → Nat} (K : KD n kd) {t : Nat} {w0 : Nat} {p1 : Int32} {p2 : Int32} {p3 : Int32} (ht : kd t = 7) (hw0 : kd w0 = 9) {M : Mem} {res : Mem} (h : F_X6_handOver t w0 p1 p2 p3 M = res) : MC g yX6_handOver cX6_handOver 5 none 1 n [.ref (g_N g + t), .ref (g_N g + w0), .int p1, .int p2, .int p3] (ent g Xo kd M) none (ent g Xo kd res) := by
  refine MC_of pn_X6 (Nat.le_of_ble_eq_true rfl) (fun X C B => ?_)
  have hR := B.1
  rw [F_X6_handOver] at h
  refine e_aload_n C 0 (dk dX6_handOver 0 rfl) rfl rfl ?_
  refine gf_X6_buyers C K ht fl_X6_20 (dk dX6_handOver 1 rfl) ?_
  refine e_iload_n C 2 (dk dX6_handOver 2 rfl) rfl rfl ?_
  refine e_iload_n C 3 (dk dX6_handOver 3 rfl) rfl rfl ?_
  refine e_callSN C cal_X11_put sm_X11_put mn_X6_58 hR (by decide) (dk dX6_handOver 4 rfl) (c_X11_put K (kd_X6_buyers K ht) (rfl : F_X11_put (t + 3) 7 p1 p2 M = _)) ⟨Nat.zero_le _, Nat.zero_le _⟩ (Nat.le_of_ble_eq_true rfl) rfl ?_
  refine e_aload_n C 0 (dk dX6_handOver 5 rfl) rfl rfl ?_
  refine gf_X6_prices C K ht fl_X6_23 (dk dX6_handOver 6 rfl) ?_
  refine e_iload_n C 2 (dk dX6_handOver 7 rfl) rfl rfl ?_
  refine e_iload C 4 (dk dX6_handOver 8 rfl) rfl ?_
  refine e_callSN C cal_X11_put sm_X11_put mn_X6_58 hR (by decide) (dk dX6_handOver 9 rfl) (c_X11_put K (kd_X6_prices K ht) (rfl : F_X11_put (t + 4) 7 p1 p3 (F_X11_put (t + 3) 7 p1 p2 M) = _)) ⟨Nat.zero_le _, Nat.zero_le _⟩ (Nat.le_of_ble_eq_true rfl) rfl ?_
  refine e_aload_n C 0 (dk dX6_handOver 10 rfl) rfl rfl ?_
  refine e_dup C (dk dX6_handOver 11 rfl) rfl ?_
  refine gf_X6_bought C K ht fl_X6_30 (dk dX6_handOver 12 rfl) ?_
  refine e_iconst C 1 (dk dX6_handOver 13 rfl) (by decide) ?_
  refine e_iadd C (dk dX6_handOver 14 rfl) ?_
  refine pf_X6_bought C K ht fl_X6_30 (dk dX6_handOver 15 rfl) ?_
  refine e_aload_n C 1 (dk dX6_handOver 16 rfl) rfl rfl ?_
  refine gf_X8_coins C K hw0 fl_X6_62 (dk dX6_handOver 17 rfl) ?_
  refine e_iload_n C 3 (dk dX6_handOver 18 rfl) rfl rfl ?_
  refine e_aload_n C 1 (dk dX6_handOver 19 rfl) rfl rfl ?_
  refine gf_X8_coins C K hw0 fl_X6_62 (dk dX6_handOver 20 rfl) ?_
  refine e_iload_n C 3 (dk dX6_handOver 21 rfl) rfl rfl ?_
  refine e_callSN C cal_X11_at sm_X11_at mn_X6_47 hR (by decide) (dk dX6_handOver 22 rfl) (c_X11_at K (kd_X8_coins K hw0) (rfl : F_X11_at (w0 + 1) 7 p2 (up (F_X11_put (t + 4) 7 p1 p3 (F_X11_put (t + 3) 7 p1 p2 M)) t 5 (((F_X11_put (t + 4) 7 p1 p3 (F_X11_put (t + 3) 7 p1 p2 M)) t 5) + 1)) = _)) ⟨Nat.zero_le _, Nat.zero_le _⟩ (Nat.le_of_ble_eq_true rfl) rfl ?_
  refine e_iload C 4 (dk dX6_handOver 23 rfl) rfl ?_
  refine e_isub C (dk dX6_handOver 24 rfl) ?_
  refine e_callSN C cal_X11_put sm_X11_put mn_X6_58 hR (by decide) (dk dX6_handOver 25 rfl) (c_X11_put K (kd_X8_coins K hw0) (rfl : F_X11_put (w0 + 1) 7 p2 ((F_X11_at (w0 + 1) 7 p2 (up (F_X11_put (t + 4) 7 p1 p3 (F_X11_put (t + 3) 7 p1 p2 M)) t 5 (((F_X11_put (t + 4) 7 p1 p3 (F_X11_put (t + 3) 7 p1 p2 M)) t 5) + 1))) - p3) (up (F_X11_put (t + 4) 7 p1 p3 (F_X11_put (t + 3) 7 p1 p2 M)) t 5 (((F_X11_put (t + 4) 7 p1 p3 (F_X11_put (t + 3) 7 p1 p2 M)) t 5) + 1)) = _)) ⟨Nat.zero_le _, Nat.zero_le _⟩ (Nat.le_of_ble_eq_true rfl) rfl ?_
  refine e_iload_n C 3 (dk dX6_handOver 26 rfl) rfl rfl ?_
  refine e_iload_n C 2 (dk dX6_handOver 27 rfl) rfl rfl ?_
  refine e_icmp_eq C 73 (dk dX6_handOver 28 rfl) (by decide) (fun c1 => ?_) (fun c1 => ?_)
  · rw [if_pos c1] at h
    subst h
    exact e_vret C B (dk dX6_handOver 41 rfl)
  · rw [if_neg c1] at h
    refine e_aload_n C 1 (dk dX6_handOver 29 rfl) rfl rfl ?_
    refine gf_X8_knows C K hw0 fl_X6_133 (dk dX6_handOver 30 rfl) ?_
    refine e_iload_n C 3 (dk dX6_handOver 31 rfl) rfl rfl ?_
    refine e_aload_n C 1 (dk dX6_handOver 32 rfl) rfl rfl ?_
    refine gf_X8_knows C K hw0 fl_X6_133 (dk dX6_handOver 33 rfl) ?_
    refine e_iload_n C 3 (dk dX6_handOver 34 rfl) rfl rfl ?_
    refine e_callSN C cal_X11_at sm_X11_at mn_X6_47 hR (by decide) (dk dX6_handOver 35 rfl) (c_X11_at K (kd_X8_knows K hw0) (rfl : F_X11_at (w0 + 2) 7 p2 (F_X11_put (w0 + 1) 7 p2 ((F_X11_at (w0 + 1) 7 p2 (up (F_X11_put (t + 4) 7 p1 p3 (F_X11_put (t + 3) 7 p1 p2 M)) t 5 (((F_X11_put (t + 4) 7 p1 p3 (F_X11_put (t + 3) 7 p1 p2 M)) t 5) + 1))) - p3) (up (F_X11_put (t + 4) 7 p1 p3 (F_X11_put (t + 3) 7 p1 p2 M)) t 5 (((F_X11_put (t + 4) 7 p1 p3 (F_X11_put (t + 3) 7 p1 p2 M)) t 5) + 1))) = _)) ⟨Nat.zero_le _, Nat.zero_le _⟩ (Nat.le_of_ble_eq_true rfl) rfl ?_
    refine e_iconst C 1 (dk dX6_handOver 36 rfl) (by decide) ?_
    refine e_iload_n C 2 (dk dX6_handOver 37 rfl) rfl rfl ?_
    refine e_ishl C (dk dX6_handOver 38 rfl) ?_
    refine e_ior C (dk dX6_handOver 39 rfl) ?_
    refine e_callSN C cal_X11_put sm_X11_put mn_X6_58 hR (by decide) (dk dX6_handOver 40 rfl) (c_X11_put K (kd_X8_knows K hw0) (rfl : F_X11_put (w0 + 2) 7 p2 ((F_X11_at (w0 + 2) 7 p2 (F_X11_put (w0 + 1) 7 p2 ((F_X11_at (w0 + 1) 7 p2 (up (F_X11_put (t + 4) 7 p1 p3 (F_X11_put (t + 3) 7 p1 p2 M)) t 5 (((F_X11_put (t + 4) 7 p1 p3 (F_X11_put (t + 3) 7 p1 p2 M)) t 5) + 1))) - p3) (up (F_X11_put (t + 4) 7 p1 p3 (F_X11_put (t + 3) 7 p1 p2 M)) t 5 (((F_X11_put (t + 4) 7 p1 p3 (F_X11_put (t + 3) 7 p1 p2 M)) t 5) + 1)))) ||| ((1 : Int32) <<< (p1 &&& 31))) (F_X11_put (w0 + 1) 7 p2 ((F_X11_at (w0 + 1) 7 p2 (up (F_X11_put (t + 4) 7 p1 p3 (F_X11_put (t + 3) 7 p1 p2 M)) t 5 (((F_X11_put (t + 4) 7 p1 p3 (F_X11_put (t + 3) 7 p1 p2 M)) t 5) + 1))) - p3) (up (F_X11_put (t + 4) 7 p1 p3 (F_X11_put (t + 3) 7 p1 p2 M)) t 5 (((F_X11_put (t + 4) 7 p1 p3 (F_X11_put (t + 3) 7 p1 p2 M)) t 5) + 1))) = _)) ⟨Nat.zero_le _, Nat.zero_le _⟩ (Nat.le_of_ble_eq_true rfl) rfl ?_
    subst h
    exact e_vret C B (dk dX6_handOver 41 rfl)
set_option maxRecDepth 20000 in
theorem l_X6_paidBy_4 {X : FX} {g : WC} {Xo : Nat → va_E} {n : Nat} {kd : Nat → Nat} (C : Cx X g RX6 cX6_paidBy 4) (K : KD n kd) {t : Nat} (ht : kd t = 7) {x1 : Int32} {M : Mem} (hR : x_R X = rm 1) {OK : Int32 → Prop} (hx : ∀ s, OK s → EW X g (x_s X).heap.size n 4 (ent g Xo kd M) 0 0 39 [(2, .int s)] []) : ∀ (N9 : Nat) (x2 : Int32) (x3 : Int32) (q : Int32), L_X6_paidBy_4 t x1 M N9 x2 x3 = some q → OK q → EW X g (x_s X).heap.size n 4 (ent g Xo kd M) 0 0 4 [(0, .ref (g_N g + t)), (1, .int x1), (2, .int x2), (3, .int x3)] [] := by
  intro N9
  induction N9 with
  | zero =>
    intro x2 x3 q h
    rw [L_X6_paidBy_4.eq_1] at h
    cases h
  | succ m9 ih =>
    intro x2 x3 q h hOK
    rw [L_X6_paidBy_4.eq_2] at h
    refine e_iload_n C 3 (dk dX6_paidBy 4 rfl) rfl rfl ?_
    refine e_bipush C 7 (dk dX6_paidBy 5 rfl) (by decide) ?_
    refine e_icmp_ge C 39 (dk dX6_paidBy 6 rfl) (by decide) (fun c1 => ?_) (fun c1 => ?_)
    · rw [if_pos c1] at h
      obtain rfl := Option.some.inj h
      refine e_lv [2] rfl ?_
      exact hx _ hOK
    · rw [if_neg c1] at h
      refine e_aload_n C 0 (dk dX6_paidBy 7 rfl) rfl rfl ?_
      refine gf_X6_buyers C K ht fl_X6_20 (dk dX6_paidBy 8 rfl) ?_
      refine e_iload_n C 3 (dk dX6_paidBy 9 rfl) rfl rfl ?_
      refine e_callSN C cal_X11_at sm_X11_at mn_X6_47 hR (by decide) (dk dX6_paidBy 10 rfl) (c_X11_at K (kd_X6_buyers K ht) (rfl : F_X11_at (t + 3) 7 x3 M = _)) ⟨Nat.zero_le _, Nat.zero_le _⟩ (Nat.le_of_ble_eq_true rfl) rfl ?_
      refine e_iload_n C 1 (dk dX6_paidBy 11 rfl) rfl rfl ?_
      refine e_icmp_ne C 33 (dk dX6_paidBy 12 rfl) (by decide) (fun c2 => ?_) (fun c2 => ?_)
      · rw [if_neg c2] at h
        refine e_iinc C [(3, .int (x3 + 1)), (0, .ref (g_N g + t)), (1, .int x1), (2, .int x2)] 3 1 (dk dX6_paidBy 20 rfl) rfl (by decide) (by decide) rfl ?_
        refine e_goto C 4 (dk dX6_paidBy 21 rfl) (by decide) ?_
        refine e_lv [1, 2, 3, 0] rfl ?_
        exact ih _ _ _ h hOK
      · rw [if_pos c2] at h
        refine e_iload_n C 2 (dk dX6_paidBy 13 rfl) rfl rfl ?_
        refine e_aload_n C 0 (dk dX6_paidBy 14 rfl) rfl rfl ?_
        refine gf_X6_prices C K ht fl_X6_23 (dk dX6_paidBy 15 rfl) ?_
        refine e_iload_n C 3 (dk dX6_paidBy 16 rfl) rfl rfl ?_
        refine e_callSN C cal_X11_at sm_X11_at mn_X6_47 hR (by decide) (dk dX6_paidBy 17 rfl) (c_X11_at K (kd_X6_prices K ht) (rfl : F_X11_at (t + 4) 7 x3 M = _)) ⟨Nat.zero_le _, Nat.zero_le _⟩ (Nat.le_of_ble_eq_true rfl) rfl ?_
        refine e_iadd C (dk dX6_paidBy 18 rfl) ?_
        refine e_istore_n C [(2, .int (x2 + (F_X11_at (t + 4) 7 x3 M))), (0, .ref (g_N g + t)), (1, .int x1), (3, .int x3)] (dk dX6_paidBy 19 rfl) rfl (by decide) rfl ?_
        refine e_iinc C [(3, .int (x3 + 1)), (2, .int (x2 + (F_X11_at (t + 4) 7 x3 M))), (0, .ref (g_N g + t)), (1, .int x1)] 3 1 (dk dX6_paidBy 20 rfl) rfl (by decide) (by decide) rfl ?_
        refine e_goto C 4 (dk dX6_paidBy 21 rfl) (by decide) ?_
        refine e_lv [2, 3, 1, 0] rfl ?_
        exact ih _ _ _ h hOK
set_option maxRecDepth 20000 in
theorem lb_X6_paidBy_4 {X : FX} {g : WC} {Xo : Nat → va_E} {n : Nat} {kd : Nat → Nat} (C : Cx X g RX6 cX6_paidBy 4) (K : KD n kd) {t : Nat} (ht : kd t = 7) {x1 : Int32} {M : Mem} (hR : x_R X = rm 1) {T9 : Type} {f9 : Int32 → Option T9} {b9 : T9} (hx : ∀ s, f9 s = some b9 → EW X g (x_s X).heap.size n 4 (ent g Xo kd M) 0 0 39 [(2, .int s)] []) {x2 : Int32} {x3 : Int32} (h : (L_X6_paidBy_4 t x1 M FU x2 x3).bind f9 = some b9) : EW X g (x_s X).heap.size n 4 (ent g Xo kd M) 0 0 4 [(0, .ref (g_N g + t)), (1, .int x1), (2, .int x2), (3, .int x3)] [] := by
  obtain ⟨q, hq, h⟩ := ob h
  exact l_X6_paidBy_4 C K ht hR (OK := fun q => f9 q = some b9) hx FU x2 x3 q hq h
set_option maxRecDepth 20000 in
theorem c_X6_paidBy {g : WC} {Xo : Nat → va_E} {n : Nat} {kd : Nat → Nat} (K : KD n kd) {t : Nat} {p0 : Int32} (ht : kd t = 7) {M : Mem} {res : Int32} (h : F_X6_paidBy t p0 M = some res) : MC g yX6_paidBy cX6_paidBy 4 (some .int) 1 n [.ref (g_N g + t), .int p0] (ent g Xo kd M) (some (.int res)) (ent g Xo kd M) := by
  refine MC_of pn_X6 (Nat.le_of_ble_eq_true rfl) (fun X C B => ?_)
  have hR := B.1
  rw [F_X6_paidBy] at h
  refine e_iconst C 0 (dk dX6_paidBy 0 rfl) (by decide) ?_
  refine e_istore_n C [(2, .int 0), (0, .ref (g_N g + t)), (1, .int p0)] (dk dX6_paidBy 1 rfl) rfl (by decide) rfl ?_
  refine e_iconst C 0 (dk dX6_paidBy 2 rfl) (by decide) ?_
  refine e_istore_n C [(3, .int 0), (2, .int 0), (0, .ref (g_N g + t)), (1, .int p0)] (dk dX6_paidBy 3 rfl) rfl (by decide) rfl ?_
  refine e_lv [2, 3, 1, 0] rfl ?_
  refine lb_X6_paidBy_4 C K ht hR (fun s4 h => ?_) h
  refine e_iload_n C 0 (dk dX6_paidBy 22 rfl) rfl rfl ?_
  obtain rfl := Option.some.inj h
  exact e_iret C B (nar1 _) (dk dX6_paidBy 23 rfl)
set_option maxRecDepth 20000 in
theorem c_X7_hasRoom {g : WC} {Xo : Nat → va_E} {n : Nat} {kd : Nat → Nat} (K : KD n kd) {t : Nat} (ht : kd t = 8) {M : Mem} {res : Bool} (h : F_X7_hasRoom t M = res) : MC g yX7_hasRoom cX7_hasRoom 1 (some .boolean) 0 n [.ref (g_N g + t)] (ent g Xo kd M) (some (.int (bi res))) (ent g Xo kd M) := by
  refine MC_of pn_X7 (Nat.le_of_ble_eq_true rfl) (fun X C B => ?_)
  have hR := B.1
  rw [F_X7_hasRoom] at h
  refine e_aload_n C 0 (dk dX7_hasRoom 0 rfl) rfl rfl ?_
  refine gf_X7_count C K ht fl_X7_21 (dk dX7_hasRoom 1 rfl) ?_
  refine e_bipush C 8 (dk dX7_hasRoom 2 rfl) (by decide) ?_
  refine e_icmp_ge C 13 (dk dX7_hasRoom 3 rfl) (by decide) (fun c1 => ?_) (fun c1 => ?_)
  · rw [if_pos c1] at h
    refine e_iconst C 0 (dk dX7_hasRoom 6 rfl) (by decide) ?_
    subst h
    exact e_iret (v := bi false) C B (nar_bi _) (dk dX7_hasRoom 7 rfl)
  · rw [if_neg c1] at h
    refine e_iconst C 1 (dk dX7_hasRoom 4 rfl) (by decide) ?_
    refine e_goto C 14 (dk dX7_hasRoom 5 rfl) (by decide) ?_
    subst h
    exact e_iret (v := bi true) C B (nar_bi _) (dk dX7_hasRoom 7 rfl)
set_option maxRecDepth 20000 in
theorem c_X7_add {g : WC} {Xo : Nat → va_E} {n : Nat} {kd : Nat → Nat} (K : KD n kd) {t : Nat} {p0 : Int32} {p1 : Int32} {p2 : Int32} (ht : kd t = 8) {M : Mem} {res : Mem} (h : F_X7_add t p0 p1 p2 M = res) : MC g yX7_add cX7_add 4 none 1 n [.ref (g_N g + t), .int p0, .int p1, .int p2] (ent g Xo kd M) none (ent g Xo kd res) := by
  refine MC_of pn_X7 (Nat.le_of_ble_eq_true rfl) (fun X C B => ?_)
  have hR := B.1
  rw [F_X7_add] at h
  refine e_aload_n C 0 (dk dX7_add 0 rfl) rfl rfl ?_
  refine gf_X7_people C K ht fl_X7_9 (dk dX7_add 1 rfl) ?_
  refine e_aload_n C 0 (dk dX7_add 2 rfl) rfl rfl ?_
  refine gf_X7_count C K ht fl_X7_21 (dk dX7_add 3 rfl) ?_
  refine e_iload_n C 1 (dk dX7_add 4 rfl) rfl rfl ?_
  refine e_callSN C cal_X11_put sm_X11_put mn_X7_25 hR (by decide) (dk dX7_add 5 rfl) (c_X11_put K (kd_X7_people K ht) (rfl : F_X11_put (t + 1) 8 (M t 3) p0 M = _)) ⟨Nat.zero_le _, Nat.zero_le _⟩ (Nat.le_of_ble_eq_true rfl) rfl ?_
  refine e_aload_n C 0 (dk dX7_add 6 rfl) rfl rfl ?_
  refine gf_X7_nights C K ht fl_X7_15 (dk dX7_add 7 rfl) ?_
  refine e_aload_n C 0 (dk dX7_add 8 rfl) rfl rfl ?_
  refine gf_X7_count C K ht fl_X7_21 (dk dX7_add 9 rfl) ?_
  refine e_iload_n C 2 (dk dX7_add 10 rfl) rfl rfl ?_
  refine e_callSN C cal_X11_put sm_X11_put mn_X7_25 hR (by decide) (dk dX7_add 11 rfl) (c_X11_put K (kd_X7_nights K ht) (rfl : F_X11_put (t + 2) 8 ((F_X11_put (t + 1) 8 (M t 3) p0 M) t 3) p1 (F_X11_put (t + 1) 8 (M t 3) p0 M) = _)) ⟨Nat.zero_le _, Nat.zero_le _⟩ (Nat.le_of_ble_eq_true rfl) rfl ?_
  refine e_aload_n C 0 (dk dX7_add 12 rfl) rfl rfl ?_
  refine gf_X7_wasSeen C K ht fl_X7_18 (dk dX7_add 13 rfl) ?_
  refine e_aload_n C 0 (dk dX7_add 14 rfl) rfl rfl ?_
  refine gf_X7_count C K ht fl_X7_21 (dk dX7_add 15 rfl) ?_
  refine e_iload_n C 3 (dk dX7_add 16 rfl) rfl rfl ?_
  suffices hm2 : EW X g (x_s X).heap.size n 4 (ent g Xo kd (F_X11_put (t + 2) 8 ((F_X11_put (t + 1) 8 (M t 3) p0 M) t 3) p1 (F_X11_put (t + 1) 8 (M t 3) p0 M))) 0 0 41 [(0, .ref (g_N g + t)), (1, .int p0), (2, .int p1), (3, .int p2)] [.int (if p2 = 0 then (0 : Int32) else (1 : Int32)), .int ((F_X11_put (t + 2) 8 ((F_X11_put (t + 1) 8 (M t 3) p0 M) t 3) p1 (F_X11_put (t + 1) 8 (M t 3) p0 M)) t 3), .ref (g_N g + (t + 3))] from (by
    refine e_if_eq C 40 (dk dX7_add 17 rfl) (by decide) (fun c1 => ?_) (fun c1 => ?_)
    · rw [show (if p2 = 0 then (0 : Int32) else (1 : Int32)) = (0 : Int32) from if_pos c1] at hm2
      refine e_iconst C 0 (dk dX7_add 20 rfl) (by decide) ?_
      exact hm2
    · rw [show (if p2 = 0 then (0 : Int32) else (1 : Int32)) = (1 : Int32) from if_neg c1] at hm2
      refine e_iconst C 1 (dk dX7_add 18 rfl) (by decide) ?_
      refine e_goto C 41 (dk dX7_add 19 rfl) (by decide) ?_
      exact hm2)
  refine e_callSN C cal_X11_put sm_X11_put mn_X7_25 hR (by decide) (dk dX7_add 21 rfl) (c_X11_put K (kd_X7_wasSeen K ht) (rfl : F_X11_put (t + 3) 8 ((F_X11_put (t + 2) 8 ((F_X11_put (t + 1) 8 (M t 3) p0 M) t 3) p1 (F_X11_put (t + 1) 8 (M t 3) p0 M)) t 3) (if p2 = 0 then (0 : Int32) else (1 : Int32)) (F_X11_put (t + 2) 8 ((F_X11_put (t + 1) 8 (M t 3) p0 M) t 3) p1 (F_X11_put (t + 1) 8 (M t 3) p0 M)) = _)) ⟨Nat.zero_le _, Nat.zero_le _⟩ (Nat.le_of_ble_eq_true rfl) rfl ?_
  refine e_aload_n C 0 (dk dX7_add 22 rfl) rfl rfl ?_
  refine e_dup C (dk dX7_add 23 rfl) rfl ?_
  refine gf_X7_count C K ht fl_X7_21 (dk dX7_add 24 rfl) ?_
  refine e_iconst C 1 (dk dX7_add 25 rfl) (by decide) ?_
  refine e_iadd C (dk dX7_add 26 rfl) ?_
  refine pf_X7_count C K ht fl_X7_21 (dk dX7_add 27 rfl) ?_
  subst h
  exact e_vret C B (dk dX7_add 28 rfl)
set_option maxRecDepth 20000 in
theorem l_X7_holds_2 {X : FX} {g : WC} {Xo : Nat → va_E} {n : Nat} {kd : Nat → Nat} (C : Cx X g RX7 cX7_holds 4) (K : KD n kd) {t : Nat} {a0 : Nat} {n0 : Nat} (ht : kd t = 8) (ha0 : IA kd a0 n0) {M : Mem} (hR : x_R X = rm 1) {OK : Sum (Bool) (Unit) → Prop} (hB : ∀ v, OK (Sum.inl v) → Bx X g (some .boolean) 1 n (some (.int (bi v))) (ent g Xo kd M)) (hx : ∀ s, OK (Sum.inr s) → EW X g (x_s X).heap.size n 4 (ent g Xo kd M) 0 0 56 [] []) : ∀ (N9 : Nat) (x2 : Int32) (q : Sum (Bool) (Unit)), L_X7_holds_2 t a0 n0 M N9 x2 = some q → OK q → EW X g (x_s X).heap.size n 4 (ent g Xo kd M) 0 0 2 [(0, .ref (g_N g + t)), (1, .ref (g_N g + a0)), (2, .int x2)] [] := by
  intro N9
  induction N9 with
  | zero =>
    intro x2 q h
    rw [L_X7_holds_2.eq_1] at h
    cases h
  | succ m9 ih =>
    intro x2 q h hOK
    rw [L_X7_holds_2.eq_2] at h
    refine e_iload_n C 2 (dk dX7_holds 2 rfl) rfl rfl ?_
    refine e_aload_n C 0 (dk dX7_holds 3 rfl) rfl rfl ?_
    refine gf_X7_count C K ht fl_X7_21 (dk dX7_holds 4 rfl) ?_
    refine e_icmp_ge C 56 (dk dX7_holds 5 rfl) (by decide) (fun c1 => ?_) (fun c1 => ?_)
    · rw [if_pos c1] at h
      obtain rfl := Option.some.inj h
      refine e_lv [] rfl ?_
      exact hx _ hOK
    · rw [if_neg c1] at h
      refine e_aload_n C 1 (dk dX7_holds 6 rfl) rfl rfl ?_
      refine e_aload_n C 0 (dk dX7_holds 7 rfl) rfl rfl ?_
      refine gf_X7_people C K ht fl_X7_9 (dk dX7_holds 8 rfl) ?_
      refine e_iload_n C 2 (dk dX7_holds 9 rfl) rfl rfl ?_
      refine e_callSN C cal_X11_at sm_X11_at mn_X7_29 hR (by decide) (dk dX7_holds 10 rfl) (c_X11_at K (kd_X7_people K ht) (rfl : F_X11_at (t + 1) 8 x2 M = _)) ⟨Nat.zero_le _, Nat.zero_le _⟩ (Nat.le_of_ble_eq_true rfl) rfl ?_
      refine e_callSN C cal_X11_at sm_X11_at mn_X7_29 hR (by decide) (dk dX7_holds 11 rfl) (c_X11_at K ha0 (rfl : F_X11_at a0 n0 (F_X11_at (t + 1) 8 x2 M) M = _)) ⟨Nat.zero_le _, Nat.zero_le _⟩ (Nat.le_of_ble_eq_true rfl) rfl ?_
      refine e_aload_n C 0 (dk dX7_holds 12 rfl) rfl rfl ?_
      refine gf_X7_nights C K ht fl_X7_15 (dk dX7_holds 13 rfl) ?_
      refine e_iload_n C 2 (dk dX7_holds 14 rfl) rfl rfl ?_
      refine e_callSN C cal_X11_at sm_X11_at mn_X7_29 hR (by decide) (dk dX7_holds 15 rfl) (c_X11_at K (kd_X7_nights K ht) (rfl : F_X11_at (t + 2) 8 x2 M = _)) ⟨Nat.zero_le _, Nat.zero_le _⟩ (Nat.le_of_ble_eq_true rfl) rfl ?_
      refine e_iconst C 1 (dk dX7_holds 16 rfl) (by decide) ?_
      refine e_isub C (dk dX7_holds 17 rfl) ?_
      refine e_ishr C (dk dX7_holds 18 rfl) ?_
      refine e_iconst C 1 (dk dX7_holds 19 rfl) (by decide) ?_
      refine e_iand C (dk dX7_holds 20 rfl) ?_
      refine e_istore_n C [(3, .int (((F_X11_at a0 n0 (F_X11_at (t + 1) 8 x2 M) M) >>> (((F_X11_at (t + 2) 8 x2 M) - 1) &&& 31)) &&& 1)), (0, .ref (g_N g + t)), (1, .ref (g_N g + a0)), (2, .int x2)] (dk dX7_holds 21 rfl) rfl (by decide) rfl ?_
      refine e_iload_n C 0 (dk dX7_holds 22 rfl) rfl rfl ?_
      refine e_aload_n C 1 (dk dX7_holds 23 rfl) rfl rfl ?_
      refine gf_X7_wasSeen C K ht fl_X7_18 (dk dX7_holds 24 rfl) ?_
      refine e_iload_n C 3 (dk dX7_holds 25 rfl) rfl rfl ?_
      refine e_callSN C cal_X11_at sm_X11_at mn_X7_29 hR (by decide) (dk dX7_holds 26 rfl) (c_X11_at K (kd_X7_wasSeen K ht) (rfl : F_X11_at (t + 3) 8 x2 M = _)) ⟨Nat.zero_le _, Nat.zero_le _⟩ (Nat.le_of_ble_eq_true rfl) rfl ?_
      refine e_icmp_eq C 50 (dk dX7_holds 27 rfl) (by decide) (fun c2 => ?_) (fun c2 => ?_)
      · rw [if_pos c2] at h
        refine e_iinc C [(2, .int (x2 + 1)), (3, .int (((F_X11_at a0 n0 (F_X11_at (t + 1) 8 x2 M) M) >>> (((F_X11_at (t + 2) 8 x2 M) - 1) &&& 31)) &&& 1)), (0, .ref (g_N g + t)), (1, .ref (g_N g + a0))] 3 1 (dk dX7_holds 30 rfl) rfl (by decide) (by decide) rfl ?_
        refine e_goto C 2 (dk dX7_holds 31 rfl) (by decide) ?_
        refine e_lv [2, 3, 0] rfl ?_
        exact ih _ _ h hOK
      · rw [if_neg c2] at h
        refine e_iconst C 0 (dk dX7_holds 28 rfl) (by decide) ?_
        obtain rfl := Option.some.inj h
        exact e_iret (v := bi false) C (hB _ hOK) (nar_bi _) (dk dX7_holds 29 rfl)
set_option maxRecDepth 20000 in
theorem lb_X7_holds_2 {X : FX} {g : WC} {Xo : Nat → va_E} {n : Nat} {kd : Nat → Nat} (C : Cx X g RX7 cX7_holds 4) (K : KD n kd) {t : Nat} {a0 : Nat} {n0 : Nat} (ht : kd t = 8) (ha0 : IA kd a0 n0) {M : Mem} (hR : x_R X = rm 1) {T9 : Type} {f9 : Sum (Bool) (Unit) → Option T9} {b9 : T9} (hB : ∀ v, f9 (Sum.inl v) = some b9 → Bx X g (some .boolean) 1 n (some (.int (bi v))) (ent g Xo kd M)) (hx : ∀ s, f9 (Sum.inr s) = some b9 → EW X g (x_s X).heap.size n 4 (ent g Xo kd M) 0 0 56 [] []) {x2 : Int32} (h : (L_X7_holds_2 t a0 n0 M FU x2).bind f9 = some b9) : EW X g (x_s X).heap.size n 4 (ent g Xo kd M) 0 0 2 [(0, .ref (g_N g + t)), (1, .ref (g_N g + a0)), (2, .int x2)] [] := by
  obtain ⟨q, hq, h⟩ := ob h
  exact l_X7_holds_2 C K ht ha0 hR (OK := fun q => f9 q = some b9) hB hx FU x2 q hq h
set_option maxRecDepth 20000 in
theorem c_X7_holds {g : WC} {Xo : Nat → va_E} {n : Nat} {kd : Nat → Nat} (K : KD n kd) {t : Nat} {a0 : Nat} {n0 : Nat} (ht : kd t = 8) (ha0 : IA kd a0 n0) {M : Mem} {res : Bool} (h : F_X7_holds t a0 n0 M = some res) : MC g yX7_holds cX7_holds 4 (some .boolean) 1 n [.ref (g_N g + t), .ref (g_N g + a0)] (ent g Xo kd M) (some (.int (bi res))) (ent g Xo kd M) := by
  refine MC_of pn_X7 (Nat.le_of_ble_eq_true rfl) (fun X C B => ?_)
  have hR := B.1
  rw [F_X7_holds] at h
  refine e_iconst C 0 (dk dX7_holds 0 rfl) (by decide) ?_
  refine e_istore_n C [(2, .int 0), (0, .ref (g_N g + t)), (1, .ref (g_N g + a0))] (dk dX7_holds 1 rfl) rfl (by decide) rfl ?_
  refine e_lv [1, 2, 0] rfl ?_
  refine lb_X7_holds_2 C K ht ha0 hR (fun v h => ?_) (fun s4 h => ?_) h
  · obtain rfl := Option.some.inj (show some v = some _ from h)
    exact B
  dsimp only [Sum.elim_inr] at h
  refine e_iconst C 1 (dk dX7_holds 32 rfl) (by decide) ?_
  obtain rfl := Option.some.inj h
  exact e_iret (v := bi true) C B (nar_bi _) (dk dX7_holds 33 rfl)
set_option maxRecDepth 20000 in
theorem j_X8_begin_j99 {X : FX} {g : WC} {Xo : Nat → va_E} {n : Nat} {kd : Nat → Nat} (C : Cx X g RX8 cX8_begin 4) (K : KD n kd) {t : Nat} {w0 : Nat} (ht : kd t = 9) (hw0 : kd w0 = 10) (hR : x_R X = rm 1) {OK : Mem → Prop} (hx : ∀ s, OK s → EW X g (x_s X).heap.size n 4 (ent g Xo kd s) 0 0 108 [] []) {rec : Int32 → Mem → Option (Mem)} (hrec : ∀ (x2 : Int32) (M : Mem) (q : Mem), rec x2 M = some q → OK q → EW X g (x_s X).heap.size n 4 (ent g Xo kd M) 0 0 25 [(0, .ref (g_N g + t)), (1, .ref (g_N g + w0)), (2, .int x2)] []) {x2 : Int32} {y1 : Int32} {y2 : Int32} {M : Mem} (q : Mem) (h : J_X8_begin_j99 t w0 rec x2 y1 y2 M = some q) (hOK : OK q) : EW X g (x_s X).heap.size n 4 (ent g Xo kd M) 0 0 99 [(0, .ref (g_N g + t)), (1, .ref (g_N g + w0)), (2, .int x2)] [.int y2, .int y1, .ref (g_N g + (t + 3))] := by
  rw [J_X8_begin_j99] at h
  refine e_callSN C cal_X11_put sm_X11_put mn_X8_45 hR (by decide) (dk dX8_begin 54 rfl) (c_X11_put K (kd_X8_walks K ht) (rfl : F_X11_put (t + 3) 7 y1 y2 M = _)) ⟨Nat.zero_le _, Nat.zero_le _⟩ (Nat.le_of_ble_eq_true rfl) rfl ?_
  refine e_iinc C [(2, .int (x2 + 1)), (0, .ref (g_N g + t)), (1, .ref (g_N g + w0))] 2 1 (dk dX8_begin 55 rfl) rfl (by decide) (by decide) rfl ?_
  refine e_goto C 25 (dk dX8_begin 56 rfl) (by decide) ?_
  refine e_lv [1, 2, 0] rfl ?_
  exact hrec _ _ _ h hOK
set_option maxRecDepth 20000 in
theorem j_X8_begin_j66 {X : FX} {g : WC} {Xo : Nat → va_E} {n : Nat} {kd : Nat → Nat} (C : Cx X g RX8 cX8_begin 4) (K : KD n kd) {t : Nat} {w0 : Nat} (ht : kd t = 9) (hw0 : kd w0 = 10) (hR : x_R X = rm 1) {OK : Mem → Prop} (hx : ∀ s, OK s → EW X g (x_s X).heap.size n 4 (ent g Xo kd s) 0 0 108 [] []) {rec : Int32 → Mem → Option (Mem)} (hrec : ∀ (x2 : Int32) (M : Mem) (q : Mem), rec x2 M = some q → OK q → EW X g (x_s X).heap.size n 4 (ent g Xo kd M) 0 0 25 [(0, .ref (g_N g + t)), (1, .ref (g_N g + w0)), (2, .int x2)] []) {x2 : Int32} {x3 : Int32} {y1 : Int32} {y2 : Int32} {M : Mem} (q : Mem) (h : J_X8_begin_j66 t w0 rec x2 x3 y1 y2 M = some q) (hOK : OK q) : EW X g (x_s X).heap.size n 4 (ent g Xo kd M) 0 0 66 [(0, .ref (g_N g + t)), (1, .ref (g_N g + w0)), (2, .int x2), (3, .int x3)] [.int y2, .int y1, .ref (g_N g + (t + 1))] := by
  rw [J_X8_begin_j66] at h
  refine e_callSN C cal_X11_put sm_X11_put mn_X8_45 hR (by decide) (dk dX8_begin 37 rfl) (c_X11_put K (kd_X8_coins K ht) (rfl : F_X11_put (t + 1) 7 y1 y2 M = _)) ⟨Nat.zero_le _, Nat.zero_le _⟩ (Nat.le_of_ble_eq_true rfl) rfl ?_
  refine e_aload_n C 0 (dk dX8_begin 38 rfl) rfl rfl ?_
  refine gf_X8_knows C K ht fl_X8_28 (dk dX8_begin 39 rfl) ?_
  refine e_iload_n C 2 (dk dX8_begin 40 rfl) rfl rfl ?_
  refine e_iconst C 0 (dk dX8_begin 41 rfl) (by decide) ?_
  refine e_callSN C cal_X11_put sm_X11_put mn_X8_45 hR (by decide) (dk dX8_begin 42 rfl) (c_X11_put K (kd_X8_knows K ht) (rfl : F_X11_put (t + 2) 7 x2 0 (F_X11_put (t + 1) 7 y1 y2 M) = _)) ⟨Nat.zero_le _, Nat.zero_le _⟩ (Nat.le_of_ble_eq_true rfl) rfl ?_
  refine e_aload_n C 0 (dk dX8_begin 43 rfl) rfl rfl ?_
  refine gf_X8_walks C K ht fl_X8_31 (dk dX8_begin 44 rfl) ?_
  refine e_iload_n C 2 (dk dX8_begin 45 rfl) rfl rfl ?_
  refine e_iload_n C 3 (dk dX8_begin 46 rfl) rfl rfl ?_
  refine e_if_eq C 98 (dk dX8_begin 47 rfl) (by decide) (fun c5 => ?_) (fun c5 => ?_)
  · rw [if_pos c5] at h
    refine e_iconst C 0 (dk dX8_begin 53 rfl) (by decide) ?_
    refine e_lv [0, 1, 2] rfl ?_
    exact j_X8_begin_j99 C K ht hw0 hR hx hrec _ h hOK
  · rw [if_neg c5] at h
    refine e_aload_n C 1 (dk dX8_begin 48 rfl) rfl rfl ?_
    refine gf_X9_walks C K hw0 fl_X8_49 (dk dX8_begin 49 rfl) ?_
    refine e_iload_n C 2 (dk dX8_begin 50 rfl) rfl rfl ?_
    refine e_callSN C cal_X11_at sm_X11_at mn_X8_41 hR (by decide) (dk dX8_begin 51 rfl) (c_X11_at K (kd_X9_walks K hw0) (rfl : F_X11_at (w0 + 5) 7 x2 (F_X11_put (t + 2) 7 x2 0 (F_X11_put (t + 1) 7 y1 y2 M)) = _)) ⟨Nat.zero_le _, Nat.zero_le _⟩ (Nat.le_of_ble_eq_true rfl) rfl ?_
    refine e_goto C 99 (dk dX8_begin 52 rfl) (by decide) ?_
    refine e_lv [0, 1, 2] rfl ?_
    exact j_X8_begin_j99 C K ht hw0 hR hx hrec _ h hOK
set_option maxRecDepth 20000 in
theorem l_X8_begin_25 {X : FX} {g : WC} {Xo : Nat → va_E} {n : Nat} {kd : Nat → Nat} (C : Cx X g RX8 cX8_begin 4) (K : KD n kd) {t : Nat} {w0 : Nat} (ht : kd t = 9) (hw0 : kd w0 = 10) (hR : x_R X = rm 1) {OK : Mem → Prop} (hx : ∀ s, OK s → EW X g (x_s X).heap.size n 4 (ent g Xo kd s) 0 0 108 [] []) : ∀ (N9 : Nat) (x2 : Int32) (M : Mem) (q : Mem), L_X8_begin_25 t w0 N9 x2 M = some q → OK q → EW X g (x_s X).heap.size n 4 (ent g Xo kd M) 0 0 25 [(0, .ref (g_N g + t)), (1, .ref (g_N g + w0)), (2, .int x2)] [] := by
  intro N9
  induction N9 with
  | zero =>
    intro x2 M q h
    rw [L_X8_begin_25.eq_1] at h
    cases h
  | succ m9 ih =>
    intro x2 M q h hOK
    rw [L_X8_begin_25.eq_2] at h
    refine e_iload_n C 2 (dk dX8_begin 15 rfl) rfl rfl ?_
    refine e_bipush C 7 (dk dX8_begin 16 rfl) (by decide) ?_
    refine e_icmp_ge C 108 (dk dX8_begin 17 rfl) (by decide) (fun c1 => ?_) (fun c1 => ?_)
    · rw [if_pos c1] at h
      obtain rfl := Option.some.inj h
      refine e_lv [] rfl ?_
      exact hx _ hOK
    · rw [if_neg c1] at h
      refine e_iload_n C 2 (dk dX8_begin 18 rfl) rfl rfl ?_
      refine e_aload_n C 1 (dk dX8_begin 19 rfl) rfl rfl ?_
      refine gf_X9_people C K hw0 fl_X8_37 (dk dX8_begin 20 rfl) ?_
      suffices hm3 : EW X g (x_s X).heap.size n 4 (ent g Xo kd M) 0 0 44 [(0, .ref (g_N g + t)), (1, .ref (g_N g + w0)), (2, .int x2)] [.int (if (M w0 3) ≤ x2 then (0 : Int32) else (1 : Int32))] from (by
        refine e_icmp_ge C 43 (dk dX8_begin 21 rfl) (by decide) (fun c2 => ?_) (fun c2 => ?_)
        · rw [show (if (M w0 3) ≤ x2 then (0 : Int32) else (1 : Int32)) = (0 : Int32) from if_pos c2] at hm3
          refine e_iconst C 0 (dk dX8_begin 24 rfl) (by decide) ?_
          exact hm3
        · rw [show (if (M w0 3) ≤ x2 then (0 : Int32) else (1 : Int32)) = (1 : Int32) from if_neg c2] at hm3
          refine e_iconst C 1 (dk dX8_begin 22 rfl) (by decide) ?_
          refine e_goto C 44 (dk dX8_begin 23 rfl) (by decide) ?_
          exact hm3)
      refine e_istore_n C [(3, .int (if (M w0 3) ≤ x2 then (0 : Int32) else (1 : Int32))), (0, .ref (g_N g + t)), (1, .ref (g_N g + w0)), (2, .int x2)] (dk dX8_begin 25 rfl) rfl (by decide) rfl ?_
      refine e_aload_n C 1 (dk dX8_begin 26 rfl) rfl rfl ?_
      refine gf_X8_coins C K ht fl_X8_24 (dk dX8_begin 27 rfl) ?_
      refine e_iload_n C 3 (dk dX8_begin 28 rfl) rfl rfl ?_
      refine e_iload_n C 0 (dk dX8_begin 29 rfl) rfl rfl ?_
      refine e_if_eq C 65 (dk dX8_begin 30 rfl) (by decide) (fun c4 => ?_) (fun c4 => ?_)
      · rw [if_pos c4] at h
        refine e_iconst C 0 (dk dX8_begin 36 rfl) (by decide) ?_
        refine e_lv [1, 2, 3, 0] rfl ?_
        exact j_X8_begin_j66 C K ht hw0 hR hx ih _ h hOK
      · rw [if_neg c4] at h
        refine e_aload_n C 2 (dk dX8_begin 31 rfl) rfl rfl ?_
        refine gf_X9_coins C K hw0 fl_X8_40 (dk dX8_begin 32 rfl) ?_
        refine e_iload_n C 3 (dk dX8_begin 33 rfl) rfl rfl ?_
        refine e_callSN C cal_X11_at sm_X11_at mn_X8_41 hR (by decide) (dk dX8_begin 34 rfl) (c_X11_at K (kd_X9_coins K hw0) (rfl : F_X11_at (w0 + 3) 7 x2 M = _)) ⟨Nat.zero_le _, Nat.zero_le _⟩ (Nat.le_of_ble_eq_true rfl) rfl ?_
        refine e_goto C 66 (dk dX8_begin 35 rfl) (by decide) ?_
        refine e_lv [1, 2, 3, 0] rfl ?_
        exact j_X8_begin_j66 C K ht hw0 hR hx ih _ h hOK
set_option maxRecDepth 20000 in
theorem lb_X8_begin_25 {X : FX} {g : WC} {Xo : Nat → va_E} {n : Nat} {kd : Nat → Nat} (C : Cx X g RX8 cX8_begin 4) (K : KD n kd) {t : Nat} {w0 : Nat} (ht : kd t = 9) (hw0 : kd w0 = 10) (hR : x_R X = rm 1) {T9 : Type} {f9 : Mem → Option T9} {b9 : T9} (hx : ∀ s, f9 s = some b9 → EW X g (x_s X).heap.size n 4 (ent g Xo kd s) 0 0 108 [] []) {x2 : Int32} {M : Mem} (h : (L_X8_begin_25 t w0 FU x2 M).bind f9 = some b9) : EW X g (x_s X).heap.size n 4 (ent g Xo kd M) 0 0 25 [(0, .ref (g_N g + t)), (1, .ref (g_N g + w0)), (2, .int x2)] [] := by
  obtain ⟨q, hq, h⟩ := ob h
  exact l_X8_begin_25 C K ht hw0 hR (OK := fun q => f9 q = some b9) hx FU x2 M q hq h
set_option maxRecDepth 20000 in
theorem c_X8_begin {g : WC} {Xo : Nat → va_E} {n : Nat} {kd : Nat → Nat} (K : KD n kd) {t : Nat} {w0 : Nat} (ht : kd t = 9) (hw0 : kd w0 = 10) {M : Mem} {res : Mem} (h : F_X8_begin t w0 M = some res) : MC g yX8_begin cX8_begin 4 none 1 n [.ref (g_N g + t), .ref (g_N g + w0)] (ent g Xo kd M) none (ent g Xo kd res) := by
  refine MC_of pn_X8 (Nat.le_of_ble_eq_true rfl) (fun X C B => ?_)
  have hR := B.1
  rw [F_X8_begin] at h
  refine e_aload_n C 0 (dk dX8_begin 0 rfl) rfl rfl ?_
  refine e_iconst C 0 (dk dX8_begin 1 rfl) (by decide) ?_
  refine pf_X8_night C K ht fl_X8_9 (dk dX8_begin 2 rfl) ?_
  refine e_aload_n C 0 (dk dX8_begin 3 rfl) rfl rfl ?_
  refine e_iconst C 0 (dk dX8_begin 4 rfl) (by decide) ?_
  refine pf_X8_dark C K ht fl_X8_15 (dk dX8_begin 5 rfl) ?_
  refine e_aload_n C 0 (dk dX8_begin 6 rfl) rfl rfl ?_
  refine e_iconst C 0 (dk dX8_begin 7 rfl) (by decide) ?_
  refine pf_X8_bribing C K ht fl_X8_18 (dk dX8_begin 8 rfl) ?_
  refine e_aload_n C 0 (dk dX8_begin 9 rfl) rfl rfl ?_
  refine e_aload_n C 1 (dk dX8_begin 10 rfl) rfl rfl ?_
  refine gf_X9_reserve C K hw0 fl_X8_34 (dk dX8_begin 11 rfl) ?_
  refine pf_X8_reserve C K ht fl_X8_21 (dk dX8_begin 12 rfl) ?_
  refine e_iconst C 0 (dk dX8_begin 13 rfl) (by decide) ?_
  refine e_istore_n C [(2, .int 0), (0, .ref (g_N g + t)), (1, .ref (g_N g + w0))] (dk dX8_begin 14 rfl) rfl (by decide) rfl ?_
  refine e_lv [1, 2, 0] rfl ?_
  refine lb_X8_begin_25 C K ht hw0 hR (fun s7 h => ?_) h
  obtain rfl := Option.some.inj h
  exact e_vret C B (dk dX8_begin 57 rfl)
set_option maxRecDepth 20000 in
theorem l_X8_writeTo_44 {X : FX} {g : WC} {Xo : Nat → va_E} {n : Nat} {kd : Nat → Nat} (C : Cx X g RX8 cX8_writeTo 4) (K : KD n kd) {t : Nat} {a0 : Nat} {n0 : Nat} (ht : kd t = 9) (ha0 : IA kd a0 n0) {x2 : Int32} (hR : x_R X = rm 1) {OK : Mem → Prop} (hx : ∀ s, OK s → EW X g (x_s X).heap.size n 4 (ent g Xo kd s) 0 0 113 [] []) : ∀ (N9 : Nat) (x3 : Int32) (M : Mem) (q : Mem), L_X8_writeTo_44 t a0 n0 x2 N9 x3 M = some q → OK q → EW X g (x_s X).heap.size n 4 (ent g Xo kd M) 0 0 44 [(0, .ref (g_N g + t)), (1, .ref (g_N g + a0)), (2, .int x2), (3, .int x3)] [] := by
  intro N9
  induction N9 with
  | zero =>
    intro x3 M q h
    rw [L_X8_writeTo_44.eq_1] at h
    cases h
  | succ m9 ih =>
    intro x3 M q h hOK
    rw [L_X8_writeTo_44.eq_2] at h
    refine e_iload_n C 3 (dk dX8_writeTo_0 28 rfl) rfl rfl ?_
    refine e_bipush C 7 (dk dX8_writeTo_0 29 rfl) (by decide) ?_
    refine e_icmp_ge C 113 (dk dX8_writeTo_0 30 rfl) (by decide) (fun c1 => ?_) (fun c1 => ?_)
    · rw [if_pos c1] at h
      obtain rfl := Option.some.inj h
      refine e_lv [] rfl ?_
      exact hx _ hOK
    · rw [if_neg c1] at h
      refine e_aload_n C 1 (dk dX8_writeTo_0 31 rfl) rfl rfl ?_
      refine e_iload_n C 2 (dk dX8_writeTo_0 32 rfl) rfl rfl ?_
      refine e_iconst C 4 (dk dX8_writeTo_0 33 rfl) (by decide) ?_
      refine e_iadd C (dk dX8_writeTo_0 34 rfl) ?_
      refine e_iload_n C 3 (dk dX8_writeTo_0 35 rfl) rfl rfl ?_
      refine e_iadd C (dk dX8_writeTo_0 36 rfl) ?_
      refine e_aload_n C 0 (dk dX8_writeTo_0 37 rfl) rfl rfl ?_
      refine gf_X8_coins C K ht fl_X8_24 (dk dX8_writeTo_0 38 rfl) ?_
      refine e_iload_n C 3 (dk dX8_writeTo_0 39 rfl) rfl rfl ?_
      refine e_callSN C cal_X11_at sm_X11_at mn_X8_41 hR (by decide) (dk dX8_writeTo_0 40 rfl) (c_X11_at K (kd_X8_coins K ht) (rfl : F_X11_at (t + 1) 7 x3 M = _)) ⟨Nat.zero_le _, Nat.zero_le _⟩ (Nat.le_of_ble_eq_true rfl) rfl ?_
      refine e_callSN C cal_X11_put sm_X11_put mn_X8_45 hR (by decide) (dk dX8_writeTo_0 41 rfl) (c_X11_put K ha0 (rfl : F_X11_put a0 n0 ((x2 + 4) + x3) (F_X11_at (t + 1) 7 x3 M) M = _)) ⟨Nat.zero_le _, Nat.zero_le _⟩ (Nat.le_of_ble_eq_true rfl) rfl ?_
      refine e_aload_n C 1 (dk dX8_writeTo_0 42 rfl) rfl rfl ?_
      refine e_iload_n C 2 (dk dX8_writeTo_0 43 rfl) rfl rfl ?_
      refine e_iconst C 4 (dk dX8_writeTo_0 44 rfl) (by decide) ?_
      refine e_iadd C (dk dX8_writeTo_0 45 rfl) ?_
      refine e_bipush C 7 (dk dX8_writeTo_0 46 rfl) (by decide) ?_
      refine e_iadd C (dk dX8_writeTo_0 47 rfl) ?_
      refine e_iload_n C 3 (dk dX8_writeTo_0 48 rfl) rfl rfl ?_
      refine e_iadd C (dk dX8_writeTo_0 49 rfl) ?_
      refine e_aload_n C 0 (dk dX8_writeTo_0 50 rfl) rfl rfl ?_
      refine gf_X8_knows C K ht fl_X8_28 (dk dX8_writeTo_0 51 rfl) ?_
      refine e_iload_n C 3 (dk dX8_writeTo_0 52 rfl) rfl rfl ?_
      refine e_callSN C cal_X11_at sm_X11_at mn_X8_41 hR (by decide) (dk dX8_writeTo_0 53 rfl) (c_X11_at K (kd_X8_knows K ht) (rfl : F_X11_at (t + 2) 7 x3 (F_X11_put a0 n0 ((x2 + 4) + x3) (F_X11_at (t + 1) 7 x3 M) M) = _)) ⟨Nat.zero_le _, Nat.zero_le _⟩ (Nat.le_of_ble_eq_true rfl) rfl ?_
      refine e_callSN C cal_X11_put sm_X11_put mn_X8_45 hR (by decide) (dk dX8_writeTo_0 54 rfl) (c_X11_put K ha0 (rfl : F_X11_put a0 n0 (((x2 + 4) + 7) + x3) (F_X11_at (t + 2) 7 x3 (F_X11_put a0 n0 ((x2 + 4) + x3) (F_X11_at (t + 1) 7 x3 M) M)) (F_X11_put a0 n0 ((x2 + 4) + x3) (F_X11_at (t + 1) 7 x3 M) M) = _)) ⟨Nat.zero_le _, Nat.zero_le _⟩ (Nat.le_of_ble_eq_true rfl) rfl ?_
      refine e_aload_n C 1 (dk dX8_writeTo_0 55 rfl) rfl rfl ?_
      refine e_iload_n C 2 (dk dX8_writeTo_0 56 rfl) rfl rfl ?_
      refine e_iconst C 4 (dk dX8_writeTo_0 57 rfl) (by decide) ?_
      refine e_iadd C (dk dX8_writeTo_0 58 rfl) ?_
      refine e_bipush C 14 (dk dX8_writeTo_0 59 rfl) (by decide) ?_
      refine e_iadd C (dk dX8_writeTo_1 0 rfl) ?_
      refine e_iload_n C 3 (dk dX8_writeTo_1 1 rfl) rfl rfl ?_
      refine e_iadd C (dk dX8_writeTo_1 2 rfl) ?_
      refine e_aload_n C 0 (dk dX8_writeTo_1 3 rfl) rfl rfl ?_
      refine gf_X8_walks C K ht fl_X8_31 (dk dX8_writeTo_1 4 rfl) ?_
      refine e_iload_n C 3 (dk dX8_writeTo_1 5 rfl) rfl rfl ?_
      refine e_callSN C cal_X11_at sm_X11_at mn_X8_41 hR (by decide) (dk dX8_writeTo_1 6 rfl) (c_X11_at K (kd_X8_walks K ht) (rfl : F_X11_at (t + 3) 7 x3 (F_X11_put a0 n0 (((x2 + 4) + 7) + x3) (F_X11_at (t + 2) 7 x3 (F_X11_put a0 n0 ((x2 + 4) + x3) (F_X11_at (t + 1) 7 x3 M) M)) (F_X11_put a0 n0 ((x2 + 4) + x3) (F_X11_at (t + 1) 7 x3 M) M)) = _)) ⟨Nat.zero_le _, Nat.zero_le _⟩ (Nat.le_of_ble_eq_true rfl) rfl ?_
      refine e_callSN C cal_X11_put sm_X11_put mn_X8_45 hR (by decide) (dk dX8_writeTo_1 7 rfl) (c_X11_put K ha0 (rfl : F_X11_put a0 n0 (((x2 + 4) + 14) + x3) (F_X11_at (t + 3) 7 x3 (F_X11_put a0 n0 (((x2 + 4) + 7) + x3) (F_X11_at (t + 2) 7 x3 (F_X11_put a0 n0 ((x2 + 4) + x3) (F_X11_at (t + 1) 7 x3 M) M)) (F_X11_put a0 n0 ((x2 + 4) + x3) (F_X11_at (t + 1) 7 x3 M) M))) (F_X11_put a0 n0 (((x2 + 4) + 7) + x3) (F_X11_at (t + 2) 7 x3 (F_X11_put a0 n0 ((x2 + 4) + x3) (F_X11_at (t + 1) 7 x3 M) M)) (F_X11_put a0 n0 ((x2 + 4) + x3) (F_X11_at (t + 1) 7 x3 M) M)) = _)) ⟨Nat.zero_le _, Nat.zero_le _⟩ (Nat.le_of_ble_eq_true rfl) rfl ?_
      refine e_iinc C [(3, .int (x3 + 1)), (0, .ref (g_N g + t)), (1, .ref (g_N g + a0)), (2, .int x2)] 3 1 (dk dX8_writeTo_1 8 rfl) rfl (by decide) (by decide) rfl ?_
      refine e_goto C 44 (dk dX8_writeTo_1 9 rfl) (by decide) ?_
      refine e_lv [1, 2, 3, 0] rfl ?_
      exact ih _ _ _ h hOK
set_option maxRecDepth 20000 in
theorem lb_X8_writeTo_44 {X : FX} {g : WC} {Xo : Nat → va_E} {n : Nat} {kd : Nat → Nat} (C : Cx X g RX8 cX8_writeTo 4) (K : KD n kd) {t : Nat} {a0 : Nat} {n0 : Nat} (ht : kd t = 9) (ha0 : IA kd a0 n0) {x2 : Int32} (hR : x_R X = rm 1) {T9 : Type} {f9 : Mem → Option T9} {b9 : T9} (hx : ∀ s, f9 s = some b9 → EW X g (x_s X).heap.size n 4 (ent g Xo kd s) 0 0 113 [] []) {x3 : Int32} {M : Mem} (h : (L_X8_writeTo_44 t a0 n0 x2 FU x3 M).bind f9 = some b9) : EW X g (x_s X).heap.size n 4 (ent g Xo kd M) 0 0 44 [(0, .ref (g_N g + t)), (1, .ref (g_N g + a0)), (2, .int x2), (3, .int x3)] [] := by
  obtain ⟨q, hq, h⟩ := ob h
  exact l_X8_writeTo_44 C K ht ha0 hR (OK := fun q => f9 q = some b9) hx FU x3 M q hq h
set_option maxRecDepth 20000 in
theorem c_X8_writeTo {g : WC} {Xo : Nat → va_E} {n : Nat} {kd : Nat → Nat} (K : KD n kd) {t : Nat} {a0 : Nat} {n0 : Nat} {p1 : Int32} (ht : kd t = 9) (ha0 : IA kd a0 n0) {M : Mem} {res : Mem} (h : F_X8_writeTo t a0 n0 p1 M = some res) : MC g yX8_writeTo cX8_writeTo 4 none 1 n [.ref (g_N g + t), .ref (g_N g + a0), .int p1] (ent g Xo kd M) none (ent g Xo kd res) := by
  refine MC_of pn_X8 (Nat.le_of_ble_eq_true rfl) (fun X C B => ?_)
  have hR := B.1
  rw [F_X8_writeTo] at h
  refine e_aload_n C 1 (dk dX8_writeTo_0 0 rfl) rfl rfl ?_
  refine e_iload_n C 2 (dk dX8_writeTo_0 1 rfl) rfl rfl ?_
  refine e_aload_n C 0 (dk dX8_writeTo_0 2 rfl) rfl rfl ?_
  refine gf_X8_night C K ht fl_X8_9 (dk dX8_writeTo_0 3 rfl) ?_
  refine e_callSN C cal_X11_put sm_X11_put mn_X8_45 hR (by decide) (dk dX8_writeTo_0 4 rfl) (c_X11_put K ha0 (rfl : F_X11_put a0 n0 p1 (M t 0) M = _)) ⟨Nat.zero_le _, Nat.zero_le _⟩ (Nat.le_of_ble_eq_true rfl) rfl ?_
  refine e_aload_n C 1 (dk dX8_writeTo_0 5 rfl) rfl rfl ?_
  refine e_iload_n C 2 (dk dX8_writeTo_0 6 rfl) rfl rfl ?_
  refine e_iconst C 1 (dk dX8_writeTo_0 7 rfl) (by decide) ?_
  refine e_iadd C (dk dX8_writeTo_0 8 rfl) ?_
  refine e_aload_n C 0 (dk dX8_writeTo_0 9 rfl) rfl rfl ?_
  refine gf_X8_dark C K ht fl_X8_15 (dk dX8_writeTo_0 10 rfl) ?_
  refine e_callSN C cal_X11_put sm_X11_put mn_X8_45 hR (by decide) (dk dX8_writeTo_0 11 rfl) (c_X11_put K ha0 (rfl : F_X11_put a0 n0 (p1 + 1) ((F_X11_put a0 n0 p1 (M t 0) M) t 1) (F_X11_put a0 n0 p1 (M t 0) M) = _)) ⟨Nat.zero_le _, Nat.zero_le _⟩ (Nat.le_of_ble_eq_true rfl) rfl ?_
  refine e_aload_n C 1 (dk dX8_writeTo_0 12 rfl) rfl rfl ?_
  refine e_iload_n C 2 (dk dX8_writeTo_0 13 rfl) rfl rfl ?_
  refine e_iconst C 2 (dk dX8_writeTo_0 14 rfl) (by decide) ?_
  refine e_iadd C (dk dX8_writeTo_0 15 rfl) ?_
  refine e_aload_n C 0 (dk dX8_writeTo_0 16 rfl) rfl rfl ?_
  refine gf_X8_bribing C K ht fl_X8_18 (dk dX8_writeTo_0 17 rfl) ?_
  refine e_callSN C cal_X11_put sm_X11_put mn_X8_45 hR (by decide) (dk dX8_writeTo_0 18 rfl) (c_X11_put K ha0 (rfl : F_X11_put a0 n0 (p1 + 2) ((F_X11_put a0 n0 (p1 + 1) ((F_X11_put a0 n0 p1 (M t 0) M) t 1) (F_X11_put a0 n0 p1 (M t 0) M)) t 2) (F_X11_put a0 n0 (p1 + 1) ((F_X11_put a0 n0 p1 (M t 0) M) t 1) (F_X11_put a0 n0 p1 (M t 0) M)) = _)) ⟨Nat.zero_le _, Nat.zero_le _⟩ (Nat.le_of_ble_eq_true rfl) rfl ?_
  refine e_aload_n C 1 (dk dX8_writeTo_0 19 rfl) rfl rfl ?_
  refine e_iload_n C 2 (dk dX8_writeTo_0 20 rfl) rfl rfl ?_
  refine e_iconst C 3 (dk dX8_writeTo_0 21 rfl) (by decide) ?_
  refine e_iadd C (dk dX8_writeTo_0 22 rfl) ?_
  refine e_aload_n C 0 (dk dX8_writeTo_0 23 rfl) rfl rfl ?_
  refine gf_X8_reserve C K ht fl_X8_21 (dk dX8_writeTo_0 24 rfl) ?_
  refine e_callSN C cal_X11_put sm_X11_put mn_X8_45 hR (by decide) (dk dX8_writeTo_0 25 rfl) (c_X11_put K ha0 (rfl : F_X11_put a0 n0 (p1 + 3) ((F_X11_put a0 n0 (p1 + 2) ((F_X11_put a0 n0 (p1 + 1) ((F_X11_put a0 n0 p1 (M t 0) M) t 1) (F_X11_put a0 n0 p1 (M t 0) M)) t 2) (F_X11_put a0 n0 (p1 + 1) ((F_X11_put a0 n0 p1 (M t 0) M) t 1) (F_X11_put a0 n0 p1 (M t 0) M))) t 3) (F_X11_put a0 n0 (p1 + 2) ((F_X11_put a0 n0 (p1 + 1) ((F_X11_put a0 n0 p1 (M t 0) M) t 1) (F_X11_put a0 n0 p1 (M t 0) M)) t 2) (F_X11_put a0 n0 (p1 + 1) ((F_X11_put a0 n0 p1 (M t 0) M) t 1) (F_X11_put a0 n0 p1 (M t 0) M))) = _)) ⟨Nat.zero_le _, Nat.zero_le _⟩ (Nat.le_of_ble_eq_true rfl) rfl ?_
  refine e_iconst C 0 (dk dX8_writeTo_0 26 rfl) (by decide) ?_
  refine e_istore_n C [(3, .int 0), (0, .ref (g_N g + t)), (1, .ref (g_N g + a0)), (2, .int p1)] (dk dX8_writeTo_0 27 rfl) rfl (by decide) rfl ?_
  refine e_lv [1, 2, 3, 0] rfl ?_
  refine lb_X8_writeTo_44 C K ht ha0 hR (fun s3 h => ?_) h
  obtain rfl := Option.some.inj h
  exact e_vret C B (dk dX8_writeTo_1 10 rfl)
set_option maxRecDepth 20000 in
theorem l_X8_readFrom_44 {X : FX} {g : WC} {Xo : Nat → va_E} {n : Nat} {kd : Nat → Nat} (C : Cx X g RX8 cX8_readFrom 4) (K : KD n kd) {t : Nat} {a0 : Nat} {n0 : Nat} (ht : kd t = 9) (ha0 : IA kd a0 n0) {x2 : Int32} (hR : x_R X = rm 1) {OK : Mem → Prop} (hx : ∀ s, OK s → EW X g (x_s X).heap.size n 4 (ent g Xo kd s) 0 0 113 [] []) : ∀ (N9 : Nat) (x3 : Int32) (M : Mem) (q : Mem), L_X8_readFrom_44 t a0 n0 x2 N9 x3 M = some q → OK q → EW X g (x_s X).heap.size n 4 (ent g Xo kd M) 0 0 44 [(0, .ref (g_N g + t)), (1, .ref (g_N g + a0)), (2, .int x2), (3, .int x3)] [] := by
  intro N9
  induction N9 with
  | zero =>
    intro x3 M q h
    rw [L_X8_readFrom_44.eq_1] at h
    cases h
  | succ m9 ih =>
    intro x3 M q h hOK
    rw [L_X8_readFrom_44.eq_2] at h
    refine e_iload_n C 3 (dk dX8_readFrom_0 28 rfl) rfl rfl ?_
    refine e_bipush C 7 (dk dX8_readFrom_0 29 rfl) (by decide) ?_
    refine e_icmp_ge C 113 (dk dX8_readFrom_0 30 rfl) (by decide) (fun c1 => ?_) (fun c1 => ?_)
    · rw [if_pos c1] at h
      obtain rfl := Option.some.inj h
      refine e_lv [] rfl ?_
      exact hx _ hOK
    · rw [if_neg c1] at h
      refine e_aload_n C 0 (dk dX8_readFrom_0 31 rfl) rfl rfl ?_
      refine gf_X8_coins C K ht fl_X8_24 (dk dX8_readFrom_0 32 rfl) ?_
      refine e_iload_n C 3 (dk dX8_readFrom_0 33 rfl) rfl rfl ?_
      refine e_aload_n C 1 (dk dX8_readFrom_0 34 rfl) rfl rfl ?_
      refine e_iload_n C 2 (dk dX8_readFrom_0 35 rfl) rfl rfl ?_
      refine e_iconst C 4 (dk dX8_readFrom_0 36 rfl) (by decide) ?_
      refine e_iadd C (dk dX8_readFrom_0 37 rfl) ?_
      refine e_iload_n C 3 (dk dX8_readFrom_0 38 rfl) rfl rfl ?_
      refine e_iadd C (dk dX8_readFrom_0 39 rfl) ?_
      refine e_callSN C cal_X11_at sm_X11_at mn_X8_41 hR (by decide) (dk dX8_readFrom_0 40 rfl) (c_X11_at K ha0 (rfl : F_X11_at a0 n0 ((x2 + 4) + x3) M = _)) ⟨Nat.zero_le _, Nat.zero_le _⟩ (Nat.le_of_ble_eq_true rfl) rfl ?_
      refine e_callSN C cal_X11_put sm_X11_put mn_X8_45 hR (by decide) (dk dX8_readFrom_0 41 rfl) (c_X11_put K (kd_X8_coins K ht) (rfl : F_X11_put (t + 1) 7 x3 (F_X11_at a0 n0 ((x2 + 4) + x3) M) M = _)) ⟨Nat.zero_le _, Nat.zero_le _⟩ (Nat.le_of_ble_eq_true rfl) rfl ?_
      refine e_aload_n C 0 (dk dX8_readFrom_0 42 rfl) rfl rfl ?_
      refine gf_X8_knows C K ht fl_X8_28 (dk dX8_readFrom_0 43 rfl) ?_
      refine e_iload_n C 3 (dk dX8_readFrom_0 44 rfl) rfl rfl ?_
      refine e_aload_n C 1 (dk dX8_readFrom_0 45 rfl) rfl rfl ?_
      refine e_iload_n C 2 (dk dX8_readFrom_0 46 rfl) rfl rfl ?_
      refine e_iconst C 4 (dk dX8_readFrom_0 47 rfl) (by decide) ?_
      refine e_iadd C (dk dX8_readFrom_0 48 rfl) ?_
      refine e_bipush C 7 (dk dX8_readFrom_0 49 rfl) (by decide) ?_
      refine e_iadd C (dk dX8_readFrom_0 50 rfl) ?_
      refine e_iload_n C 3 (dk dX8_readFrom_0 51 rfl) rfl rfl ?_
      refine e_iadd C (dk dX8_readFrom_0 52 rfl) ?_
      refine e_callSN C cal_X11_at sm_X11_at mn_X8_41 hR (by decide) (dk dX8_readFrom_0 53 rfl) (c_X11_at K ha0 (rfl : F_X11_at a0 n0 (((x2 + 4) + 7) + x3) (F_X11_put (t + 1) 7 x3 (F_X11_at a0 n0 ((x2 + 4) + x3) M) M) = _)) ⟨Nat.zero_le _, Nat.zero_le _⟩ (Nat.le_of_ble_eq_true rfl) rfl ?_
      refine e_callSN C cal_X11_put sm_X11_put mn_X8_45 hR (by decide) (dk dX8_readFrom_0 54 rfl) (c_X11_put K (kd_X8_knows K ht) (rfl : F_X11_put (t + 2) 7 x3 (F_X11_at a0 n0 (((x2 + 4) + 7) + x3) (F_X11_put (t + 1) 7 x3 (F_X11_at a0 n0 ((x2 + 4) + x3) M) M)) (F_X11_put (t + 1) 7 x3 (F_X11_at a0 n0 ((x2 + 4) + x3) M) M) = _)) ⟨Nat.zero_le _, Nat.zero_le _⟩ (Nat.le_of_ble_eq_true rfl) rfl ?_
      refine e_aload_n C 0 (dk dX8_readFrom_0 55 rfl) rfl rfl ?_
      refine gf_X8_walks C K ht fl_X8_31 (dk dX8_readFrom_0 56 rfl) ?_
      refine e_iload_n C 3 (dk dX8_readFrom_0 57 rfl) rfl rfl ?_
      refine e_aload_n C 1 (dk dX8_readFrom_0 58 rfl) rfl rfl ?_
      refine e_iload_n C 2 (dk dX8_readFrom_0 59 rfl) rfl rfl ?_
      refine e_iconst C 4 (dk dX8_readFrom_1 0 rfl) (by decide) ?_
      refine e_iadd C (dk dX8_readFrom_1 1 rfl) ?_
      refine e_bipush C 14 (dk dX8_readFrom_1 2 rfl) (by decide) ?_
      refine e_iadd C (dk dX8_readFrom_1 3 rfl) ?_
      refine e_iload_n C 3 (dk dX8_readFrom_1 4 rfl) rfl rfl ?_
      refine e_iadd C (dk dX8_readFrom_1 5 rfl) ?_
      refine e_callSN C cal_X11_at sm_X11_at mn_X8_41 hR (by decide) (dk dX8_readFrom_1 6 rfl) (c_X11_at K ha0 (rfl : F_X11_at a0 n0 (((x2 + 4) + 14) + x3) (F_X11_put (t + 2) 7 x3 (F_X11_at a0 n0 (((x2 + 4) + 7) + x3) (F_X11_put (t + 1) 7 x3 (F_X11_at a0 n0 ((x2 + 4) + x3) M) M)) (F_X11_put (t + 1) 7 x3 (F_X11_at a0 n0 ((x2 + 4) + x3) M) M)) = _)) ⟨Nat.zero_le _, Nat.zero_le _⟩ (Nat.le_of_ble_eq_true rfl) rfl ?_
      refine e_callSN C cal_X11_put sm_X11_put mn_X8_45 hR (by decide) (dk dX8_readFrom_1 7 rfl) (c_X11_put K (kd_X8_walks K ht) (rfl : F_X11_put (t + 3) 7 x3 (F_X11_at a0 n0 (((x2 + 4) + 14) + x3) (F_X11_put (t + 2) 7 x3 (F_X11_at a0 n0 (((x2 + 4) + 7) + x3) (F_X11_put (t + 1) 7 x3 (F_X11_at a0 n0 ((x2 + 4) + x3) M) M)) (F_X11_put (t + 1) 7 x3 (F_X11_at a0 n0 ((x2 + 4) + x3) M) M))) (F_X11_put (t + 2) 7 x3 (F_X11_at a0 n0 (((x2 + 4) + 7) + x3) (F_X11_put (t + 1) 7 x3 (F_X11_at a0 n0 ((x2 + 4) + x3) M) M)) (F_X11_put (t + 1) 7 x3 (F_X11_at a0 n0 ((x2 + 4) + x3) M) M)) = _)) ⟨Nat.zero_le _, Nat.zero_le _⟩ (Nat.le_of_ble_eq_true rfl) rfl ?_
      refine e_iinc C [(3, .int (x3 + 1)), (0, .ref (g_N g + t)), (1, .ref (g_N g + a0)), (2, .int x2)] 3 1 (dk dX8_readFrom_1 8 rfl) rfl (by decide) (by decide) rfl ?_
      refine e_goto C 44 (dk dX8_readFrom_1 9 rfl) (by decide) ?_
      refine e_lv [1, 2, 3, 0] rfl ?_
      exact ih _ _ _ h hOK
set_option maxRecDepth 20000 in
theorem lb_X8_readFrom_44 {X : FX} {g : WC} {Xo : Nat → va_E} {n : Nat} {kd : Nat → Nat} (C : Cx X g RX8 cX8_readFrom 4) (K : KD n kd) {t : Nat} {a0 : Nat} {n0 : Nat} (ht : kd t = 9) (ha0 : IA kd a0 n0) {x2 : Int32} (hR : x_R X = rm 1) {T9 : Type} {f9 : Mem → Option T9} {b9 : T9} (hx : ∀ s, f9 s = some b9 → EW X g (x_s X).heap.size n 4 (ent g Xo kd s) 0 0 113 [] []) {x3 : Int32} {M : Mem} (h : (L_X8_readFrom_44 t a0 n0 x2 FU x3 M).bind f9 = some b9) : EW X g (x_s X).heap.size n 4 (ent g Xo kd M) 0 0 44 [(0, .ref (g_N g + t)), (1, .ref (g_N g + a0)), (2, .int x2), (3, .int x3)] [] := by
  obtain ⟨q, hq, h⟩ := ob h
  exact l_X8_readFrom_44 C K ht ha0 hR (OK := fun q => f9 q = some b9) hx FU x3 M q hq h
set_option maxRecDepth 20000 in
theorem c_X8_readFrom {g : WC} {Xo : Nat → va_E} {n : Nat} {kd : Nat → Nat} (K : KD n kd) {t : Nat} {a0 : Nat} {n0 : Nat} {p1 : Int32} (ht : kd t = 9) (ha0 : IA kd a0 n0) {M : Mem} {res : Mem} (h : F_X8_readFrom t a0 n0 p1 M = some res) : MC g yX8_readFrom cX8_readFrom 4 none 1 n [.ref (g_N g + t), .ref (g_N g + a0), .int p1] (ent g Xo kd M) none (ent g Xo kd res) := by
  refine MC_of pn_X8 (Nat.le_of_ble_eq_true rfl) (fun X C B => ?_)
  have hR := B.1
  rw [F_X8_readFrom] at h
  refine e_aload_n C 0 (dk dX8_readFrom_0 0 rfl) rfl rfl ?_
  refine e_aload_n C 1 (dk dX8_readFrom_0 1 rfl) rfl rfl ?_
  refine e_iload_n C 2 (dk dX8_readFrom_0 2 rfl) rfl rfl ?_
  refine e_callSN C cal_X11_at sm_X11_at mn_X8_41 hR (by decide) (dk dX8_readFrom_0 3 rfl) (c_X11_at K ha0 (rfl : F_X11_at a0 n0 p1 M = _)) ⟨Nat.zero_le _, Nat.zero_le _⟩ (Nat.le_of_ble_eq_true rfl) rfl ?_
  refine pf_X8_night C K ht fl_X8_9 (dk dX8_readFrom_0 4 rfl) ?_
  refine e_aload_n C 0 (dk dX8_readFrom_0 5 rfl) rfl rfl ?_
  refine e_aload_n C 1 (dk dX8_readFrom_0 6 rfl) rfl rfl ?_
  refine e_iload_n C 2 (dk dX8_readFrom_0 7 rfl) rfl rfl ?_
  refine e_iconst C 1 (dk dX8_readFrom_0 8 rfl) (by decide) ?_
  refine e_iadd C (dk dX8_readFrom_0 9 rfl) ?_
  refine e_callSN C cal_X11_at sm_X11_at mn_X8_41 hR (by decide) (dk dX8_readFrom_0 10 rfl) (c_X11_at K ha0 (rfl : F_X11_at a0 n0 (p1 + 1) (up M t 0 (F_X11_at a0 n0 p1 M)) = _)) ⟨Nat.zero_le _, Nat.zero_le _⟩ (Nat.le_of_ble_eq_true rfl) rfl ?_
  refine pf_X8_dark C K ht fl_X8_15 (dk dX8_readFrom_0 11 rfl) ?_
  refine e_aload_n C 0 (dk dX8_readFrom_0 12 rfl) rfl rfl ?_
  refine e_aload_n C 1 (dk dX8_readFrom_0 13 rfl) rfl rfl ?_
  refine e_iload_n C 2 (dk dX8_readFrom_0 14 rfl) rfl rfl ?_
  refine e_iconst C 2 (dk dX8_readFrom_0 15 rfl) (by decide) ?_
  refine e_iadd C (dk dX8_readFrom_0 16 rfl) ?_
  refine e_callSN C cal_X11_at sm_X11_at mn_X8_41 hR (by decide) (dk dX8_readFrom_0 17 rfl) (c_X11_at K ha0 (rfl : F_X11_at a0 n0 (p1 + 2) (up (up M t 0 (F_X11_at a0 n0 p1 M)) t 1 (F_X11_at a0 n0 (p1 + 1) (up M t 0 (F_X11_at a0 n0 p1 M)))) = _)) ⟨Nat.zero_le _, Nat.zero_le _⟩ (Nat.le_of_ble_eq_true rfl) rfl ?_
  refine pf_X8_bribing C K ht fl_X8_18 (dk dX8_readFrom_0 18 rfl) ?_
  refine e_aload_n C 0 (dk dX8_readFrom_0 19 rfl) rfl rfl ?_
  refine e_aload_n C 1 (dk dX8_readFrom_0 20 rfl) rfl rfl ?_
  refine e_iload_n C 2 (dk dX8_readFrom_0 21 rfl) rfl rfl ?_
  refine e_iconst C 3 (dk dX8_readFrom_0 22 rfl) (by decide) ?_
  refine e_iadd C (dk dX8_readFrom_0 23 rfl) ?_
  refine e_callSN C cal_X11_at sm_X11_at mn_X8_41 hR (by decide) (dk dX8_readFrom_0 24 rfl) (c_X11_at K ha0 (rfl : F_X11_at a0 n0 (p1 + 3) (up (up (up M t 0 (F_X11_at a0 n0 p1 M)) t 1 (F_X11_at a0 n0 (p1 + 1) (up M t 0 (F_X11_at a0 n0 p1 M)))) t 2 (F_X11_at a0 n0 (p1 + 2) (up (up M t 0 (F_X11_at a0 n0 p1 M)) t 1 (F_X11_at a0 n0 (p1 + 1) (up M t 0 (F_X11_at a0 n0 p1 M)))))) = _)) ⟨Nat.zero_le _, Nat.zero_le _⟩ (Nat.le_of_ble_eq_true rfl) rfl ?_
  refine pf_X8_reserve C K ht fl_X8_21 (dk dX8_readFrom_0 25 rfl) ?_
  refine e_iconst C 0 (dk dX8_readFrom_0 26 rfl) (by decide) ?_
  refine e_istore_n C [(3, .int 0), (0, .ref (g_N g + t)), (1, .ref (g_N g + a0)), (2, .int p1)] (dk dX8_readFrom_0 27 rfl) rfl (by decide) rfl ?_
  refine e_lv [1, 2, 3, 0] rfl ?_
  refine lb_X8_readFrom_44 C K ht ha0 hR (fun s3 h => ?_) h
  obtain rfl := Option.some.inj h
  exact e_vret C B (dk dX8_readFrom_1 10 rfl)
set_option maxRecDepth 20000 in
theorem c_X8_isBribing {g : WC} {Xo : Nat → va_E} {n : Nat} {kd : Nat → Nat} (K : KD n kd) {t : Nat} {p0 : Int32} (ht : kd t = 9) {M : Mem} {res : Bool} (h : F_X8_isBribing t p0 M = res) : MC g yX8_isBribing cX8_isBribing 2 (some .boolean) 0 n [.ref (g_N g + t), .int p0] (ent g Xo kd M) (some (.int (bi res))) (ent g Xo kd M) := by
  refine MC_of pn_X8 (Nat.le_of_ble_eq_true rfl) (fun X C B => ?_)
  have hR := B.1
  rw [F_X8_isBribing] at h
  refine e_aload_n C 0 (dk dX8_isBribing 0 rfl) rfl rfl ?_
  refine gf_X8_bribing C K ht fl_X8_18 (dk dX8_isBribing 1 rfl) ?_
  refine e_iload_n C 1 (dk dX8_isBribing 2 rfl) rfl rfl ?_
  refine e_ishr C (dk dX8_isBribing 3 rfl) ?_
  refine e_iconst C 1 (dk dX8_isBribing 4 rfl) (by decide) ?_
  refine e_iand C (dk dX8_isBribing 5 rfl) ?_
  refine e_if_eq C 15 (dk dX8_isBribing 6 rfl) (by decide) (fun c1 => ?_) (fun c1 => ?_)
  · rw [if_pos c1] at h
    refine e_iconst C 0 (dk dX8_isBribing 9 rfl) (by decide) ?_
    subst h
    exact e_iret (v := bi false) C B (nar_bi _) (dk dX8_isBribing 10 rfl)
  · rw [if_neg c1] at h
    refine e_iconst C 1 (dk dX8_isBribing 7 rfl) (by decide) ?_
    refine e_goto C 16 (dk dX8_isBribing 8 rfl) (by decide) ?_
    subst h
    exact e_iret (v := bi true) C B (nar_bi _) (dk dX8_isBribing 10 rfl)
set_option maxRecDepth 20000 in
theorem c_X8_canBribe {g : WC} {Xo : Nat → va_E} {n : Nat} {kd : Nat → Nat} (K : KD n kd) {t : Nat} {p0 : Int32} (ht : kd t = 9) {M : Mem} {res : Bool} (h : F_X8_canBribe t p0 M = res) : MC g yX8_canBribe cX8_canBribe 2 (some .boolean) 1 n [.ref (g_N g + t), .int p0] (ent g Xo kd M) (some (.int (bi res))) (ent g Xo kd M) := by
  refine MC_of pn_X8 (Nat.le_of_ble_eq_true rfl) (fun X C B => ?_)
  have hR := B.1
  rw [F_X8_canBribe] at h
  refine e_aload_n C 0 (dk dX8_canBribe 0 rfl) rfl rfl ?_
  refine e_iload_n C 1 (dk dX8_canBribe 1 rfl) rfl rfl ?_
  refine e_callV (ci := 8) C cal_X8_isBribing im_X8_isBribing se_X8_isBribing ml_X8_54 rfl hR (by decide) (dk dX8_canBribe 2 rfl) (K.1 _ (by rw [ht]; decide)) (ent_o8 ht) (c_X8_isBribing K ht (rfl : F_X8_isBribing t p0 M = _)) ⟨Nat.zero_le _, Nat.zero_le _⟩ (Nat.le_of_ble_eq_true rfl) rfl ?_
  refine e_if_ne C 24 (dk dX8_canBribe 3 rfl) (by decide) (fun c1 => ?_) (fun c1 => ?_)
  · rw [if_neg c1] at h
    refine e_iconst C 0 (dk dX8_canBribe 12 rfl) (by decide) ?_
    subst h
    exact e_iret (v := bi false) C B (nar_bi _) (dk dX8_canBribe 13 rfl)
  · rw [if_pos c1] at h
    refine e_aload_n C 0 (dk dX8_canBribe 4 rfl) rfl rfl ?_
    refine gf_X8_coins C K ht fl_X8_24 (dk dX8_canBribe 5 rfl) ?_
    refine e_iload_n C 1 (dk dX8_canBribe 6 rfl) rfl rfl ?_
    refine e_callSN C cal_X11_at sm_X11_at mn_X8_41 hR (by decide) (dk dX8_canBribe 7 rfl) (c_X11_at K (kd_X8_coins K ht) (rfl : F_X11_at (t + 1) 7 p0 M = _)) ⟨Nat.zero_le _, Nat.zero_le _⟩ (Nat.le_of_ble_eq_true rfl) rfl ?_
    refine e_iconst C 5 (dk dX8_canBribe 8 rfl) (by decide) ?_
    refine e_icmp_lt C 24 (dk dX8_canBribe 9 rfl) (by decide) (fun c2 => ?_) (fun c2 => ?_)
    · rw [if_pos c2] at h
      refine e_iconst C 0 (dk dX8_canBribe 12 rfl) (by decide) ?_
      subst h
      exact e_iret (v := bi false) C B (nar_bi _) (dk dX8_canBribe 13 rfl)
    · rw [if_neg c2] at h
      refine e_iconst C 1 (dk dX8_canBribe 10 rfl) (by decide) ?_
      refine e_goto C 25 (dk dX8_canBribe 11 rfl) (by decide) ?_
      subst h
      exact e_iret (v := bi true) C B (nar_bi _) (dk dX8_canBribe 13 rfl)
set_option maxRecDepth 20000 in
theorem c_X8_startBribing {g : WC} {Xo : Nat → va_E} {n : Nat} {kd : Nat → Nat} (K : KD n kd) {t : Nat} {p0 : Int32} (ht : kd t = 9) {M : Mem} {res : Mem} (h : F_X8_startBribing t p0 M = res) : MC g yX8_startBribing cX8_startBribing 2 none 1 n [.ref (g_N g + t), .int p0] (ent g Xo kd M) none (ent g Xo kd res) := by
  refine MC_of pn_X8 (Nat.le_of_ble_eq_true rfl) (fun X C B => ?_)
  have hR := B.1
  rw [F_X8_startBribing] at h
  refine e_aload_n C 0 (dk dX8_startBribing 0 rfl) rfl rfl ?_
  refine gf_X8_coins C K ht fl_X8_24 (dk dX8_startBribing 1 rfl) ?_
  refine e_iload_n C 1 (dk dX8_startBribing 2 rfl) rfl rfl ?_
  refine e_aload_n C 0 (dk dX8_startBribing 3 rfl) rfl rfl ?_
  refine gf_X8_coins C K ht fl_X8_24 (dk dX8_startBribing 4 rfl) ?_
  refine e_iload_n C 1 (dk dX8_startBribing 5 rfl) rfl rfl ?_
  refine e_callSN C cal_X11_at sm_X11_at mn_X8_41 hR (by decide) (dk dX8_startBribing 6 rfl) (c_X11_at K (kd_X8_coins K ht) (rfl : F_X11_at (t + 1) 7 p0 M = _)) ⟨Nat.zero_le _, Nat.zero_le _⟩ (Nat.le_of_ble_eq_true rfl) rfl ?_
  refine e_iconst C 5 (dk dX8_startBribing 7 rfl) (by decide) ?_
  refine e_isub C (dk dX8_startBribing 8 rfl) ?_
  refine e_callSN C cal_X11_put sm_X11_put mn_X8_45 hR (by decide) (dk dX8_startBribing 9 rfl) (c_X11_put K (kd_X8_coins K ht) (rfl : F_X11_put (t + 1) 7 p0 ((F_X11_at (t + 1) 7 p0 M) - 5) M = _)) ⟨Nat.zero_le _, Nat.zero_le _⟩ (Nat.le_of_ble_eq_true rfl) rfl ?_
  refine e_aload_n C 0 (dk dX8_startBribing 10 rfl) rfl rfl ?_
  refine e_dup C (dk dX8_startBribing 11 rfl) rfl ?_
  refine gf_X8_bribing C K ht fl_X8_18 (dk dX8_startBribing 12 rfl) ?_
  refine e_iconst C 1 (dk dX8_startBribing 13 rfl) (by decide) ?_
  refine e_iload_n C 1 (dk dX8_startBribing 14 rfl) rfl rfl ?_
  refine e_ishl C (dk dX8_startBribing 15 rfl) ?_
  refine e_ior C (dk dX8_startBribing 16 rfl) ?_
  refine pf_X8_bribing C K ht fl_X8_18 (dk dX8_startBribing 17 rfl) ?_
  subst h
  exact e_vret C B (dk dX8_startBribing 18 rfl)
set_option maxRecDepth 20000 in
theorem c_X8_addCoins {g : WC} {Xo : Nat → va_E} {n : Nat} {kd : Nat → Nat} (K : KD n kd) {t : Nat} {p0 : Int32} {p1 : Int32} (ht : kd t = 9) {M : Mem} {res : Mem} (h : F_X8_addCoins t p0 p1 M = res) : MC g yX8_addCoins cX8_addCoins 3 none 1 n [.ref (g_N g + t), .int p0, .int p1] (ent g Xo kd M) none (ent g Xo kd res) := by
  refine MC_of pn_X8 (Nat.le_of_ble_eq_true rfl) (fun X C B => ?_)
  have hR := B.1
  rw [F_X8_addCoins] at h
  refine e_aload_n C 0 (dk dX8_addCoins 0 rfl) rfl rfl ?_
  refine gf_X8_coins C K ht fl_X8_24 (dk dX8_addCoins 1 rfl) ?_
  refine e_iload_n C 1 (dk dX8_addCoins 2 rfl) rfl rfl ?_
  refine e_sipush C 999 (dk dX8_addCoins 3 rfl) (by decide) ?_
  refine e_aload_n C 0 (dk dX8_addCoins 4 rfl) rfl rfl ?_
  refine gf_X8_coins C K ht fl_X8_24 (dk dX8_addCoins 5 rfl) ?_
  refine e_iload_n C 1 (dk dX8_addCoins 6 rfl) rfl rfl ?_
  refine e_callSN C cal_X11_at sm_X11_at mn_X8_41 hR (by decide) (dk dX8_addCoins 7 rfl) (c_X11_at K (kd_X8_coins K ht) (rfl : F_X11_at (t + 1) 7 p0 M = _)) ⟨Nat.zero_le _, Nat.zero_le _⟩ (Nat.le_of_ble_eq_true rfl) rfl ?_
  refine e_iload_n C 2 (dk dX8_addCoins 8 rfl) rfl rfl ?_
  refine e_iadd C (dk dX8_addCoins 9 rfl) ?_
  refine e_mmin C hR ml_X8_58 (dk dX8_addCoins 10 rfl) (Nat.le_of_ble_eq_true rfl) ?_
  refine e_callSN C cal_X11_put sm_X11_put mn_X8_45 hR (by decide) (dk dX8_addCoins 11 rfl) (c_X11_put K (kd_X8_coins K ht) (rfl : F_X11_put (t + 1) 7 p0 (imin 999 ((F_X11_at (t + 1) 7 p0 M) + p1)) M = _)) ⟨Nat.zero_le _, Nat.zero_le _⟩ (Nat.le_of_ble_eq_true rfl) rfl ?_
  subst h
  exact e_vret C B (dk dX8_addCoins 12 rfl)
set_option maxRecDepth 20000 in
theorem c_X8_doesKnow {g : WC} {Xo : Nat → va_E} {n : Nat} {kd : Nat → Nat} (K : KD n kd) {t : Nat} {p0 : Int32} {p1 : Int32} (ht : kd t = 9) {M : Mem} {res : Bool} (h : F_X8_doesKnow t p0 p1 M = res) : MC g yX8_doesKnow cX8_doesKnow 3 (some .boolean) 1 n [.ref (g_N g + t), .int p0, .int p1] (ent g Xo kd M) (some (.int (bi res))) (ent g Xo kd M) := by
  refine MC_of pn_X8 (Nat.le_of_ble_eq_true rfl) (fun X C B => ?_)
  have hR := B.1
  rw [F_X8_doesKnow] at h
  refine e_aload_n C 0 (dk dX8_doesKnow 0 rfl) rfl rfl ?_
  refine gf_X8_knows C K ht fl_X8_28 (dk dX8_doesKnow 1 rfl) ?_
  refine e_iload_n C 1 (dk dX8_doesKnow 2 rfl) rfl rfl ?_
  refine e_callSN C cal_X11_at sm_X11_at mn_X8_41 hR (by decide) (dk dX8_doesKnow 3 rfl) (c_X11_at K (kd_X8_knows K ht) (rfl : F_X11_at (t + 2) 7 p0 M = _)) ⟨Nat.zero_le _, Nat.zero_le _⟩ (Nat.le_of_ble_eq_true rfl) rfl ?_
  refine e_iload_n C 2 (dk dX8_doesKnow 4 rfl) rfl rfl ?_
  refine e_ishr C (dk dX8_doesKnow 5 rfl) ?_
  refine e_iconst C 1 (dk dX8_doesKnow 6 rfl) (by decide) ?_
  refine e_iand C (dk dX8_doesKnow 7 rfl) ?_
  refine e_if_eq C 19 (dk dX8_doesKnow 8 rfl) (by decide) (fun c1 => ?_) (fun c1 => ?_)
  · rw [if_pos c1] at h
    refine e_iconst C 0 (dk dX8_doesKnow 11 rfl) (by decide) ?_
    subst h
    exact e_iret (v := bi false) C B (nar_bi _) (dk dX8_doesKnow 12 rfl)
  · rw [if_neg c1] at h
    refine e_iconst C 1 (dk dX8_doesKnow 9 rfl) (by decide) ?_
    refine e_goto C 20 (dk dX8_doesKnow 10 rfl) (by decide) ?_
    subst h
    exact e_iret (v := bi true) C B (nar_bi _) (dk dX8_doesKnow 12 rfl)
set_option maxRecDepth 20000 in
theorem l_X8_coinsOfAll_4 {X : FX} {g : WC} {Xo : Nat → va_E} {n : Nat} {kd : Nat → Nat} (C : Cx X g RX8 cX8_coinsOfAll 3) (K : KD n kd) {t : Nat} (ht : kd t = 9) {M : Mem} (hR : x_R X = rm 0) {OK : Int32 → Prop} (hx : ∀ s, OK s → EW X g (x_s X).heap.size n 3 (ent g Xo kd M) 0 0 28 [(1, .int s)] []) : ∀ (N9 : Nat) (x1 : Int32) (x2 : Int32) (q : Int32), L_X8_coinsOfAll_4 t M N9 x1 x2 = some q → OK q → EW X g (x_s X).heap.size n 3 (ent g Xo kd M) 0 0 4 [(0, .ref (g_N g + t)), (1, .int x1), (2, .int x2)] [] := by
  intro N9
  induction N9 with
  | zero =>
    intro x1 x2 q h
    rw [L_X8_coinsOfAll_4.eq_1] at h
    cases h
  | succ m9 ih =>
    intro x1 x2 q h hOK
    rw [L_X8_coinsOfAll_4.eq_2] at h
    refine e_iload_n C 2 (dk dX8_coinsOfAll 4 rfl) rfl rfl ?_
    refine e_aload_n C 0 (dk dX8_coinsOfAll 5 rfl) rfl rfl ?_
    refine gf_X8_coins C K ht fl_X8_24 (dk dX8_coinsOfAll 6 rfl) ?_
    refine m_alen C K (kd_X8_coins K ht) 7 (by decide) (dk dX8_coinsOfAll 7 rfl) ?_
    refine e_icmp_ge C 28 (dk dX8_coinsOfAll 8 rfl) (by decide) (fun c1 => ?_) (fun c1 => ?_)
    · rw [if_pos c1] at h
      obtain rfl := Option.some.inj h
      refine e_lv [1] rfl ?_
      exact hx _ hOK
    · rw [if_neg c1] at h
      refine e_iload_n C 1 (dk dX8_coinsOfAll 9 rfl) rfl rfl ?_
      refine e_aload_n C 0 (dk dX8_coinsOfAll 10 rfl) rfl rfl ?_
      refine gf_X8_coins C K ht fl_X8_24 (dk dX8_coinsOfAll 11 rfl) ?_
      refine e_iload_n C 2 (dk dX8_coinsOfAll 12 rfl) rfl rfl ?_
      obtain ⟨v2, hv2, h⟩ := ob h
      refine m_ald C K (kd_X8_coins K ht) (dk dX8_coinsOfAll 13 rfl) hv2 ?_
      refine e_iadd C (dk dX8_coinsOfAll 14 rfl) ?_
      refine e_istore_n C [(1, .int (x1 + v2)), (0, .ref (g_N g + t)), (2, .int x2)] (dk dX8_coinsOfAll 15 rfl) rfl (by decide) rfl ?_
      refine e_iinc C [(2, .int (x2 + 1)), (1, .int (x1 + v2)), (0, .ref (g_N g + t))] 2 1 (dk dX8_coinsOfAll 16 rfl) rfl (by decide) (by decide) rfl ?_
      refine e_goto C 4 (dk dX8_coinsOfAll 17 rfl) (by decide) ?_
      refine e_lv [2, 1, 0] rfl ?_
      exact ih _ _ _ h hOK
set_option maxRecDepth 20000 in
theorem lb_X8_coinsOfAll_4 {X : FX} {g : WC} {Xo : Nat → va_E} {n : Nat} {kd : Nat → Nat} (C : Cx X g RX8 cX8_coinsOfAll 3) (K : KD n kd) {t : Nat} (ht : kd t = 9) {M : Mem} (hR : x_R X = rm 0) {T9 : Type} {f9 : Int32 → Option T9} {b9 : T9} (hx : ∀ s, f9 s = some b9 → EW X g (x_s X).heap.size n 3 (ent g Xo kd M) 0 0 28 [(1, .int s)] []) {x1 : Int32} {x2 : Int32} (h : (L_X8_coinsOfAll_4 t M FU x1 x2).bind f9 = some b9) : EW X g (x_s X).heap.size n 3 (ent g Xo kd M) 0 0 4 [(0, .ref (g_N g + t)), (1, .int x1), (2, .int x2)] [] := by
  obtain ⟨q, hq, h⟩ := ob h
  exact l_X8_coinsOfAll_4 C K ht hR (OK := fun q => f9 q = some b9) hx FU x1 x2 q hq h
set_option maxRecDepth 20000 in
theorem c_X8_coinsOfAll {g : WC} {Xo : Nat → va_E} {n : Nat} {kd : Nat → Nat} (K : KD n kd) {t : Nat} (ht : kd t = 9) {M : Mem} {res : Int32} (h : F_X8_coinsOfAll t M = some res) : MC g yX8_coinsOfAll cX8_coinsOfAll 3 (some .int) 0 n [.ref (g_N g + t)] (ent g Xo kd M) (some (.int res)) (ent g Xo kd M) := by
  refine MC_of pn_X8 (Nat.le_of_ble_eq_true rfl) (fun X C B => ?_)
  have hR := B.1
  rw [F_X8_coinsOfAll] at h
  refine e_iconst C 0 (dk dX8_coinsOfAll 0 rfl) (by decide) ?_
  refine e_istore_n C [(1, .int 0), (0, .ref (g_N g + t))] (dk dX8_coinsOfAll 1 rfl) rfl (by decide) rfl ?_
  refine e_iconst C 0 (dk dX8_coinsOfAll 2 rfl) (by decide) ?_
  refine e_istore_n C [(2, .int 0), (1, .int 0), (0, .ref (g_N g + t))] (dk dX8_coinsOfAll 3 rfl) rfl (by decide) rfl ?_
  refine e_lv [2, 1, 0] rfl ?_
  refine lb_X8_coinsOfAll_4 C K ht hR (fun s4 h => ?_) h
  refine e_iload_n C 0 (dk dX8_coinsOfAll 18 rfl) rfl rfl ?_
  obtain rfl := Option.some.inj h
  exact e_iret C B (nar1 _) (dk dX8_coinsOfAll 19 rfl)
set_option maxRecDepth 20000 in
theorem l_X8_knownBy_4 {X : FX} {g : WC} {Xo : Nat → va_E} {n : Nat} {kd : Nat → Nat} (C : Cx X g RX8 cX8_knownBy 4) (K : KD n kd) {t : Nat} (ht : kd t = 9) {x1 : Int32} {M : Mem} (hR : x_R X = rm 0) {OK : Int32 → Prop} (hx : ∀ s, OK s → EW X g (x_s X).heap.size n 4 (ent g Xo kd M) 0 0 36 [(2, .int s)] []) : ∀ (N9 : Nat) (x2 : Int32) (x3 : Int32) (q : Int32), L_X8_knownBy_4 t x1 M N9 x2 x3 = some q → OK q → EW X g (x_s X).heap.size n 4 (ent g Xo kd M) 0 0 4 [(0, .ref (g_N g + t)), (1, .int x1), (2, .int x2), (3, .int x3)] [] := by
  intro N9
  induction N9 with
  | zero =>
    intro x2 x3 q h
    rw [L_X8_knownBy_4.eq_1] at h
    cases h
  | succ m9 ih =>
    intro x2 x3 q h hOK
    rw [L_X8_knownBy_4.eq_2] at h
    refine e_iload_n C 3 (dk dX8_knownBy 4 rfl) rfl rfl ?_
    refine e_aload_n C 0 (dk dX8_knownBy 5 rfl) rfl rfl ?_
    refine gf_X8_knows C K ht fl_X8_28 (dk dX8_knownBy 6 rfl) ?_
    refine m_alen C K (kd_X8_knows K ht) 7 (by decide) (dk dX8_knownBy 7 rfl) ?_
    refine e_icmp_ge C 36 (dk dX8_knownBy 8 rfl) (by decide) (fun c1 => ?_) (fun c1 => ?_)
    · rw [if_pos c1] at h
      obtain rfl := Option.some.inj h
      refine e_lv [2] rfl ?_
      exact hx _ hOK
    · rw [if_neg c1] at h
      refine e_iload_n C 1 (dk dX8_knownBy 9 rfl) rfl rfl ?_
      refine e_iload_n C 3 (dk dX8_knownBy 10 rfl) rfl rfl ?_
      refine e_ishr C (dk dX8_knownBy 11 rfl) ?_
      refine e_iconst C 1 (dk dX8_knownBy 12 rfl) (by decide) ?_
      refine e_iand C (dk dX8_knownBy 13 rfl) ?_
      refine e_if_eq C 30 (dk dX8_knownBy 14 rfl) (by decide) (fun c2 => ?_) (fun c2 => ?_)
      · rw [if_pos c2] at h
        refine e_iinc C [(3, .int (x3 + 1)), (0, .ref (g_N g + t)), (1, .int x1), (2, .int x2)] 3 1 (dk dX8_knownBy 22 rfl) rfl (by decide) (by decide) rfl ?_
        refine e_goto C 4 (dk dX8_knownBy 23 rfl) (by decide) ?_
        refine e_lv [1, 2, 3, 0] rfl ?_
        exact ih _ _ _ h hOK
      · rw [if_neg c2] at h
        refine e_iload_n C 2 (dk dX8_knownBy 15 rfl) rfl rfl ?_
        refine e_aload_n C 0 (dk dX8_knownBy 16 rfl) rfl rfl ?_
        refine gf_X8_knows C K ht fl_X8_28 (dk dX8_knownBy 17 rfl) ?_
        refine e_iload_n C 3 (dk dX8_knownBy 18 rfl) rfl rfl ?_
        obtain ⟨v3, hv3, h⟩ := ob h
        refine m_ald C K (kd_X8_knows K ht) (dk dX8_knownBy 19 rfl) hv3 ?_
        refine e_ior C (dk dX8_knownBy 20 rfl) ?_
        refine e_istore_n C [(2, .int (x2 ||| v3)), (0, .ref (g_N g + t)), (1, .int x1), (3, .int x3)] (dk dX8_knownBy 21 rfl) rfl (by decide) rfl ?_
        refine e_iinc C [(3, .int (x3 + 1)), (2, .int (x2 ||| v3)), (0, .ref (g_N g + t)), (1, .int x1)] 3 1 (dk dX8_knownBy 22 rfl) rfl (by decide) (by decide) rfl ?_
        refine e_goto C 4 (dk dX8_knownBy 23 rfl) (by decide) ?_
        refine e_lv [2, 3, 1, 0] rfl ?_
        exact ih _ _ _ h hOK
set_option maxRecDepth 20000 in
theorem lb_X8_knownBy_4 {X : FX} {g : WC} {Xo : Nat → va_E} {n : Nat} {kd : Nat → Nat} (C : Cx X g RX8 cX8_knownBy 4) (K : KD n kd) {t : Nat} (ht : kd t = 9) {x1 : Int32} {M : Mem} (hR : x_R X = rm 0) {T9 : Type} {f9 : Int32 → Option T9} {b9 : T9} (hx : ∀ s, f9 s = some b9 → EW X g (x_s X).heap.size n 4 (ent g Xo kd M) 0 0 36 [(2, .int s)] []) {x2 : Int32} {x3 : Int32} (h : (L_X8_knownBy_4 t x1 M FU x2 x3).bind f9 = some b9) : EW X g (x_s X).heap.size n 4 (ent g Xo kd M) 0 0 4 [(0, .ref (g_N g + t)), (1, .int x1), (2, .int x2), (3, .int x3)] [] := by
  obtain ⟨q, hq, h⟩ := ob h
  exact l_X8_knownBy_4 C K ht hR (OK := fun q => f9 q = some b9) hx FU x2 x3 q hq h
set_option maxRecDepth 20000 in
theorem c_X8_knownBy {g : WC} {Xo : Nat → va_E} {n : Nat} {kd : Nat → Nat} (K : KD n kd) {t : Nat} {p0 : Int32} (ht : kd t = 9) {M : Mem} {res : Int32} (h : F_X8_knownBy t p0 M = some res) : MC g yX8_knownBy cX8_knownBy 4 (some .int) 0 n [.ref (g_N g + t), .int p0] (ent g Xo kd M) (some (.int res)) (ent g Xo kd M) := by
  refine MC_of pn_X8 (Nat.le_of_ble_eq_true rfl) (fun X C B => ?_)
  have hR := B.1
  rw [F_X8_knownBy] at h
  refine e_iconst C 0 (dk dX8_knownBy 0 rfl) (by decide) ?_
  refine e_istore_n C [(2, .int 0), (0, .ref (g_N g + t)), (1, .int p0)] (dk dX8_knownBy 1 rfl) rfl (by decide) rfl ?_
  refine e_iconst C 0 (dk dX8_knownBy 2 rfl) (by decide) ?_
  refine e_istore_n C [(3, .int 0), (2, .int 0), (0, .ref (g_N g + t)), (1, .int p0)] (dk dX8_knownBy 3 rfl) rfl (by decide) rfl ?_
  refine e_lv [2, 3, 1, 0] rfl ?_
  refine lb_X8_knownBy_4 C K ht hR (fun s5 h => ?_) h
  refine e_iload_n C 0 (dk dX8_knownBy 24 rfl) rfl rfl ?_
  obtain rfl := Option.some.inj h
  exact e_iret C B (nar1 _) (dk dX8_knownBy 25 rfl)
set_option maxRecDepth 20000 in
theorem l_X8_knowers_4 {X : FX} {g : WC} {Xo : Nat → va_E} {n : Nat} {kd : Nat → Nat} (C : Cx X g RX8 cX8_knowers 4) (K : KD n kd) {t : Nat} (ht : kd t = 9) {x1 : Int32} {M : Mem} (hR : x_R X = rm 0) {OK : Int32 → Prop} (hx : ∀ s, OK s → EW X g (x_s X).heap.size n 4 (ent g Xo kd M) 0 0 34 [(2, .int s)] []) : ∀ (N9 : Nat) (x2 : Int32) (x3 : Int32) (q : Int32), L_X8_knowers_4 t x1 M N9 x2 x3 = some q → OK q → EW X g (x_s X).heap.size n 4 (ent g Xo kd M) 0 0 4 [(0, .ref (g_N g + t)), (1, .int x1), (2, .int x2), (3, .int x3)] [] := by
  intro N9
  induction N9 with
  | zero =>
    intro x2 x3 q h
    rw [L_X8_knowers_4.eq_1] at h
    cases h
  | succ m9 ih =>
    intro x2 x3 q h hOK
    rw [L_X8_knowers_4.eq_2] at h
    refine e_iload_n C 3 (dk dX8_knowers 4 rfl) rfl rfl ?_
    refine e_aload_n C 0 (dk dX8_knowers 5 rfl) rfl rfl ?_
    refine gf_X8_knows C K ht fl_X8_28 (dk dX8_knowers 6 rfl) ?_
    refine m_alen C K (kd_X8_knows K ht) 7 (by decide) (dk dX8_knowers 7 rfl) ?_
    refine e_icmp_ge C 34 (dk dX8_knowers 8 rfl) (by decide) (fun c1 => ?_) (fun c1 => ?_)
    · rw [if_pos c1] at h
      obtain rfl := Option.some.inj h
      refine e_lv [2] rfl ?_
      exact hx _ hOK
    · rw [if_neg c1] at h
      refine e_iload_n C 2 (dk dX8_knowers 9 rfl) rfl rfl ?_
      refine e_aload_n C 0 (dk dX8_knowers 10 rfl) rfl rfl ?_
      refine gf_X8_knows C K ht fl_X8_28 (dk dX8_knowers 11 rfl) ?_
      refine e_iload_n C 3 (dk dX8_knowers 12 rfl) rfl rfl ?_
      obtain ⟨v2, hv2, h⟩ := ob h
      refine m_ald C K (kd_X8_knows K ht) (dk dX8_knowers 13 rfl) hv2 ?_
      refine e_iload_n C 1 (dk dX8_knowers 14 rfl) rfl rfl ?_
      refine e_ishr C (dk dX8_knowers 15 rfl) ?_
      refine e_iconst C 1 (dk dX8_knowers 16 rfl) (by decide) ?_
      refine e_iand C (dk dX8_knowers 17 rfl) ?_
      refine e_iload_n C 3 (dk dX8_knowers 18 rfl) rfl rfl ?_
      refine e_ishl C (dk dX8_knowers 19 rfl) ?_
      refine e_ior C (dk dX8_knowers 20 rfl) ?_
      refine e_istore_n C [(2, .int (x2 ||| (((v2 >>> (x1 &&& 31)) &&& 1) <<< (x3 &&& 31)))), (0, .ref (g_N g + t)), (1, .int x1), (3, .int x3)] (dk dX8_knowers 21 rfl) rfl (by decide) rfl ?_
      refine e_iinc C [(3, .int (x3 + 1)), (2, .int (x2 ||| (((v2 >>> (x1 &&& 31)) &&& 1) <<< (x3 &&& 31)))), (0, .ref (g_N g + t)), (1, .int x1)] 3 1 (dk dX8_knowers 22 rfl) rfl (by decide) (by decide) rfl ?_
      refine e_goto C 4 (dk dX8_knowers 23 rfl) (by decide) ?_
      refine e_lv [2, 3, 1, 0] rfl ?_
      exact ih _ _ _ h hOK
set_option maxRecDepth 20000 in
theorem lb_X8_knowers_4 {X : FX} {g : WC} {Xo : Nat → va_E} {n : Nat} {kd : Nat → Nat} (C : Cx X g RX8 cX8_knowers 4) (K : KD n kd) {t : Nat} (ht : kd t = 9) {x1 : Int32} {M : Mem} (hR : x_R X = rm 0) {T9 : Type} {f9 : Int32 → Option T9} {b9 : T9} (hx : ∀ s, f9 s = some b9 → EW X g (x_s X).heap.size n 4 (ent g Xo kd M) 0 0 34 [(2, .int s)] []) {x2 : Int32} {x3 : Int32} (h : (L_X8_knowers_4 t x1 M FU x2 x3).bind f9 = some b9) : EW X g (x_s X).heap.size n 4 (ent g Xo kd M) 0 0 4 [(0, .ref (g_N g + t)), (1, .int x1), (2, .int x2), (3, .int x3)] [] := by
  obtain ⟨q, hq, h⟩ := ob h
  exact l_X8_knowers_4 C K ht hR (OK := fun q => f9 q = some b9) hx FU x2 x3 q hq h
set_option maxRecDepth 20000 in
theorem c_X8_knowers {g : WC} {Xo : Nat → va_E} {n : Nat} {kd : Nat → Nat} (K : KD n kd) {t : Nat} {p0 : Int32} (ht : kd t = 9) {M : Mem} {res : Int32} (h : F_X8_knowers t p0 M = some res) : MC g yX8_knowers cX8_knowers 4 (some .int) 0 n [.ref (g_N g + t), .int p0] (ent g Xo kd M) (some (.int res)) (ent g Xo kd M) := by
  refine MC_of pn_X8 (Nat.le_of_ble_eq_true rfl) (fun X C B => ?_)
  have hR := B.1
  rw [F_X8_knowers] at h
  refine e_iconst C 0 (dk dX8_knowers 0 rfl) (by decide) ?_
  refine e_istore_n C [(2, .int 0), (0, .ref (g_N g + t)), (1, .int p0)] (dk dX8_knowers 1 rfl) rfl (by decide) rfl ?_
  refine e_iconst C 0 (dk dX8_knowers 2 rfl) (by decide) ?_
  refine e_istore_n C [(3, .int 0), (2, .int 0), (0, .ref (g_N g + t)), (1, .int p0)] (dk dX8_knowers 3 rfl) rfl (by decide) rfl ?_
  refine e_lv [2, 3, 1, 0] rfl ?_
  refine lb_X8_knowers_4 C K ht hR (fun s4 h => ?_) h
  refine e_iload_n C 0 (dk dX8_knowers 24 rfl) rfl rfl ?_
  obtain rfl := Option.some.inj h
  exact e_iret C B (nar1 _) (dk dX8_knowers 25 rfl)
set_option maxRecDepth 20000 in
theorem c_X9_join {g : WC} {Xo : Nat → va_E} {n : Nat} {kd : Nat → Nat} (K : KD n kd) {t : Nat} {p0 : Int32} {p1 : Int32} (ht : kd t = 10) {M : Mem} {res : Mem} (h : F_X9_join t p0 p1 M = res) : MC g yX9_join cX9_join 3 none 1 n [.ref (g_N g + t), .int p0, .int p1] (ent g Xo kd M) none (ent g Xo kd res) := by
  refine MC_of pn_X9 (Nat.le_of_ble_eq_true rfl) (fun X C B => ?_)
  have hR := B.1
  rw [F_X9_join] at h
  refine e_aload_n C 0 (dk dX9_join 0 rfl) rfl rfl ?_
  refine gf_X9_near C K ht fl_X9_9 (dk dX9_join 1 rfl) ?_
  refine e_iload_n C 1 (dk dX9_join 2 rfl) rfl rfl ?_
  refine e_aload_n C 0 (dk dX9_join 3 rfl) rfl rfl ?_
  refine gf_X9_near C K ht fl_X9_9 (dk dX9_join 4 rfl) ?_
  refine e_iload_n C 1 (dk dX9_join 5 rfl) rfl rfl ?_
  refine e_callSN C cal_X11_at sm_X11_at mn_X9_67 hR (by decide) (dk dX9_join 6 rfl) (c_X11_at K (kd_X9_near K ht) (rfl : F_X11_at (t + 1) 8 p0 M = _)) ⟨Nat.zero_le _, Nat.zero_le _⟩ (Nat.le_of_ble_eq_true rfl) rfl ?_
  refine e_iconst C 1 (dk dX9_join 7 rfl) (by decide) ?_
  refine e_iload_n C 2 (dk dX9_join 8 rfl) rfl rfl ?_
  refine e_ishl C (dk dX9_join 9 rfl) ?_
  refine e_ior C (dk dX9_join 10 rfl) ?_
  refine e_callSN C cal_X11_put sm_X11_put mn_X9_62 hR (by decide) (dk dX9_join 11 rfl) (c_X11_put K (kd_X9_near K ht) (rfl : F_X11_put (t + 1) 8 p0 ((F_X11_at (t + 1) 8 p0 M) ||| ((1 : Int32) <<< (p1 &&& 31))) M = _)) ⟨Nat.zero_le _, Nat.zero_le _⟩ (Nat.le_of_ble_eq_true rfl) rfl ?_
  refine e_aload_n C 0 (dk dX9_join 12 rfl) rfl rfl ?_
  refine gf_X9_near C K ht fl_X9_9 (dk dX9_join 13 rfl) ?_
  refine e_iload_n C 2 (dk dX9_join 14 rfl) rfl rfl ?_
  refine e_aload_n C 0 (dk dX9_join 15 rfl) rfl rfl ?_
  refine gf_X9_near C K ht fl_X9_9 (dk dX9_join 16 rfl) ?_
  refine e_iload_n C 2 (dk dX9_join 17 rfl) rfl rfl ?_
  refine e_callSN C cal_X11_at sm_X11_at mn_X9_67 hR (by decide) (dk dX9_join 18 rfl) (c_X11_at K (kd_X9_near K ht) (rfl : F_X11_at (t + 1) 8 p1 (F_X11_put (t + 1) 8 p0 ((F_X11_at (t + 1) 8 p0 M) ||| ((1 : Int32) <<< (p1 &&& 31))) M) = _)) ⟨Nat.zero_le _, Nat.zero_le _⟩ (Nat.le_of_ble_eq_true rfl) rfl ?_
  refine e_iconst C 1 (dk dX9_join 19 rfl) (by decide) ?_
  refine e_iload_n C 1 (dk dX9_join 20 rfl) rfl rfl ?_
  refine e_ishl C (dk dX9_join 21 rfl) ?_
  refine e_ior C (dk dX9_join 22 rfl) ?_
  refine e_callSN C cal_X11_put sm_X11_put mn_X9_62 hR (by decide) (dk dX9_join 23 rfl) (c_X11_put K (kd_X9_near K ht) (rfl : F_X11_put (t + 1) 8 p1 ((F_X11_at (t + 1) 8 p1 (F_X11_put (t + 1) 8 p0 ((F_X11_at (t + 1) 8 p0 M) ||| ((1 : Int32) <<< (p1 &&& 31))) M)) ||| ((1 : Int32) <<< (p0 &&& 31))) (F_X11_put (t + 1) 8 p0 ((F_X11_at (t + 1) 8 p0 M) ||| ((1 : Int32) <<< (p1 &&& 31))) M) = _)) ⟨Nat.zero_le _, Nat.zero_le _⟩ (Nat.le_of_ble_eq_true rfl) rfl ?_
  refine e_aload_n C 0 (dk dX9_join 24 rfl) rfl rfl ?_
  refine e_dup C (dk dX9_join 25 rfl) rfl ?_
  refine gf_X9_paths C K ht fl_X9_44 (dk dX9_join 26 rfl) ?_
  refine e_iconst C 1 (dk dX9_join 27 rfl) (by decide) ?_
  refine e_iadd C (dk dX9_join 28 rfl) ?_
  refine pf_X9_paths C K ht fl_X9_44 (dk dX9_join 29 rfl) ?_
  subst h
  exact e_vret C B (dk dX9_join 30 rfl)
set_option maxRecDepth 20000 in
theorem c_X9_watchAt {g : WC} {Xo : Nat → va_E} {n : Nat} {kd : Nat → Nat} (K : KD n kd) {t : Nat} {p0 : Int32} {p1 : Int32} (ht : kd t = 10) {M : Mem} {res : Int32} (h : F_X9_watchAt t p0 p1 M = some res) : MC g yX9_watchAt cX9_watchAt 3 (some .int) 1 n [.ref (g_N g + t), .int p0, .int p1] (ent g Xo kd M) (some (.int res)) (ent g Xo kd M) := by
  refine MC_of pn_X9 (Nat.le_of_ble_eq_true rfl) (fun X C B => ?_)
  have hR := B.1
  rw [F_X9_watchAt] at h
  refine e_aload_n C 0 (dk dX9_watchAt 0 rfl) rfl rfl ?_
  refine gf_X9_rounds C K ht fl_X9_47 (dk dX9_watchAt 1 rfl) ?_
  refine e_if_le C 28 (dk dX9_watchAt 2 rfl) (by decide) (fun c1 => ?_) (fun c1 => ?_)
  · rw [if_pos c1] at h
    refine e_iconst C 0 (dk dX9_watchAt 15 rfl) (by decide) ?_
    obtain rfl := Option.some.inj h
    exact e_iret C B (nar1 _) (dk dX9_watchAt 16 rfl)
  · rw [if_neg c1] at h
    refine e_aload_n C 0 (dk dX9_watchAt 3 rfl) rfl rfl ?_
    refine gf_X9_round C K ht fl_X9_15 (dk dX9_watchAt 4 rfl) ?_
    refine e_bipush C 6 (dk dX9_watchAt 5 rfl) (by decide) ?_
    refine e_iload_n C 1 (dk dX9_watchAt 6 rfl) rfl rfl ?_
    refine e_imul C (dk dX9_watchAt 7 rfl) ?_
    refine e_iload_n C 2 (dk dX9_watchAt 8 rfl) rfl rfl ?_
    refine e_iadd C (dk dX9_watchAt 9 rfl) ?_
    refine e_aload_n C 0 (dk dX9_watchAt 10 rfl) rfl rfl ?_
    refine gf_X9_rounds C K ht fl_X9_47 (dk dX9_watchAt 11 rfl) ?_
    obtain ⟨v2, hv2, h⟩ := ob h
    have gv2 := irm_some hv2
    refine e_irem C (dk dX9_watchAt 12 rfl) gv2.1 ?_
    rw [gv2.2]
    refine e_callSN C cal_X11_at sm_X11_at mn_X9_67 hR (by decide) (dk dX9_watchAt 13 rfl) (c_X11_at K (kd_X9_round K ht) (rfl : F_X11_at (t + 2) 8 v2 M = _)) ⟨Nat.zero_le _, Nat.zero_le _⟩ (Nat.le_of_ble_eq_true rfl) rfl ?_
    refine e_goto C 29 (dk dX9_watchAt 14 rfl) (by decide) ?_
    obtain rfl := Option.some.inj h
    exact e_iret C B (nar1 _) (dk dX9_watchAt 16 rfl)
set_option maxRecDepth 20000 in
theorem c_X9_fogOf {g : WC} {Xo : Nat → va_E} {n : Nat} {kd : Nat → Nat} (K : KD n kd) {t : Nat} {p0 : Int32} (ht : kd t = 10) {M : Mem} {res : Int32} (h : F_X9_fogOf t p0 M = some res) : MC g yX9_fogOf cX9_fogOf 2 (some .int) 1 n [.ref (g_N g + t), .int p0] (ent g Xo kd M) (some (.int res)) (ent g Xo kd M) := by
  refine MC_of pn_X9 (Nat.le_of_ble_eq_true rfl) (fun X C B => ?_)
  have hR := B.1
  rw [F_X9_fogOf] at h
  refine e_aload_n C 0 (dk dX9_fogOf 0 rfl) rfl rfl ?_
  refine gf_X9_fogs C K ht fl_X9_56 (dk dX9_fogOf 1 rfl) ?_
  refine e_if_le C 23 (dk dX9_fogOf 2 rfl) (by decide) (fun c1 => ?_) (fun c1 => ?_)
  · rw [if_pos c1] at h
    refine e_iconst C 0 (dk dX9_fogOf 11 rfl) (by decide) ?_
    obtain rfl := Option.some.inj h
    exact e_iret C B (nar1 _) (dk dX9_fogOf 12 rfl)
  · rw [if_neg c1] at h
    refine e_aload_n C 0 (dk dX9_fogOf 3 rfl) rfl rfl ?_
    refine gf_X9_fog C K ht fl_X9_27 (dk dX9_fogOf 4 rfl) ?_
    refine e_iload_n C 1 (dk dX9_fogOf 5 rfl) rfl rfl ?_
    refine e_aload_n C 0 (dk dX9_fogOf 6 rfl) rfl rfl ?_
    refine gf_X9_fogs C K ht fl_X9_56 (dk dX9_fogOf 7 rfl) ?_
    obtain ⟨v2, hv2, h⟩ := ob h
    have gv2 := irm_some hv2
    refine e_irem C (dk dX9_fogOf 8 rfl) gv2.1 ?_
    rw [gv2.2]
    refine e_callSN C cal_X11_at sm_X11_at mn_X9_67 hR (by decide) (dk dX9_fogOf 9 rfl) (c_X11_at K (kd_X9_fog K ht) (rfl : F_X11_at (t + 6) 8 v2 M = _)) ⟨Nat.zero_le _, Nat.zero_le _⟩ (Nat.le_of_ble_eq_true rfl) rfl ?_
    refine e_goto C 24 (dk dX9_fogOf 10 rfl) (by decide) ?_
    obtain rfl := Option.some.inj h
    exact e_iret C B (nar1 _) (dk dX9_fogOf 12 rfl)
set_option maxRecDepth 20000 in
theorem c_X9_placeAt {g : WC} {Xo : Nat → va_E} {n : Nat} {kd : Nat → Nat} (K : KD n kd) {t : Nat} {p0 : Int32} {p1 : Int32} (ht : kd t = 10) {M : Mem} {res : Int32} (h : F_X9_placeAt t p0 p1 M = some res) : MC g yX9_placeAt cX9_placeAt 4 (some .int) 1 n [.ref (g_N g + t), .int p0, .int p1] (ent g Xo kd M) (some (.int res)) (ent g Xo kd M) := by
  refine MC_of pn_X9 (Nat.le_of_ble_eq_true rfl) (fun X C B => ?_)
  have hR := B.1
  rw [F_X9_placeAt] at h
  refine e_aload_n C 0 (dk dX9_placeAt 0 rfl) rfl rfl ?_
  refine gf_X9_lengths C K ht fl_X9_21 (dk dX9_placeAt 1 rfl) ?_
  refine e_iload_n C 1 (dk dX9_placeAt 2 rfl) rfl rfl ?_
  refine e_callSN C cal_X11_at sm_X11_at mn_X9_67 hR (by decide) (dk dX9_placeAt 3 rfl) (c_X11_at K (kd_X9_lengths K ht) (rfl : F_X11_at (t + 4) 7 p0 M = _)) ⟨Nat.zero_le _, Nat.zero_le _⟩ (Nat.le_of_ble_eq_true rfl) rfl ?_
  refine e_istore_n C [(3, .int (F_X11_at (t + 4) 7 p0 M)), (0, .ref (g_N g + t)), (1, .int p0), (2, .int p1)] (dk dX9_placeAt 4 rfl) rfl (by decide) rfl ?_
  refine e_iload_n C 0 (dk dX9_placeAt 5 rfl) rfl rfl ?_
  refine e_if_le C 19 (dk dX9_placeAt 6 rfl) (by decide) (fun c1 => ?_) (fun c1 => ?_)
  · rw [if_pos c1] at h
    refine e_iconst C 0 (dk dX9_placeAt 11 rfl) (by decide) ?_
    obtain rfl := Option.some.inj h
    exact e_iret C B (nar1 _) (dk dX9_placeAt 12 rfl)
  · rw [if_neg c1] at h
    refine e_iload_n C 3 (dk dX9_placeAt 7 rfl) rfl rfl ?_
    refine e_iload_n C 0 (dk dX9_placeAt 8 rfl) rfl rfl ?_
    obtain ⟨v2, hv2, h⟩ := ob h
    have gv2 := irm_some hv2
    refine e_irem C (dk dX9_placeAt 9 rfl) gv2.1 ?_
    rw [gv2.2]
    refine e_goto C 20 (dk dX9_placeAt 10 rfl) (by decide) ?_
    obtain rfl := Option.some.inj h
    exact e_iret C B (nar1 _) (dk dX9_placeAt 12 rfl)
set_option maxRecDepth 20000 in
theorem l_X9_spread_4 {X : FX} {g : WC} {Xo : Nat → va_E} {n : Nat} {kd : Nat → Nat} (C : Cx X g RX9 cX9_spread 4) (K : KD n kd) {t : Nat} (ht : kd t = 10) {x1 : Int32} {M : Mem} (hR : x_R X = rm 1) {OK : Int32 → Prop} (hx : ∀ s, OK s → EW X g (x_s X).heap.size n 4 (ent g Xo kd M) 0 0 37 [(2, .int s)] []) : ∀ (N9 : Nat) (x2 : Int32) (x3 : Int32) (q : Int32), L_X9_spread_4 t x1 M N9 x2 x3 = some q → OK q → EW X g (x_s X).heap.size n 4 (ent g Xo kd M) 0 0 4 [(0, .ref (g_N g + t)), (1, .int x1), (2, .int x2), (3, .int x3)] [] := by
  intro N9
  induction N9 with
  | zero =>
    intro x2 x3 q h
    rw [L_X9_spread_4.eq_1] at h
    cases h
  | succ m9 ih =>
    intro x2 x3 q h hOK
    rw [L_X9_spread_4.eq_2] at h
    refine e_iload_n C 3 (dk dX9_spread 4 rfl) rfl rfl ?_
    refine e_aload_n C 0 (dk dX9_spread 5 rfl) rfl rfl ?_
    refine gf_X9_streets C K ht fl_X9_40 (dk dX9_spread 6 rfl) ?_
    refine e_icmp_ge C 37 (dk dX9_spread 7 rfl) (by decide) (fun c1 => ?_) (fun c1 => ?_)
    · rw [if_pos c1] at h
      obtain rfl := Option.some.inj h
      refine e_lv [2] rfl ?_
      exact hx _ hOK
    · rw [if_neg c1] at h
      refine e_iload_n C 1 (dk dX9_spread 8 rfl) rfl rfl ?_
      refine e_iload_n C 3 (dk dX9_spread 9 rfl) rfl rfl ?_
      refine e_ishr C (dk dX9_spread 10 rfl) ?_
      refine e_iconst C 1 (dk dX9_spread 11 rfl) (by decide) ?_
      refine e_iand C (dk dX9_spread 12 rfl) ?_
      refine e_if_eq C 31 (dk dX9_spread 13 rfl) (by decide) (fun c2 => ?_) (fun c2 => ?_)
      · rw [if_pos c2] at h
        refine e_iinc C [(3, .int (x3 + 1)), (0, .ref (g_N g + t)), (1, .int x1), (2, .int x2)] 3 1 (dk dX9_spread 21 rfl) rfl (by decide) (by decide) rfl ?_
        refine e_goto C 4 (dk dX9_spread 22 rfl) (by decide) ?_
        refine e_lv [1, 2, 3, 0] rfl ?_
        exact ih _ _ _ h hOK
      · rw [if_neg c2] at h
        refine e_iload_n C 2 (dk dX9_spread 14 rfl) rfl rfl ?_
        refine e_aload_n C 0 (dk dX9_spread 15 rfl) rfl rfl ?_
        refine gf_X9_near C K ht fl_X9_9 (dk dX9_spread 16 rfl) ?_
        refine e_iload_n C 3 (dk dX9_spread 17 rfl) rfl rfl ?_
        refine e_callSN C cal_X11_at sm_X11_at mn_X9_67 hR (by decide) (dk dX9_spread 18 rfl) (c_X11_at K (kd_X9_near K ht) (rfl : F_X11_at (t + 1) 8 x3 M = _)) ⟨Nat.zero_le _, Nat.zero_le _⟩ (Nat.le_of_ble_eq_true rfl) rfl ?_
        refine e_ior C (dk dX9_spread 19 rfl) ?_
        refine e_istore_n C [(2, .int (x2 ||| (F_X11_at (t + 1) 8 x3 M))), (0, .ref (g_N g + t)), (1, .int x1), (3, .int x3)] (dk dX9_spread 20 rfl) rfl (by decide) rfl ?_
        refine e_iinc C [(3, .int (x3 + 1)), (2, .int (x2 ||| (F_X11_at (t + 1) 8 x3 M))), (0, .ref (g_N g + t)), (1, .int x1)] 3 1 (dk dX9_spread 21 rfl) rfl (by decide) (by decide) rfl ?_
        refine e_goto C 4 (dk dX9_spread 22 rfl) (by decide) ?_
        refine e_lv [2, 3, 1, 0] rfl ?_
        exact ih _ _ _ h hOK
set_option maxRecDepth 20000 in
theorem lb_X9_spread_4 {X : FX} {g : WC} {Xo : Nat → va_E} {n : Nat} {kd : Nat → Nat} (C : Cx X g RX9 cX9_spread 4) (K : KD n kd) {t : Nat} (ht : kd t = 10) {x1 : Int32} {M : Mem} (hR : x_R X = rm 1) {T9 : Type} {f9 : Int32 → Option T9} {b9 : T9} (hx : ∀ s, f9 s = some b9 → EW X g (x_s X).heap.size n 4 (ent g Xo kd M) 0 0 37 [(2, .int s)] []) {x2 : Int32} {x3 : Int32} (h : (L_X9_spread_4 t x1 M FU x2 x3).bind f9 = some b9) : EW X g (x_s X).heap.size n 4 (ent g Xo kd M) 0 0 4 [(0, .ref (g_N g + t)), (1, .int x1), (2, .int x2), (3, .int x3)] [] := by
  obtain ⟨q, hq, h⟩ := ob h
  exact l_X9_spread_4 C K ht hR (OK := fun q => f9 q = some b9) hx FU x2 x3 q hq h
set_option maxRecDepth 20000 in
theorem c_X9_spread {g : WC} {Xo : Nat → va_E} {n : Nat} {kd : Nat → Nat} (K : KD n kd) {t : Nat} {p0 : Int32} (ht : kd t = 10) {M : Mem} {res : Int32} (h : F_X9_spread t p0 M = some res) : MC g yX9_spread cX9_spread 4 (some .int) 1 n [.ref (g_N g + t), .int p0] (ent g Xo kd M) (some (.int res)) (ent g Xo kd M) := by
  refine MC_of pn_X9 (Nat.le_of_ble_eq_true rfl) (fun X C B => ?_)
  have hR := B.1
  rw [F_X9_spread] at h
  refine e_iload_n C 1 (dk dX9_spread 0 rfl) rfl rfl ?_
  refine e_istore_n C [(2, .int p0), (0, .ref (g_N g + t)), (1, .int p0)] (dk dX9_spread 1 rfl) rfl (by decide) rfl ?_
  refine e_iconst C 0 (dk dX9_spread 2 rfl) (by decide) ?_
  refine e_istore_n C [(3, .int 0), (2, .int p0), (0, .ref (g_N g + t)), (1, .int p0)] (dk dX9_spread 3 rfl) rfl (by decide) rfl ?_
  refine e_lv [2, 3, 1, 0] rfl ?_
  refine lb_X9_spread_4 C K ht hR (fun s4 h => ?_) h
  refine e_iload_n C 0 (dk dX9_spread 23 rfl) rfl rfl ?_
  obtain rfl := Option.some.inj h
  exact e_iret C B (nar1 _) (dk dX9_spread 24 rfl)
set_option maxRecDepth 20000 in
theorem c_X10_clear {g : WC} {Xo : Nat → va_E} {n : Nat} {kd : Nat → Nat} (K : KD n kd) {t : Nat} (ht : kd t = 11) {M : Mem} {res : Mem} (h : F_X10_clear t M = res) : MC g yX10_clear cX10_clear 1 none 0 n [.ref (g_N g + t)] (ent g Xo kd M) none (ent g Xo kd res) := by
  refine MC_of pn_X10 (Nat.le_of_ble_eq_true rfl) (fun X C B => ?_)
  have hR := B.1
  rw [F_X10_clear] at h
  refine e_aload_n C 0 (dk dX10_clear 0 rfl) rfl rfl ?_
  refine e_iconst C 0 (dk dX10_clear 1 rfl) (by decide) ?_
  refine pf_X10_length C K ht fl_X10_15 (dk dX10_clear 2 rfl) ?_
  subst h
  exact e_vret C B (dk dX10_clear 3 rfl)
set_option maxRecDepth 20000 in
theorem c_X10_isTold {g : WC} {Xo : Nat → va_E} {n : Nat} {kd : Nat → Nat} (K : KD n kd) {t : Nat} (ht : kd t = 11) {M : Mem} {res : Bool} (h : F_X10_isTold t M = res) : MC g yX10_isTold cX10_isTold 1 (some .boolean) 0 n [.ref (g_N g + t)] (ent g Xo kd M) (some (.int (bi res))) (ent g Xo kd M) := by
  refine MC_of pn_X10 (Nat.le_of_ble_eq_true rfl) (fun X C B => ?_)
  have hR := B.1
  rw [F_X10_isTold] at h
  refine e_aload_n C 0 (dk dX10_isTold 0 rfl) rfl rfl ?_
  refine gf_X10_length C K ht fl_X10_15 (dk dX10_isTold 1 rfl) ?_
  refine e_if_le C 11 (dk dX10_isTold 2 rfl) (by decide) (fun c1 => ?_) (fun c1 => ?_)
  · rw [if_pos c1] at h
    refine e_iconst C 0 (dk dX10_isTold 5 rfl) (by decide) ?_
    subst h
    exact e_iret (v := bi false) C B (nar_bi _) (dk dX10_isTold 6 rfl)
  · rw [if_neg c1] at h
    refine e_iconst C 1 (dk dX10_isTold 3 rfl) (by decide) ?_
    refine e_goto C 12 (dk dX10_isTold 4 rfl) (by decide) ?_
    subst h
    exact e_iret (v := bi true) C B (nar_bi _) (dk dX10_isTold 6 rfl)
set_option maxRecDepth 20000 in
theorem c_X10_add {g : WC} {Xo : Nat → va_E} {n : Nat} {kd : Nat → Nat} (K : KD n kd) {t : Nat} {p0 : Int32} (ht : kd t = 11) {M : Mem} {res : Mem} (h : F_X10_add t p0 M = res) : MC g yX10_add cX10_add 2 none 1 n [.ref (g_N g + t), .int p0] (ent g Xo kd M) none (ent g Xo kd res) := by
  refine MC_of pn_X10 (Nat.le_of_ble_eq_true rfl) (fun X C B => ?_)
  have hR := B.1
  rw [F_X10_add] at h
  refine e_aload_n C 0 (dk dX10_add 0 rfl) rfl rfl ?_
  refine gf_X10_code C K ht fl_X10_9 (dk dX10_add 1 rfl) ?_
  refine e_aload_n C 0 (dk dX10_add 2 rfl) rfl rfl ?_
  refine gf_X10_length C K ht fl_X10_15 (dk dX10_add 3 rfl) ?_
  refine e_iload_n C 1 (dk dX10_add 4 rfl) rfl rfl ?_
  refine e_callSN C cal_X11_put sm_X11_put mn_X10_25 hR (by decide) (dk dX10_add 5 rfl) (c_X11_put K (kd_X10_code K ht) (rfl : F_X11_put (t + 1) 700 (M t 1) p0 M = _)) ⟨Nat.zero_le _, Nat.zero_le _⟩ (Nat.le_of_ble_eq_true rfl) rfl ?_
  refine e_aload_n C 0 (dk dX10_add 6 rfl) rfl rfl ?_
  refine e_dup C (dk dX10_add 7 rfl) rfl ?_
  refine gf_X10_length C K ht fl_X10_15 (dk dX10_add 8 rfl) ?_
  refine e_iconst C 1 (dk dX10_add 9 rfl) (by decide) ?_
  refine e_iadd C (dk dX10_add 10 rfl) ?_
  refine pf_X10_length C K ht fl_X10_15 (dk dX10_add 11 rfl) ?_
  subst h
  exact e_vret C B (dk dX10_add 12 rfl)
set_option maxRecDepth 20000 in
theorem c_X10_addValue {g : WC} {Xo : Nat → va_E} {n : Nat} {kd : Nat → Nat} (K : KD n kd) {t : Nat} {p0 : Int32} (ht : kd t = 11) {M : Mem} {res : Mem} (h : F_X10_addValue t p0 M = res) : MC g yX10_addValue cX10_addValue 2 none 2 n [.ref (g_N g + t), .int p0] (ent g Xo kd M) none (ent g Xo kd res) := by
  refine MC_of pn_X10 (Nat.le_of_ble_eq_true rfl) (fun X C B => ?_)
  have hR := B.1
  rw [F_X10_addValue] at h
  refine e_aload_n C 0 (dk dX10_addValue 0 rfl) rfl rfl ?_
  refine e_iconst C (-1) (dk dX10_addValue 1 rfl) (by decide) ?_
  refine e_iload_n C 1 (dk dX10_addValue 2 rfl) rfl rfl ?_
  refine e_isub C (dk dX10_addValue 3 rfl) ?_
  refine e_callV (ci := 10) C cal_X10_add im_X10_add se_X10_add ml_X10_29 rfl hR (by decide) (dk dX10_addValue 4 rfl) (K.1 _ (by rw [ht]; decide)) (ent_o10 ht) (c_X10_add K ht (rfl : F_X10_add t ((-1) - p0) M = _)) ⟨Nat.zero_le _, Nat.zero_le _⟩ (Nat.le_of_ble_eq_true rfl) rfl ?_
  subst h
  exact e_vret C B (dk dX10_addValue 5 rfl)
set_option maxRecDepth 20000 in
theorem c_X10_push {g : WC} {Xo : Nat → va_E} {n : Nat} {kd : Nat → Nat} (K : KD n kd) {t : Nat} {p0 : Int32} (ht : kd t = 11) {M : Mem} {res : Mem} (h : F_X10_push t p0 M = res) : MC g yX10_push cX10_push 2 none 1 n [.ref (g_N g + t), .int p0] (ent g Xo kd M) none (ent g Xo kd res) := by
  refine MC_of pn_X10 (Nat.le_of_ble_eq_true rfl) (fun X C B => ?_)
  have hR := B.1
  rw [F_X10_push] at h
  refine e_aload_n C 0 (dk dX10_push 0 rfl) rfl rfl ?_
  refine gf_X10_stack C K ht fl_X10_19 (dk dX10_push 1 rfl) ?_
  refine e_aload_n C 0 (dk dX10_push 2 rfl) rfl rfl ?_
  refine gf_X10_height C K ht fl_X10_22 (dk dX10_push 3 rfl) ?_
  refine e_iload_n C 1 (dk dX10_push 4 rfl) rfl rfl ?_
  refine e_callSN C cal_X11_put sm_X11_put mn_X10_25 hR (by decide) (dk dX10_push 5 rfl) (c_X11_put K (kd_X10_stack K ht) (rfl : F_X11_put (t + 2) 40 (M t 3) p0 M = _)) ⟨Nat.zero_le _, Nat.zero_le _⟩ (Nat.le_of_ble_eq_true rfl) rfl ?_
  refine e_aload_n C 0 (dk dX10_push 6 rfl) rfl rfl ?_
  refine e_dup C (dk dX10_push 7 rfl) rfl ?_
  refine gf_X10_height C K ht fl_X10_22 (dk dX10_push 8 rfl) ?_
  refine e_iconst C 1 (dk dX10_push 9 rfl) (by decide) ?_
  refine e_iadd C (dk dX10_push 10 rfl) ?_
  refine pf_X10_height C K ht fl_X10_22 (dk dX10_push 11 rfl) ?_
  subst h
  exact e_vret C B (dk dX10_push 12 rfl)
set_option maxRecDepth 20000 in
theorem c_X10_pop {g : WC} {Xo : Nat → va_E} {n : Nat} {kd : Nat → Nat} (K : KD n kd) {t : Nat} (ht : kd t = 11) {M : Mem} {res : Int32 × Mem} (h : F_X10_pop t M = res) : MC g yX10_pop cX10_pop 1 (some .int) 1 n [.ref (g_N g + t)] (ent g Xo kd M) (some (.int res.1)) (ent g Xo kd res.2) := by
  refine MC_of pn_X10 (Nat.le_of_ble_eq_true rfl) (fun X C B => ?_)
  have hR := B.1
  rw [F_X10_pop] at h
  refine e_aload_n C 0 (dk dX10_pop 0 rfl) rfl rfl ?_
  refine e_dup C (dk dX10_pop 1 rfl) rfl ?_
  refine gf_X10_height C K ht fl_X10_22 (dk dX10_pop 2 rfl) ?_
  refine e_iconst C 1 (dk dX10_pop 3 rfl) (by decide) ?_
  refine e_isub C (dk dX10_pop 4 rfl) ?_
  refine pf_X10_height C K ht fl_X10_22 (dk dX10_pop 5 rfl) ?_
  refine e_aload_n C 0 (dk dX10_pop 6 rfl) rfl rfl ?_
  refine gf_X10_stack C K ht fl_X10_19 (dk dX10_pop 7 rfl) ?_
  refine e_aload_n C 0 (dk dX10_pop 8 rfl) rfl rfl ?_
  refine gf_X10_height C K ht fl_X10_22 (dk dX10_pop 9 rfl) ?_
  refine e_callSN C cal_X11_at sm_X11_at mn_X10_36 hR (by decide) (dk dX10_pop 10 rfl) (c_X11_at K (kd_X10_stack K ht) (rfl : F_X11_at (t + 2) 40 ((up M t 3 ((M t 3) - 1)) t 3) (up M t 3 ((M t 3) - 1)) = _)) ⟨Nat.zero_le _, Nat.zero_le _⟩ (Nat.le_of_ble_eq_true rfl) rfl ?_
  subst h
  exact e_iret C B (nar1 _) (dk dX10_pop 11 rfl)
set_option maxRecDepth 20000 in
theorem c_X10_joined {g : WC} {Xo : Nat → va_E} {n : Nat} {kd : Nat → Nat} (K : KD n kd) {p0 : Int32} {p1 : Int32} {p2 : Int32} {M : Mem} {res : Int32} (h : F_X10_joined p0 p1 p2 = some res) : MC g yX10_joined cX10_joined 3 (some .int) 0 n [.int p0, .int p1, .int p2] (ent g Xo kd M) (some (.int res)) (ent g Xo kd M) := by
  refine MC_of pn_X10 (Nat.le_of_ble_eq_true rfl) (fun X C B => ?_)
  have hR := B.1
  rw [F_X10_joined] at h
  refine e_iload_n C 0 (dk dX10_joined 0 rfl) rfl rfl ?_
  by_cases c1 : p0 = (-18)
  · rw [if_pos c1] at h
    refine e_tsIn C 102 (dk dX10_joined 1 rfl) (by rw [c1]; decide) (by rw [c1]; decide) (by rw [c1]; rfl) (by decide) ?_
    refine e_iload_n C 1 (dk dX10_joined 40 rfl) rfl rfl ?_
    refine e_iload_n C 2 (dk dX10_joined 41 rfl) rfl rfl ?_
    refine e_imul C (dk dX10_joined 42 rfl) ?_
    obtain rfl := Option.some.inj h
    exact e_iret C B (nar1 _) (dk dX10_joined 43 rfl)
  rw [if_neg c1] at h
  by_cases c2 : p0 = (-17)
  · rw [if_pos c2] at h
    refine e_tsIn C 98 (dk dX10_joined 1 rfl) (by rw [c2]; decide) (by rw [c2]; decide) (by rw [c2]; rfl) (by decide) ?_
    refine e_iload_n C 1 (dk dX10_joined 36 rfl) rfl rfl ?_
    refine e_iload_n C 2 (dk dX10_joined 37 rfl) rfl rfl ?_
    refine e_isub C (dk dX10_joined 38 rfl) ?_
    obtain rfl := Option.some.inj h
    exact e_iret C B (nar1 _) (dk dX10_joined 39 rfl)
  rw [if_neg c2] at h
  by_cases c3 : p0 = (-16)
  · rw [if_pos c3] at h
    refine e_tsIn C 94 (dk dX10_joined 1 rfl) (by rw [c3]; decide) (by rw [c3]; decide) (by rw [c3]; rfl) (by decide) ?_
    refine e_iload_n C 1 (dk dX10_joined 32 rfl) rfl rfl ?_
    refine e_iload_n C 2 (dk dX10_joined 33 rfl) rfl rfl ?_
    refine e_iadd C (dk dX10_joined 34 rfl) ?_
    obtain rfl := Option.some.inj h
    exact e_iret C B (nar1 _) (dk dX10_joined 35 rfl)
  rw [if_neg c3] at h
  by_cases c4 : p0 = (-15)
  · rw [if_pos c4] at h
    refine e_tsIn C 83 (dk dX10_joined 1 rfl) (by rw [c4]; decide) (by rw [c4]; decide) (by rw [c4]; rfl) (by decide) ?_
    refine e_iload_n C 1 (dk dX10_joined 25 rfl) rfl rfl ?_
    refine e_iload_n C 2 (dk dX10_joined 26 rfl) rfl rfl ?_
    suffices hm6 : EW X g (x_s X).heap.size n 3 (ent g Xo kd M) 0 0 93 [(0, .int p0), (1, .int p1), (2, .int p2)] [.int (if p1 = p2 then (1 : Int32) else (0 : Int32))] from (by
      refine e_icmp_ne C 92 (dk dX10_joined 27 rfl) (by decide) (fun c5 => ?_) (fun c5 => ?_)
      · rw [show (if p1 = p2 then (1 : Int32) else (0 : Int32)) = (0 : Int32) from if_neg c5] at hm6
        refine e_iconst C 0 (dk dX10_joined 30 rfl) (by decide) ?_
        exact hm6
      · rw [show (if p1 = p2 then (1 : Int32) else (0 : Int32)) = (1 : Int32) from if_pos c5] at hm6
        refine e_iconst C 1 (dk dX10_joined 28 rfl) (by decide) ?_
        refine e_goto C 93 (dk dX10_joined 29 rfl) (by decide) ?_
        exact hm6)
    obtain rfl := Option.some.inj h
    exact e_iret C B (nar1 _) (dk dX10_joined 31 rfl)
  rw [if_neg c4] at h
  by_cases c7 : p0 = (-14)
  · rw [if_pos c7] at h
    refine e_tsIn C 72 (dk dX10_joined 1 rfl) (by rw [c7]; decide) (by rw [c7]; decide) (by rw [c7]; rfl) (by decide) ?_
    refine e_iload_n C 1 (dk dX10_joined 18 rfl) rfl rfl ?_
    refine e_iload_n C 2 (dk dX10_joined 19 rfl) rfl rfl ?_
    suffices hm9 : EW X g (x_s X).heap.size n 3 (ent g Xo kd M) 0 0 82 [(0, .int p0), (1, .int p1), (2, .int p2)] [.int (if p2 ≤ p1 then (0 : Int32) else (1 : Int32))] from (by
      refine e_icmp_ge C 81 (dk dX10_joined 20 rfl) (by decide) (fun c8 => ?_) (fun c8 => ?_)
      · rw [show (if p2 ≤ p1 then (0 : Int32) else (1 : Int32)) = (0 : Int32) from if_pos c8] at hm9
        refine e_iconst C 0 (dk dX10_joined 23 rfl) (by decide) ?_
        exact hm9
      · rw [show (if p2 ≤ p1 then (0 : Int32) else (1 : Int32)) = (1 : Int32) from if_neg c8] at hm9
        refine e_iconst C 1 (dk dX10_joined 21 rfl) (by decide) ?_
        refine e_goto C 82 (dk dX10_joined 22 rfl) (by decide) ?_
        exact hm9)
    obtain rfl := Option.some.inj h
    exact e_iret C B (nar1 _) (dk dX10_joined 24 rfl)
  rw [if_neg c7] at h
  by_cases c10 : p0 = (-13)
  · rw [if_pos c10] at h
    refine e_tsIn C 58 (dk dX10_joined 1 rfl) (by rw [c10]; decide) (by rw [c10]; decide) (by rw [c10]; rfl) (by decide) ?_
    refine e_iload_n C 1 (dk dX10_joined 10 rfl) rfl rfl ?_
    refine e_if_eq C 70 (dk dX10_joined 11 rfl) (by decide) (fun c11 => ?_) (fun c11 => ?_)
    · rw [if_pos c11] at h
      refine e_iconst C 0 (dk dX10_joined 16 rfl) (by decide) ?_
      obtain rfl := Option.some.inj h
      exact e_iret C B (nar1 _) (dk dX10_joined 17 rfl)
    · rw [if_neg c11] at h
      refine e_iload_n C 2 (dk dX10_joined 12 rfl) rfl rfl ?_
      refine e_if_eq C 70 (dk dX10_joined 13 rfl) (by decide) (fun c12 => ?_) (fun c12 => ?_)
      · rw [if_pos c12] at h
        refine e_iconst C 0 (dk dX10_joined 16 rfl) (by decide) ?_
        obtain rfl := Option.some.inj h
        exact e_iret C B (nar1 _) (dk dX10_joined 17 rfl)
      · rw [if_neg c12] at h
        refine e_iconst C 1 (dk dX10_joined 14 rfl) (by decide) ?_
        refine e_goto C 71 (dk dX10_joined 15 rfl) (by decide) ?_
        obtain rfl := Option.some.inj h
        exact e_iret C B (nar1 _) (dk dX10_joined 17 rfl)
  rw [if_neg c10] at h
  by_cases c13 : p0 = (-12)
  · rw [if_pos c13] at h
    refine e_tsIn C 44 (dk dX10_joined 1 rfl) (by rw [c13]; decide) (by rw [c13]; decide) (by rw [c13]; rfl) (by decide) ?_
    refine e_iload_n C 1 (dk dX10_joined 2 rfl) rfl rfl ?_
    refine e_if_ne C 52 (dk dX10_joined 3 rfl) (by decide) (fun c14 => ?_) (fun c14 => ?_)
    · rw [if_neg c14] at h
      refine e_iconst C 1 (dk dX10_joined 6 rfl) (by decide) ?_
      refine e_goto C 57 (dk dX10_joined 7 rfl) (by decide) ?_
      obtain rfl := Option.some.inj h
      exact e_iret C B (nar1 _) (dk dX10_joined 9 rfl)
    · rw [if_pos c14] at h
      refine e_iload_n C 2 (dk dX10_joined 4 rfl) rfl rfl ?_
      refine e_if_eq C 56 (dk dX10_joined 5 rfl) (by decide) (fun c15 => ?_) (fun c15 => ?_)
      · rw [if_pos c15] at h
        refine e_iconst C 0 (dk dX10_joined 8 rfl) (by decide) ?_
        obtain rfl := Option.some.inj h
        exact e_iret C B (nar1 _) (dk dX10_joined 9 rfl)
      · rw [if_neg c15] at h
        refine e_iconst C 1 (dk dX10_joined 6 rfl) (by decide) ?_
        refine e_goto C 57 (dk dX10_joined 7 rfl) (by decide) ?_
        obtain rfl := Option.some.inj h
        exact e_iret C B (nar1 _) (dk dX10_joined 9 rfl)
  rw [if_neg c13] at h
  refine e_tsOut C 106 (dk dX10_joined 1 rfl) (ts_out (-18) (-12) (by decide) (fun v h1 h2 => ?_)) (by decide) ?_
  · intro o16
    have hv : v = (-18 : Int) ∨ v = (-17 : Int) ∨ v = (-16 : Int) ∨ v = (-15 : Int) ∨ v = (-14 : Int) ∨ v = (-13 : Int) ∨ v = (-12 : Int) := by omega
    rcases hv with rfl | rfl | rfl | rfl | rfl | rfl | rfl
    · exact c1 (Int32.toInt_inj.mp (by rw [o16]; rfl))
    · exact c2 (Int32.toInt_inj.mp (by rw [o16]; rfl))
    · exact c3 (Int32.toInt_inj.mp (by rw [o16]; rfl))
    · exact c4 (Int32.toInt_inj.mp (by rw [o16]; rfl))
    · exact c7 (Int32.toInt_inj.mp (by rw [o16]; rfl))
    · exact c10 (Int32.toInt_inj.mp (by rw [o16]; rfl))
    · exact c13 (Int32.toInt_inj.mp (by rw [o16]; rfl))
  refine e_iload_n C 2 (dk dX10_joined 44 rfl) rfl rfl ?_
  refine e_if_ne C 114 (dk dX10_joined 45 rfl) (by decide) (fun c17 => ?_) (fun c17 => ?_)
  · rw [if_neg c17] at h
    refine e_iload_n C 1 (dk dX10_joined 48 rfl) rfl rfl ?_
    refine e_iload_n C 2 (dk dX10_joined 49 rfl) rfl rfl ?_
    obtain ⟨v18, hv18, h⟩ := ob h
    have gv18 := idv_some hv18
    refine e_idiv C (dk dX10_joined 50 rfl) gv18.1 ?_
    rw [gv18.2]
    obtain rfl := Option.some.inj h
    exact e_iret C B (nar1 _) (dk dX10_joined 51 rfl)
  · rw [if_pos c17] at h
    refine e_iconst C 0 (dk dX10_joined 46 rfl) (by decide) ?_
    refine e_goto C 117 (dk dX10_joined 47 rfl) (by decide) ?_
    obtain rfl := Option.some.inj h
    exact e_iret C B (nar1 _) (dk dX10_joined 51 rfl)
set_option maxRecDepth 20000 in
theorem c_X11_feed {g : WC} {Xo : Nat → va_E} {n : Nat} {kd : Nat → Nat} (K : KD n kd) {t : Nat} {p0 : Int32} {p1 : Int32} {p2 : Int32} {p3 : Int32} {p4 : Int32} (ht : kd t = 12) {M : Mem} {res : Int32 × Mem} (h : F_X11_feed t p0 p1 p2 p3 p4 M = some res) : MC g yX11_feed cX11_feed 6 (some .int) 2 n [.ref (g_N g + t), .int p0, .int p1, .int p2, .int p3, .int p4] (ent g Xo kd M) (some (.int res.1)) (ent g Xo kd res.2) := by
  refine MC_of pn_X11 (Nat.le_of_ble_eq_true rfl) (fun X C B => ?_)
  have hR := B.1
  rw [F_X11_feed] at h
  refine e_aload_n C 0 (dk dX11_feed 0 rfl) rfl rfl ?_
  refine gf_X11_reader C K ht fl_X11_12 (dk dX11_feed 1 rfl) ?_
  refine gf_X5_taped C K (kd_X11_reader K ht) fl_X11_83 (dk dX11_feed 2 rfl) ?_
  refine e_sipush C 680 (dk dX11_feed 3 rfl) (by decide) ?_
  refine e_icmp_le C 15 (dk dX11_feed 4 rfl) (by decide) (fun c1 => ?_) (fun c1 => ?_)
  · rw [if_pos c1] at h
    refine e_aload_n C 0 (dk dX11_feed 7 rfl) rfl rfl ?_
    refine gf_X11_reader C K ht fl_X11_12 (dk dX11_feed 8 rfl) ?_
    refine e_iload_n C 1 (dk dX11_feed 9 rfl) rfl rfl ?_
    obtain ⟨q2, hq2, h⟩ := ob h
    refine e_callV (ci := 5) C cal_X5_append im_X5_append se_X5_append ml_X11_86 rfl hR (by decide) (dk dX11_feed 10 rfl) (K.1 _ (by rw [(kd_X11_reader K ht)]; decide)) (ent_o5 (kd_X11_reader K ht)) (c_X5_append K (kd_X11_reader K ht) hq2) ⟨Nat.zero_le _, Nat.zero_le _⟩ (Nat.le_of_ble_eq_true rfl) rfl ?_
    refine e_aload_n C 0 (dk dX11_feed 11 rfl) rfl rfl ?_
    refine gf_X11_reader C K ht fl_X11_12 (dk dX11_feed 12 rfl) ?_
    refine e_iload_n C 2 (dk dX11_feed 13 rfl) rfl rfl ?_
    obtain ⟨q3, hq3, h⟩ := ob h
    refine e_callV (ci := 5) C cal_X5_append im_X5_append se_X5_append ml_X11_86 rfl hR (by decide) (dk dX11_feed 14 rfl) (K.1 _ (by rw [(kd_X11_reader K ht)]; decide)) (ent_o5 (kd_X11_reader K ht)) (c_X5_append K (kd_X11_reader K ht) hq3) ⟨Nat.zero_le _, Nat.zero_le _⟩ (Nat.le_of_ble_eq_true rfl) rfl ?_
    refine e_aload_n C 0 (dk dX11_feed 15 rfl) rfl rfl ?_
    refine gf_X11_reader C K ht fl_X11_12 (dk dX11_feed 16 rfl) ?_
    refine e_iload_n C 3 (dk dX11_feed 17 rfl) rfl rfl ?_
    obtain ⟨q4, hq4, h⟩ := ob h
    refine e_callV (ci := 5) C cal_X5_append im_X5_append se_X5_append ml_X11_86 rfl hR (by decide) (dk dX11_feed 18 rfl) (K.1 _ (by rw [(kd_X11_reader K ht)]; decide)) (ent_o5 (kd_X11_reader K ht)) (c_X5_append K (kd_X11_reader K ht) hq4) ⟨Nat.zero_le _, Nat.zero_le _⟩ (Nat.le_of_ble_eq_true rfl) rfl ?_
    refine e_aload_n C 0 (dk dX11_feed 19 rfl) rfl rfl ?_
    refine gf_X11_reader C K ht fl_X11_12 (dk dX11_feed 20 rfl) ?_
    refine e_iload C 4 (dk dX11_feed 21 rfl) rfl ?_
    obtain ⟨q5, hq5, h⟩ := ob h
    refine e_callV (ci := 5) C cal_X5_append im_X5_append se_X5_append ml_X11_86 rfl hR (by decide) (dk dX11_feed 22 rfl) (K.1 _ (by rw [(kd_X11_reader K ht)]; decide)) (ent_o5 (kd_X11_reader K ht)) (c_X5_append K (kd_X11_reader K ht) hq5) ⟨Nat.zero_le _, Nat.zero_le _⟩ (Nat.le_of_ble_eq_true rfl) rfl ?_
    refine e_aload_n C 0 (dk dX11_feed 23 rfl) rfl rfl ?_
    refine gf_X11_reader C K ht fl_X11_12 (dk dX11_feed 24 rfl) ?_
    refine e_iload C 5 (dk dX11_feed 25 rfl) rfl ?_
    obtain ⟨q6, hq6, h⟩ := ob h
    refine e_callV (ci := 5) C cal_X5_append im_X5_append se_X5_append ml_X11_86 rfl hR (by decide) (dk dX11_feed 26 rfl) (K.1 _ (by rw [(kd_X11_reader K ht)]; decide)) (ent_o5 (kd_X11_reader K ht)) (c_X5_append K (kd_X11_reader K ht) hq6) ⟨Nat.zero_le _, Nat.zero_le _⟩ (Nat.le_of_ble_eq_true rfl) rfl ?_
    refine e_aload_n C 0 (dk dX11_feed 27 rfl) rfl rfl ?_
    refine gf_X11_reader C K ht fl_X11_12 (dk dX11_feed 28 rfl) ?_
    refine gf_X5_taped C K (kd_X11_reader K ht) fl_X11_83 (dk dX11_feed 29 rfl) ?_
    obtain rfl := Option.some.inj h
    exact e_iret C B (nar1 _) (dk dX11_feed 30 rfl)
  · rw [if_neg c1] at h
    refine e_iconst C (-1) (dk dX11_feed 5 rfl) (by decide) ?_
    obtain rfl := Option.some.inj h
    exact e_iret C B (nar1 _) (dk dX11_feed 6 rfl)
set_option maxRecDepth 20000 in
theorem c_X11_fault {g : WC} {Xo : Nat → va_E} {n : Nat} {kd : Nat → Nat} (K : KD n kd) {t : Nat} (ht : kd t = 12) {M : Mem} {res : Int32} (h : F_X11_fault t M = res) : MC g yX11_fault cX11_fault 1 (some .int) 0 n [.ref (g_N g + t)] (ent g Xo kd M) (some (.int res)) (ent g Xo kd M) := by
  refine MC_of pn_X11 (Nat.le_of_ble_eq_true rfl) (fun X C B => ?_)
  have hR := B.1
  rw [F_X11_fault] at h
  refine e_aload_n C 0 (dk dX11_fault 0 rfl) rfl rfl ?_
  refine gf_X11_faultPlace C K ht fl_X11_23 (dk dX11_fault 1 rfl) ?_
  subst h
  exact e_iret C B (nar1 _) (dk dX11_fault 2 rfl)
set_option maxRecDepth 20000 in
theorem c_X11_forget {g : WC} {Xo : Nat → va_E} {n : Nat} {kd : Nat → Nat} (K : KD n kd) {t : Nat} (ht : kd t = 12) {M : Mem} {res : Mem} (h : F_X11_forget t M = res) : MC g yX11_forget cX11_forget 1 none 0 n [.ref (g_N g + t)] (ent g Xo kd M) none (ent g Xo kd res) := by
  refine MC_of pn_X11 (Nat.le_of_ble_eq_true rfl) (fun X C B => ?_)
  have hR := B.1
  rw [F_X11_forget] at h
  refine e_aload_n C 0 (dk dX11_forget 0 rfl) rfl rfl ?_
  refine gf_X11_book C K ht fl_X11_30 (dk dX11_forget 1 rfl) ?_
  refine gf_X0_told C K (kd_X11_book K ht) fl_X11_162 (dk dX11_forget 2 rfl) ?_
  refine e_iconst C 0 (dk dX11_forget 3 rfl) (by decide) ?_
  refine pf_X7_count C K (kd_X0_told K (kd_X11_book K ht)) fl_X11_166 (dk dX11_forget 4 rfl) ?_
  subst h
  exact e_vret C B (dk dX11_forget 5 rfl)
set_option maxRecDepth 20000 in
theorem l_X11_copyRow_2 {X : FX} {g : WC} {Xo : Nat → va_E} {n : Nat} {kd : Nat → Nat} (C : Cx X g RX11 cX11_copyRow 3) (K : KD n kd) {a0 : Nat} {n0 : Nat} {a1 : Nat} {n1 : Nat} (ha0 : IA kd a0 n0) (ha1 : IA kd a1 n1) (hR : x_R X = rm 0) {OK : Mem → Prop} (hx : ∀ s, OK s → EW X g (x_s X).heap.size n 3 (ent g Xo kd s) 0 0 26 [] []) : ∀ (N9 : Nat) (x2 : Int32) (M : Mem) (q : Mem), L_X11_copyRow_2 a0 n0 a1 n1 N9 x2 M = some q → OK q → EW X g (x_s X).heap.size n 3 (ent g Xo kd M) 0 0 2 [(0, .ref (g_N g + a0)), (1, .ref (g_N g + a1)), (2, .int x2)] [] := by
  intro N9
  induction N9 with
  | zero =>
    intro x2 M q h
    rw [L_X11_copyRow_2.eq_1] at h
    cases h
  | succ m9 ih =>
    intro x2 M q h hOK
    rw [L_X11_copyRow_2.eq_2] at h
    refine e_iload_n C 2 (dk dX11_copyRow 2 rfl) rfl rfl ?_
    refine e_aload_n C 0 (dk dX11_copyRow 3 rfl) rfl rfl ?_
    refine m_alen C K ha0 (nI n0) rfl (dk dX11_copyRow 4 rfl) ?_
    refine e_icmp_ge C 26 (dk dX11_copyRow 5 rfl) (by decide) (fun c1 => ?_) (fun c1 => ?_)
    · rw [if_pos c1] at h
      obtain rfl := Option.some.inj h
      refine e_lv [] rfl ?_
      exact hx _ hOK
    · rw [if_neg c1] at h
      refine e_iload_n C 2 (dk dX11_copyRow 6 rfl) rfl rfl ?_
      refine e_aload_n C 1 (dk dX11_copyRow 7 rfl) rfl rfl ?_
      refine m_alen C K ha1 (nI n1) rfl (dk dX11_copyRow 8 rfl) ?_
      refine e_icmp_ge C 26 (dk dX11_copyRow 9 rfl) (by decide) (fun c2 => ?_) (fun c2 => ?_)
      · rw [if_pos c2] at h
        obtain rfl := Option.some.inj h
        refine e_lv [] rfl ?_
        exact hx _ hOK
      · rw [if_neg c2] at h
        refine e_aload_n C 1 (dk dX11_copyRow 10 rfl) rfl rfl ?_
        refine e_iload_n C 2 (dk dX11_copyRow 11 rfl) rfl rfl ?_
        refine e_aload_n C 0 (dk dX11_copyRow 12 rfl) rfl rfl ?_
        refine e_iload_n C 2 (dk dX11_copyRow 13 rfl) rfl rfl ?_
        obtain ⟨v3, hv3, h⟩ := ob h
        refine m_ald C K ha0 (dk dX11_copyRow 14 rfl) hv3 ?_
        obtain ⟨M4, hM4, h⟩ := ob h
        refine m_ast C K ha1 (dk dX11_copyRow 15 rfl) hM4 ?_
        refine e_iinc C [(2, .int (x2 + 1)), (0, .ref (g_N g + a0)), (1, .ref (g_N g + a1))] 2 1 (dk dX11_copyRow 16 rfl) rfl (by decide) (by decide) rfl ?_
        refine e_goto C 2 (dk dX11_copyRow 17 rfl) (by decide) ?_
        refine e_lv [1, 2, 0] rfl ?_
        exact ih _ _ _ h hOK
set_option maxRecDepth 20000 in
theorem lb_X11_copyRow_2 {X : FX} {g : WC} {Xo : Nat → va_E} {n : Nat} {kd : Nat → Nat} (C : Cx X g RX11 cX11_copyRow 3) (K : KD n kd) {a0 : Nat} {n0 : Nat} {a1 : Nat} {n1 : Nat} (ha0 : IA kd a0 n0) (ha1 : IA kd a1 n1) (hR : x_R X = rm 0) {T9 : Type} {f9 : Mem → Option T9} {b9 : T9} (hx : ∀ s, f9 s = some b9 → EW X g (x_s X).heap.size n 3 (ent g Xo kd s) 0 0 26 [] []) {x2 : Int32} {M : Mem} (h : (L_X11_copyRow_2 a0 n0 a1 n1 FU x2 M).bind f9 = some b9) : EW X g (x_s X).heap.size n 3 (ent g Xo kd M) 0 0 2 [(0, .ref (g_N g + a0)), (1, .ref (g_N g + a1)), (2, .int x2)] [] := by
  obtain ⟨q, hq, h⟩ := ob h
  exact l_X11_copyRow_2 C K ha0 ha1 hR (OK := fun q => f9 q = some b9) hx FU x2 M q hq h
set_option maxRecDepth 20000 in
theorem c_X11_copyRow {g : WC} {Xo : Nat → va_E} {n : Nat} {kd : Nat → Nat} (K : KD n kd) {a0 : Nat} {n0 : Nat} {a1 : Nat} {n1 : Nat} (ha0 : IA kd a0 n0) (ha1 : IA kd a1 n1) {M : Mem} {res : Mem} (h : F_X11_copyRow a0 n0 a1 n1 M = some res) : MC g yX11_copyRow cX11_copyRow 3 none 0 n [.ref (g_N g + a0), .ref (g_N g + a1)] (ent g Xo kd M) none (ent g Xo kd res) := by
  refine MC_of pn_X11 (Nat.le_of_ble_eq_true rfl) (fun X C B => ?_)
  have hR := B.1
  rw [F_X11_copyRow] at h
  refine e_iconst C 0 (dk dX11_copyRow 0 rfl) (by decide) ?_
  refine e_istore_n C [(2, .int 0), (0, .ref (g_N g + a0)), (1, .ref (g_N g + a1))] (dk dX11_copyRow 1 rfl) rfl (by decide) rfl ?_
  refine e_lv [1, 2, 0] rfl ?_
  refine lb_X11_copyRow_2 C K ha0 ha1 hR (fun s6 h => ?_) h
  obtain rfl := Option.some.inj h
  exact e_vret C B (dk dX11_copyRow 18 rfl)
set_option maxRecDepth 20000 in
theorem c_X11_streetIn {g : WC} {Xo : Nat → va_E} {n : Nat} {kd : Nat → Nat} (K : KD n kd) {p0 : Int32} {p1 : Int32} {M : Mem} {res : Int32} (h : F_X11_streetIn p0 p1 = res) : MC g yX11_streetIn cX11_streetIn 2 (some .int) 0 n [.int p0, .int p1] (ent g Xo kd M) (some (.int res)) (ent g Xo kd M) := by
  refine MC_of pn_X11 (Nat.le_of_ble_eq_true rfl) (fun X C B => ?_)
  have hR := B.1
  rw [F_X11_streetIn] at h
  refine e_iload_n C 0 (dk dX11_streetIn 0 rfl) rfl rfl ?_
  refine e_iconst C 3 (dk dX11_streetIn 1 rfl) (by decide) ?_
  refine e_iload_n C 1 (dk dX11_streetIn 2 rfl) rfl rfl ?_
  refine e_imul C (dk dX11_streetIn 3 rfl) ?_
  refine e_ishr C (dk dX11_streetIn 4 rfl) ?_
  refine e_bipush C 7 (dk dX11_streetIn 5 rfl) (by decide) ?_
  refine e_iand C (dk dX11_streetIn 6 rfl) ?_
  subst h
  exact e_iret C B (nar1 _) (dk dX11_streetIn 7 rfl)
set_option maxRecDepth 20000 in
theorem c_X11_walkWith {g : WC} {Xo : Nat → va_E} {n : Nat} {kd : Nat → Nat} (K : KD n kd) {p0 : Int32} {p1 : Int32} {p2 : Int32} {M : Mem} {res : Int32} (h : F_X11_walkWith p0 p1 p2 = res) : MC g yX11_walkWith cX11_walkWith 3 (some .int) 0 n [.int p0, .int p1, .int p2] (ent g Xo kd M) (some (.int res)) (ent g Xo kd M) := by
  refine MC_of pn_X11 (Nat.le_of_ble_eq_true rfl) (fun X C B => ?_)
  have hR := B.1
  rw [F_X11_walkWith] at h
  refine e_iload_n C 0 (dk dX11_walkWith 0 rfl) rfl rfl ?_
  refine e_bipush C 7 (dk dX11_walkWith 1 rfl) (by decide) ?_
  refine e_iconst C 3 (dk dX11_walkWith 2 rfl) (by decide) ?_
  refine e_iload_n C 1 (dk dX11_walkWith 3 rfl) rfl rfl ?_
  refine e_imul C (dk dX11_walkWith 4 rfl) ?_
  refine e_ishl C (dk dX11_walkWith 5 rfl) ?_
  refine e_iconst C (-1) (dk dX11_walkWith 6 rfl) (by decide) ?_
  refine e_ixor C (dk dX11_walkWith 7 rfl) ?_
  refine e_iand C (dk dX11_walkWith 8 rfl) ?_
  refine e_iload_n C 2 (dk dX11_walkWith 9 rfl) rfl rfl ?_
  refine e_iconst C 3 (dk dX11_walkWith 10 rfl) (by decide) ?_
  refine e_iload_n C 1 (dk dX11_walkWith 11 rfl) rfl rfl ?_
  refine e_imul C (dk dX11_walkWith 12 rfl) ?_
  refine e_ishl C (dk dX11_walkWith 13 rfl) ?_
  refine e_ior C (dk dX11_walkWith 14 rfl) ?_
  subst h
  exact e_iret C B (nar1 _) (dk dX11_walkWith 15 rfl)
set_option maxRecDepth 20000 in
theorem c_X11_streetNow {g : WC} {Xo : Nat → va_E} {n : Nat} {kd : Nat → Nat} (K : KD n kd) {t : Nat} {p0 : Int32} {p1 : Int32} (ht : kd t = 12) {M : Mem} {res : Int32} (h : F_X11_streetNow t p0 p1 M = some res) : MC g yX11_streetNow cX11_streetNow 3 (some .int) 2 n [.ref (g_N g + t), .int p0, .int p1] (ent g Xo kd M) (some (.int res)) (ent g Xo kd M) := by
  refine MC_of pn_X11 (Nat.le_of_ble_eq_true rfl) (fun X C B => ?_)
  have hR := B.1
  rw [F_X11_streetNow] at h
  refine e_aload_n C 0 (dk dX11_streetNow 0 rfl) rfl rfl ?_
  refine gf_X11_book C K ht fl_X11_30 (dk dX11_streetNow 1 rfl) ?_
  refine gf_X0_town C K (kd_X11_book K ht) fl_X11_119 (dk dX11_streetNow 2 rfl) ?_
  refine gf_X8_walks C K (kd_X0_town K (kd_X11_book K ht)) fl_X11_197 (dk dX11_streetNow 3 rfl) ?_
  refine e_iload_n C 1 (dk dX11_streetNow 4 rfl) rfl rfl ?_
  refine e_callS C cal_X11_at sm_X11_at ml_X11_172 hR (by decide) (dk dX11_streetNow 5 rfl) (c_X11_at K (kd_X8_walks K (kd_X0_town K (kd_X11_book K ht))) (rfl : F_X11_at (((t + 24) + 1) + 3) 7 p0 M = _)) ⟨Nat.zero_le _, Nat.zero_le _⟩ (Nat.le_of_ble_eq_true rfl) rfl ?_
  refine e_aload_n C 0 (dk dX11_streetNow 6 rfl) rfl rfl ?_
  obtain ⟨w1, hw1, h⟩ := ob h
  have gw1 := grd_some K (Or.inl ht) hw1
  refine gf_X11_plan C K ht fl_X11_19 (dk dX11_streetNow 7 rfl) ?_
  rw [gw1.1]
  refine e_iload_n C 1 (dk dX11_streetNow 8 rfl) rfl rfl ?_
  refine e_iload_n C 2 (dk dX11_streetNow 9 rfl) rfl rfl ?_
  obtain ⟨q2, hq2, h⟩ := ob h
  refine e_callV (ci := 9) C cal_X9_placeAt im_X9_placeAt se_X9_placeAt ml_X11_371 rfl hR (by decide) (dk dX11_streetNow 10 rfl) (K.1 _ (by rw [gw1.2]; decide)) (ent_o9 gw1.2) (c_X9_placeAt K gw1.2 hq2) ⟨Nat.zero_le _, Nat.zero_le _⟩ (Nat.le_of_ble_eq_true rfl) rfl ?_
  refine e_callS C cal_X11_streetIn sm_X11_streetIn ml_X11_207 hR (by decide) (dk dX11_streetNow 11 rfl) (c_X11_streetIn K (rfl : F_X11_streetIn (F_X11_at (((t + 24) + 1) + 3) 7 p0 M) q2 = _)) ⟨Nat.zero_le _, Nat.zero_le _⟩ (Nat.le_of_ble_eq_true rfl) rfl ?_
  obtain rfl := Option.some.inj h
  exact e_iret C B (nar1 _) (dk dX11_streetNow 12 rfl)
set_option maxRecDepth 20000 in
theorem l_X11_isSafe_3 {X : FX} {g : WC} {Xo : Nat → va_E} {n : Nat} {kd : Nat → Nat} (C : Cx X g RX11 cX11_isSafe 5) (K : KD n kd) {t : Nat} (ht : kd t = 12) {x1 : Int32} {x2 : Int32} {x3 : Int32} {M : Mem} (hR : x_R X = rm 2) {OK : Sum (Bool) (Unit) → Prop} (hB : ∀ v, OK (Sum.inl v) → Bx X g (some .boolean) 2 n (some (.int (bi v))) (ent g Xo kd M)) (hx : ∀ s, OK (Sum.inr s) → EW X g (x_s X).heap.size n 5 (ent g Xo kd M) 0 0 55 [] []) : ∀ (N9 : Nat) (x4 : Int32) (q : Sum (Bool) (Unit)), L_X11_isSafe_3 t x1 x2 x3 M N9 x4 = some q → OK q → EW X g (x_s X).heap.size n 5 (ent g Xo kd M) 0 0 3 [(0, .ref (g_N g + t)), (1, .int x1), (2, .int x2), (3, .int x3), (4, .int x4)] [] := by
  intro N9
  induction N9 with
  | zero =>
    intro x4 q h
    rw [L_X11_isSafe_3.eq_1] at h
    cases h
  | succ m9 ih =>
    intro x4 q h hOK
    rw [L_X11_isSafe_3.eq_2] at h
    refine e_iload C 4 (dk dX11_isSafe 2 rfl) rfl ?_
    refine e_bipush C 6 (dk dX11_isSafe 3 rfl) (by decide) ?_
    refine e_icmp_ge C 55 (dk dX11_isSafe 4 rfl) (by decide) (fun c1 => ?_) (fun c1 => ?_)
    · rw [if_pos c1] at h
      obtain rfl := Option.some.inj h
      refine e_lv [] rfl ?_
      exact hx _ hOK
    · rw [if_neg c1] at h
      refine e_aload_n C 0 (dk dX11_isSafe 5 rfl) rfl rfl ?_
      obtain ⟨w2, hw2, h⟩ := ob h
      have gw2 := grd_some K (Or.inl ht) hw2
      refine gf_X11_plan C K ht fl_X11_19 (dk dX11_isSafe 6 rfl) ?_
      rw [gw2.1]
      refine e_iload_n C 1 (dk dX11_isSafe 7 rfl) rfl rfl ?_
      refine e_iload C 4 (dk dX11_isSafe 8 rfl) rfl ?_
      obtain ⟨q3, hq3, h⟩ := ob h
      refine e_callV (ci := 9) C cal_X9_placeAt im_X9_placeAt se_X9_placeAt ml_X11_371 rfl hR (by decide) (dk dX11_isSafe 9 rfl) (K.1 _ (by rw [gw2.2]; decide)) (ent_o9 gw2.2) (c_X9_placeAt K gw2.2 hq3) ⟨Nat.zero_le _, Nat.zero_le _⟩ (Nat.le_of_ble_eq_true rfl) rfl ?_
      refine e_iload_n C 2 (dk dX11_isSafe 10 rfl) rfl rfl ?_
      refine e_icmp_ne C 49 (dk dX11_isSafe 11 rfl) (by decide) (fun c4 => ?_) (fun c4 => ?_)
      · rw [if_neg c4] at h
        refine e_iinc C [(4, .int (x4 + 1)), (0, .ref (g_N g + t)), (1, .int x1), (2, .int x2), (3, .int x3)] 4 1 (dk dX11_isSafe 24 rfl) rfl (by decide) (by decide) rfl ?_
        refine e_goto C 3 (dk dX11_isSafe 25 rfl) (by decide) ?_
        refine e_lv [1, 2, 3, 4, 0] rfl ?_
        exact ih _ _ h hOK
      · rw [if_pos c4] at h
        refine e_aload_n C 0 (dk dX11_isSafe 12 rfl) rfl rfl ?_
        obtain ⟨w5, hw5, h⟩ := ob h
        have gw5 := grd_some K (Or.inl ht) hw5
        refine gf_X11_plan C K ht fl_X11_19 (dk dX11_isSafe 13 rfl) ?_
        rw [gw5.1]
        refine e_aload_n C 0 (dk dX11_isSafe 14 rfl) rfl rfl ?_
        refine gf_X11_book C K ht fl_X11_30 (dk dX11_isSafe 15 rfl) ?_
        refine gf_X0_town C K (kd_X11_book K ht) fl_X11_119 (dk dX11_isSafe 16 rfl) ?_
        refine gf_X8_night C K (kd_X0_town K (kd_X11_book K ht)) fl_X11_134 (dk dX11_isSafe 17 rfl) ?_
        refine e_iload C 4 (dk dX11_isSafe 18 rfl) rfl ?_
        obtain ⟨q6, hq6, h⟩ := ob h
        refine e_callV (ci := 9) C cal_X9_watchAt im_X9_watchAt se_X9_watchAt ml_X11_259 rfl hR (by decide) (dk dX11_isSafe 19 rfl) (K.1 _ (by rw [gw5.2]; decide)) (ent_o9 gw5.2) (c_X9_watchAt K gw5.2 hq6) ⟨Nat.zero_le _, Nat.zero_le _⟩ (Nat.le_of_ble_eq_true rfl) rfl ?_
        refine e_iload_n C 3 (dk dX11_isSafe 20 rfl) rfl rfl ?_
        refine e_icmp_ne C 49 (dk dX11_isSafe 21 rfl) (by decide) (fun c7 => ?_) (fun c7 => ?_)
        · rw [if_neg c7] at h
          refine e_iinc C [(4, .int (x4 + 1)), (0, .ref (g_N g + t)), (1, .int x1), (2, .int x2), (3, .int x3)] 4 1 (dk dX11_isSafe 24 rfl) rfl (by decide) (by decide) rfl ?_
          refine e_goto C 3 (dk dX11_isSafe 25 rfl) (by decide) ?_
          refine e_lv [1, 2, 3, 4, 0] rfl ?_
          exact ih _ _ h hOK
        · rw [if_pos c7] at h
          refine e_iconst C 0 (dk dX11_isSafe 22 rfl) (by decide) ?_
          obtain rfl := Option.some.inj h
          exact e_iret (v := bi false) C (hB _ hOK) (nar_bi _) (dk dX11_isSafe 23 rfl)
set_option maxRecDepth 20000 in
theorem lb_X11_isSafe_3 {X : FX} {g : WC} {Xo : Nat → va_E} {n : Nat} {kd : Nat → Nat} (C : Cx X g RX11 cX11_isSafe 5) (K : KD n kd) {t : Nat} (ht : kd t = 12) {x1 : Int32} {x2 : Int32} {x3 : Int32} {M : Mem} (hR : x_R X = rm 2) {T9 : Type} {f9 : Sum (Bool) (Unit) → Option T9} {b9 : T9} (hB : ∀ v, f9 (Sum.inl v) = some b9 → Bx X g (some .boolean) 2 n (some (.int (bi v))) (ent g Xo kd M)) (hx : ∀ s, f9 (Sum.inr s) = some b9 → EW X g (x_s X).heap.size n 5 (ent g Xo kd M) 0 0 55 [] []) {x4 : Int32} (h : (L_X11_isSafe_3 t x1 x2 x3 M FU x4).bind f9 = some b9) : EW X g (x_s X).heap.size n 5 (ent g Xo kd M) 0 0 3 [(0, .ref (g_N g + t)), (1, .int x1), (2, .int x2), (3, .int x3), (4, .int x4)] [] := by
  obtain ⟨q, hq, h⟩ := ob h
  exact l_X11_isSafe_3 C K ht hR (OK := fun q => f9 q = some b9) hB hx FU x4 q hq h
set_option maxRecDepth 20000 in
theorem c_X11_isSafe {g : WC} {Xo : Nat → va_E} {n : Nat} {kd : Nat → Nat} (K : KD n kd) {t : Nat} {p0 : Int32} {p1 : Int32} {p2 : Int32} (ht : kd t = 12) {M : Mem} {res : Bool} (h : F_X11_isSafe t p0 p1 p2 M = some res) : MC g yX11_isSafe cX11_isSafe 5 (some .boolean) 2 n [.ref (g_N g + t), .int p0, .int p1, .int p2] (ent g Xo kd M) (some (.int (bi res))) (ent g Xo kd M) := by
  refine MC_of pn_X11 (Nat.le_of_ble_eq_true rfl) (fun X C B => ?_)
  have hR := B.1
  rw [F_X11_isSafe] at h
  refine e_iconst C 0 (dk dX11_isSafe 0 rfl) (by decide) ?_
  refine e_istore C [(4, .int 0), (0, .ref (g_N g + t)), (1, .int p0), (2, .int p1), (3, .int p2)] (dk dX11_isSafe 1 rfl) (by decide) rfl ?_
  refine e_lv [1, 2, 3, 4, 0] rfl ?_
  refine lb_X11_isSafe_3 C K ht hR (fun v h => ?_) (fun s9 h => ?_) h
  · obtain rfl := Option.some.inj (show some v = some _ from h)
    exact B
  dsimp only [Sum.elim_inr] at h
  refine e_iconst C 1 (dk dX11_isSafe 26 rfl) (by decide) ?_
  obtain rfl := Option.some.inj h
  exact e_iret (v := bi true) C B (nar_bi _) (dk dX11_isSafe 27 rfl)
set_option maxRecDepth 20000 in
theorem l_X11_canHide_2 {X : FX} {g : WC} {Xo : Nat → va_E} {n : Nat} {kd : Nat → Nat} (C : Cx X g RX11 cX11_canHide 4) (K : KD n kd) {t : Nat} (ht : kd t = 12) {x1 : Int32} {x2 : Int32} {M : Mem} (hR : x_R X = rm 3) {OK : Sum (Bool) (Unit) → Prop} (hB : ∀ v, OK (Sum.inl v) → Bx X g (some .boolean) 3 n (some (.int (bi v))) (ent g Xo kd M)) (hx : ∀ s, OK (Sum.inr s) → EW X g (x_s X).heap.size n 4 (ent g Xo kd M) 0 0 31 [] []) : ∀ (N9 : Nat) (x3 : Int32) (q : Sum (Bool) (Unit)), L_X11_canHide_2 t x1 x2 M N9 x3 = some q → OK q → EW X g (x_s X).heap.size n 4 (ent g Xo kd M) 0 0 2 [(0, .ref (g_N g + t)), (1, .int x1), (2, .int x2), (3, .int x3)] [] := by
  intro N9
  induction N9 with
  | zero =>
    intro x3 q h
    rw [L_X11_canHide_2.eq_1] at h
    cases h
  | succ m9 ih =>
    intro x3 q h hOK
    rw [L_X11_canHide_2.eq_2] at h
    refine e_iload_n C 3 (dk dX11_canHide 2 rfl) rfl rfl ?_
    refine e_aload_n C 0 (dk dX11_canHide 3 rfl) rfl rfl ?_
    obtain ⟨w1, hw1, h⟩ := ob h
    have gw1 := grd_some K (Or.inl ht) hw1
    refine gf_X11_plan C K ht fl_X11_19 (dk dX11_canHide 4 rfl) ?_
    rw [gw1.1]
    refine gf_X9_streets C K gw1.2 fl_X11_122 (dk dX11_canHide 5 rfl) ?_
    refine e_icmp_ge C 31 (dk dX11_canHide 6 rfl) (by decide) (fun c2 => ?_) (fun c2 => ?_)
    · rw [if_pos c2] at h
      obtain rfl := Option.some.inj h
      refine e_lv [] rfl ?_
      exact hx _ hOK
    · rw [if_neg c2] at h
      refine e_aload_n C 0 (dk dX11_canHide 7 rfl) rfl rfl ?_
      refine e_iload_n C 1 (dk dX11_canHide 8 rfl) rfl rfl ?_
      refine e_iload_n C 2 (dk dX11_canHide 9 rfl) rfl rfl ?_
      refine e_iload_n C 3 (dk dX11_canHide 10 rfl) rfl rfl ?_
      obtain ⟨q3, hq3, h⟩ := ob h
      refine e_callV (ci := 11) C cal_X11_isSafe im_X11_isSafe se_X11_isSafe ml_X11_265 rfl hR (by decide) (dk dX11_canHide 11 rfl) (K.1 _ (by rw [ht]; decide)) (ent_o11 ht) (c_X11_isSafe K ht hq3) ⟨Nat.zero_le _, Nat.zero_le _⟩ (Nat.le_of_ble_eq_true rfl) rfl ?_
      refine e_if_eq C 25 (dk dX11_canHide 12 rfl) (by decide) (fun c4 => ?_) (fun c4 => ?_)
      · rw [if_pos c4] at h
        refine e_iinc C [(3, .int (x3 + 1)), (0, .ref (g_N g + t)), (1, .int x1), (2, .int x2)] 3 1 (dk dX11_canHide 15 rfl) rfl (by decide) (by decide) rfl ?_
        refine e_goto C 2 (dk dX11_canHide 16 rfl) (by decide) ?_
        refine e_lv [1, 2, 3, 0] rfl ?_
        exact ih _ _ h hOK
      · rw [if_neg c4] at h
        refine e_iconst C 1 (dk dX11_canHide 13 rfl) (by decide) ?_
        obtain rfl := Option.some.inj h
        exact e_iret (v := bi true) C (hB _ hOK) (nar_bi _) (dk dX11_canHide 14 rfl)
set_option maxRecDepth 20000 in
theorem lb_X11_canHide_2 {X : FX} {g : WC} {Xo : Nat → va_E} {n : Nat} {kd : Nat → Nat} (C : Cx X g RX11 cX11_canHide 4) (K : KD n kd) {t : Nat} (ht : kd t = 12) {x1 : Int32} {x2 : Int32} {M : Mem} (hR : x_R X = rm 3) {T9 : Type} {f9 : Sum (Bool) (Unit) → Option T9} {b9 : T9} (hB : ∀ v, f9 (Sum.inl v) = some b9 → Bx X g (some .boolean) 3 n (some (.int (bi v))) (ent g Xo kd M)) (hx : ∀ s, f9 (Sum.inr s) = some b9 → EW X g (x_s X).heap.size n 4 (ent g Xo kd M) 0 0 31 [] []) {x3 : Int32} (h : (L_X11_canHide_2 t x1 x2 M FU x3).bind f9 = some b9) : EW X g (x_s X).heap.size n 4 (ent g Xo kd M) 0 0 2 [(0, .ref (g_N g + t)), (1, .int x1), (2, .int x2), (3, .int x3)] [] := by
  obtain ⟨q, hq, h⟩ := ob h
  exact l_X11_canHide_2 C K ht hR (OK := fun q => f9 q = some b9) hB hx FU x3 q hq h
set_option maxRecDepth 20000 in
theorem c_X11_canHide {g : WC} {Xo : Nat → va_E} {n : Nat} {kd : Nat → Nat} (K : KD n kd) {t : Nat} {p0 : Int32} {p1 : Int32} (ht : kd t = 12) {M : Mem} {res : Bool} (h : F_X11_canHide t p0 p1 M = some res) : MC g yX11_canHide cX11_canHide 4 (some .boolean) 3 n [.ref (g_N g + t), .int p0, .int p1] (ent g Xo kd M) (some (.int (bi res))) (ent g Xo kd M) := by
  refine MC_of pn_X11 (Nat.le_of_ble_eq_true rfl) (fun X C B => ?_)
  have hR := B.1
  rw [F_X11_canHide] at h
  refine e_iconst C 0 (dk dX11_canHide 0 rfl) (by decide) ?_
  refine e_istore_n C [(3, .int 0), (0, .ref (g_N g + t)), (1, .int p0), (2, .int p1)] (dk dX11_canHide 1 rfl) rfl (by decide) rfl ?_
  refine e_lv [1, 2, 3, 0] rfl ?_
  refine lb_X11_canHide_2 C K ht hR (fun v h => ?_) (fun s6 h => ?_) h
  · obtain rfl := Option.some.inj (show some v = some _ from h)
    exact B
  dsimp only [Sum.elim_inr] at h
  refine e_iconst C 0 (dk dX11_canHide 17 rfl) (by decide) ?_
  obtain rfl := Option.some.inj h
  exact e_iret (v := bi false) C B (nar_bi _) (dk dX11_canHide 18 rfl)
set_option maxRecDepth 20000 in
theorem c_X11_lossOf {g : WC} {Xo : Nat → va_E} {n : Nat} {kd : Nat → Nat} (K : KD n kd) {t : Nat} {p0 : Int32} (ht : kd t = 12) {M : Mem} {res : Int32} (h : F_X11_lossOf t p0 M = res) : MC g yX11_lossOf cX11_lossOf 3 (some .int) 1 n [.ref (g_N g + t), .int p0] (ent g Xo kd M) (some (.int res)) (ent g Xo kd M) := by
  refine MC_of pn_X11 (Nat.le_of_ble_eq_true rfl) (fun X C B => ?_)
  have hR := B.1
  rw [F_X11_lossOf] at h
  refine e_aload_n C 0 (dk dX11_lossOf 0 rfl) rfl rfl ?_
  refine gf_X11_sale C K ht fl_X11_51 (dk dX11_lossOf 1 rfl) ?_
  refine gf_X6_buyers C K (kd_X11_sale K ht) fl_X11_246 (dk dX11_lossOf 2 rfl) ?_
  refine e_iload_n C 1 (dk dX11_lossOf 3 rfl) rfl rfl ?_
  refine e_callS C cal_X11_at sm_X11_at ml_X11_172 hR (by decide) (dk dX11_lossOf 4 rfl) (c_X11_at K (kd_X6_buyers K (kd_X11_sale K ht)) (rfl : F_X11_at ((t + 52) + 3) 7 p0 M = _)) ⟨Nat.zero_le _, Nat.zero_le _⟩ (Nat.le_of_ble_eq_true rfl) rfl ?_
  refine e_istore_n C [(2, .int (F_X11_at ((t + 52) + 3) 7 p0 M)), (0, .ref (g_N g + t)), (1, .int p0)] (dk dX11_lossOf 5 rfl) rfl (by decide) rfl ?_
  refine e_iload_n C 0 (dk dX11_lossOf 6 rfl) rfl rfl ?_
  refine e_iconst C (-1) (dk dX11_lossOf 7 rfl) (by decide) ?_
  refine e_icmp_eq C 22 (dk dX11_lossOf 8 rfl) (by decide) (fun c1 => ?_) (fun c1 => ?_)
  · rw [if_pos c1] at h
    refine e_iconst C 0 (dk dX11_lossOf 12 rfl) (by decide) ?_
    refine e_goto C 28 (dk dX11_lossOf 13 rfl) (by decide) ?_
    subst h
    exact e_iret C B (nar1 _) (dk dX11_lossOf 15 rfl)
  · rw [if_neg c1] at h
    refine e_iload_n C 0 (dk dX11_lossOf 9 rfl) rfl rfl ?_
    refine e_iload_n C 2 (dk dX11_lossOf 10 rfl) rfl rfl ?_
    refine e_icmp_ne C 26 (dk dX11_lossOf 11 rfl) (by decide) (fun c2 => ?_) (fun c2 => ?_)
    · rw [if_neg c2] at h
      refine e_bipush C 10 (dk dX11_lossOf 14 rfl) (by decide) ?_
      subst h
      exact e_iret C B (nar1 _) (dk dX11_lossOf 15 rfl)
    · rw [if_pos c2] at h
      refine e_iconst C 0 (dk dX11_lossOf 12 rfl) (by decide) ?_
      refine e_goto C 28 (dk dX11_lossOf 13 rfl) (by decide) ?_
      subst h
      exact e_iret C B (nar1 _) (dk dX11_lossOf 15 rfl)
set_option maxRecDepth 20000 in
theorem j_X11_rests_j40 {X : FX} {g : WC} {Xo : Nat → va_E} {n : Nat} {kd : Nat → Nat} (C : Cx X g RX11 cX11_rests 6) (K : KD n kd) {t : Nat} (ht : kd t = 12) (hR : x_R X = rm 1) {x1 : Int32} {x2 : Int32} {x4 : Int32} {x5 : Int32} {M : Mem} {res : Bool} (h : J_X11_rests_j40 t x1 x2 x4 x5 M = res) (B : Bx X g (some .boolean) 1 n (some (.int (bi res))) (ent g Xo kd M)) : EW X g (x_s X).heap.size n 6 (ent g Xo kd M) 0 0 40 [(0, .ref (g_N g + t)), (1, .int x1), (2, .int x2), (4, .int x4), (5, .int x5)] [] := by
  rw [J_X11_rests_j40] at h
  refine e_iload C 3 (dk dX11_rests 26 rfl) rfl ?_
  refine e_iconst C 2 (dk dX11_rests 27 rfl) (by decide) ?_
  refine e_icmp_lt C 72 (dk dX11_rests 28 rfl) (by decide) (fun c2 => ?_) (fun c2 => ?_)
  · rw [if_pos c2] at h
    refine e_iconst C 1 (dk dX11_rests 44 rfl) (by decide) ?_
    refine e_goto C 77 (dk dX11_rests 45 rfl) (by decide) ?_
    subst h
    exact e_iret (v := bi true) C B (nar_bi _) (dk dX11_rests 47 rfl)
  · rw [if_neg c2] at h
    refine e_aload_n C 0 (dk dX11_rests 29 rfl) rfl rfl ?_
    refine gf_X11_otherLosses C K ht fl_X11_80 (dk dX11_rests 30 rfl) ?_
    refine e_iconst C 2 (dk dX11_rests 31 rfl) (by decide) ?_
    refine e_iload_n C 1 (dk dX11_rests 32 rfl) rfl rfl ?_
    refine e_imul C (dk dX11_rests 33 rfl) ?_
    refine e_iconst C 1 (dk dX11_rests 34 rfl) (by decide) ?_
    refine e_iadd C (dk dX11_rests 35 rfl) ?_
    refine e_iload_n C 2 (dk dX11_rests 36 rfl) rfl rfl ?_
    refine e_isub C (dk dX11_rests 37 rfl) ?_
    refine e_callS C cal_X11_at sm_X11_at ml_X11_172 hR (by decide) (dk dX11_rests 38 rfl) (c_X11_at K (kd_X11_otherLosses K ht) (rfl : F_X11_at (t + 66) 4 (((2 * x1) + 1) - x2) M = _)) ⟨Nat.zero_le _, Nat.zero_le _⟩ (Nat.le_of_ble_eq_true rfl) rfl ?_
    refine e_aload_n C 0 (dk dX11_rests 39 rfl) rfl rfl ?_
    refine gf_X11_otherLosses C K ht fl_X11_80 (dk dX11_rests 40 rfl) ?_
    refine e_iload C 4 (dk dX11_rests 41 rfl) rfl ?_
    refine e_callS C cal_X11_at sm_X11_at ml_X11_172 hR (by decide) (dk dX11_rests 42 rfl) (c_X11_at K (kd_X11_otherLosses K ht) (rfl : F_X11_at (t + 66) 4 x5 M = _)) ⟨Nat.zero_le _, Nat.zero_le _⟩ (Nat.le_of_ble_eq_true rfl) rfl ?_
    refine e_icmp_lt C 76 (dk dX11_rests 43 rfl) (by decide) (fun c3 => ?_) (fun c3 => ?_)
    · rw [if_pos c3] at h
      refine e_iconst C 0 (dk dX11_rests 46 rfl) (by decide) ?_
      subst h
      exact e_iret (v := bi false) C B (nar_bi _) (dk dX11_rests 47 rfl)
    · rw [if_neg c3] at h
      refine e_iconst C 1 (dk dX11_rests 44 rfl) (by decide) ?_
      refine e_goto C 77 (dk dX11_rests 45 rfl) (by decide) ?_
      subst h
      exact e_iret (v := bi true) C B (nar_bi _) (dk dX11_rests 47 rfl)
set_option maxRecDepth 20000 in
theorem c_X11_rests {g : WC} {Xo : Nat → va_E} {n : Nat} {kd : Nat → Nat} (K : KD n kd) {t : Nat} {p0 : Int32} {p1 : Int32} {p2 : Int32} {p3 : Int32} (ht : kd t = 12) {M : Mem} {res : Bool} (h : F_X11_rests t p0 p1 p2 p3 M = res) : MC g yX11_rests cX11_rests 6 (some .boolean) 1 n [.ref (g_N g + t), .int p0, .int p1, .int p2, .int p3] (ent g Xo kd M) (some (.int (bi res))) (ent g Xo kd M) := by
  refine MC_of pn_X11 (Nat.le_of_ble_eq_true rfl) (fun X C B => ?_)
  have hR := B.1
  rw [F_X11_rests] at h
  refine e_iconst C 2 (dk dX11_rests 0 rfl) (by decide) ?_
  refine e_iload_n C 1 (dk dX11_rests 1 rfl) rfl rfl ?_
  refine e_imul C (dk dX11_rests 2 rfl) ?_
  refine e_iload_n C 2 (dk dX11_rests 3 rfl) rfl rfl ?_
  refine e_iadd C (dk dX11_rests 4 rfl) ?_
  refine e_istore C [(5, .int ((2 * p0) + p1)), (0, .ref (g_N g + t)), (1, .int p0), (2, .int p1), (3, .int p2), (4, .int p3)] (dk dX11_rests 5 rfl) (by decide) rfl ?_
  refine e_iload_n C 4 (dk dX11_rests 6 rfl) rfl rfl ?_
  refine e_iconst C 2 (dk dX11_rests 7 rfl) (by decide) ?_
  refine e_icmp_ne C 40 (dk dX11_rests 8 rfl) (by decide) (fun c1 => ?_) (fun c1 => ?_)
  · rw [if_neg c1] at h
    refine e_lv [1, 2, 3, 5, 0] rfl ?_
    exact j_X11_rests_j40 C K ht hR h B
  · rw [if_pos c1] at h
    refine e_aload_n C 1 (dk dX11_rests 9 rfl) rfl rfl ?_
    refine gf_X11_losses C K ht fl_X11_76 (dk dX11_rests 10 rfl) ?_
    refine e_iconst C 2 (dk dX11_rests 11 rfl) (by decide) ?_
    refine e_iconst C 1 (dk dX11_rests 12 rfl) (by decide) ?_
    refine e_iload_n C 2 (dk dX11_rests 13 rfl) rfl rfl ?_
    refine e_isub C (dk dX11_rests 14 rfl) ?_
    refine e_imul C (dk dX11_rests 15 rfl) ?_
    refine e_iload_n C 3 (dk dX11_rests 16 rfl) rfl rfl ?_
    refine e_iadd C (dk dX11_rests 17 rfl) ?_
    refine e_callS C cal_X11_at sm_X11_at ml_X11_172 hR (by decide) (dk dX11_rests 18 rfl) (c_X11_at K (kd_X11_losses K ht) (rfl : F_X11_at (t + 65) 4 ((2 * (1 - p0)) + p1) M = _)) ⟨Nat.zero_le _, Nat.zero_le _⟩ (Nat.le_of_ble_eq_true rfl) rfl ?_
    refine e_aload_n C 1 (dk dX11_rests 19 rfl) rfl rfl ?_
    refine gf_X11_losses C K ht fl_X11_76 (dk dX11_rests 20 rfl) ?_
    refine e_iload C 0 (dk dX11_rests 21 rfl) rfl ?_
    refine e_callS C cal_X11_at sm_X11_at ml_X11_172 hR (by decide) (dk dX11_rests 22 rfl) (c_X11_at K (kd_X11_losses K ht) (rfl : F_X11_at (t + 65) 4 ((2 * p0) + p1) M = _)) ⟨Nat.zero_le _, Nat.zero_le _⟩ (Nat.le_of_ble_eq_true rfl) rfl ?_
    refine e_icmp_ge C 40 (dk dX11_rests 23 rfl) (by decide) (fun c4 => ?_) (fun c4 => ?_)
    · rw [if_pos c4] at h
      refine e_lv [1, 2, 3, 5, 0] rfl ?_
      exact j_X11_rests_j40 C K ht hR h B
    · rw [if_neg c4] at h
      refine e_iconst C 0 (dk dX11_rests 24 rfl) (by decide) ?_
      subst h
      exact e_iret (v := bi false) C B (nar_bi _) (dk dX11_rests 25 rfl)
set_option maxRecDepth 20000 in
theorem c_X12_thrown {g : WC} {Xo : Nat → va_E} {n : Nat} {kd : Nat → Nat} (K : KD n kd) {t : Nat} (ht : kd t = 13) {M : Mem} {res : Int32} (h : F_X12_thrown t M = res) : MC g yX12_thrown cX12_thrown 1 (some .int) 0 n [.ref (g_N g + t)] (ent g Xo kd M) (some (.int res)) (ent g Xo kd M) := by
  refine MC_of pn_X12 (Nat.le_of_ble_eq_true rfl) (fun X C B => ?_)
  have hR := B.1
  rw [F_X12_thrown] at h
  refine e_aload_n C 0 (dk dX12_thrown 0 rfl) rfl rfl ?_
  refine gf_X12_code C K ht fl_X12_156 (dk dX12_thrown 1 rfl) ?_
  subst h
  exact e_iret C B (nar1 _) (dk dX12_thrown 2 rfl)
set_option maxRecDepth 20000 in
theorem c_X12_fail {g : WC} {Xo : Nat → va_E} {n : Nat} {kd : Nat → Nat} (K : KD n kd) {t : Nat} {p0 : Int32} (ht : kd t = 13) {M : Mem} {res : Int32 × Mem} (h : F_X12_fail t p0 M = res) : MC g yX12_fail cX12_fail 2 (some .int) 0 n [.ref (g_N g + t), .int p0] (ent g Xo kd M) (some (.int res.1)) (ent g Xo kd res.2) := by
  refine MC_of pn_X12 (Nat.le_of_ble_eq_true rfl) (fun X C B => ?_)
  have hR := B.1
  rw [F_X12_fail] at h
  refine e_aload_n C 0 (dk dX12_fail 0 rfl) rfl rfl ?_
  refine e_iload_n C 1 (dk dX12_fail 1 rfl) rfl rfl ?_
  refine pf_X12_code C K ht fl_X12_156 (dk dX12_fail 2 rfl) ?_
  refine e_iconst C 0 (dk dX12_fail 3 rfl) (by decide) ?_
  subst h
  exact e_iret C B (nar1 _) (dk dX12_fail 4 rfl)
set_option maxRecDepth 20000 in
theorem c_X12_isIn {g : WC} {Xo : Nat → va_E} {n : Nat} {kd : Nat → Nat} (K : KD n kd) {p0 : Int64} {p1 : Int64} {p2 : Int64} {M : Mem} {res : Bool} (h : F_X12_isIn p0 p1 p2 = res) : MC g yX12_isIn cX12_isIn 6 (some .boolean) 0 n [.long p0, .long p1, .long p2] (ent g Xo kd M) (some (.int (bi res))) (ent g Xo kd M) := by
  refine MC_of pn_X12 (Nat.le_of_ble_eq_true rfl) (fun X C B => ?_)
  have hR := B.1
  rw [F_X12_isIn] at h
  refine e_lload_n C 0 (dk dX12_isIn 0 rfl) rfl rfl ?_
  refine e_lload_n C 1 (dk dX12_isIn 1 rfl) rfl rfl ?_
  refine e_lcmp C (dk dX12_isIn 2 rfl) ?_
  refine e_if_lt C 17 (dk dX12_isIn 3 rfl) (by decide) (fun c1 => ?_) (fun c1 => ?_)
  · rw [if_pos c1] at h
    refine e_iconst C 0 (dk dX12_isIn 10 rfl) (by decide) ?_
    subst h
    exact e_iret (v := bi false) C B (nar_bi _) (dk dX12_isIn 11 rfl)
  · rw [if_neg c1] at h
    refine e_lload_n C 0 (dk dX12_isIn 4 rfl) rfl rfl ?_
    refine e_lload C 2 (dk dX12_isIn 5 rfl) rfl ?_
    refine e_lcmp C (dk dX12_isIn 6 rfl) ?_
    refine e_if_gt C 17 (dk dX12_isIn 7 rfl) (by decide) (fun c2 => ?_) (fun c2 => ?_)
    · rw [if_pos c2] at h
      refine e_iconst C 0 (dk dX12_isIn 10 rfl) (by decide) ?_
      subst h
      exact e_iret (v := bi false) C B (nar_bi _) (dk dX12_isIn 11 rfl)
    · rw [if_neg c2] at h
      refine e_iconst C 1 (dk dX12_isIn 8 rfl) (by decide) ?_
      refine e_goto C 18 (dk dX12_isIn 9 rfl) (by decide) ?_
      subst h
      exact e_iret (v := bi true) C B (nar_bi _) (dk dX12_isIn 11 rfl)
set_option maxRecDepth 20000 in
theorem c_X12_isOf {g : WC} {Xo : Nat → va_E} {n : Nat} {kd : Nat → Nat} (K : KD n kd) {p0 : Int32} {p1 : Int32} {M : Mem} {res : Bool} (h : F_X12_isOf p0 p1 = res) : MC g yX12_isOf cX12_isOf 2 (some .boolean) 0 n [.int p0, .int p1] (ent g Xo kd M) (some (.int (bi res))) (ent g Xo kd M) := by
  refine MC_of pn_X12 (Nat.le_of_ble_eq_true rfl) (fun X C B => ?_)
  have hR := B.1
  rw [F_X12_isOf] at h
  refine e_iload_n C 0 (dk dX12_isOf 0 rfl) rfl rfl ?_
  refine e_iload_n C 1 (dk dX12_isOf 1 rfl) rfl rfl ?_
  refine e_ishr C (dk dX12_isOf 2 rfl) ?_
  refine e_iconst C 1 (dk dX12_isOf 3 rfl) (by decide) ?_
  refine e_iand C (dk dX12_isOf 4 rfl) ?_
  refine e_iconst C 1 (dk dX12_isOf 5 rfl) (by decide) ?_
  refine e_icmp_ne C 13 (dk dX12_isOf 6 rfl) (by decide) (fun c1 => ?_) (fun c1 => ?_)
  · rw [if_neg c1] at h
    refine e_iconst C 0 (dk dX12_isOf 9 rfl) (by decide) ?_
    subst h
    exact e_iret (v := bi false) C B (nar_bi _) (dk dX12_isOf 10 rfl)
  · rw [if_pos c1] at h
    refine e_iconst C 1 (dk dX12_isOf 7 rfl) (by decide) ?_
    refine e_goto C 14 (dk dX12_isOf 8 rfl) (by decide) ?_
    subst h
    exact e_iret (v := bi true) C B (nar_bi _) (dk dX12_isOf 10 rfl)
set_option maxRecDepth 20000 in
theorem l_X12_bitsOf_4 {X : FX} {g : WC} {Xo : Nat → va_E} {n : Nat} {kd : Nat → Nat} (C : Cx X g RX12 cX12_bitsOf 3) (K : KD n kd) {M : Mem} (hR : x_R X = rm 0) {OK : Int32 → Prop} (hx : ∀ s, OK s → EW X g (x_s X).heap.size n 3 (ent g Xo kd M) 0 0 20 [(1, .int s)] []) : ∀ (N9 : Nat) (x1 : Int32) (x2 : Int32) (q : Int32), L_X12_bitsOf_4 M N9 x1 x2 = some q → OK q → EW X g (x_s X).heap.size n 3 (ent g Xo kd M) 0 0 4 [(1, .int x1), (2, .int x2)] [] := by
  intro N9
  induction N9 with
  | zero =>
    intro x1 x2 q h
    rw [L_X12_bitsOf_4.eq_1] at h
    cases h
  | succ m9 ih =>
    intro x1 x2 q h hOK
    rw [L_X12_bitsOf_4.eq_2] at h
    refine e_iload_n C 1 (dk dX12_bitsOf 4 rfl) rfl rfl ?_
    refine e_if_eq C 20 (dk dX12_bitsOf 5 rfl) (by decide) (fun c1 => ?_) (fun c1 => ?_)
    · rw [if_pos c1] at h
      obtain rfl := Option.some.inj h
      refine e_lv [0] rfl ?_
      exact hx _ hOK
    · rw [if_neg c1] at h
      refine e_iinc C [(1, .int (x1 + 1)), (2, .int x2)] 0 1 (dk dX12_bitsOf 6 rfl) rfl (by decide) (by decide) rfl ?_
      refine e_iload_n C 1 (dk dX12_bitsOf 7 rfl) rfl rfl ?_
      refine e_iload_n C 1 (dk dX12_bitsOf 8 rfl) rfl rfl ?_
      refine e_iconst C 1 (dk dX12_bitsOf 9 rfl) (by decide) ?_
      refine e_isub C (dk dX12_bitsOf 10 rfl) ?_
      refine e_iand C (dk dX12_bitsOf 11 rfl) ?_
      refine e_istore_n C [(2, .int (x2 &&& (x2 - 1))), (1, .int (x1 + 1))] (dk dX12_bitsOf 12 rfl) rfl (by decide) rfl ?_
      refine e_goto C 4 (dk dX12_bitsOf 13 rfl) (by decide) ?_
      refine e_lv [1, 0] rfl ?_
      exact ih _ _ _ h hOK
set_option maxRecDepth 20000 in
theorem lb_X12_bitsOf_4 {X : FX} {g : WC} {Xo : Nat → va_E} {n : Nat} {kd : Nat → Nat} (C : Cx X g RX12 cX12_bitsOf 3) (K : KD n kd) {M : Mem} (hR : x_R X = rm 0) {T9 : Type} {f9 : Int32 → Option T9} {b9 : T9} (hx : ∀ s, f9 s = some b9 → EW X g (x_s X).heap.size n 3 (ent g Xo kd M) 0 0 20 [(1, .int s)] []) {x1 : Int32} {x2 : Int32} (h : (L_X12_bitsOf_4 M FU x1 x2).bind f9 = some b9) : EW X g (x_s X).heap.size n 3 (ent g Xo kd M) 0 0 4 [(1, .int x1), (2, .int x2)] [] := by
  obtain ⟨q, hq, h⟩ := ob h
  exact l_X12_bitsOf_4 C K hR (OK := fun q => f9 q = some b9) hx FU x1 x2 q hq h
set_option maxRecDepth 20000 in
theorem c_X12_bitsOf {g : WC} {Xo : Nat → va_E} {n : Nat} {kd : Nat → Nat} (K : KD n kd) {p0 : Int32} {M : Mem} {res : Int32} (h : F_X12_bitsOf p0 M = some res) : MC g yX12_bitsOf cX12_bitsOf 3 (some .int) 0 n [.int p0] (ent g Xo kd M) (some (.int res)) (ent g Xo kd M) := by
  refine MC_of pn_X12 (Nat.le_of_ble_eq_true rfl) (fun X C B => ?_)
  have hR := B.1
  rw [F_X12_bitsOf] at h
  refine e_iconst C 0 (dk dX12_bitsOf 0 rfl) (by decide) ?_
  refine e_istore_n C [(1, .int 0), (0, .int p0)] (dk dX12_bitsOf 1 rfl) rfl (by decide) rfl ?_
  refine e_iload_n C 1 (dk dX12_bitsOf 2 rfl) rfl rfl ?_
  refine e_istore_n C [(2, .int p0), (1, .int 0), (0, .int p0)] (dk dX12_bitsOf 3 rfl) rfl (by decide) rfl ?_
  refine e_lv [1, 0] rfl ?_
  refine lb_X12_bitsOf_4 C K hR (fun s3 h => ?_) h
  refine e_iload_n C 0 (dk dX12_bitsOf 14 rfl) rfl rfl ?_
  obtain rfl := Option.some.inj h
  exact e_iret C B (nar1 _) (dk dX12_bitsOf 15 rfl)
set_option maxRecDepth 20000 in
theorem c_X12_isStreet {g : WC} {Xo : Nat → va_E} {n : Nat} {kd : Nat → Nat} (K : KD n kd) {t : Nat} {p0 : Int32} (ht : kd t = 13) {M : Mem} {res : Bool} (h : F_X12_isStreet t p0 M = res) : MC g yX12_isStreet cX12_isStreet 2 (some .boolean) 1 n [.ref (g_N g + t), .int p0] (ent g Xo kd M) (some (.int (bi res))) (ent g Xo kd M) := by
  refine MC_of pn_X12 (Nat.le_of_ble_eq_true rfl) (fun X C B => ?_)
  have hR := B.1
  rw [F_X12_isStreet] at h
  refine e_iload_n C 1 (dk dX12_isStreet 0 rfl) rfl rfl ?_
  refine e_i2l C (dk dX12_isStreet 1 rfl) ?_
  refine e_lconst C 0 (dk dX12_isStreet 2 rfl) (by decide) ?_
  refine e_aload_n C 0 (dk dX12_isStreet 3 rfl) rfl rfl ?_
  refine gf_X12_told C K ht fl_X12_38 (dk dX12_isStreet 4 rfl) ?_
  refine e_iconst C 0 (dk dX12_isStreet 5 rfl) (by decide) ?_
  refine m_aldc C K (kd_X12_told K ht) 0 (dk dX12_isStreet 6 rfl) (by decide) (by decide) ?_
  refine e_iconst C 1 (dk dX12_isStreet 7 rfl) (by decide) ?_
  refine e_isub C (dk dX12_isStreet 8 rfl) ?_
  refine e_i2l C (dk dX12_isStreet 9 rfl) ?_
  refine e_callS C cal_X12_isIn sm_X12_isIn ml_X12_159 hR (by decide) (dk dX12_isStreet 10 rfl) (c_X12_isIn K (rfl : F_X12_isIn p0.toInt64 0 (((M (t + 3) 0) - 1).toInt64) = _)) ⟨Nat.zero_le _, Nat.zero_le _⟩ (Nat.le_of_ble_eq_true rfl) rfl ?_
  subst h
  exact e_iret (v := bi (F_X12_isIn p0.toInt64 0 (((M (t + 3) 0) - 1).toInt64))) C B (nar_bi _) (dk dX12_isStreet 11 rfl)
set_option maxRecDepth 20000 in
theorem c_X12_isPerson {g : WC} {Xo : Nat → va_E} {n : Nat} {kd : Nat → Nat} (K : KD n kd) {t : Nat} {p0 : Int32} (ht : kd t = 13) {M : Mem} {res : Bool} (h : F_X12_isPerson t p0 M = res) : MC g yX12_isPerson cX12_isPerson 2 (some .boolean) 1 n [.ref (g_N g + t), .int p0] (ent g Xo kd M) (some (.int (bi res))) (ent g Xo kd M) := by
  refine MC_of pn_X12 (Nat.le_of_ble_eq_true rfl) (fun X C B => ?_)
  have hR := B.1
  rw [F_X12_isPerson] at h
  refine e_iload_n C 1 (dk dX12_isPerson 0 rfl) rfl rfl ?_
  refine e_i2l C (dk dX12_isPerson 1 rfl) ?_
  refine e_lconst C 0 (dk dX12_isPerson 2 rfl) (by decide) ?_
  refine e_aload_n C 0 (dk dX12_isPerson 3 rfl) rfl rfl ?_
  refine gf_X12_told C K ht fl_X12_38 (dk dX12_isPerson 4 rfl) ?_
  refine e_iconst C 3 (dk dX12_isPerson 5 rfl) (by decide) ?_
  refine m_aldc C K (kd_X12_told K ht) 3 (dk dX12_isPerson 6 rfl) (by decide) (by decide) ?_
  refine e_iconst C 1 (dk dX12_isPerson 7 rfl) (by decide) ?_
  refine e_isub C (dk dX12_isPerson 8 rfl) ?_
  refine e_i2l C (dk dX12_isPerson 9 rfl) ?_
  refine e_callS C cal_X12_isIn sm_X12_isIn ml_X12_159 hR (by decide) (dk dX12_isPerson 10 rfl) (c_X12_isIn K (rfl : F_X12_isIn p0.toInt64 0 (((M (t + 3) 3) - 1).toInt64) = _)) ⟨Nat.zero_le _, Nat.zero_le _⟩ (Nat.le_of_ble_eq_true rfl) rfl ?_
  subst h
  exact e_iret (v := bi (F_X12_isIn p0.toInt64 0 (((M (t + 3) 3) - 1).toInt64))) C B (nar_bi _) (dk dX12_isPerson 11 rfl)
set_option maxRecDepth 20000 in
theorem j_X12_feed_j76 {X : FX} {g : WC} {Xo : Nat → va_E} {n : Nat} {kd : Nat → Nat} (C : Cx X g RX12 cX12_feed 8) (K : KD n kd) {t : Nat} (ht : kd t = 13) {x1 : Int32} {x2 : Int32} {x3 : Int32} {x4 : Int32} {x5 : Int32} (hR : x_R X = rm 0) {OK : Mem → Prop} (hx : ∀ s, OK s → EW X g (x_s X).heap.size n 8 (ent g Xo kd s) 0 0 120 [(0, .ref (g_N g + t))] []) {rec : Int32 → Mem → Option (Mem)} (hrec : ∀ (x6 : Int32) (M : Mem) (q : Mem), rec x6 M = some q → OK q → EW X g (x_s X).heap.size n 8 (ent g Xo kd M) 0 0 23 [(0, .ref (g_N g + t)), (1, .int x1), (2, .int x2), (3, .int x3), (4, .int x4), (5, .int x5), (6, .int x6)] []) {x6 : Int32} {y0 : Int32} {M : Mem} (q : Mem) (h : J_X12_feed_j76 t rec x1 x2 x3 x4 x5 x6 y0 M = some q) (hOK : OK q) : EW X g (x_s X).heap.size n 8 (ent g Xo kd M) 0 0 76 [(0, .ref (g_N g + t)), (1, .int x1), (2, .int x2), (3, .int x3), (4, .int x4), (5, .int x5), (6, .int x6)] [.int y0] := by
  rw [J_X12_feed_j76] at h
  refine e_istore C [(7, .int y0), (0, .ref (g_N g + t)), (1, .int x1), (2, .int x2), (3, .int x3), (4, .int x4), (5, .int x5), (6, .int x6)] (dk dX12_feed_0 37 rfl) (by decide) rfl ?_
  refine e_aload_n C 1 (dk dX12_feed_0 38 rfl) rfl rfl ?_
  refine gf_X12_tape C K ht fl_X12_68 (dk dX12_feed_0 39 rfl) ?_
  refine e_aload_n C 1 (dk dX12_feed_0 40 rfl) rfl rfl ?_
  refine gf_X12_taped C K ht fl_X12_163 (dk dX12_feed_0 41 rfl) ?_
  refine e_iload C 0 (dk dX12_feed_0 42 rfl) rfl ?_
  refine e_bipush C 24 (dk dX12_feed_0 43 rfl) (by decide) ?_
  refine e_bipush C 8 (dk dX12_feed_0 44 rfl) (by decide) ?_
  refine e_iload C 7 (dk dX12_feed_0 45 rfl) rfl ?_
  refine e_iconst C 4 (dk dX12_feed_0 46 rfl) (by decide) ?_
  refine e_irem C (dk dX12_feed_0 47 rfl) (by decide) ?_
  refine e_imul C (dk dX12_feed_0 48 rfl) ?_
  refine e_isub C (dk dX12_feed_0 49 rfl) ?_
  refine e_ishr C (dk dX12_feed_0 50 rfl) ?_
  refine e_sipush C 255 (dk dX12_feed_0 51 rfl) (by decide) ?_
  refine e_iand C (dk dX12_feed_0 52 rfl) ?_
  obtain ⟨M7, hM7, h⟩ := ob h
  refine m_ast C K (kd_X12_tape K ht) (dk dX12_feed_0 53 rfl) hM7 ?_
  refine e_aload_n C 1 (dk dX12_feed_0 54 rfl) rfl rfl ?_
  refine e_dup C (dk dX12_feed_0 55 rfl) rfl ?_
  refine gf_X12_taped C K ht fl_X12_163 (dk dX12_feed_0 56 rfl) ?_
  refine e_iconst C 1 (dk dX12_feed_0 57 rfl) (by decide) ?_
  refine e_iadd C (dk dX12_feed_0 58 rfl) ?_
  refine pf_X12_taped C K ht fl_X12_163 (dk dX12_feed_0 59 rfl) ?_
  refine e_iinc C [(6, .int (x6 + 1)), (7, .int y0), (0, .ref (g_N g + t)), (1, .int x1), (2, .int x2), (3, .int x3), (4, .int x4), (5, .int x5)] 7 1 (dk dX12_feed_1 0 rfl) rfl (by decide) (by decide) rfl ?_
  refine e_goto C 23 (dk dX12_feed_1 1 rfl) (by decide) ?_
  refine e_lv [2, 3, 4, 5, 6, 7, 0] rfl ?_
  exact hrec _ _ _ h hOK
set_option maxRecDepth 20000 in
theorem l_X12_feed_23 {X : FX} {g : WC} {Xo : Nat → va_E} {n : Nat} {kd : Nat → Nat} (C : Cx X g RX12 cX12_feed 8) (K : KD n kd) {t : Nat} (ht : kd t = 13) {x1 : Int32} {x2 : Int32} {x3 : Int32} {x4 : Int32} {x5 : Int32} (hR : x_R X = rm 0) {OK : Mem → Prop} (hx : ∀ s, OK s → EW X g (x_s X).heap.size n 8 (ent g Xo kd s) 0 0 120 [(0, .ref (g_N g + t))] []) : ∀ (N9 : Nat) (x6 : Int32) (M : Mem) (q : Mem), L_X12_feed_23 t x1 x2 x3 x4 x5 N9 x6 M = some q → OK q → EW X g (x_s X).heap.size n 8 (ent g Xo kd M) 0 0 23 [(0, .ref (g_N g + t)), (1, .int x1), (2, .int x2), (3, .int x3), (4, .int x4), (5, .int x5), (6, .int x6)] [] := by
  intro N9
  induction N9 with
  | zero =>
    intro x6 M q h
    rw [L_X12_feed_23.eq_1] at h
    cases h
  | succ m9 ih =>
    intro x6 M q h hOK
    rw [L_X12_feed_23.eq_2] at h
    refine e_iload C 6 (dk dX12_feed_0 13 rfl) rfl ?_
    refine e_bipush C 20 (dk dX12_feed_0 14 rfl) (by decide) ?_
    refine e_icmp_ge C 120 (dk dX12_feed_0 15 rfl) (by decide) (fun c2 => ?_) (fun c2 => ?_)
    · rw [if_pos c2] at h
      obtain rfl := Option.some.inj h
      refine e_lv [0] rfl ?_
      exact hx _ hOK
    · rw [if_neg c2] at h
      refine e_iload C 6 (dk dX12_feed_0 16 rfl) rfl ?_
      refine e_iconst C 4 (dk dX12_feed_0 17 rfl) (by decide) ?_
      refine e_icmp_ge C 40 (dk dX12_feed_0 18 rfl) (by decide) (fun c3 => ?_) (fun c3 => ?_)
      · rw [if_pos c3] at h
        refine e_iload C 6 (dk dX12_feed_0 21 rfl) rfl ?_
        refine e_bipush C 8 (dk dX12_feed_0 22 rfl) (by decide) ?_
        refine e_icmp_ge C 51 (dk dX12_feed_0 23 rfl) (by decide) (fun c4 => ?_) (fun c4 => ?_)
        · rw [if_pos c4] at h
          refine e_iload C 6 (dk dX12_feed_0 26 rfl) rfl ?_
          refine e_bipush C 12 (dk dX12_feed_0 27 rfl) (by decide) ?_
          refine e_icmp_ge C 62 (dk dX12_feed_0 28 rfl) (by decide) (fun c5 => ?_) (fun c5 => ?_)
          · rw [if_pos c5] at h
            refine e_iload C 6 (dk dX12_feed_0 31 rfl) rfl ?_
            refine e_bipush C 16 (dk dX12_feed_0 32 rfl) (by decide) ?_
            refine e_icmp_ge C 74 (dk dX12_feed_0 33 rfl) (by decide) (fun c6 => ?_) (fun c6 => ?_)
            · rw [if_pos c6] at h
              refine e_iload C 5 (dk dX12_feed_0 36 rfl) rfl ?_
              exact j_X12_feed_j76 C K ht hR hx ih _ h hOK
            · rw [if_neg c6] at h
              refine e_iload C 4 (dk dX12_feed_0 34 rfl) rfl ?_
              refine e_goto C 76 (dk dX12_feed_0 35 rfl) (by decide) ?_
              exact j_X12_feed_j76 C K ht hR hx ih _ h hOK
          · rw [if_neg c5] at h
            refine e_iload_n C 3 (dk dX12_feed_0 29 rfl) rfl rfl ?_
            refine e_goto C 76 (dk dX12_feed_0 30 rfl) (by decide) ?_
            exact j_X12_feed_j76 C K ht hR hx ih _ h hOK
        · rw [if_neg c4] at h
          refine e_iload_n C 2 (dk dX12_feed_0 24 rfl) rfl rfl ?_
          refine e_goto C 76 (dk dX12_feed_0 25 rfl) (by decide) ?_
          exact j_X12_feed_j76 C K ht hR hx ih _ h hOK
      · rw [if_neg c3] at h
        refine e_iload_n C 1 (dk dX12_feed_0 19 rfl) rfl rfl ?_
        refine e_goto C 76 (dk dX12_feed_0 20 rfl) (by decide) ?_
        exact j_X12_feed_j76 C K ht hR hx ih _ h hOK
set_option maxRecDepth 20000 in
theorem lb_X12_feed_23 {X : FX} {g : WC} {Xo : Nat → va_E} {n : Nat} {kd : Nat → Nat} (C : Cx X g RX12 cX12_feed 8) (K : KD n kd) {t : Nat} (ht : kd t = 13) {x1 : Int32} {x2 : Int32} {x3 : Int32} {x4 : Int32} {x5 : Int32} (hR : x_R X = rm 0) {T9 : Type} {f9 : Mem → Option T9} {b9 : T9} (hx : ∀ s, f9 s = some b9 → EW X g (x_s X).heap.size n 8 (ent g Xo kd s) 0 0 120 [(0, .ref (g_N g + t))] []) {x6 : Int32} {M : Mem} (h : (L_X12_feed_23 t x1 x2 x3 x4 x5 FU x6 M).bind f9 = some b9) : EW X g (x_s X).heap.size n 8 (ent g Xo kd M) 0 0 23 [(0, .ref (g_N g + t)), (1, .int x1), (2, .int x2), (3, .int x3), (4, .int x4), (5, .int x5), (6, .int x6)] [] := by
  obtain ⟨q, hq, h⟩ := ob h
  exact l_X12_feed_23 C K ht hR (OK := fun q => f9 q = some b9) hx FU x6 M q hq h
set_option maxRecDepth 20000 in
theorem c_X12_feed {g : WC} {Xo : Nat → va_E} {n : Nat} {kd : Nat → Nat} (K : KD n kd) {t : Nat} {p0 : Int32} {p1 : Int32} {p2 : Int32} {p3 : Int32} {p4 : Int32} (ht : kd t = 13) {M : Mem} {res : Int32 × Mem} (h : F_X12_feed t p0 p1 p2 p3 p4 M = some res) : MC g yX12_feed cX12_feed 8 (some .int) 0 n [.ref (g_N g + t), .int p0, .int p1, .int p2, .int p3, .int p4] (ent g Xo kd M) (some (.int res.1)) (ent g Xo kd res.2) := by
  refine MC_of pn_X12 (Nat.le_of_ble_eq_true rfl) (fun X C B => ?_)
  have hR := B.1
  rw [F_X12_feed] at h
  refine e_aload_n C 0 (dk dX12_feed_0 0 rfl) rfl rfl ?_
  refine e_iconst C 0 (dk dX12_feed_0 1 rfl) (by decide) ?_
  refine pf_X12_code C K ht fl_X12_156 (dk dX12_feed_0 2 rfl) ?_
  refine e_aload_n C 0 (dk dX12_feed_0 3 rfl) rfl rfl ?_
  refine gf_X12_taped C K ht fl_X12_163 (dk dX12_feed_0 4 rfl) ?_
  refine e_bipush C 20 (dk dX12_feed_0 5 rfl) (by decide) ?_
  refine e_iadd C (dk dX12_feed_0 6 rfl) ?_
  refine e_sipush C 700 (dk dX12_feed_0 7 rfl) (by decide) ?_
  refine e_icmp_le C 20 (dk dX12_feed_0 8 rfl) (by decide) (fun c1 => ?_) (fun c1 => ?_)
  · rw [if_pos c1] at h
    refine e_iconst C 0 (dk dX12_feed_0 11 rfl) (by decide) ?_
    refine e_istore C [(6, .int 0), (0, .ref (g_N g + t)), (1, .int p0), (2, .int p1), (3, .int p2), (4, .int p3), (5, .int p4)] (dk dX12_feed_0 12 rfl) (by decide) rfl ?_
    refine e_lv [1, 2, 3, 4, 5, 6, 0] rfl ?_
    refine lb_X12_feed_23 C K ht hR (fun s9 h => ?_) h
    refine e_aload_n C 0 (dk dX12_feed_1 2 rfl) rfl rfl ?_
    refine gf_X12_taped C K ht fl_X12_163 (dk dX12_feed_1 3 rfl) ?_
    obtain rfl := Option.some.inj h
    exact e_iret C B (nar1 _) (dk dX12_feed_1 4 rfl)
  · rw [if_neg c1] at h
    refine e_iconst C (-1) (dk dX12_feed_0 9 rfl) (by decide) ?_
    obtain rfl := Option.some.inj h
    exact e_iret C B (nar1 _) (dk dX12_feed_0 10 rfl)
set_option maxRecDepth 20000 in
theorem c_X12_byteAt {g : WC} {Xo : Nat → va_E} {n : Nat} {kd : Nat → Nat} (K : KD n kd) {t : Nat} {p0 : Int32} (ht : kd t = 13) {M : Mem} {res : Int32} (h : F_X12_byteAt t p0 M = some res) : MC g yX12_byteAt cX12_byteAt 2 (some .int) 0 n [.ref (g_N g + t), .int p0] (ent g Xo kd M) (some (.int res)) (ent g Xo kd M) := by
  refine MC_of pn_X12 (Nat.le_of_ble_eq_true rfl) (fun X C B => ?_)
  have hR := B.1
  rw [F_X12_byteAt] at h
  refine e_iload_n C 1 (dk dX12_byteAt 0 rfl) rfl rfl ?_
  refine e_aload_n C 0 (dk dX12_byteAt 1 rfl) rfl rfl ?_
  refine gf_X12_size C K ht fl_X12_166 (dk dX12_byteAt 2 rfl) ?_
  refine e_icmp_ge C 17 (dk dX12_byteAt 3 rfl) (by decide) (fun c1 => ?_) (fun c1 => ?_)
  · rw [if_pos c1] at h
    refine e_iconst C (-1) (dk dX12_byteAt 9 rfl) (by decide) ?_
    obtain rfl := Option.some.inj h
    exact e_iret C B (nar1 _) (dk dX12_byteAt 10 rfl)
  · rw [if_neg c1] at h
    refine e_aload_n C 0 (dk dX12_byteAt 4 rfl) rfl rfl ?_
    refine gf_X12_tape C K ht fl_X12_68 (dk dX12_byteAt 5 rfl) ?_
    refine e_iload_n C 1 (dk dX12_byteAt 6 rfl) rfl rfl ?_
    obtain ⟨v2, hv2, h⟩ := ob h
    refine m_ald C K (kd_X12_tape K ht) (dk dX12_byteAt 7 rfl) hv2 ?_
    refine e_goto C 18 (dk dX12_byteAt 8 rfl) (by decide) ?_
    obtain rfl := Option.some.inj h
    exact e_iret C B (nar1 _) (dk dX12_byteAt 10 rfl)
set_option maxRecDepth 20000 in
theorem c_X12_isLetter {g : WC} {Xo : Nat → va_E} {n : Nat} {kd : Nat → Nat} (K : KD n kd) {p0 : Int32} {M : Mem} {res : Bool} (h : F_X12_isLetter p0 = res) : MC g yX12_isLetter cX12_isLetter 1 (some .boolean) 0 n [.int p0] (ent g Xo kd M) (some (.int (bi res))) (ent g Xo kd M) := by
  refine MC_of pn_X12 (Nat.le_of_ble_eq_true rfl) (fun X C B => ?_)
  have hR := B.1
  rw [F_X12_isLetter] at h
  refine e_iload_n C 0 (dk dX12_isLetter 0 rfl) rfl rfl ?_
  refine e_bipush C 97 (dk dX12_isLetter 1 rfl) (by decide) ?_
  refine e_icmp_lt C 16 (dk dX12_isLetter 2 rfl) (by decide) (fun c1 => ?_) (fun c1 => ?_)
  · rw [if_pos c1] at h
    refine e_iconst C 0 (dk dX12_isLetter 8 rfl) (by decide) ?_
    subst h
    exact e_iret (v := bi false) C B (nar_bi _) (dk dX12_isLetter 9 rfl)
  · rw [if_neg c1] at h
    refine e_iload_n C 0 (dk dX12_isLetter 3 rfl) rfl rfl ?_
    refine e_bipush C 122 (dk dX12_isLetter 4 rfl) (by decide) ?_
    refine e_icmp_gt C 16 (dk dX12_isLetter 5 rfl) (by decide) (fun c2 => ?_) (fun c2 => ?_)
    · rw [if_pos c2] at h
      refine e_iconst C 0 (dk dX12_isLetter 8 rfl) (by decide) ?_
      subst h
      exact e_iret (v := bi false) C B (nar_bi _) (dk dX12_isLetter 9 rfl)
    · rw [if_neg c2] at h
      refine e_iconst C 1 (dk dX12_isLetter 6 rfl) (by decide) ?_
      refine e_goto C 17 (dk dX12_isLetter 7 rfl) (by decide) ?_
      subst h
      exact e_iret (v := bi true) C B (nar_bi _) (dk dX12_isLetter 9 rfl)
set_option maxRecDepth 20000 in
theorem c_X12_isDigit {g : WC} {Xo : Nat → va_E} {n : Nat} {kd : Nat → Nat} (K : KD n kd) {p0 : Int32} {M : Mem} {res : Bool} (h : F_X12_isDigit p0 = res) : MC g yX12_isDigit cX12_isDigit 1 (some .boolean) 0 n [.int p0] (ent g Xo kd M) (some (.int (bi res))) (ent g Xo kd M) := by
  refine MC_of pn_X12 (Nat.le_of_ble_eq_true rfl) (fun X C B => ?_)
  have hR := B.1
  rw [F_X12_isDigit] at h
  refine e_iload_n C 0 (dk dX12_isDigit 0 rfl) rfl rfl ?_
  refine e_bipush C 48 (dk dX12_isDigit 1 rfl) (by decide) ?_
  refine e_icmp_lt C 16 (dk dX12_isDigit 2 rfl) (by decide) (fun c1 => ?_) (fun c1 => ?_)
  · rw [if_pos c1] at h
    refine e_iconst C 0 (dk dX12_isDigit 8 rfl) (by decide) ?_
    subst h
    exact e_iret (v := bi false) C B (nar_bi _) (dk dX12_isDigit 9 rfl)
  · rw [if_neg c1] at h
    refine e_iload_n C 0 (dk dX12_isDigit 3 rfl) rfl rfl ?_
    refine e_bipush C 57 (dk dX12_isDigit 4 rfl) (by decide) ?_
    refine e_icmp_gt C 16 (dk dX12_isDigit 5 rfl) (by decide) (fun c2 => ?_) (fun c2 => ?_)
    · rw [if_pos c2] at h
      refine e_iconst C 0 (dk dX12_isDigit 8 rfl) (by decide) ?_
      subst h
      exact e_iret (v := bi false) C B (nar_bi _) (dk dX12_isDigit 9 rfl)
    · rw [if_neg c2] at h
      refine e_iconst C 1 (dk dX12_isDigit 6 rfl) (by decide) ?_
      refine e_goto C 17 (dk dX12_isDigit 7 rfl) (by decide) ?_
      subst h
      exact e_iret (v := bi true) C B (nar_bi _) (dk dX12_isDigit 9 rfl)
