set_option maxRecDepth 20000 in
theorem c_X11_restore {g : WC} {Xo : Nat → va_E} {n : Nat} {kd : Nat → Nat} (K : KD n kd) {t : Nat} (ht : kd t = 12) {M : Mem} {res : Bool × Mem} (h : F_X11_restore t M = some res) : MC g yX11_restore cX11_restore 1 (some .boolean) 3 n [.ref (g_N g + t)] (ent g Xo kd M) (some (.int (bi res.1))) (ent g Xo kd res.2) := by
  refine MC_of pn_X11 (Nat.le_of_ble_eq_true rfl) (fun X C B => ?_)
  have hR := B.1
  rw [F_X11_restore] at h
  refine e_aload_n C 0 (dk dX11_restore 0 rfl) rfl rfl ?_
  refine gf_X11_isKept C K ht fl_X11_37 (dk dX11_restore 1 rfl) ?_
  refine e_if_eq C 18 (dk dX11_restore 2 rfl) (by decide) (fun c1 => ?_) (fun c1 => ?_)
  · rw [if_pos c1] at h
    refine e_aload_n C 0 (dk dX11_restore 8 rfl) rfl rfl ?_
    refine gf_X11_isKept C K ht fl_X11_37 (dk dX11_restore 9 rfl) ?_
    obtain ⟨b2, hb2, h⟩ := ob h
    rw [bgd_some hb2]
    obtain rfl := Option.some.inj h
    exact e_iret (v := bi b2) C B (nar_bi _) (dk dX11_restore 10 rfl)
  · rw [if_neg c1] at h
    refine e_aload_n C 0 (dk dX11_restore 3 rfl) rfl rfl ?_
    refine gf_X11_book C K ht fl_X11_30 (dk dX11_restore 4 rfl) ?_
    refine e_aload_n C 0 (dk dX11_restore 5 rfl) rfl rfl ?_
    refine gf_X11_kept C K ht fl_X11_34 (dk dX11_restore 6 rfl) ?_
    obtain ⟨q3, hq3, h⟩ := ob h
    refine e_callV (ci := 0) C cal_X0_copy im_X0_copy se_X0_copy ml_X11_355 rfl hR (by decide) (dk dX11_restore 7 rfl) (K.1 _ (by rw [(kd_X11_book K ht)]; decide)) (ent_o0 (kd_X11_book K ht)) (c_X0_copy K (kd_X11_book K ht) (kd_X11_kept K ht) hq3) ⟨Nat.zero_le _, Nat.zero_le _⟩ (Nat.le_of_ble_eq_true rfl) rfl ?_
    refine e_aload_n C 0 (dk dX11_restore 8 rfl) rfl rfl ?_
    refine gf_X11_isKept C K ht fl_X11_37 (dk dX11_restore 9 rfl) ?_
    obtain ⟨b4, hb4, h⟩ := ob h
    rw [bgd_some hb4]
    obtain rfl := Option.some.inj h
    exact e_iret (v := bi b4) C B (nar_bi _) (dk dX11_restore 10 rfl)
set_option maxRecDepth 20000 in
theorem l_X11_goAhead_16 {X : FX} {g : WC} {Xo : Nat → va_E} {n : Nat} {kd : Nat → Nat} (C : Cx X g RX11 cX11_goAhead 3) (K : KD n kd) {t : Nat} (ht : kd t = 12) {x1 : Int32} (hR : x_R X = rm 6) {OK : Mem → Prop} (hx : ∀ s, OK s → EW X g (x_s X).heap.size n 3 (ent g Xo kd s) 0 0 56 [] []) : ∀ (N9 : Nat) (x2 : Int32) (M : Mem) (q : Mem), L_X11_goAhead_16 t x1 N9 x2 M = some q → OK q → EW X g (x_s X).heap.size n 3 (ent g Xo kd M) 0 0 16 [(0, .ref (g_N g + t)), (1, .int x1), (2, .int x2)] [] := by
  intro N9
  induction N9 with
  | zero =>
    intro x2 M q h
    rw [L_X11_goAhead_16.eq_1] at h
    cases h
  | succ m9 ih =>
    intro x2 M q h hOK
    rw [L_X11_goAhead_16.eq_2] at h
    refine e_iload_n C 2 (dk dX11_goAhead 8 rfl) rfl rfl ?_
    refine e_iload_n C 1 (dk dX11_goAhead 9 rfl) rfl rfl ?_
    refine e_icmp_ge C 56 (dk dX11_goAhead 10 rfl) (by decide) (fun c2 => ?_) (fun c2 => ?_)
    · rw [if_pos c2] at h
      obtain rfl := Option.some.inj h
      refine e_lv [] rfl ?_
      exact hx _ hOK
    · rw [if_neg c2] at h
      refine e_aload_n C 0 (dk dX11_goAhead 11 rfl) rfl rfl ?_
      refine gf_X11_sale C K ht fl_X11_51 (dk dX11_goAhead 12 rfl) ?_
      refine e_aload_n C 0 (dk dX11_goAhead 13 rfl) rfl rfl ?_
      obtain ⟨w3, hw3, h⟩ := ob h
      have gw3 := grd_some K hw3
      refine gf_X11_plan C K ht fl_X11_19 (dk dX11_goAhead 14 rfl) ?_
      rw [gw3.1]
      refine e_aload_n C 0 (dk dX11_goAhead 15 rfl) rfl rfl ?_
      refine gf_X11_later C K ht fl_X11_44 (dk dX11_goAhead 16 rfl) ?_
      refine e_aload_n C 0 (dk dX11_goAhead 17 rfl) rfl rfl ?_
      obtain ⟨w4, hw4, h⟩ := ob h
      have gw4 := grd_some K hw4
      refine gf_X11_plan C K ht fl_X11_19 (dk dX11_goAhead 18 rfl) ?_
      rw [gw4.1]
      refine e_aload_n C 0 (dk dX11_goAhead 19 rfl) rfl rfl ?_
      refine gf_X11_later C K ht fl_X11_44 (dk dX11_goAhead 20 rfl) ?_
      refine gf_X8_night C K (kd_X11_later K ht) fl_X11_134 (dk dX11_goAhead 21 rfl) ?_
      obtain ⟨q5, hq5, h⟩ := ob h
      refine e_callV (ci := 9) C cal_X9_fogOf im_X9_fogOf se_X9_fogOf ml_X11_137 rfl hR (by decide) (dk dX11_goAhead 22 rfl) (K.1 _ (by rw [gw4.2]; decide)) (ent_o9 gw4.2) (c_X9_fogOf K gw4.2 hq5) ⟨Nat.zero_le _, Nat.zero_le _⟩ (Nat.le_of_ble_eq_true rfl) rfl ?_
      obtain ⟨q6, hq6, h⟩ := ob h
      refine e_callV (ci := 6) C cal_X6_pass im_X6_pass se_X6_pass ml_X11_214 rfl hR (by decide) (dk dX11_goAhead 23 rfl) (K.1 _ (by rw [(kd_X11_sale K ht)]; decide)) (ent_o6 (kd_X11_sale K ht)) (c_X6_pass K (kd_X11_sale K ht) gw3.2 (kd_X11_later K ht) hq6) ⟨Nat.zero_le _, Nat.zero_le _⟩ (Nat.le_of_ble_eq_true rfl) rfl ?_
      refine e_iinc C [(2, .int (x2 + 1)), (0, .ref (g_N g + t)), (1, .int x1)] 2 1 (dk dX11_goAhead 24 rfl) rfl (by decide) (by decide) rfl ?_
      refine e_goto C 16 (dk dX11_goAhead 25 rfl) (by decide) ?_
      refine e_lv [1, 2, 0] rfl ?_
      exact ih _ _ _ h hOK
set_option maxRecDepth 20000 in
theorem lb_X11_goAhead_16 {X : FX} {g : WC} {Xo : Nat → va_E} {n : Nat} {kd : Nat → Nat} (C : Cx X g RX11 cX11_goAhead 3) (K : KD n kd) {t : Nat} (ht : kd t = 12) {x1 : Int32} (hR : x_R X = rm 6) {T9 : Type} {f9 : Mem → Option T9} {b9 : T9} (hx : ∀ s, f9 s = some b9 → EW X g (x_s X).heap.size n 3 (ent g Xo kd s) 0 0 56 [] []) {x2 : Int32} {M : Mem} (h : (L_X11_goAhead_16 t x1 FU x2 M).bind f9 = some b9) : EW X g (x_s X).heap.size n 3 (ent g Xo kd M) 0 0 16 [(0, .ref (g_N g + t)), (1, .int x1), (2, .int x2)] [] := by
  obtain ⟨q, hq, h⟩ := ob h
  exact l_X11_goAhead_16 C K ht hR (OK := fun q => f9 q = some b9) hx FU x2 M q hq h
set_option maxRecDepth 20000 in
theorem c_X11_goAhead {g : WC} {Xo : Nat → va_E} {n : Nat} {kd : Nat → Nat} (K : KD n kd) {t : Nat} {p0 : Int32} (ht : kd t = 12) {M : Mem} {res : Mem} (h : F_X11_goAhead t p0 M = some res) : MC g yX11_goAhead cX11_goAhead 3 none 6 n [.ref (g_N g + t), .int p0] (ent g Xo kd M) none (ent g Xo kd res) := by
  refine MC_of pn_X11 (Nat.le_of_ble_eq_true rfl) (fun X C B => ?_)
  have hR := B.1
  rw [F_X11_goAhead] at h
  refine e_aload_n C 0 (dk dX11_goAhead 0 rfl) rfl rfl ?_
  refine gf_X11_later C K ht fl_X11_44 (dk dX11_goAhead 1 rfl) ?_
  refine e_aload_n C 0 (dk dX11_goAhead 2 rfl) rfl rfl ?_
  refine gf_X11_book C K ht fl_X11_30 (dk dX11_goAhead 3 rfl) ?_
  refine gf_X0_town C K (kd_X11_book K ht) fl_X11_119 (dk dX11_goAhead 4 rfl) ?_
  obtain ⟨q1, hq1, h⟩ := ob h
  refine e_callV (ci := 8) C cal_X8_copy im_X8_copy se_X8_copy ml_X11_276 rfl hR (by decide) (dk dX11_goAhead 5 rfl) (K.1 _ (by rw [(kd_X11_later K ht)]; decide)) (ent_o8 (kd_X11_later K ht)) (c_X8_copy K (kd_X11_later K ht) (kd_X0_town K (kd_X11_book K ht)) hq1) ⟨Nat.zero_le _, Nat.zero_le _⟩ (Nat.le_of_ble_eq_true rfl) rfl ?_
  refine e_iconst C 0 (dk dX11_goAhead 6 rfl) (by decide) ?_
  refine e_istore_n C [(2, .int 0), (0, .ref (g_N g + t)), (1, .int p0)] (dk dX11_goAhead 7 rfl) rfl (by decide) rfl ?_
  refine e_lv [1, 2, 0] rfl ?_
  refine lb_X11_goAhead_16 C K ht hR (fun s8 h => ?_) h
  obtain rfl := Option.some.inj h
  exact e_vret C B (dk dX11_goAhead 26 rfl)
set_option maxRecDepth 20000 in
theorem l_X11_wouldBuy_58 {X : FX} {g : WC} {Xo : Nat → va_E} {n : Nat} {kd : Nat → Nat} (C : Cx X g RX11 cX11_wouldBuy 5) (K : KD n kd) {t : Nat} (ht : kd t = 12) {x1 : Int32} {x2 : Int32} (hR : x_R X = rm 5) {OK : Mem → Prop} (hx : ∀ s, OK s → EW X g (x_s X).heap.size n 5 (ent g Xo kd s) 0 0 87 [(0, .ref (g_N g + t)), (1, .int x1), (2, .int x2)] []) : ∀ (N9 : Nat) (x4 : Int32) (M : Mem) (q : Mem), L_X11_wouldBuy_58 t x1 x2 N9 x4 M = some q → OK q → EW X g (x_s X).heap.size n 5 (ent g Xo kd M) 0 0 58 [(0, .ref (g_N g + t)), (1, .int x1), (2, .int x2), (4, .int x4)] [] := by
  intro N9
  induction N9 with
  | zero =>
    intro x4 M q h
    rw [L_X11_wouldBuy_58.eq_1] at h
    cases h
  | succ m9 ih =>
    intro x4 M q h hOK
    rw [L_X11_wouldBuy_58.eq_2] at h
    refine e_iload C 3 (dk dX11_wouldBuy 27 rfl) rfl ?_
    refine e_iload_n C 2 (dk dX11_wouldBuy 28 rfl) rfl rfl ?_
    refine e_icmp_gt C 87 (dk dX11_wouldBuy 29 rfl) (by decide) (fun c6 => ?_) (fun c6 => ?_)
    · rw [if_pos c6] at h
      obtain rfl := Option.some.inj h
      refine e_lv [0, 1, 2] rfl ?_
      exact hx _ hOK
    · rw [if_neg c6] at h
      refine e_aload_n C 0 (dk dX11_wouldBuy 30 rfl) rfl rfl ?_
      refine gf_X11_sale C K ht fl_X11_51 (dk dX11_wouldBuy 31 rfl) ?_
      refine e_aload_n C 0 (dk dX11_wouldBuy 32 rfl) rfl rfl ?_
      obtain ⟨w7, hw7, h⟩ := ob h
      have gw7 := grd_some K hw7
      refine gf_X11_plan C K ht fl_X11_19 (dk dX11_wouldBuy 33 rfl) ?_
      rw [gw7.1]
      refine e_aload_n C 0 (dk dX11_wouldBuy 34 rfl) rfl rfl ?_
      refine gf_X11_later C K ht fl_X11_44 (dk dX11_wouldBuy 35 rfl) ?_
      refine e_iload C 3 (dk dX11_wouldBuy 36 rfl) rfl ?_
      obtain ⟨q8, hq8, h⟩ := ob h
      refine e_callV (ci := 6) C cal_X6_sell im_X6_sell se_X6_sell ml_X11_378 rfl hR (by decide) (dk dX11_wouldBuy 37 rfl) (K.1 _ (by rw [(kd_X11_sale K ht)]; decide)) (ent_o6 (kd_X11_sale K ht)) (c_X6_sell K (kd_X11_sale K ht) gw7.2 (kd_X11_later K ht) hq8) ⟨Nat.zero_le _, Nat.zero_le _⟩ (Nat.le_of_ble_eq_true rfl) rfl ?_
      refine e_iinc C [(4, .int (x4 + 1)), (0, .ref (g_N g + t)), (1, .int x1), (2, .int x2)] 3 1 (dk dX11_wouldBuy 38 rfl) rfl (by decide) (by decide) rfl ?_
      refine e_goto C 58 (dk dX11_wouldBuy 39 rfl) (by decide) ?_
      refine e_lv [1, 2, 3, 0] rfl ?_
      exact ih _ _ _ h hOK
set_option maxRecDepth 20000 in
theorem lb_X11_wouldBuy_58 {X : FX} {g : WC} {Xo : Nat → va_E} {n : Nat} {kd : Nat → Nat} (C : Cx X g RX11 cX11_wouldBuy 5) (K : KD n kd) {t : Nat} (ht : kd t = 12) {x1 : Int32} {x2 : Int32} (hR : x_R X = rm 5) {T9 : Type} {f9 : Mem → Option T9} {b9 : T9} (hx : ∀ s, f9 s = some b9 → EW X g (x_s X).heap.size n 5 (ent g Xo kd s) 0 0 87 [(0, .ref (g_N g + t)), (1, .int x1), (2, .int x2)] []) {x4 : Int32} {M : Mem} (h : (L_X11_wouldBuy_58 t x1 x2 FU x4 M).bind f9 = some b9) : EW X g (x_s X).heap.size n 5 (ent g Xo kd M) 0 0 58 [(0, .ref (g_N g + t)), (1, .int x1), (2, .int x2), (4, .int x4)] [] := by
  obtain ⟨q, hq, h⟩ := ob h
  exact l_X11_wouldBuy_58 C K ht hR (OK := fun q => f9 q = some b9) hx FU x4 M q hq h
set_option maxRecDepth 20000 in
theorem c_X11_wouldBuy {g : WC} {Xo : Nat → va_E} {n : Nat} {kd : Nat → Nat} (K : KD n kd) {t : Nat} {p0 : Int32} {p1 : Int32} {p2 : Int32} (ht : kd t = 12) {M : Mem} {res : Bool × Mem} (h : F_X11_wouldBuy t p0 p1 p2 M = some res) : MC g yX11_wouldBuy cX11_wouldBuy 5 (some .boolean) 5 n [.ref (g_N g + t), .int p0, .int p1, .int p2] (ent g Xo kd M) (some (.int (bi res.1))) (ent g Xo kd res.2) := by
  refine MC_of pn_X11 (Nat.le_of_ble_eq_true rfl) (fun X C B => ?_)
  have hR := B.1
  rw [F_X11_wouldBuy] at h
  refine e_aload_n C 0 (dk dX11_wouldBuy 0 rfl) rfl rfl ?_
  refine gf_X11_later C K ht fl_X11_44 (dk dX11_wouldBuy 1 rfl) ?_
  refine e_aload_n C 0 (dk dX11_wouldBuy 2 rfl) rfl rfl ?_
  refine gf_X11_book C K ht fl_X11_30 (dk dX11_wouldBuy 3 rfl) ?_
  refine gf_X0_town C K (kd_X11_book K ht) fl_X11_119 (dk dX11_wouldBuy 4 rfl) ?_
  obtain ⟨q1, hq1, h⟩ := ob h
  refine e_callV (ci := 8) C cal_X8_copy im_X8_copy se_X8_copy ml_X11_276 rfl hR (by decide) (dk dX11_wouldBuy 5 rfl) (K.1 _ (by rw [(kd_X11_later K ht)]; decide)) (ent_o8 (kd_X11_later K ht)) (c_X8_copy K (kd_X11_later K ht) (kd_X0_town K (kd_X11_book K ht)) hq1) ⟨Nat.zero_le _, Nat.zero_le _⟩ (Nat.le_of_ble_eq_true rfl) rfl ?_
  refine e_aload_n C 0 (dk dX11_wouldBuy 6 rfl) rfl rfl ?_
  refine gf_X11_later C K ht fl_X11_44 (dk dX11_wouldBuy 7 rfl) ?_
  refine gf_X8_coins C K (kd_X11_later K ht) fl_X11_185 (dk dX11_wouldBuy 8 rfl) ?_
  refine e_iload_n C 1 (dk dX11_wouldBuy 9 rfl) rfl rfl ?_
  refine e_iload_n C 3 (dk dX11_wouldBuy 10 rfl) rfl rfl ?_
  refine e_callS C cal_X11_put sm_X11_put ml_X11_374 hR (by decide) (dk dX11_wouldBuy 11 rfl) (c_X11_put K (kd_X8_coins K (kd_X11_later K ht)) (rfl : F_X11_put ((t + 48) + 1) 7 p0 p2 q1 = _)) ⟨Nat.zero_le _, Nat.zero_le _⟩ (Nat.le_of_ble_eq_true rfl) rfl ?_
  refine e_aload_n C 0 (dk dX11_wouldBuy 12 rfl) rfl rfl ?_
  refine gf_X11_sale C K ht fl_X11_51 (dk dX11_wouldBuy 13 rfl) ?_
  refine e_aload_n C 0 (dk dX11_wouldBuy 14 rfl) rfl rfl ?_
  obtain ⟨w2, hw2, h⟩ := ob h
  have gw2 := grd_some K hw2
  refine gf_X11_plan C K ht fl_X11_19 (dk dX11_wouldBuy 15 rfl) ?_
  rw [gw2.1]
  refine e_aload_n C 0 (dk dX11_wouldBuy 16 rfl) rfl rfl ?_
  refine gf_X11_later C K ht fl_X11_44 (dk dX11_wouldBuy 17 rfl) ?_
  refine e_aload_n C 0 (dk dX11_wouldBuy 18 rfl) rfl rfl ?_
  obtain ⟨w3, hw3, h⟩ := ob h
  have gw3 := grd_some K hw3
  refine gf_X11_plan C K ht fl_X11_19 (dk dX11_wouldBuy 19 rfl) ?_
  rw [gw3.1]
  refine e_aload_n C 0 (dk dX11_wouldBuy 20 rfl) rfl rfl ?_
  refine gf_X11_later C K ht fl_X11_44 (dk dX11_wouldBuy 21 rfl) ?_
  refine gf_X8_night C K (kd_X11_later K ht) fl_X11_134 (dk dX11_wouldBuy 22 rfl) ?_
  obtain ⟨q4, hq4, h⟩ := ob h
  refine e_callV (ci := 9) C cal_X9_fogOf im_X9_fogOf se_X9_fogOf ml_X11_137 rfl hR (by decide) (dk dX11_wouldBuy 23 rfl) (K.1 _ (by rw [gw3.2]; decide)) (ent_o9 gw3.2) (c_X9_fogOf K gw3.2 hq4) ⟨Nat.zero_le _, Nat.zero_le _⟩ (Nat.le_of_ble_eq_true rfl) rfl ?_
  obtain ⟨q5, hq5, h⟩ := ob h
  refine e_callV (ci := 6) C cal_X6_open im_X6_open se_X6_open ml_X11_280 rfl hR (by decide) (dk dX11_wouldBuy 24 rfl) (K.1 _ (by rw [(kd_X11_sale K ht)]; decide)) (ent_o6 (kd_X11_sale K ht)) (c_X6_open K (kd_X11_sale K ht) gw2.2 (kd_X11_later K ht) hq5) ⟨Nat.zero_le _, Nat.zero_le _⟩ (Nat.le_of_ble_eq_true rfl) rfl ?_
  refine e_iconst C 0 (dk dX11_wouldBuy 25 rfl) (by decide) ?_
  refine e_istore C [(4, .int 0), (0, .ref (g_N g + t)), (1, .int p0), (2, .int p1), (3, .int p2)] (dk dX11_wouldBuy 26 rfl) (by decide) rfl ?_
  refine e_lv [1, 2, 3, 0] rfl ?_
  refine lb_X11_wouldBuy_58 C K ht hR (fun s10 h => ?_) h
  refine e_aload_n C 0 (dk dX11_wouldBuy 40 rfl) rfl rfl ?_
  refine gf_X11_sale C K ht fl_X11_51 (dk dX11_wouldBuy 41 rfl) ?_
  refine gf_X6_buyers C K (kd_X11_sale K ht) fl_X11_246 (dk dX11_wouldBuy 42 rfl) ?_
  refine e_iload_n C 2 (dk dX11_wouldBuy 43 rfl) rfl rfl ?_
  refine e_callS C cal_X11_at sm_X11_at ml_X11_172 hR (by decide) (dk dX11_wouldBuy 44 rfl) (c_X11_at K (kd_X6_buyers K (kd_X11_sale K ht)) (rfl : F_X11_at ((t + 52) + 3) 7 p1 s10 = _)) ⟨Nat.zero_le _, Nat.zero_le _⟩ (Nat.le_of_ble_eq_true rfl) rfl ?_
  refine e_iload_n C 1 (dk dX11_wouldBuy 45 rfl) rfl rfl ?_
  refine e_icmp_ne C 106 (dk dX11_wouldBuy 46 rfl) (by decide) (fun c11 => ?_) (fun c11 => ?_)
  · rw [if_neg c11] at h
    refine e_iconst C 0 (dk dX11_wouldBuy 49 rfl) (by decide) ?_
    obtain rfl := Option.some.inj h
    exact e_iret (v := bi false) C B (nar_bi _) (dk dX11_wouldBuy 50 rfl)
  · rw [if_pos c11] at h
    refine e_iconst C 1 (dk dX11_wouldBuy 47 rfl) (by decide) ?_
    refine e_goto C 107 (dk dX11_wouldBuy 48 rfl) (by decide) ?_
    obtain rfl := Option.some.inj h
    exact e_iret (v := bi true) C B (nar_bi _) (dk dX11_wouldBuy 50 rfl)
set_option maxRecDepth 20000 in
theorem j_X11_playCouples_j61 {X : FX} {g : WC} {Xo : Nat → va_E} {n : Nat} {kd : Nat → Nat} (C : Cx X g RX11 cX11_playCouples 7) (K : KD n kd) {t : Nat} (ht : kd t = 12) {x1 : Int32} {x2 : Int32} {x3 : Int32} {x4 : Int32} {x5 : Int32} (hR : x_R X = rm 6) {OK : Mem → Prop} (hx : ∀ s, OK s → EW X g (x_s X).heap.size n 7 (ent g Xo kd s) 0 0 144 [(0, .ref (g_N g + t)), (1, .int x1), (2, .int x2), (3, .int x3), (4, .int x4), (5, .int x5)] []) {rec : Int32 → Mem → Option (Mem)} (hrec : ∀ (x6 : Int32) (M : Mem) (q : Mem), rec x6 M = some q → OK q → EW X g (x_s X).heap.size n 7 (ent g Xo kd M) 0 0 12 [(0, .ref (g_N g + t)), (1, .int x1), (2, .int x2), (3, .int x3), (4, .int x4), (5, .int x5), (6, .int x6)] []) {x6 : Int32} {M : Mem} (q : Mem) (h : J_X11_playCouples_j61 t rec x1 x2 x3 x4 x5 x6 M = some q) (hOK : OK q) : EW X g (x_s X).heap.size n 7 (ent g Xo kd M) 0 0 61 [(0, .ref (g_N g + t)), (1, .int x1), (2, .int x2), (3, .int x3), (4, .int x4), (5, .int x5), (6, .int x6)] [] := by
  rw [J_X11_playCouples_j61] at h
  refine e_aload_n C 0 (dk dX11_playCouples_0 30 rfl) rfl rfl ?_
  refine gf_X11_sale C K ht fl_X11_51 (dk dX11_playCouples_0 31 rfl) ?_
  refine e_aload_n C 0 (dk dX11_playCouples_0 32 rfl) rfl rfl ?_
  obtain ⟨w6, hw6, h⟩ := ob h
  have gw6 := grd_some K hw6
  refine gf_X11_plan C K ht fl_X11_19 (dk dX11_playCouples_0 33 rfl) ?_
  rw [gw6.1]
  refine e_aload_n C 0 (dk dX11_playCouples_0 34 rfl) rfl rfl ?_
  refine gf_X11_later C K ht fl_X11_44 (dk dX11_playCouples_0 35 rfl) ?_
  refine e_aload_n C 0 (dk dX11_playCouples_0 36 rfl) rfl rfl ?_
  obtain ⟨w7, hw7, h⟩ := ob h
  have gw7 := grd_some K hw7
  refine gf_X11_plan C K ht fl_X11_19 (dk dX11_playCouples_0 37 rfl) ?_
  rw [gw7.1]
  refine e_aload_n C 0 (dk dX11_playCouples_0 38 rfl) rfl rfl ?_
  refine gf_X11_later C K ht fl_X11_44 (dk dX11_playCouples_0 39 rfl) ?_
  refine gf_X8_night C K (kd_X11_later K ht) fl_X11_134 (dk dX11_playCouples_0 40 rfl) ?_
  obtain ⟨q8, hq8, h⟩ := ob h
  refine e_callV (ci := 9) C cal_X9_fogOf im_X9_fogOf se_X9_fogOf ml_X11_137 rfl hR (by decide) (dk dX11_playCouples_0 41 rfl) (K.1 _ (by rw [gw7.2]; decide)) (ent_o9 gw7.2) (c_X9_fogOf K gw7.2 hq8) ⟨Nat.zero_le _, Nat.zero_le _⟩ (Nat.le_of_ble_eq_true rfl) rfl ?_
  obtain ⟨q9, hq9, h⟩ := ob h
  refine e_callV (ci := 6) C cal_X6_pass im_X6_pass se_X6_pass ml_X11_214 rfl hR (by decide) (dk dX11_playCouples_0 42 rfl) (K.1 _ (by rw [(kd_X11_sale K ht)]; decide)) (ent_o6 (kd_X11_sale K ht)) (c_X6_pass K (kd_X11_sale K ht) gw6.2 (kd_X11_later K ht) hq9) ⟨Nat.zero_le _, Nat.zero_le _⟩ (Nat.le_of_ble_eq_true rfl) rfl ?_
  refine e_aload_n C 0 (dk dX11_playCouples_0 43 rfl) rfl rfl ?_
  refine gf_X11_losses C K ht fl_X11_76 (dk dX11_playCouples_0 44 rfl) ?_
  refine e_iconst C 2 (dk dX11_playCouples_0 45 rfl) (by decide) ?_
  refine e_iload C 5 (dk dX11_playCouples_0 46 rfl) rfl ?_
  refine e_imul C (dk dX11_playCouples_0 47 rfl) ?_
  refine e_iload C 6 (dk dX11_playCouples_0 48 rfl) rfl ?_
  refine e_iadd C (dk dX11_playCouples_0 49 rfl) ?_
  refine e_iconst C 5 (dk dX11_playCouples_0 50 rfl) (by decide) ?_
  refine e_iload C 5 (dk dX11_playCouples_0 51 rfl) rfl ?_
  refine e_imul C (dk dX11_playCouples_0 52 rfl) ?_
  refine e_aload_n C 0 (dk dX11_playCouples_0 53 rfl) rfl rfl ?_
  refine e_iload_n C 1 (dk dX11_playCouples_0 54 rfl) rfl rfl ?_
  refine e_callV (ci := 11) C cal_X11_lossOf im_X11_lossOf se_X11_lossOf ml_X11_381 rfl hR (by decide) (dk dX11_playCouples_0 55 rfl) (K.1 _ (by rw [ht]; decide)) (ent_o11 ht) (c_X11_lossOf K ht (rfl : F_X11_lossOf t x1 q9 = _)) ⟨Nat.zero_le _, Nat.zero_le _⟩ (Nat.le_of_ble_eq_true rfl) rfl ?_
  refine e_iadd C (dk dX11_playCouples_0 56 rfl) ?_
  refine e_callS C cal_X11_put sm_X11_put ml_X11_374 hR (by decide) (dk dX11_playCouples_0 57 rfl) (c_X11_put K (kd_X11_losses K ht) (rfl : F_X11_put (t + 65) 4 ((2 * x5) + x6) ((5 * x5) + (F_X11_lossOf t x1 q9)) q9 = _)) ⟨Nat.zero_le _, Nat.zero_le _⟩ (Nat.le_of_ble_eq_true rfl) rfl ?_
  refine e_aload_n C 0 (dk dX11_playCouples_0 58 rfl) rfl rfl ?_
  refine gf_X11_otherLosses C K ht fl_X11_80 (dk dX11_playCouples_0 59 rfl) ?_
  refine e_iconst C 2 (dk dX11_playCouples_1 0 rfl) (by decide) ?_
  refine e_iload C 5 (dk dX11_playCouples_1 1 rfl) rfl ?_
  refine e_imul C (dk dX11_playCouples_1 2 rfl) ?_
  refine e_iload C 6 (dk dX11_playCouples_1 3 rfl) rfl ?_
  refine e_iadd C (dk dX11_playCouples_1 4 rfl) ?_
  refine e_iconst C 5 (dk dX11_playCouples_1 5 rfl) (by decide) ?_
  refine e_iload C 6 (dk dX11_playCouples_1 6 rfl) rfl ?_
  refine e_imul C (dk dX11_playCouples_1 7 rfl) ?_
  refine e_aload_n C 0 (dk dX11_playCouples_1 8 rfl) rfl rfl ?_
  refine e_iload_n C 2 (dk dX11_playCouples_1 9 rfl) rfl rfl ?_
  refine e_callV (ci := 11) C cal_X11_lossOf im_X11_lossOf se_X11_lossOf ml_X11_381 rfl hR (by decide) (dk dX11_playCouples_1 10 rfl) (K.1 _ (by rw [ht]; decide)) (ent_o11 ht) (c_X11_lossOf K ht (rfl : F_X11_lossOf t x2 (F_X11_put (t + 65) 4 ((2 * x5) + x6) ((5 * x5) + (F_X11_lossOf t x1 q9)) q9) = _)) ⟨Nat.zero_le _, Nat.zero_le _⟩ (Nat.le_of_ble_eq_true rfl) rfl ?_
  refine e_iadd C (dk dX11_playCouples_1 11 rfl) ?_
  refine e_callS C cal_X11_put sm_X11_put ml_X11_374 hR (by decide) (dk dX11_playCouples_1 12 rfl) (c_X11_put K (kd_X11_otherLosses K ht) (rfl : F_X11_put (t + 66) 4 ((2 * x5) + x6) ((5 * x6) + (F_X11_lossOf t x2 (F_X11_put (t + 65) 4 ((2 * x5) + x6) ((5 * x5) + (F_X11_lossOf t x1 q9)) q9))) (F_X11_put (t + 65) 4 ((2 * x5) + x6) ((5 * x5) + (F_X11_lossOf t x1 q9)) q9) = _)) ⟨Nat.zero_le _, Nat.zero_le _⟩ (Nat.le_of_ble_eq_true rfl) rfl ?_
  refine e_iinc C [(6, .int (x6 + 1)), (0, .ref (g_N g + t)), (1, .int x1), (2, .int x2), (3, .int x3), (4, .int x4), (5, .int x5)] 6 1 (dk dX11_playCouples_1 13 rfl) rfl (by decide) (by decide) rfl ?_
  refine e_goto C 12 (dk dX11_playCouples_1 14 rfl) (by decide) ?_
  refine e_lv [1, 2, 3, 4, 5, 6, 0] rfl ?_
  exact hrec _ _ _ h hOK
set_option maxRecDepth 20000 in
theorem j_X11_playCouples_j47 {X : FX} {g : WC} {Xo : Nat → va_E} {n : Nat} {kd : Nat → Nat} (C : Cx X g RX11 cX11_playCouples 7) (K : KD n kd) {t : Nat} (ht : kd t = 12) {x1 : Int32} {x2 : Int32} {x3 : Int32} {x4 : Int32} {x5 : Int32} (hR : x_R X = rm 6) {OK : Mem → Prop} (hx : ∀ s, OK s → EW X g (x_s X).heap.size n 7 (ent g Xo kd s) 0 0 144 [(0, .ref (g_N g + t)), (1, .int x1), (2, .int x2), (3, .int x3), (4, .int x4), (5, .int x5)] []) {rec : Int32 → Mem → Option (Mem)} (hrec : ∀ (x6 : Int32) (M : Mem) (q : Mem), rec x6 M = some q → OK q → EW X g (x_s X).heap.size n 7 (ent g Xo kd M) 0 0 12 [(0, .ref (g_N g + t)), (1, .int x1), (2, .int x2), (3, .int x3), (4, .int x4), (5, .int x5), (6, .int x6)] []) {x6 : Int32} {M : Mem} (q : Mem) (h : J_X11_playCouples_j47 t rec x1 x2 x3 x4 x5 x6 M = some q) (hOK : OK q) : EW X g (x_s X).heap.size n 7 (ent g Xo kd M) 0 0 47 [(0, .ref (g_N g + t)), (1, .int x1), (2, .int x2), (3, .int x3), (4, .int x4), (5, .int x5), (6, .int x6)] [] := by
  rw [J_X11_playCouples_j47] at h
  refine e_iload C 6 (dk dX11_playCouples_0 23 rfl) rfl ?_
  refine e_iconst C 1 (dk dX11_playCouples_0 24 rfl) (by decide) ?_
  refine e_icmp_ne C 61 (dk dX11_playCouples_0 25 rfl) (by decide) (fun c5 => ?_) (fun c5 => ?_)
  · rw [if_neg c5] at h
    exact j_X11_playCouples_j61 C K ht hR hx hrec _ h hOK
  · rw [if_pos c5] at h
    refine e_aload_n C 0 (dk dX11_playCouples_0 26 rfl) rfl rfl ?_
    refine gf_X11_later C K ht fl_X11_44 (dk dX11_playCouples_0 27 rfl) ?_
    refine e_iload_n C 2 (dk dX11_playCouples_0 28 rfl) rfl rfl ?_
    refine e_callV (ci := 8) C cal_X8_startBribing im_X8_startBribing se_X8_startBribing ml_X11_222 rfl hR (by decide) (dk dX11_playCouples_0 29 rfl) (K.1 _ (by rw [(kd_X11_later K ht)]; decide)) (ent_o8 (kd_X11_later K ht)) (c_X8_startBribing K (kd_X11_later K ht) (rfl : F_X8_startBribing (t + 48) x2 M = _)) ⟨Nat.zero_le _, Nat.zero_le _⟩ (Nat.le_of_ble_eq_true rfl) rfl ?_
    exact j_X11_playCouples_j61 C K ht hR hx hrec _ h hOK
set_option maxRecDepth 20000 in
theorem l_X11_playCouples_12 {X : FX} {g : WC} {Xo : Nat → va_E} {n : Nat} {kd : Nat → Nat} (C : Cx X g RX11 cX11_playCouples 7) (K : KD n kd) {t : Nat} (ht : kd t = 12) {x1 : Int32} {x2 : Int32} {x3 : Int32} {x4 : Int32} {x5 : Int32} (hR : x_R X = rm 6) {OK : Mem → Prop} (hx : ∀ s, OK s → EW X g (x_s X).heap.size n 7 (ent g Xo kd s) 0 0 144 [(0, .ref (g_N g + t)), (1, .int x1), (2, .int x2), (3, .int x3), (4, .int x4), (5, .int x5)] []) : ∀ (N9 : Nat) (x6 : Int32) (M : Mem) (q : Mem), L_X11_playCouples_12 t x1 x2 x3 x4 x5 N9 x6 M = some q → OK q → EW X g (x_s X).heap.size n 7 (ent g Xo kd M) 0 0 12 [(0, .ref (g_N g + t)), (1, .int x1), (2, .int x2), (3, .int x3), (4, .int x4), (5, .int x5), (6, .int x6)] [] := by
  intro N9
  induction N9 with
  | zero =>
    intro x6 M q h
    rw [L_X11_playCouples_12.eq_1] at h
    cases h
  | succ m9 ih =>
    intro x6 M q h hOK
    rw [L_X11_playCouples_12.eq_2] at h
    refine e_iload C 6 (dk dX11_playCouples_0 7 rfl) rfl ?_
    refine e_iload C 4 (dk dX11_playCouples_0 8 rfl) rfl ?_
    refine e_icmp_ge C 144 (dk dX11_playCouples_0 9 rfl) (by decide) (fun c2 => ?_) (fun c2 => ?_)
    · rw [if_pos c2] at h
      obtain rfl := Option.some.inj h
      refine e_lv [0, 1, 2, 3, 4, 5] rfl ?_
      exact hx _ hOK
    · rw [if_neg c2] at h
      refine e_aload_n C 0 (dk dX11_playCouples_0 10 rfl) rfl rfl ?_
      refine gf_X11_later C K ht fl_X11_44 (dk dX11_playCouples_0 11 rfl) ?_
      refine e_aload_n C 0 (dk dX11_playCouples_0 12 rfl) rfl rfl ?_
      refine gf_X11_book C K ht fl_X11_30 (dk dX11_playCouples_0 13 rfl) ?_
      refine gf_X0_town C K (kd_X11_book K ht) fl_X11_119 (dk dX11_playCouples_0 14 rfl) ?_
      obtain ⟨q3, hq3, h⟩ := ob h
      refine e_callV (ci := 8) C cal_X8_copy im_X8_copy se_X8_copy ml_X11_276 rfl hR (by decide) (dk dX11_playCouples_0 15 rfl) (K.1 _ (by rw [(kd_X11_later K ht)]; decide)) (ent_o8 (kd_X11_later K ht)) (c_X8_copy K (kd_X11_later K ht) (kd_X0_town K (kd_X11_book K ht)) hq3) ⟨Nat.zero_le _, Nat.zero_le _⟩ (Nat.le_of_ble_eq_true rfl) rfl ?_
      refine e_iload C 5 (dk dX11_playCouples_0 16 rfl) rfl ?_
      refine e_iconst C 1 (dk dX11_playCouples_0 17 rfl) (by decide) ?_
      refine e_icmp_ne C 47 (dk dX11_playCouples_0 18 rfl) (by decide) (fun c4 => ?_) (fun c4 => ?_)
      · rw [if_neg c4] at h
        exact j_X11_playCouples_j47 C K ht hR hx ih _ h hOK
      · rw [if_pos c4] at h
        refine e_aload_n C 0 (dk dX11_playCouples_0 19 rfl) rfl rfl ?_
        refine gf_X11_later C K ht fl_X11_44 (dk dX11_playCouples_0 20 rfl) ?_
        refine e_iload_n C 1 (dk dX11_playCouples_0 21 rfl) rfl rfl ?_
        refine e_callV (ci := 8) C cal_X8_startBribing im_X8_startBribing se_X8_startBribing ml_X11_222 rfl hR (by decide) (dk dX11_playCouples_0 22 rfl) (K.1 _ (by rw [(kd_X11_later K ht)]; decide)) (ent_o8 (kd_X11_later K ht)) (c_X8_startBribing K (kd_X11_later K ht) (rfl : F_X8_startBribing (t + 48) x1 q3 = _)) ⟨Nat.zero_le _, Nat.zero_le _⟩ (Nat.le_of_ble_eq_true rfl) rfl ?_
        exact j_X11_playCouples_j47 C K ht hR hx ih _ h hOK
set_option maxRecDepth 20000 in
theorem lb_X11_playCouples_12 {X : FX} {g : WC} {Xo : Nat → va_E} {n : Nat} {kd : Nat → Nat} (C : Cx X g RX11 cX11_playCouples 7) (K : KD n kd) {t : Nat} (ht : kd t = 12) {x1 : Int32} {x2 : Int32} {x3 : Int32} {x4 : Int32} {x5 : Int32} (hR : x_R X = rm 6) {T9 : Type} {f9 : Mem → Option T9} {b9 : T9} (hx : ∀ s, f9 s = some b9 → EW X g (x_s X).heap.size n 7 (ent g Xo kd s) 0 0 144 [(0, .ref (g_N g + t)), (1, .int x1), (2, .int x2), (3, .int x3), (4, .int x4), (5, .int x5)] []) {x6 : Int32} {M : Mem} (h : (L_X11_playCouples_12 t x1 x2 x3 x4 x5 FU x6 M).bind f9 = some b9) : EW X g (x_s X).heap.size n 7 (ent g Xo kd M) 0 0 12 [(0, .ref (g_N g + t)), (1, .int x1), (2, .int x2), (3, .int x3), (4, .int x4), (5, .int x5), (6, .int x6)] [] := by
  obtain ⟨q, hq, h⟩ := ob h
  exact l_X11_playCouples_12 C K ht hR (OK := fun q => f9 q = some b9) hx FU x6 M q hq h
set_option maxRecDepth 20000 in
theorem l_X11_playCouples_3 {X : FX} {g : WC} {Xo : Nat → va_E} {n : Nat} {kd : Nat → Nat} (C : Cx X g RX11 cX11_playCouples 7) (K : KD n kd) {t : Nat} (ht : kd t = 12) {x1 : Int32} {x2 : Int32} {x3 : Int32} {x4 : Int32} (hR : x_R X = rm 6) {OK : Mem → Prop} (hx : ∀ s, OK s → EW X g (x_s X).heap.size n 7 (ent g Xo kd s) 0 0 150 [] []) : ∀ (N9 : Nat) (x5 : Int32) (M : Mem) (q : Mem), L_X11_playCouples_3 t x1 x2 x3 x4 N9 x5 M = some q → OK q → EW X g (x_s X).heap.size n 7 (ent g Xo kd M) 0 0 3 [(0, .ref (g_N g + t)), (1, .int x1), (2, .int x2), (3, .int x3), (4, .int x4), (5, .int x5)] [] := by
  intro N9
  induction N9 with
  | zero =>
    intro x5 M q h
    rw [L_X11_playCouples_3.eq_1] at h
    cases h
  | succ m9 ih =>
    intro x5 M q h hOK
    rw [L_X11_playCouples_3.eq_2] at h
    refine e_iload C 5 (dk dX11_playCouples_0 2 rfl) rfl ?_
    refine e_iload_n C 3 (dk dX11_playCouples_0 3 rfl) rfl rfl ?_
    refine e_icmp_ge C 150 (dk dX11_playCouples_0 4 rfl) (by decide) (fun c1 => ?_) (fun c1 => ?_)
    · rw [if_pos c1] at h
      obtain rfl := Option.some.inj h
      refine e_lv [] rfl ?_
      exact hx _ hOK
    · rw [if_neg c1] at h
      refine e_iconst C 0 (dk dX11_playCouples_0 5 rfl) (by decide) ?_
      refine e_istore C [(6, .int 0), (0, .ref (g_N g + t)), (1, .int x1), (2, .int x2), (3, .int x3), (4, .int x4), (5, .int x5)] (dk dX11_playCouples_0 6 rfl) (by decide) rfl ?_
      refine e_lv [1, 2, 3, 4, 5, 6, 0] rfl ?_
      refine lb_X11_playCouples_12 C K ht hR (fun s11 h => ?_) h
      refine e_iinc C [(5, .int (x5 + 1)), (0, .ref (g_N g + t)), (1, .int x1), (2, .int x2), (3, .int x3), (4, .int x4)] 5 1 (dk dX11_playCouples_1 15 rfl) rfl (by decide) (by decide) rfl ?_
      refine e_goto C 3 (dk dX11_playCouples_1 16 rfl) (by decide) ?_
      refine e_lv [1, 2, 3, 4, 5, 0] rfl ?_
      exact ih _ _ _ h hOK
set_option maxRecDepth 20000 in
theorem lb_X11_playCouples_3 {X : FX} {g : WC} {Xo : Nat → va_E} {n : Nat} {kd : Nat → Nat} (C : Cx X g RX11 cX11_playCouples 7) (K : KD n kd) {t : Nat} (ht : kd t = 12) {x1 : Int32} {x2 : Int32} {x3 : Int32} {x4 : Int32} (hR : x_R X = rm 6) {T9 : Type} {f9 : Mem → Option T9} {b9 : T9} (hx : ∀ s, f9 s = some b9 → EW X g (x_s X).heap.size n 7 (ent g Xo kd s) 0 0 150 [] []) {x5 : Int32} {M : Mem} (h : (L_X11_playCouples_3 t x1 x2 x3 x4 FU x5 M).bind f9 = some b9) : EW X g (x_s X).heap.size n 7 (ent g Xo kd M) 0 0 3 [(0, .ref (g_N g + t)), (1, .int x1), (2, .int x2), (3, .int x3), (4, .int x4), (5, .int x5)] [] := by
  obtain ⟨q, hq, h⟩ := ob h
  exact l_X11_playCouples_3 C K ht hR (OK := fun q => f9 q = some b9) hx FU x5 M q hq h
set_option maxRecDepth 20000 in
theorem c_X11_playCouples {g : WC} {Xo : Nat → va_E} {n : Nat} {kd : Nat → Nat} (K : KD n kd) {t : Nat} {p0 : Int32} {p1 : Int32} {p2 : Int32} {p3 : Int32} (ht : kd t = 12) {M : Mem} {res : Mem} (h : F_X11_playCouples t p0 p1 p2 p3 M = some res) : MC g yX11_playCouples cX11_playCouples 7 none 6 n [.ref (g_N g + t), .int p0, .int p1, .int p2, .int p3] (ent g Xo kd M) none (ent g Xo kd res) := by
  refine MC_of pn_X11 (Nat.le_of_ble_eq_true rfl) (fun X C B => ?_)
  have hR := B.1
  rw [F_X11_playCouples] at h
  refine e_iconst C 0 (dk dX11_playCouples_0 0 rfl) (by decide) ?_
  refine e_istore C [(5, .int 0), (0, .ref (g_N g + t)), (1, .int p0), (2, .int p1), (3, .int p2), (4, .int p3)] (dk dX11_playCouples_0 1 rfl) (by decide) rfl ?_
  refine e_lv [1, 2, 3, 4, 5, 0] rfl ?_
  refine lb_X11_playCouples_3 C K ht hR (fun s13 h => ?_) h
  obtain rfl := Option.some.inj h
  exact e_vret C B (dk dX11_playCouples_1 17 rfl)
set_option maxRecDepth 20000 in
theorem j_X3_giveOut_j76 {X : FX} {g : WC} {Xo : Nat → va_E} {n : Nat} {kd : Nat → Nat} (C : Cx X g RX3 cX3_giveOut 7) (K : KD n kd) {t : Nat} {w0 : Nat} {w1 : Nat} {w2 : Nat} (ht : kd t = 4) (hw0 : kd w0 = 10) (hw1 : kd w1 = 9) (hw2 : kd w2 = 7) {x4 : Int32} (hR : x_R X = rm 4) {OK : Mem → Prop} (hx : ∀ s, OK s → EW X g (x_s X).heap.size n 7 (ent g Xo kd s) 0 0 85 [(0, .ref (g_N g + t)), (1, .ref (g_N g + w0)), (2, .ref (g_N g + w1)), (3, .ref (g_N g + w2)), (4, .int x4)] []) {rec : Int32 → Mem → Option (Mem)} (hrec : ∀ (x5 : Int32) (M : Mem) (q : Mem), rec x5 M = some q → OK q → EW X g (x_s X).heap.size n 7 (ent g Xo kd M) 0 0 13 [(0, .ref (g_N g + t)), (1, .ref (g_N g + w0)), (2, .ref (g_N g + w1)), (3, .ref (g_N g + w2)), (4, .int x4), (5, .int x5)] []) {x5 : Int32} {y1 : Int32} {y2 : Int32} {M : Mem} (q : Mem) (h : J_X3_giveOut_j76 t w0 w1 w2 rec x4 x5 y1 y2 M = some q) (hOK : OK q) : EW X g (x_s X).heap.size n 7 (ent g Xo kd M) 0 0 76 [(0, .ref (g_N g + t)), (1, .ref (g_N g + w0)), (2, .ref (g_N g + w1)), (3, .ref (g_N g + w2)), (4, .int x4), (5, .int x5)] [.int y2, .int y1, .ref (g_N g + (t + 1))] := by
  rw [J_X3_giveOut_j76] at h
  refine e_callSN C cal_X11_put sm_X11_put mn_X3_37 hR (by decide) (dk dX3_giveOut_0 39 rfl) (c_X11_put K (kd_X3_bids K ht) (rfl : F_X11_put (t + 1) 49 y1 y2 M = _)) ⟨Nat.zero_le _, Nat.zero_le _⟩ (Nat.le_of_ble_eq_true rfl) rfl ?_
  refine e_iinc C [(5, .int (x5 + 1)), (0, .ref (g_N g + t)), (1, .ref (g_N g + w0)), (2, .ref (g_N g + w1)), (3, .ref (g_N g + w2)), (4, .int x4)] 5 1 (dk dX3_giveOut_0 40 rfl) rfl (by decide) (by decide) rfl ?_
  refine e_goto C 13 (dk dX3_giveOut_0 41 rfl) (by decide) ?_
  refine e_lv [1, 2, 3, 4, 5, 0] rfl ?_
  exact hrec _ _ _ h hOK
set_option maxRecDepth 20000 in
theorem j_X3_giveOut_j43 {X : FX} {g : WC} {Xo : Nat → va_E} {n : Nat} {kd : Nat → Nat} (C : Cx X g RX3 cX3_giveOut 7) (K : KD n kd) {t : Nat} {w0 : Nat} {w1 : Nat} {w2 : Nat} (ht : kd t = 4) (hw0 : kd w0 = 10) (hw1 : kd w1 = 9) (hw2 : kd w2 = 7) {x4 : Int32} (hR : x_R X = rm 4) {OK : Mem → Prop} (hx : ∀ s, OK s → EW X g (x_s X).heap.size n 7 (ent g Xo kd s) 0 0 85 [(0, .ref (g_N g + t)), (1, .ref (g_N g + w0)), (2, .ref (g_N g + w1)), (3, .ref (g_N g + w2)), (4, .int x4)] []) {rec : Int32 → Mem → Option (Mem)} (hrec : ∀ (x5 : Int32) (M : Mem) (q : Mem), rec x5 M = some q → OK q → EW X g (x_s X).heap.size n 7 (ent g Xo kd M) 0 0 13 [(0, .ref (g_N g + t)), (1, .ref (g_N g + w0)), (2, .ref (g_N g + w1)), (3, .ref (g_N g + w2)), (4, .int x4), (5, .int x5)] []) {x5 : Int32} {y0 : Int32} {M : Mem} (q : Mem) (h : J_X3_giveOut_j43 t w0 w1 w2 rec x4 x5 y0 M = some q) (hOK : OK q) : EW X g (x_s X).heap.size n 7 (ent g Xo kd M) 0 0 43 [(0, .ref (g_N g + t)), (1, .ref (g_N g + w0)), (2, .ref (g_N g + w1)), (3, .ref (g_N g + w2)), (4, .int x4), (5, .int x5)] [.int y0] := by
  rw [J_X3_giveOut_j43] at h
  refine e_istore C [(6, .int y0), (0, .ref (g_N g + t)), (1, .ref (g_N g + w0)), (2, .ref (g_N g + w1)), (3, .ref (g_N g + w2)), (4, .int x4), (5, .int x5)] (dk dX3_giveOut_0 21 rfl) (by decide) rfl ?_
  refine e_aload_n C 1 (dk dX3_giveOut_0 22 rfl) rfl rfl ?_
  refine gf_X3_bids C K ht fl_X3_9 (dk dX3_giveOut_0 23 rfl) ?_
  refine e_iload C 5 (dk dX3_giveOut_0 24 rfl) rfl ?_
  refine e_bipush C 7 (dk dX3_giveOut_0 25 rfl) (by decide) ?_
  refine e_imul C (dk dX3_giveOut_0 26 rfl) ?_
  refine e_iload C 6 (dk dX3_giveOut_0 27 rfl) rfl ?_
  refine e_iadd C (dk dX3_giveOut_0 28 rfl) ?_
  refine e_iload C 0 (dk dX3_giveOut_0 29 rfl) rfl ?_
  refine e_if_eq C 75 (dk dX3_giveOut_0 30 rfl) (by decide) (fun c4 => ?_) (fun c4 => ?_)
  · rw [if_pos c4] at h
    refine e_iconst C 0 (dk dX3_giveOut_0 38 rfl) (by decide) ?_
    refine e_lv [1, 2, 3, 4, 5, 6] rfl ?_
    exact j_X3_giveOut_j76 C K ht hw0 hw1 hw2 hR hx hrec _ h hOK
  · rw [if_neg c4] at h
    refine e_aload_n C 4 (dk dX3_giveOut_0 31 rfl) rfl rfl ?_
    refine e_aload_n C 2 (dk dX3_giveOut_0 32 rfl) rfl rfl ?_
    refine e_aload_n C 3 (dk dX3_giveOut_0 33 rfl) rfl rfl ?_
    refine e_iload C 6 (dk dX3_giveOut_0 34 rfl) rfl ?_
    refine e_iload C 5 (dk dX3_giveOut_0 35 rfl) rfl ?_
    obtain ⟨q5, hq5, h⟩ := ob h
    refine e_callV (ci := 6) C cal_X6_bid im_X6_bid se_X6_bid ml_X3_33 rfl hR (by decide) (dk dX3_giveOut_0 36 rfl) (K.1 _ (by rw [hw2]; decide)) (ent_o6 hw2) (c_X6_bid K hw2 hw0 hw1 hq5) ⟨Nat.zero_le _, Nat.zero_le _⟩ (Nat.le_of_ble_eq_true rfl) rfl ?_
    refine e_goto C 76 (dk dX3_giveOut_0 37 rfl) (by decide) ?_
    refine e_lv [1, 2, 3, 4, 5, 6] rfl ?_
    exact j_X3_giveOut_j76 C K ht hw0 hw1 hw2 hR hx hrec _ h hOK
set_option maxRecDepth 20000 in
theorem j_X3_giveOut_j42 {X : FX} {g : WC} {Xo : Nat → va_E} {n : Nat} {kd : Nat → Nat} (C : Cx X g RX3 cX3_giveOut 7) (K : KD n kd) {t : Nat} {w0 : Nat} {w1 : Nat} {w2 : Nat} (ht : kd t = 4) (hw0 : kd w0 = 10) (hw1 : kd w1 = 9) (hw2 : kd w2 = 7) {x4 : Int32} (hR : x_R X = rm 4) {OK : Mem → Prop} (hx : ∀ s, OK s → EW X g (x_s X).heap.size n 7 (ent g Xo kd s) 0 0 85 [(0, .ref (g_N g + t)), (1, .ref (g_N g + w0)), (2, .ref (g_N g + w1)), (3, .ref (g_N g + w2)), (4, .int x4)] []) {rec : Int32 → Mem → Option (Mem)} (hrec : ∀ (x5 : Int32) (M : Mem) (q : Mem), rec x5 M = some q → OK q → EW X g (x_s X).heap.size n 7 (ent g Xo kd M) 0 0 13 [(0, .ref (g_N g + t)), (1, .ref (g_N g + w0)), (2, .ref (g_N g + w1)), (3, .ref (g_N g + w2)), (4, .int x4), (5, .int x5)] []) {x5 : Int32} {M : Mem} (q : Mem) (h : J_X3_giveOut_j42 t w0 w1 w2 rec x4 x5 M = some q) (hOK : OK q) : EW X g (x_s X).heap.size n 7 (ent g Xo kd M) 0 0 42 [(0, .ref (g_N g + t)), (1, .ref (g_N g + w0)), (2, .ref (g_N g + w1)), (3, .ref (g_N g + w2)), (4, .int x4), (5, .int x5)] [] := by
  rw [J_X3_giveOut_j42] at h
  refine e_iconst C 0 (dk dX3_giveOut_0 20 rfl) (by decide) ?_
  exact j_X3_giveOut_j43 C K ht hw0 hw1 hw2 hR hx hrec _ h hOK
set_option maxRecDepth 20000 in
theorem l_X3_giveOut_13 {X : FX} {g : WC} {Xo : Nat → va_E} {n : Nat} {kd : Nat → Nat} (C : Cx X g RX3 cX3_giveOut 7) (K : KD n kd) {t : Nat} {w0 : Nat} {w1 : Nat} {w2 : Nat} (ht : kd t = 4) (hw0 : kd w0 = 10) (hw1 : kd w1 = 9) (hw2 : kd w2 = 7) {x4 : Int32} (hR : x_R X = rm 4) {OK : Mem → Prop} (hx : ∀ s, OK s → EW X g (x_s X).heap.size n 7 (ent g Xo kd s) 0 0 85 [(0, .ref (g_N g + t)), (1, .ref (g_N g + w0)), (2, .ref (g_N g + w1)), (3, .ref (g_N g + w2)), (4, .int x4)] []) : ∀ (N9 : Nat) (x5 : Int32) (M : Mem) (q : Mem), L_X3_giveOut_13 t w0 w1 w2 x4 N9 x5 M = some q → OK q → EW X g (x_s X).heap.size n 7 (ent g Xo kd M) 0 0 13 [(0, .ref (g_N g + t)), (1, .ref (g_N g + w0)), (2, .ref (g_N g + w1)), (3, .ref (g_N g + w2)), (4, .int x4), (5, .int x5)] [] := by
  intro N9
  induction N9 with
  | zero =>
    intro x5 M q h
    rw [L_X3_giveOut_13.eq_1] at h
    cases h
  | succ m9 ih =>
    intro x5 M q h hOK
    rw [L_X3_giveOut_13.eq_2] at h
    refine e_iload C 5 (dk dX3_giveOut_0 7 rfl) rfl ?_
    refine e_bipush C 7 (dk dX3_giveOut_0 8 rfl) (by decide) ?_
    refine e_icmp_ge C 85 (dk dX3_giveOut_0 9 rfl) (by decide) (fun c2 => ?_) (fun c2 => ?_)
    · rw [if_pos c2] at h
      obtain rfl := Option.some.inj h
      refine e_lv [0, 1, 2, 3, 4] rfl ?_
      exact hx _ hOK
    · rw [if_neg c2] at h
      refine e_iload C 5 (dk dX3_giveOut_0 10 rfl) rfl ?_
      refine e_aload_n C 1 (dk dX3_giveOut_0 11 rfl) rfl rfl ?_
      refine gf_X9_people C K hw0 fl_X3_21 (dk dX3_giveOut_0 12 rfl) ?_
      refine e_icmp_ge C 42 (dk dX3_giveOut_0 13 rfl) (by decide) (fun c3 => ?_) (fun c3 => ?_)
      · rw [if_pos c3] at h
        exact j_X3_giveOut_j42 C K ht hw0 hw1 hw2 hR hx ih _ h hOK
      · rw [if_neg c3] at h
        refine e_aload_n C 3 (dk dX3_giveOut_0 14 rfl) rfl rfl ?_
        refine e_iload C 4 (dk dX3_giveOut_0 15 rfl) rfl ?_
        refine e_callV (ci := 6) C cal_X6_hasLot im_X6_hasLot se_X6_hasLot ml_X3_27 rfl hR (by decide) (dk dX3_giveOut_0 16 rfl) (K.1 _ (by rw [hw2]; decide)) (ent_o6 hw2) (c_X6_hasLot K hw2 (rfl : F_X6_hasLot w2 x4 M = _)) ⟨Nat.zero_le _, Nat.zero_le _⟩ (Nat.le_of_ble_eq_true rfl) rfl ?_
        refine e_if_eq C 42 (dk dX3_giveOut_0 17 rfl) (by decide) (fun c6 => ?_) (fun c6 => ?_)
        · rw [if_pos c6] at h
          exact j_X3_giveOut_j42 C K ht hw0 hw1 hw2 hR hx ih _ h hOK
        · rw [if_neg c6] at h
          refine e_iconst C 1 (dk dX3_giveOut_0 18 rfl) (by decide) ?_
          refine e_goto C 43 (dk dX3_giveOut_0 19 rfl) (by decide) ?_
          exact j_X3_giveOut_j43 C K ht hw0 hw1 hw2 hR hx ih _ h hOK
set_option maxRecDepth 20000 in
theorem lb_X3_giveOut_13 {X : FX} {g : WC} {Xo : Nat → va_E} {n : Nat} {kd : Nat → Nat} (C : Cx X g RX3 cX3_giveOut 7) (K : KD n kd) {t : Nat} {w0 : Nat} {w1 : Nat} {w2 : Nat} (ht : kd t = 4) (hw0 : kd w0 = 10) (hw1 : kd w1 = 9) (hw2 : kd w2 = 7) {x4 : Int32} (hR : x_R X = rm 4) {T9 : Type} {f9 : Mem → Option T9} {b9 : T9} (hx : ∀ s, f9 s = some b9 → EW X g (x_s X).heap.size n 7 (ent g Xo kd s) 0 0 85 [(0, .ref (g_N g + t)), (1, .ref (g_N g + w0)), (2, .ref (g_N g + w1)), (3, .ref (g_N g + w2)), (4, .int x4)] []) {x5 : Int32} {M : Mem} (h : (L_X3_giveOut_13 t w0 w1 w2 x4 FU x5 M).bind f9 = some b9) : EW X g (x_s X).heap.size n 7 (ent g Xo kd M) 0 0 13 [(0, .ref (g_N g + t)), (1, .ref (g_N g + w0)), (2, .ref (g_N g + w1)), (3, .ref (g_N g + w2)), (4, .int x4), (5, .int x5)] [] := by
  obtain ⟨q, hq, h⟩ := ob h
  exact l_X3_giveOut_13 C K ht hw0 hw1 hw2 hR (OK := fun q => f9 q = some b9) hx FU x5 M q hq h
set_option maxRecDepth 20000 in
theorem l_X3_giveOut_3 {X : FX} {g : WC} {Xo : Nat → va_E} {n : Nat} {kd : Nat → Nat} (C : Cx X g RX3 cX3_giveOut 7) (K : KD n kd) {t : Nat} {w0 : Nat} {w1 : Nat} {w2 : Nat} (ht : kd t = 4) (hw0 : kd w0 = 10) (hw1 : kd w1 = 9) (hw2 : kd w2 = 7) (hR : x_R X = rm 4) {OK : Mem → Prop} (hx : ∀ s, OK s → EW X g (x_s X).heap.size n 7 (ent g Xo kd s) 0 0 91 [(0, .ref (g_N g + t))] []) : ∀ (N9 : Nat) (x4 : Int32) (M : Mem) (q : Mem), L_X3_giveOut_3 t w0 w1 w2 N9 x4 M = some q → OK q → EW X g (x_s X).heap.size n 7 (ent g Xo kd M) 0 0 3 [(0, .ref (g_N g + t)), (1, .ref (g_N g + w0)), (2, .ref (g_N g + w1)), (3, .ref (g_N g + w2)), (4, .int x4)] [] := by
  intro N9
  induction N9 with
  | zero =>
    intro x4 M q h
    rw [L_X3_giveOut_3.eq_1] at h
    cases h
  | succ m9 ih =>
    intro x4 M q h hOK
    rw [L_X3_giveOut_3.eq_2] at h
    refine e_iload C 4 (dk dX3_giveOut_0 2 rfl) rfl ?_
    refine e_bipush C 7 (dk dX3_giveOut_0 3 rfl) (by decide) ?_
    refine e_icmp_ge C 91 (dk dX3_giveOut_0 4 rfl) (by decide) (fun c1 => ?_) (fun c1 => ?_)
    · rw [if_pos c1] at h
      obtain rfl := Option.some.inj h
      refine e_lv [0] rfl ?_
      exact hx _ hOK
    · rw [if_neg c1] at h
      refine e_iconst C 0 (dk dX3_giveOut_0 5 rfl) (by decide) ?_
      refine e_istore C [(5, .int 0), (0, .ref (g_N g + t)), (1, .ref (g_N g + w0)), (2, .ref (g_N g + w1)), (3, .ref (g_N g + w2)), (4, .int x4)] (dk dX3_giveOut_0 6 rfl) (by decide) rfl ?_
      refine e_lv [1, 2, 3, 4, 5, 0] rfl ?_
      refine lb_X3_giveOut_13 C K ht hw0 hw1 hw2 hR (fun s8 h => ?_) h
      refine e_iinc C [(4, .int (x4 + 1)), (0, .ref (g_N g + t)), (1, .ref (g_N g + w0)), (2, .ref (g_N g + w1)), (3, .ref (g_N g + w2))] 4 1 (dk dX3_giveOut_0 42 rfl) rfl (by decide) (by decide) rfl ?_
      refine e_goto C 3 (dk dX3_giveOut_0 43 rfl) (by decide) ?_
      refine e_lv [1, 2, 3, 4, 0] rfl ?_
      exact ih _ _ _ h hOK
set_option maxRecDepth 20000 in
theorem lb_X3_giveOut_3 {X : FX} {g : WC} {Xo : Nat → va_E} {n : Nat} {kd : Nat → Nat} (C : Cx X g RX3 cX3_giveOut 7) (K : KD n kd) {t : Nat} {w0 : Nat} {w1 : Nat} {w2 : Nat} (ht : kd t = 4) (hw0 : kd w0 = 10) (hw1 : kd w1 = 9) (hw2 : kd w2 = 7) (hR : x_R X = rm 4) {T9 : Type} {f9 : Mem → Option T9} {b9 : T9} (hx : ∀ s, f9 s = some b9 → EW X g (x_s X).heap.size n 7 (ent g Xo kd s) 0 0 91 [(0, .ref (g_N g + t))] []) {x4 : Int32} {M : Mem} (h : (L_X3_giveOut_3 t w0 w1 w2 FU x4 M).bind f9 = some b9) : EW X g (x_s X).heap.size n 7 (ent g Xo kd M) 0 0 3 [(0, .ref (g_N g + t)), (1, .ref (g_N g + w0)), (2, .ref (g_N g + w1)), (3, .ref (g_N g + w2)), (4, .int x4)] [] := by
  obtain ⟨q, hq, h⟩ := ob h
  exact l_X3_giveOut_3 C K ht hw0 hw1 hw2 hR (OK := fun q => f9 q = some b9) hx FU x4 M q hq h
set_option maxRecDepth 20000 in
theorem l_X3_giveOut_103 {X : FX} {g : WC} {Xo : Nat → va_E} {n : Nat} {kd : Nat → Nat} (C : Cx X g RX3 cX3_giveOut 7) (K : KD n kd) {t : Nat} {w0 : Nat} {w1 : Nat} {w2 : Nat} (ht : kd t = 4) (hw0 : kd w0 = 10) (hw1 : kd w1 = 9) (hw2 : kd w2 = 7) {x4 : Int32} (hR : x_R X = rm 4) {OK : Mem → Prop} (hx : ∀ s, OK s → EW X g (x_s X).heap.size n 7 (ent g Xo kd s) 0 0 141 [(0, .ref (g_N g + t)), (4, .int x4)] []) : ∀ (N9 : Nat) (x5 : Int32) (M : Mem) (q : Mem), L_X3_giveOut_103 t w0 w1 w2 x4 N9 x5 M = some q → OK q → EW X g (x_s X).heap.size n 7 (ent g Xo kd M) 0 0 103 [(0, .ref (g_N g + t)), (4, .int x4), (5, .int x5)] [] := by
  intro N9
  induction N9 with
  | zero =>
    intro x5 M q h
    rw [L_X3_giveOut_103.eq_1] at h
    cases h
  | succ m9 ih =>
    intro x5 M q h hOK
    rw [L_X3_giveOut_103.eq_2] at h
    refine e_iload C 2 (dk dX3_giveOut_0 50 rfl) rfl ?_
    refine e_sipush C 128 (dk dX3_giveOut_0 51 rfl) (by decide) ?_
    refine e_icmp_ge C 141 (dk dX3_giveOut_0 52 rfl) (by decide) (fun c12 => ?_) (fun c12 => ?_)
    · rw [if_pos c12] at h
      obtain rfl := Option.some.inj h
      refine e_lv [0, 1] rfl ?_
      exact hx _ hOK
    · rw [if_neg c12] at h
      refine e_aload_n C 0 (dk dX3_giveOut_0 53 rfl) rfl rfl ?_
      refine gf_X3_best C K ht fl_X3_15 (dk dX3_giveOut_0 54 rfl) ?_
      refine e_iload C 1 (dk dX3_giveOut_0 55 rfl) rfl ?_
      refine e_sipush C 128 (dk dX3_giveOut_0 56 rfl) (by decide) ?_
      refine e_imul C (dk dX3_giveOut_0 57 rfl) ?_
      refine e_iload C 2 (dk dX3_giveOut_0 58 rfl) rfl ?_
      refine e_iadd C (dk dX3_giveOut_0 59 rfl) ?_
      refine e_aload_n C 0 (dk dX3_giveOut_1 0 rfl) rfl rfl ?_
      refine e_iload C 1 (dk dX3_giveOut_1 1 rfl) rfl ?_
      refine e_iload C 2 (dk dX3_giveOut_1 2 rfl) rfl ?_
      obtain ⟨q13, hq13, h⟩ := ob h
      refine e_callV (ci := 3) C cal_X3_bestFrom im_X3_bestFrom se_X3_bestFrom ml_X3_41 rfl hR (by decide) (dk dX3_giveOut_1 3 rfl) (K.1 _ (by rw [ht]; decide)) (ent_o3 ht) (c_X3_bestFrom K ht hq13) ⟨Nat.zero_le _, Nat.zero_le _⟩ (Nat.le_of_ble_eq_true rfl) rfl ?_
      refine e_callSN C cal_X11_put sm_X11_put mn_X3_37 hR (by decide) (dk dX3_giveOut_1 4 rfl) (c_X11_put K (kd_X3_best K ht) (rfl : F_X11_put (t + 2) 1024 ((x4 * 128) + x5) q13 M = _)) ⟨Nat.zero_le _, Nat.zero_le _⟩ (Nat.le_of_ble_eq_true rfl) rfl ?_
      refine e_iinc C [(5, .int (x5 + 1)), (0, .ref (g_N g + t)), (4, .int x4)] 2 1 (dk dX3_giveOut_1 5 rfl) rfl (by decide) (by decide) rfl ?_
      refine e_goto C 103 (dk dX3_giveOut_1 6 rfl) (by decide) ?_
      refine e_lv [1, 2, 0] rfl ?_
      exact ih _ _ _ h hOK
set_option maxRecDepth 20000 in
theorem lb_X3_giveOut_103 {X : FX} {g : WC} {Xo : Nat → va_E} {n : Nat} {kd : Nat → Nat} (C : Cx X g RX3 cX3_giveOut 7) (K : KD n kd) {t : Nat} {w0 : Nat} {w1 : Nat} {w2 : Nat} (ht : kd t = 4) (hw0 : kd w0 = 10) (hw1 : kd w1 = 9) (hw2 : kd w2 = 7) {x4 : Int32} (hR : x_R X = rm 4) {T9 : Type} {f9 : Mem → Option T9} {b9 : T9} (hx : ∀ s, f9 s = some b9 → EW X g (x_s X).heap.size n 7 (ent g Xo kd s) 0 0 141 [(0, .ref (g_N g + t)), (4, .int x4)] []) {x5 : Int32} {M : Mem} (h : (L_X3_giveOut_103 t w0 w1 w2 x4 FU x5 M).bind f9 = some b9) : EW X g (x_s X).heap.size n 7 (ent g Xo kd M) 0 0 103 [(0, .ref (g_N g + t)), (4, .int x4), (5, .int x5)] [] := by
  obtain ⟨q, hq, h⟩ := ob h
  exact l_X3_giveOut_103 C K ht hw0 hw1 hw2 hR (OK := fun q => f9 q = some b9) hx FU x5 M q hq h
set_option maxRecDepth 20000 in
theorem l_X3_giveOut_95 {X : FX} {g : WC} {Xo : Nat → va_E} {n : Nat} {kd : Nat → Nat} (C : Cx X g RX3 cX3_giveOut 7) (K : KD n kd) {t : Nat} {w0 : Nat} {w1 : Nat} {w2 : Nat} (ht : kd t = 4) (hw0 : kd w0 = 10) (hw1 : kd w1 = 9) (hw2 : kd w2 = 7) (hR : x_R X = rm 4) {OK : Mem → Prop} (hx : ∀ s, OK s → EW X g (x_s X).heap.size n 7 (ent g Xo kd s) 0 0 147 [(0, .ref (g_N g + t))] []) : ∀ (N9 : Nat) (x4 : Int32) (M : Mem) (q : Mem), L_X3_giveOut_95 t w0 w1 w2 N9 x4 M = some q → OK q → EW X g (x_s X).heap.size n 7 (ent g Xo kd M) 0 0 95 [(0, .ref (g_N g + t)), (4, .int x4)] [] := by
  intro N9
  induction N9 with
  | zero =>
    intro x4 M q h
    rw [L_X3_giveOut_95.eq_1] at h
    cases h
  | succ m9 ih =>
    intro x4 M q h hOK
    rw [L_X3_giveOut_95.eq_2] at h
    refine e_iload C 1 (dk dX3_giveOut_0 46 rfl) rfl ?_
    refine e_if_lt C 147 (dk dX3_giveOut_0 47 rfl) (by decide) (fun c11 => ?_) (fun c11 => ?_)
    · rw [if_pos c11] at h
      obtain rfl := Option.some.inj h
      refine e_lv [0] rfl ?_
      exact hx _ hOK
    · rw [if_neg c11] at h
      refine e_iconst C 0 (dk dX3_giveOut_0 48 rfl) (by decide) ?_
      refine e_istore C [(5, .int 0), (0, .ref (g_N g + t)), (4, .int x4)] (dk dX3_giveOut_0 49 rfl) (by decide) rfl ?_
      refine e_lv [1, 2, 0] rfl ?_
      refine lb_X3_giveOut_103 C K ht hw0 hw1 hw2 hR (fun s15 h => ?_) h
      refine e_iinc C [(4, .int (x4 + (-1))), (0, .ref (g_N g + t))] 1 (-1) (dk dX3_giveOut_1 7 rfl) rfl (by decide) (by decide) rfl ?_
      refine e_goto C 95 (dk dX3_giveOut_1 8 rfl) (by decide) ?_
      refine e_lv [1, 0] rfl ?_
      exact ih _ _ _ h hOK
set_option maxRecDepth 20000 in
theorem lb_X3_giveOut_95 {X : FX} {g : WC} {Xo : Nat → va_E} {n : Nat} {kd : Nat → Nat} (C : Cx X g RX3 cX3_giveOut 7) (K : KD n kd) {t : Nat} {w0 : Nat} {w1 : Nat} {w2 : Nat} (ht : kd t = 4) (hw0 : kd w0 = 10) (hw1 : kd w1 = 9) (hw2 : kd w2 = 7) (hR : x_R X = rm 4) {T9 : Type} {f9 : Mem → Option T9} {b9 : T9} (hx : ∀ s, f9 s = some b9 → EW X g (x_s X).heap.size n 7 (ent g Xo kd s) 0 0 147 [(0, .ref (g_N g + t))] []) {x4 : Int32} {M : Mem} (h : (L_X3_giveOut_95 t w0 w1 w2 FU x4 M).bind f9 = some b9) : EW X g (x_s X).heap.size n 7 (ent g Xo kd M) 0 0 95 [(0, .ref (g_N g + t)), (4, .int x4)] [] := by
  obtain ⟨q, hq, h⟩ := ob h
  exact l_X3_giveOut_95 C K ht hw0 hw1 hw2 hR (OK := fun q => f9 q = some b9) hx FU x4 M q hq h
set_option maxRecDepth 20000 in
theorem c_X3_giveOut {g : WC} {Xo : Nat → va_E} {n : Nat} {kd : Nat → Nat} (K : KD n kd) {t : Nat} {w0 : Nat} {w1 : Nat} {w2 : Nat} (ht : kd t = 4) (hw0 : kd w0 = 10) (hw1 : kd w1 = 9) (hw2 : kd w2 = 7) {M : Mem} {res : Mem} (h : F_X3_giveOut t w0 w1 w2 M = some res) : MC g yX3_giveOut cX3_giveOut 7 none 4 n [.ref (g_N g + t), .ref (g_N g + w0), .ref (g_N g + w1), .ref (g_N g + w2)] (ent g Xo kd M) none (ent g Xo kd res) := by
  refine MC_of pn_X3 (Nat.le_of_ble_eq_true rfl) (fun X C B => ?_)
  have hR := B.1
  rw [F_X3_giveOut] at h
  refine e_iconst C 0 (dk dX3_giveOut_0 0 rfl) (by decide) ?_
  refine e_istore C [(4, .int 0), (0, .ref (g_N g + t)), (1, .ref (g_N g + w0)), (2, .ref (g_N g + w1)), (3, .ref (g_N g + w2))] (dk dX3_giveOut_0 1 rfl) (by decide) rfl ?_
  refine e_lv [1, 2, 3, 4, 0] rfl ?_
  refine lb_X3_giveOut_3 C K ht hw0 hw1 hw2 hR (fun s10 h => ?_) h
  refine e_bipush C 6 (dk dX3_giveOut_0 44 rfl) (by decide) ?_
  refine e_istore C [(4, .int 6), (0, .ref (g_N g + t))] (dk dX3_giveOut_0 45 rfl) (by decide) rfl ?_
  refine e_lv [1, 0] rfl ?_
  refine lb_X3_giveOut_95 C K ht hw0 hw1 hw2 hR (fun s17 h => ?_) h
  refine e_aload_n C 0 (dk dX3_giveOut_1 9 rfl) rfl rfl ?_
  obtain ⟨q18, hq18, h⟩ := ob h
  refine e_callV (ci := 3) C cal_X3_chooseFirstRow im_X3_chooseFirstRow se_X3_chooseFirstRow ml_X3_45 rfl hR (by decide) (dk dX3_giveOut_1 10 rfl) (K.1 _ (by rw [ht]; decide)) (ent_o3 ht) (c_X3_chooseFirstRow K ht hq18) ⟨Nat.zero_le _, Nat.zero_le _⟩ (Nat.le_of_ble_eq_true rfl) rfl ?_
  obtain rfl := Option.some.inj h
  exact e_vret C B (dk dX3_giveOut_1 11 rfl)
set_option maxRecDepth 20000 in
theorem l_X4_tryWalksOf_43 {X : FX} {g : WC} {Xo : Nat → va_E} {n : Nat} {kd : Nat → Nat} (C : Cx X g RX4 cX4_tryWalksOf 10) (K : KD n kd) {t : Nat} {w1 : Nat} {w2 : Nat} {w3 : Nat} (ht : kd t = 5) (hw1 : kd w1 = 10) (hw2 : kd w2 = 9) (hw3 : kd w3 = 8) {x1 : Int32} {x5 : Int32} {x6 : Int32} {x7 : Int32} {x8 : Int32} (hR : x_R X = rm 5) {OK : Mem → Prop} (hx : ∀ s, OK s → EW X g (x_s X).heap.size n 10 (ent g Xo kd s) 0 0 126 [(0, .ref (g_N g + t)), (1, .int x1), (2, .ref (g_N g + w1)), (3, .ref (g_N g + w2)), (4, .ref (g_N g + w3)), (5, .int x5), (6, .int x6), (7, .int x7), (8, .int x8)] []) : ∀ (N9 : Nat) (x9 : Int32) (M : Mem) (q : Mem), L_X4_tryWalksOf_43 t w1 w2 w3 x1 x5 x6 x7 x8 N9 x9 M = some q → OK q → EW X g (x_s X).heap.size n 10 (ent g Xo kd M) 0 0 43 [(0, .ref (g_N g + t)), (1, .int x1), (2, .ref (g_N g + w1)), (3, .ref (g_N g + w2)), (4, .ref (g_N g + w3)), (5, .int x5), (6, .int x6), (7, .int x7), (8, .int x8), (9, .int x9)] [] := by
  intro N9
  induction N9 with
  | zero =>
    intro x9 M q h
    rw [L_X4_tryWalksOf_43.eq_1] at h
    cases h
  | succ m9 ih =>
    intro x9 M q h hOK
    rw [L_X4_tryWalksOf_43.eq_2] at h
    refine e_iload C 9 (dk dX4_tryWalksOf_0 22 rfl) rfl ?_
    refine e_aload_n C 2 (dk dX4_tryWalksOf_0 23 rfl) rfl rfl ?_
    refine gf_X9_streets C K hw1 fl_X4_64 (dk dX4_tryWalksOf_0 24 rfl) ?_
    refine e_icmp_ge C 126 (dk dX4_tryWalksOf_0 25 rfl) (by decide) (fun c2 => ?_) (fun c2 => ?_)
    · rw [if_pos c2] at h
      obtain rfl := Option.some.inj h
      refine e_lv [0, 1, 2, 3, 4, 5, 6, 7, 8] rfl ?_
      exact hx _ hOK
    · rw [if_neg c2] at h
      refine e_iload C 9 (dk dX4_tryWalksOf_0 26 rfl) rfl ?_
      refine e_iload C 5 (dk dX4_tryWalksOf_0 27 rfl) rfl ?_
      refine e_iload C 8 (dk dX4_tryWalksOf_0 28 rfl) rfl ?_
      refine e_callSN C cal_X11_streetIn sm_X11_streetIn mn_X4_67 hR (by decide) (dk dX4_tryWalksOf_0 29 rfl) (c_X11_streetIn K (rfl : F_X11_streetIn x5 x8 = _)) ⟨Nat.zero_le _, Nat.zero_le _⟩ (Nat.le_of_ble_eq_true rfl) rfl ?_
      refine e_icmp_eq C 120 (dk dX4_tryWalksOf_0 30 rfl) (by decide) (fun c3 => ?_) (fun c3 => ?_)
      · rw [if_pos c3] at h
        refine e_iinc C [(9, .int (x9 + 1)), (0, .ref (g_N g + t)), (1, .int x1), (2, .ref (g_N g + w1)), (3, .ref (g_N g + w2)), (4, .ref (g_N g + w3)), (5, .int x5), (6, .int x6), (7, .int x7), (8, .int x8)] 9 1 (dk dX4_tryWalksOf_1 1 rfl) rfl (by decide) (by decide) rfl ?_
        refine e_goto C 43 (dk dX4_tryWalksOf_1 2 rfl) (by decide) ?_
        refine e_lv [1, 2, 3, 4, 5, 6, 7, 8, 9, 0] rfl ?_
        exact ih _ _ _ h hOK
      · rw [if_neg c3] at h
        refine e_aload_n C 0 (dk dX4_tryWalksOf_0 31 rfl) rfl rfl ?_
        refine gf_X4_nightsSeen C K ht fl_X4_9 (dk dX4_tryWalksOf_0 32 rfl) ?_
        refine e_iload_n C 1 (dk dX4_tryWalksOf_0 33 rfl) rfl rfl ?_
        refine e_aload_n C 2 (dk dX4_tryWalksOf_0 34 rfl) rfl rfl ?_
        refine e_aload_n C 3 (dk dX4_tryWalksOf_0 35 rfl) rfl rfl ?_
        refine e_iload_n C 1 (dk dX4_tryWalksOf_0 36 rfl) rfl rfl ?_
        refine e_iload C 5 (dk dX4_tryWalksOf_0 37 rfl) rfl ?_
        refine e_iload C 8 (dk dX4_tryWalksOf_0 38 rfl) rfl ?_
        refine e_iload C 9 (dk dX4_tryWalksOf_0 39 rfl) rfl ?_
        refine e_callSN C cal_X11_walkWith sm_X11_walkWith mn_X4_71 hR (by decide) (dk dX4_tryWalksOf_0 40 rfl) (c_X11_walkWith K (rfl : F_X11_walkWith x5 x8 x9 = _)) ⟨Nat.zero_le _, Nat.zero_le _⟩ (Nat.le_of_ble_eq_true rfl) rfl ?_
        obtain ⟨q4, hq4, h⟩ := ob h
        refine e_callS C cal_X4_nightsOf sm_X4_nightsOf ml_X4_43 hR (by decide) (dk dX4_tryWalksOf_0 41 rfl) (c_X4_nightsOf K hw1 hw2 hq4) ⟨Nat.zero_le _, Nat.zero_le _⟩ (Nat.le_of_ble_eq_true rfl) rfl ?_
        refine e_callSN C cal_X11_put sm_X11_put mn_X4_47 hR (by decide) (dk dX4_tryWalksOf_0 42 rfl) (c_X11_put K (kd_X4_nightsSeen K ht) (rfl : F_X11_put (t + 1) 7 x1 q4 M = _)) ⟨Nat.zero_le _, Nat.zero_le _⟩ (Nat.le_of_ble_eq_true rfl) rfl ?_
        refine e_aload C 4 (dk dX4_tryWalksOf_0 43 rfl) rfl ?_
        refine e_aload_n C 0 (dk dX4_tryWalksOf_0 44 rfl) rfl rfl ?_
        refine gf_X4_nightsSeen C K ht fl_X4_9 (dk dX4_tryWalksOf_0 45 rfl) ?_
        obtain ⟨q5, hq5, h⟩ := ob h
        refine e_callV (ci := 7) C cal_X7_holds im_X7_holds se_X7_holds ml_X4_51 rfl hR (by decide) (dk dX4_tryWalksOf_0 46 rfl) (K.1 _ (by rw [hw3]; decide)) (ent_o7 hw3) (c_X7_holds K hw3 (kd_X4_nightsSeen K ht) hq5) ⟨Nat.zero_le _, Nat.zero_le _⟩ (Nat.le_of_ble_eq_true rfl) rfl ?_
        refine e_if_eq C 120 (dk dX4_tryWalksOf_0 47 rfl) (by decide) (fun c6 => ?_) (fun c6 => ?_)
        · rw [if_pos c6] at h
          refine e_iinc C [(9, .int (x9 + 1)), (0, .ref (g_N g + t)), (1, .int x1), (2, .ref (g_N g + w1)), (3, .ref (g_N g + w2)), (4, .ref (g_N g + w3)), (5, .int x5), (6, .int x6), (7, .int x7), (8, .int x8)] 9 1 (dk dX4_tryWalksOf_1 1 rfl) rfl (by decide) (by decide) rfl ?_
          refine e_goto C 43 (dk dX4_tryWalksOf_1 2 rfl) (by decide) ?_
          refine e_lv [1, 2, 3, 4, 5, 6, 7, 8, 9, 0] rfl ?_
          exact ih _ _ _ h hOK
        · rw [if_neg c6] at h
          refine e_aload_n C 0 (dk dX4_tryWalksOf_0 48 rfl) rfl rfl ?_
          refine e_bipush C 100 (dk dX4_tryWalksOf_0 49 rfl) (by decide) ?_
          refine e_iload_n C 1 (dk dX4_tryWalksOf_0 50 rfl) rfl rfl ?_
          refine e_imul C (dk dX4_tryWalksOf_0 51 rfl) ?_
          refine e_bipush C 10 (dk dX4_tryWalksOf_0 52 rfl) (by decide) ?_
          refine e_iload C 8 (dk dX4_tryWalksOf_0 53 rfl) rfl ?_
          refine e_imul C (dk dX4_tryWalksOf_0 54 rfl) ?_
          refine e_iadd C (dk dX4_tryWalksOf_0 55 rfl) ?_
          refine e_iload C 9 (dk dX4_tryWalksOf_0 56 rfl) rfl ?_
          refine e_iadd C (dk dX4_tryWalksOf_0 57 rfl) ?_
          refine e_aload_n C 2 (dk dX4_tryWalksOf_0 58 rfl) rfl rfl ?_
          refine gf_X9_people C K hw1 fl_X4_29 (dk dX4_tryWalksOf_0 59 rfl) ?_
          obtain ⟨q7, hq7, h⟩ := ob h
          refine e_callV (ci := 4) C cal_X4_note im_X4_note se_X4_note ml_X4_75 rfl hR (by decide) (dk dX4_tryWalksOf_1 0 rfl) (K.1 _ (by rw [ht]; decide)) (ent_o4 ht) (c_X4_note K ht hq7) ⟨Nat.zero_le _, Nat.zero_le _⟩ (Nat.le_of_ble_eq_true rfl) rfl ?_
          refine e_iinc C [(9, .int (x9 + 1)), (0, .ref (g_N g + t)), (1, .int x1), (2, .ref (g_N g + w1)), (3, .ref (g_N g + w2)), (4, .ref (g_N g + w3)), (5, .int x5), (6, .int x6), (7, .int x7), (8, .int x8)] 9 1 (dk dX4_tryWalksOf_1 1 rfl) rfl (by decide) (by decide) rfl ?_
          refine e_goto C 43 (dk dX4_tryWalksOf_1 2 rfl) (by decide) ?_
          refine e_lv [1, 2, 3, 4, 5, 6, 7, 8, 9, 0] rfl ?_
          exact ih _ _ _ h hOK
set_option maxRecDepth 20000 in
theorem lb_X4_tryWalksOf_43 {X : FX} {g : WC} {Xo : Nat → va_E} {n : Nat} {kd : Nat → Nat} (C : Cx X g RX4 cX4_tryWalksOf 10) (K : KD n kd) {t : Nat} {w1 : Nat} {w2 : Nat} {w3 : Nat} (ht : kd t = 5) (hw1 : kd w1 = 10) (hw2 : kd w2 = 9) (hw3 : kd w3 = 8) {x1 : Int32} {x5 : Int32} {x6 : Int32} {x7 : Int32} {x8 : Int32} (hR : x_R X = rm 5) {T9 : Type} {f9 : Mem → Option T9} {b9 : T9} (hx : ∀ s, f9 s = some b9 → EW X g (x_s X).heap.size n 10 (ent g Xo kd s) 0 0 126 [(0, .ref (g_N g + t)), (1, .int x1), (2, .ref (g_N g + w1)), (3, .ref (g_N g + w2)), (4, .ref (g_N g + w3)), (5, .int x5), (6, .int x6), (7, .int x7), (8, .int x8)] []) {x9 : Int32} {M : Mem} (h : (L_X4_tryWalksOf_43 t w1 w2 w3 x1 x5 x6 x7 x8 FU x9 M).bind f9 = some b9) : EW X g (x_s X).heap.size n 10 (ent g Xo kd M) 0 0 43 [(0, .ref (g_N g + t)), (1, .int x1), (2, .ref (g_N g + w1)), (3, .ref (g_N g + w2)), (4, .ref (g_N g + w3)), (5, .int x5), (6, .int x6), (7, .int x7), (8, .int x8), (9, .int x9)] [] := by
  obtain ⟨q, hq, h⟩ := ob h
  exact l_X4_tryWalksOf_43 C K ht hw1 hw2 hw3 hR (OK := fun q => f9 q = some b9) hx FU x9 M q hq h
set_option maxRecDepth 20000 in
theorem l_X4_tryWalksOf_33 {X : FX} {g : WC} {Xo : Nat → va_E} {n : Nat} {kd : Nat → Nat} (C : Cx X g RX4 cX4_tryWalksOf 10) (K : KD n kd) {t : Nat} {w1 : Nat} {w2 : Nat} {w3 : Nat} (ht : kd t = 5) (hw1 : kd w1 = 10) (hw2 : kd w2 = 9) (hw3 : kd w3 = 8) {x1 : Int32} {x5 : Int32} {x6 : Int32} {x7 : Int32} (hR : x_R X = rm 5) {OK : Mem → Prop} (hx : ∀ s, OK s → EW X g (x_s X).heap.size n 10 (ent g Xo kd s) 0 0 132 [(0, .ref (g_N g + t)), (1, .int x1), (6, .int x6)] []) : ∀ (N9 : Nat) (x8 : Int32) (M : Mem) (q : Mem), L_X4_tryWalksOf_33 t w1 w2 w3 x1 x5 x6 x7 N9 x8 M = some q → OK q → EW X g (x_s X).heap.size n 10 (ent g Xo kd M) 0 0 33 [(0, .ref (g_N g + t)), (1, .int x1), (2, .ref (g_N g + w1)), (3, .ref (g_N g + w2)), (4, .ref (g_N g + w3)), (5, .int x5), (6, .int x6), (7, .int x7), (8, .int x8)] [] := by
  intro N9
  induction N9 with
  | zero =>
    intro x8 M q h
    rw [L_X4_tryWalksOf_33.eq_1] at h
    cases h
  | succ m9 ih =>
    intro x8 M q h hOK
    rw [L_X4_tryWalksOf_33.eq_2] at h
    refine e_iload C 8 (dk dX4_tryWalksOf_0 17 rfl) rfl ?_
    refine e_iload C 7 (dk dX4_tryWalksOf_0 18 rfl) rfl ?_
    refine e_icmp_ge C 132 (dk dX4_tryWalksOf_0 19 rfl) (by decide) (fun c1 => ?_) (fun c1 => ?_)
    · rw [if_pos c1] at h
      obtain rfl := Option.some.inj h
      refine e_lv [0, 1, 6] rfl ?_
      exact hx _ hOK
    · rw [if_neg c1] at h
      refine e_iconst C 0 (dk dX4_tryWalksOf_0 20 rfl) (by decide) ?_
      refine e_istore C [(9, .int 0), (0, .ref (g_N g + t)), (1, .int x1), (2, .ref (g_N g + w1)), (3, .ref (g_N g + w2)), (4, .ref (g_N g + w3)), (5, .int x5), (6, .int x6), (7, .int x7), (8, .int x8)] (dk dX4_tryWalksOf_0 21 rfl) (by decide) rfl ?_
      refine e_lv [1, 2, 3, 4, 5, 6, 7, 8, 9, 0] rfl ?_
      refine lb_X4_tryWalksOf_43 C K ht hw1 hw2 hw3 hR (fun s9 h => ?_) h
      refine e_iinc C [(8, .int (x8 + 1)), (0, .ref (g_N g + t)), (1, .int x1), (2, .ref (g_N g + w1)), (3, .ref (g_N g + w2)), (4, .ref (g_N g + w3)), (5, .int x5), (6, .int x6), (7, .int x7)] 8 1 (dk dX4_tryWalksOf_1 3 rfl) rfl (by decide) (by decide) rfl ?_
      refine e_goto C 33 (dk dX4_tryWalksOf_1 4 rfl) (by decide) ?_
      refine e_lv [1, 2, 3, 4, 5, 6, 7, 8, 0] rfl ?_
      exact ih _ _ _ h hOK
set_option maxRecDepth 20000 in
theorem lb_X4_tryWalksOf_33 {X : FX} {g : WC} {Xo : Nat → va_E} {n : Nat} {kd : Nat → Nat} (C : Cx X g RX4 cX4_tryWalksOf 10) (K : KD n kd) {t : Nat} {w1 : Nat} {w2 : Nat} {w3 : Nat} (ht : kd t = 5) (hw1 : kd w1 = 10) (hw2 : kd w2 = 9) (hw3 : kd w3 = 8) {x1 : Int32} {x5 : Int32} {x6 : Int32} {x7 : Int32} (hR : x_R X = rm 5) {T9 : Type} {f9 : Mem → Option T9} {b9 : T9} (hx : ∀ s, f9 s = some b9 → EW X g (x_s X).heap.size n 10 (ent g Xo kd s) 0 0 132 [(0, .ref (g_N g + t)), (1, .int x1), (6, .int x6)] []) {x8 : Int32} {M : Mem} (h : (L_X4_tryWalksOf_33 t w1 w2 w3 x1 x5 x6 x7 FU x8 M).bind f9 = some b9) : EW X g (x_s X).heap.size n 10 (ent g Xo kd M) 0 0 33 [(0, .ref (g_N g + t)), (1, .int x1), (2, .ref (g_N g + w1)), (3, .ref (g_N g + w2)), (4, .ref (g_N g + w3)), (5, .int x5), (6, .int x6), (7, .int x7), (8, .int x8)] [] := by
  obtain ⟨q, hq, h⟩ := ob h
  exact l_X4_tryWalksOf_33 C K ht hw1 hw2 hw3 hR (OK := fun q => f9 q = some b9) hx FU x8 M q hq h
set_option maxRecDepth 20000 in
theorem c_X4_tryWalksOf {g : WC} {Xo : Nat → va_E} {n : Nat} {kd : Nat → Nat} (K : KD n kd) {t : Nat} {p0 : Int32} {w1 : Nat} {w2 : Nat} {w3 : Nat} (ht : kd t = 5) (hw1 : kd w1 = 10) (hw2 : kd w2 = 9) (hw3 : kd w3 = 8) {M : Mem} {res : Mem} (h : F_X4_tryWalksOf t p0 w1 w2 w3 M = some res) : MC g yX4_tryWalksOf cX4_tryWalksOf 10 none 5 n [.ref (g_N g + t), .int p0, .ref (g_N g + w1), .ref (g_N g + w2), .ref (g_N g + w3)] (ent g Xo kd M) none (ent g Xo kd res) := by
  refine MC_of pn_X4 (Nat.le_of_ble_eq_true rfl) (fun X C B => ?_)
  have hR := B.1
  rw [F_X4_tryWalksOf] at h
  refine e_aload_n C 3 (dk dX4_tryWalksOf_0 0 rfl) rfl rfl ?_
  refine gf_X8_walks C K hw2 fl_X4_34 (dk dX4_tryWalksOf_0 1 rfl) ?_
  refine e_iload_n C 1 (dk dX4_tryWalksOf_0 2 rfl) rfl rfl ?_
  refine e_callSN C cal_X11_at sm_X11_at mn_X4_39 hR (by decide) (dk dX4_tryWalksOf_0 3 rfl) (c_X11_at K (kd_X8_walks K hw2) (rfl : F_X11_at (w2 + 3) 7 p0 M = _)) ⟨Nat.zero_le _, Nat.zero_le _⟩ (Nat.le_of_ble_eq_true rfl) rfl ?_
  refine e_istore C [(5, .int (F_X11_at (w2 + 3) 7 p0 M)), (0, .ref (g_N g + t)), (1, .int p0), (2, .ref (g_N g + w1)), (3, .ref (g_N g + w2)), (4, .ref (g_N g + w3))] (dk dX4_tryWalksOf_0 4 rfl) (by decide) rfl ?_
  refine e_aload_n C 1 (dk dX4_tryWalksOf_0 5 rfl) rfl rfl ?_
  refine gf_X4_nightsSeen C K ht fl_X4_9 (dk dX4_tryWalksOf_0 6 rfl) ?_
  refine e_iload_n C 2 (dk dX4_tryWalksOf_0 7 rfl) rfl rfl ?_
  refine e_callSN C cal_X11_at sm_X11_at mn_X4_39 hR (by decide) (dk dX4_tryWalksOf_0 8 rfl) (c_X11_at K (kd_X4_nightsSeen K ht) (rfl : F_X11_at (t + 1) 7 p0 M = _)) ⟨Nat.zero_le _, Nat.zero_le _⟩ (Nat.le_of_ble_eq_true rfl) rfl ?_
  refine e_istore C [(6, .int (F_X11_at (t + 1) 7 p0 M)), (5, .int (F_X11_at (w2 + 3) 7 p0 M)), (0, .ref (g_N g + t)), (1, .int p0), (2, .ref (g_N g + w1)), (3, .ref (g_N g + w2)), (4, .ref (g_N g + w3))] (dk dX4_tryWalksOf_0 9 rfl) (by decide) rfl ?_
  refine e_aload_n C 4 (dk dX4_tryWalksOf_0 10 rfl) rfl rfl ?_
  refine gf_X9_lengths C K hw1 fl_X4_61 (dk dX4_tryWalksOf_0 11 rfl) ?_
  refine e_iload_n C 3 (dk dX4_tryWalksOf_0 12 rfl) rfl rfl ?_
  refine e_callSN C cal_X11_at sm_X11_at mn_X4_39 hR (by decide) (dk dX4_tryWalksOf_0 13 rfl) (c_X11_at K (kd_X9_lengths K hw1) (rfl : F_X11_at (w1 + 4) 7 p0 M = _)) ⟨Nat.zero_le _, Nat.zero_le _⟩ (Nat.le_of_ble_eq_true rfl) rfl ?_
  refine e_istore C [(7, .int (F_X11_at (w1 + 4) 7 p0 M)), (6, .int (F_X11_at (t + 1) 7 p0 M)), (5, .int (F_X11_at (w2 + 3) 7 p0 M)), (0, .ref (g_N g + t)), (1, .int p0), (2, .ref (g_N g + w1)), (3, .ref (g_N g + w2)), (4, .ref (g_N g + w3))] (dk dX4_tryWalksOf_0 14 rfl) (by decide) rfl ?_
  refine e_iconst C 0 (dk dX4_tryWalksOf_0 15 rfl) (by decide) ?_
  refine e_istore C [(8, .int 0), (7, .int (F_X11_at (w1 + 4) 7 p0 M)), (6, .int (F_X11_at (t + 1) 7 p0 M)), (5, .int (F_X11_at (w2 + 3) 7 p0 M)), (0, .ref (g_N g + t)), (1, .int p0), (2, .ref (g_N g + w1)), (3, .ref (g_N g + w2)), (4, .ref (g_N g + w3))] (dk dX4_tryWalksOf_0 16 rfl) (by decide) rfl ?_
  refine e_lv [4, 5, 6, 7, 8, 3, 2, 1, 0] rfl ?_
  refine lb_X4_tryWalksOf_33 C K ht hw1 hw2 hw3 hR (fun s11 h => ?_) h
  refine e_aload_n C 0 (dk dX4_tryWalksOf_1 5 rfl) rfl rfl ?_
  refine gf_X4_nightsSeen C K ht fl_X4_9 (dk dX4_tryWalksOf_1 6 rfl) ?_
  refine e_iload_n C 1 (dk dX4_tryWalksOf_1 7 rfl) rfl rfl ?_
  refine e_iload C 2 (dk dX4_tryWalksOf_1 8 rfl) rfl ?_
  refine e_callSN C cal_X11_put sm_X11_put mn_X4_47 hR (by decide) (dk dX4_tryWalksOf_1 9 rfl) (c_X11_put K (kd_X4_nightsSeen K ht) (rfl : F_X11_put (t + 1) 7 p0 (F_X11_at (t + 1) 7 p0 M) s11 = _)) ⟨Nat.zero_le _, Nat.zero_le _⟩ (Nat.le_of_ble_eq_true rfl) rfl ?_
  obtain rfl := Option.some.inj h
  exact e_vret C B (dk dX4_tryWalksOf_1 10 rfl)
set_option maxRecDepth 20000 in
theorem l_X4_scan_13 {X : FX} {g : WC} {Xo : Nat → va_E} {n : Nat} {kd : Nat → Nat} (C : Cx X g RX4 cX4_scan 5) (K : KD n kd) {t : Nat} {w0 : Nat} {w1 : Nat} {w2 : Nat} (ht : kd t = 5) (hw0 : kd w0 = 10) (hw1 : kd w1 = 9) (hw2 : kd w2 = 8) (hR : x_R X = rm 6) {OK : Mem → Prop} (hx : ∀ s, OK s → EW X g (x_s X).heap.size n 5 (ent g Xo kd s) 0 0 37 [(0, .ref (g_N g + t)), (1, .ref (g_N g + w0)), (2, .ref (g_N g + w1)), (3, .ref (g_N g + w2))] []) : ∀ (N9 : Nat) (x4 : Int32) (M : Mem) (q : Mem), L_X4_scan_13 t w0 w1 w2 N9 x4 M = some q → OK q → EW X g (x_s X).heap.size n 5 (ent g Xo kd M) 0 0 13 [(0, .ref (g_N g + t)), (1, .ref (g_N g + w0)), (2, .ref (g_N g + w1)), (3, .ref (g_N g + w2)), (4, .int x4)] [] := by
  intro N9
  induction N9 with
  | zero =>
    intro x4 M q h
    rw [L_X4_scan_13.eq_1] at h
    cases h
  | succ m9 ih =>
    intro x4 M q h hOK
    rw [L_X4_scan_13.eq_2] at h
    refine e_iload C 4 (dk dX4_scan_0 8 rfl) rfl ?_
    refine e_aload_n C 0 (dk dX4_scan_0 9 rfl) rfl rfl ?_
    refine gf_X4_marks C K ht fl_X4_15 (dk dX4_scan_0 10 rfl) ?_
    refine m_alen C K (kd_X4_marks K ht) 48 (by decide) (dk dX4_scan_0 11 rfl) ?_
    refine e_icmp_ge C 37 (dk dX4_scan_0 12 rfl) (by decide) (fun c1 => ?_) (fun c1 => ?_)
    · rw [if_pos c1] at h
      obtain rfl := Option.some.inj h
      refine e_lv [0, 1, 2, 3] rfl ?_
      exact hx _ hOK
    · rw [if_neg c1] at h
      refine e_aload_n C 0 (dk dX4_scan_0 13 rfl) rfl rfl ?_
      refine gf_X4_marks C K ht fl_X4_15 (dk dX4_scan_0 14 rfl) ?_
      refine e_iload C 4 (dk dX4_scan_0 15 rfl) rfl ?_
      refine e_iconst C 0 (dk dX4_scan_0 16 rfl) (by decide) ?_
      obtain ⟨M2, hM2, h⟩ := ob h
      refine m_ast C K (kd_X4_marks K ht) (dk dX4_scan_0 17 rfl) hM2 ?_
      refine e_iinc C [(4, .int (x4 + 1)), (0, .ref (g_N g + t)), (1, .ref (g_N g + w0)), (2, .ref (g_N g + w1)), (3, .ref (g_N g + w2))] 4 1 (dk dX4_scan_0 18 rfl) rfl (by decide) (by decide) rfl ?_
      refine e_goto C 13 (dk dX4_scan_0 19 rfl) (by decide) ?_
      refine e_lv [1, 2, 3, 4, 0] rfl ?_
      exact ih _ _ _ h hOK
set_option maxRecDepth 20000 in
theorem lb_X4_scan_13 {X : FX} {g : WC} {Xo : Nat → va_E} {n : Nat} {kd : Nat → Nat} (C : Cx X g RX4 cX4_scan 5) (K : KD n kd) {t : Nat} {w0 : Nat} {w1 : Nat} {w2 : Nat} (ht : kd t = 5) (hw0 : kd w0 = 10) (hw1 : kd w1 = 9) (hw2 : kd w2 = 8) (hR : x_R X = rm 6) {T9 : Type} {f9 : Mem → Option T9} {b9 : T9} (hx : ∀ s, f9 s = some b9 → EW X g (x_s X).heap.size n 5 (ent g Xo kd s) 0 0 37 [(0, .ref (g_N g + t)), (1, .ref (g_N g + w0)), (2, .ref (g_N g + w1)), (3, .ref (g_N g + w2))] []) {x4 : Int32} {M : Mem} (h : (L_X4_scan_13 t w0 w1 w2 FU x4 M).bind f9 = some b9) : EW X g (x_s X).heap.size n 5 (ent g Xo kd M) 0 0 13 [(0, .ref (g_N g + t)), (1, .ref (g_N g + w0)), (2, .ref (g_N g + w1)), (3, .ref (g_N g + w2)), (4, .int x4)] [] := by
  obtain ⟨q, hq, h⟩ := ob h
  exact l_X4_scan_13 C K ht hw0 hw1 hw2 hR (OK := fun q => f9 q = some b9) hx FU x4 M q hq h
set_option maxRecDepth 20000 in
theorem l_X4_scan_40 {X : FX} {g : WC} {Xo : Nat → va_E} {n : Nat} {kd : Nat → Nat} (C : Cx X g RX4 cX4_scan 5) (K : KD n kd) {t : Nat} {w0 : Nat} {w1 : Nat} {w2 : Nat} (ht : kd t = 5) (hw0 : kd w0 = 10) (hw1 : kd w1 = 9) (hw2 : kd w2 = 8) (hR : x_R X = rm 6) {OK : Mem → Prop} (hx : ∀ s, OK s → EW X g (x_s X).heap.size n 5 (ent g Xo kd s) 0 0 80 [(0, .ref (g_N g + t)), (1, .ref (g_N g + w0)), (2, .ref (g_N g + w1)), (3, .ref (g_N g + w2))] []) : ∀ (N9 : Nat) (x4 : Int32) (M : Mem) (q : Mem), L_X4_scan_40 t w0 w1 w2 N9 x4 M = some q → OK q → EW X g (x_s X).heap.size n 5 (ent g Xo kd M) 0 0 40 [(0, .ref (g_N g + t)), (1, .ref (g_N g + w0)), (2, .ref (g_N g + w1)), (3, .ref (g_N g + w2)), (4, .int x4)] [] := by
  intro N9
  induction N9 with
  | zero =>
    intro x4 M q h
    rw [L_X4_scan_40.eq_1] at h
    cases h
  | succ m9 ih =>
    intro x4 M q h hOK
    rw [L_X4_scan_40.eq_2] at h
    refine e_iload C 4 (dk dX4_scan_0 22 rfl) rfl ?_
    refine e_aload_n C 1 (dk dX4_scan_0 23 rfl) rfl rfl ?_
    refine gf_X9_people C K hw0 fl_X4_29 (dk dX4_scan_0 24 rfl) ?_
    refine e_icmp_ge C 80 (dk dX4_scan_0 25 rfl) (by decide) (fun c5 => ?_) (fun c5 => ?_)
    · rw [if_pos c5] at h
      obtain rfl := Option.some.inj h
      refine e_lv [0, 1, 2, 3] rfl ?_
      exact hx _ hOK
    · rw [if_neg c5] at h
      refine e_aload_n C 0 (dk dX4_scan_0 26 rfl) rfl rfl ?_
      refine gf_X4_nightsSeen C K ht fl_X4_9 (dk dX4_scan_0 27 rfl) ?_
      refine e_iload C 4 (dk dX4_scan_0 28 rfl) rfl ?_
      refine e_aload_n C 1 (dk dX4_scan_0 29 rfl) rfl rfl ?_
      refine e_aload_n C 2 (dk dX4_scan_0 30 rfl) rfl rfl ?_
      refine e_iload C 4 (dk dX4_scan_0 31 rfl) rfl ?_
      refine e_aload_n C 2 (dk dX4_scan_0 32 rfl) rfl rfl ?_
      refine gf_X8_walks C K hw1 fl_X4_34 (dk dX4_scan_0 33 rfl) ?_
      refine e_iload C 4 (dk dX4_scan_0 34 rfl) rfl ?_
      refine e_callSN C cal_X11_at sm_X11_at mn_X4_39 hR (by decide) (dk dX4_scan_0 35 rfl) (c_X11_at K (kd_X8_walks K hw1) (rfl : F_X11_at (w1 + 3) 7 x4 M = _)) ⟨Nat.zero_le _, Nat.zero_le _⟩ (Nat.le_of_ble_eq_true rfl) rfl ?_
      obtain ⟨q6, hq6, h⟩ := ob h
      refine e_callS C cal_X4_nightsOf sm_X4_nightsOf ml_X4_43 hR (by decide) (dk dX4_scan_0 36 rfl) (c_X4_nightsOf K hw0 hw1 hq6) ⟨Nat.zero_le _, Nat.zero_le _⟩ (Nat.le_of_ble_eq_true rfl) rfl ?_
      refine e_callSN C cal_X11_put sm_X11_put mn_X4_47 hR (by decide) (dk dX4_scan_0 37 rfl) (c_X11_put K (kd_X4_nightsSeen K ht) (rfl : F_X11_put (t + 1) 7 x4 q6 M = _)) ⟨Nat.zero_le _, Nat.zero_le _⟩ (Nat.le_of_ble_eq_true rfl) rfl ?_
      refine e_iinc C [(4, .int (x4 + 1)), (0, .ref (g_N g + t)), (1, .ref (g_N g + w0)), (2, .ref (g_N g + w1)), (3, .ref (g_N g + w2))] 4 1 (dk dX4_scan_0 38 rfl) rfl (by decide) (by decide) rfl ?_
      refine e_goto C 40 (dk dX4_scan_0 39 rfl) (by decide) ?_
      refine e_lv [1, 2, 3, 4, 0] rfl ?_
      exact ih _ _ _ h hOK
set_option maxRecDepth 20000 in
theorem lb_X4_scan_40 {X : FX} {g : WC} {Xo : Nat → va_E} {n : Nat} {kd : Nat → Nat} (C : Cx X g RX4 cX4_scan 5) (K : KD n kd) {t : Nat} {w0 : Nat} {w1 : Nat} {w2 : Nat} (ht : kd t = 5) (hw0 : kd w0 = 10) (hw1 : kd w1 = 9) (hw2 : kd w2 = 8) (hR : x_R X = rm 6) {T9 : Type} {f9 : Mem → Option T9} {b9 : T9} (hx : ∀ s, f9 s = some b9 → EW X g (x_s X).heap.size n 5 (ent g Xo kd s) 0 0 80 [(0, .ref (g_N g + t)), (1, .ref (g_N g + w0)), (2, .ref (g_N g + w1)), (3, .ref (g_N g + w2))] []) {x4 : Int32} {M : Mem} (h : (L_X4_scan_40 t w0 w1 w2 FU x4 M).bind f9 = some b9) : EW X g (x_s X).heap.size n 5 (ent g Xo kd M) 0 0 40 [(0, .ref (g_N g + t)), (1, .ref (g_N g + w0)), (2, .ref (g_N g + w1)), (3, .ref (g_N g + w2)), (4, .int x4)] [] := by
  obtain ⟨q, hq, h⟩ := ob h
  exact l_X4_scan_40 C K ht hw0 hw1 hw2 hR (OK := fun q => f9 q = some b9) hx FU x4 M q hq h
set_option maxRecDepth 20000 in
theorem l_X4_scan_95 {X : FX} {g : WC} {Xo : Nat → va_E} {n : Nat} {kd : Nat → Nat} (C : Cx X g RX4 cX4_scan 5) (K : KD n kd) {t : Nat} {w0 : Nat} {w1 : Nat} {w2 : Nat} (ht : kd t = 5) (hw0 : kd w0 = 10) (hw1 : kd w1 = 9) (hw2 : kd w2 = 8) (hR : x_R X = rm 6) {OK : Mem → Prop} (hx : ∀ s, OK s → EW X g (x_s X).heap.size n 5 (ent g Xo kd s) 0 0 119 [] []) : ∀ (N9 : Nat) (x4 : Int32) (M : Mem) (q : Mem), L_X4_scan_95 t w0 w1 w2 N9 x4 M = some q → OK q → EW X g (x_s X).heap.size n 5 (ent g Xo kd M) 0 0 95 [(0, .ref (g_N g + t)), (1, .ref (g_N g + w0)), (2, .ref (g_N g + w1)), (3, .ref (g_N g + w2)), (4, .int x4)] [] := by
  intro N9
  induction N9 with
  | zero =>
    intro x4 M q h
    rw [L_X4_scan_95.eq_1] at h
    cases h
  | succ m9 ih =>
    intro x4 M q h hOK
    rw [L_X4_scan_95.eq_2] at h
    refine e_iload C 4 (dk dX4_scan_0 48 rfl) rfl ?_
    refine e_aload_n C 1 (dk dX4_scan_0 49 rfl) rfl rfl ?_
    refine gf_X9_people C K hw0 fl_X4_29 (dk dX4_scan_0 50 rfl) ?_
    refine e_icmp_ge C 119 (dk dX4_scan_0 51 rfl) (by decide) (fun c10 => ?_) (fun c10 => ?_)
    · rw [if_pos c10] at h
      obtain rfl := Option.some.inj h
      refine e_lv [] rfl ?_
      exact hx _ hOK
    · rw [if_neg c10] at h
      refine e_aload_n C 0 (dk dX4_scan_0 52 rfl) rfl rfl ?_
      refine e_iload C 4 (dk dX4_scan_0 53 rfl) rfl ?_
      refine e_aload_n C 1 (dk dX4_scan_0 54 rfl) rfl rfl ?_
      refine e_aload_n C 2 (dk dX4_scan_0 55 rfl) rfl rfl ?_
      refine e_aload_n C 3 (dk dX4_scan_0 56 rfl) rfl rfl ?_
      obtain ⟨q11, hq11, h⟩ := ob h
      refine e_callV (ci := 4) C cal_X4_tryWalksOf im_X4_tryWalksOf se_X4_tryWalksOf ml_X4_57 rfl hR (by decide) (dk dX4_scan_0 57 rfl) (K.1 _ (by rw [ht]; decide)) (ent_o4 ht) (c_X4_tryWalksOf K ht hw0 hw1 hw2 hq11) ⟨Nat.zero_le _, Nat.zero_le _⟩ (Nat.le_of_ble_eq_true rfl) rfl ?_
      refine e_iinc C [(4, .int (x4 + 1)), (0, .ref (g_N g + t)), (1, .ref (g_N g + w0)), (2, .ref (g_N g + w1)), (3, .ref (g_N g + w2))] 4 1 (dk dX4_scan_0 58 rfl) rfl (by decide) (by decide) rfl ?_
      refine e_goto C 95 (dk dX4_scan_0 59 rfl) (by decide) ?_
      refine e_lv [1, 2, 3, 4, 0] rfl ?_
      exact ih _ _ _ h hOK
set_option maxRecDepth 20000 in
theorem lb_X4_scan_95 {X : FX} {g : WC} {Xo : Nat → va_E} {n : Nat} {kd : Nat → Nat} (C : Cx X g RX4 cX4_scan 5) (K : KD n kd) {t : Nat} {w0 : Nat} {w1 : Nat} {w2 : Nat} (ht : kd t = 5) (hw0 : kd w0 = 10) (hw1 : kd w1 = 9) (hw2 : kd w2 = 8) (hR : x_R X = rm 6) {T9 : Type} {f9 : Mem → Option T9} {b9 : T9} (hx : ∀ s, f9 s = some b9 → EW X g (x_s X).heap.size n 5 (ent g Xo kd s) 0 0 119 [] []) {x4 : Int32} {M : Mem} (h : (L_X4_scan_95 t w0 w1 w2 FU x4 M).bind f9 = some b9) : EW X g (x_s X).heap.size n 5 (ent g Xo kd M) 0 0 95 [(0, .ref (g_N g + t)), (1, .ref (g_N g + w0)), (2, .ref (g_N g + w1)), (3, .ref (g_N g + w2)), (4, .int x4)] [] := by
  obtain ⟨q, hq, h⟩ := ob h
  exact l_X4_scan_95 C K ht hw0 hw1 hw2 hR (OK := fun q => f9 q = some b9) hx FU x4 M q hq h
set_option maxRecDepth 20000 in
theorem c_X4_scan {g : WC} {Xo : Nat → va_E} {n : Nat} {kd : Nat → Nat} (K : KD n kd) {t : Nat} {w0 : Nat} {w1 : Nat} {w2 : Nat} (ht : kd t = 5) (hw0 : kd w0 = 10) (hw1 : kd w1 = 9) (hw2 : kd w2 = 8) {M : Mem} {res : Mem} (h : F_X4_scan t w0 w1 w2 M = some res) : MC g yX4_scan cX4_scan 5 none 6 n [.ref (g_N g + t), .ref (g_N g + w0), .ref (g_N g + w1), .ref (g_N g + w2)] (ent g Xo kd M) none (ent g Xo kd res) := by
  refine MC_of pn_X4 (Nat.le_of_ble_eq_true rfl) (fun X C B => ?_)
  have hR := B.1
  rw [F_X4_scan] at h
  refine e_aload_n C 0 (dk dX4_scan_0 0 rfl) rfl rfl ?_
  refine e_iconst C 0 (dk dX4_scan_0 1 rfl) (by decide) ?_
  refine pf_X4_count C K ht fl_X4_18 (dk dX4_scan_0 2 rfl) ?_
  refine e_aload_n C 0 (dk dX4_scan_0 3 rfl) rfl rfl ?_
  refine e_iconst C (-1) (dk dX4_scan_0 4 rfl) (by decide) ?_
  refine pf_X4_first C K ht fl_X4_22 (dk dX4_scan_0 5 rfl) ?_
  refine e_iconst C 0 (dk dX4_scan_0 6 rfl) (by decide) ?_
  refine e_istore C [(4, .int 0), (0, .ref (g_N g + t)), (1, .ref (g_N g + w0)), (2, .ref (g_N g + w1)), (3, .ref (g_N g + w2))] (dk dX4_scan_0 7 rfl) (by decide) rfl ?_
  refine e_lv [1, 2, 3, 4, 0] rfl ?_
  refine lb_X4_scan_13 C K ht hw0 hw1 hw2 hR (fun s4 h => ?_) h
  refine e_iconst C 0 (dk dX4_scan_0 20 rfl) (by decide) ?_
  refine e_istore C [(4, .int 0), (0, .ref (g_N g + t)), (1, .ref (g_N g + w0)), (2, .ref (g_N g + w1)), (3, .ref (g_N g + w2))] (dk dX4_scan_0 21 rfl) (by decide) rfl ?_
  refine e_lv [1, 2, 3, 4, 0] rfl ?_
  refine lb_X4_scan_40 C K ht hw0 hw1 hw2 hR (fun s8 h => ?_) h
  refine e_aload_n C 0 (dk dX4_scan_0 40 rfl) rfl rfl ?_
  refine e_aload_n C 3 (dk dX4_scan_0 41 rfl) rfl rfl ?_
  refine e_aload_n C 0 (dk dX4_scan_0 42 rfl) rfl rfl ?_
  refine gf_X4_nightsSeen C K ht fl_X4_9 (dk dX4_scan_0 43 rfl) ?_
  obtain ⟨q9, hq9, h⟩ := ob h
  refine e_callV (ci := 7) C cal_X7_holds im_X7_holds se_X7_holds ml_X4_51 rfl hR (by decide) (dk dX4_scan_0 44 rfl) (K.1 _ (by rw [hw2]; decide)) (ent_o7 hw2) (c_X7_holds K hw2 (kd_X4_nightsSeen K ht) hq9) ⟨Nat.zero_le _, Nat.zero_le _⟩ (Nat.le_of_ble_eq_true rfl) rfl ?_
  refine pf_X4_without (b := q9) C K ht fl_X4_25 (dk dX4_scan_0 45 rfl) ?_
  refine e_iconst C 0 (dk dX4_scan_0 46 rfl) (by decide) ?_
  refine e_istore C [(4, .int 0), (0, .ref (g_N g + t)), (1, .ref (g_N g + w0)), (2, .ref (g_N g + w1)), (3, .ref (g_N g + w2))] (dk dX4_scan_0 47 rfl) (by decide) rfl ?_
  refine e_lv [1, 2, 3, 4, 0] rfl ?_
  refine lb_X4_scan_95 C K ht hw0 hw1 hw2 hR (fun s13 h => ?_) h
  obtain rfl := Option.some.inj h
  exact e_vret C B (dk dX4_scan_1 0 rfl)
