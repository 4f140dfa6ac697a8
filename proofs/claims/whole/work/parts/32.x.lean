def oV (x : Sum Nat Unit) : Sum Nat (Option Value) := x.elim Sum.inl (fun _ => Sum.inr none)
def oI (x : Sum Nat Int32) : Sum Nat (Option Value) := x.elim Sum.inl (fun v => Sum.inr (some (.int v)))
def oIM (x : Sum Nat (Int32 × Mem)) : Sum Nat (Option Value) := x.elim Sum.inl (fun v => Sum.inr (some (.int v.1)))
def mX (x : Sum Nat (Int32 × Mem)) (M : Mem) : Mem := x.elim (fun _ => M) (fun v => v.2)
theorem c_X5_exchange_kd {n : Nat} {kd : Nat → Nat} (K : KD n kd) {w0 : Nat} {t : Nat} (ht : kd t = 6) {M : Mem} {res : Nat × Mem} (h : F_X5_exchange t w0 M = some res) : kd res.1 = 10 := by
  rw [F_X5_exchange] at h
  obtain ⟨w1, h1, h⟩ := ob h
  obtain rfl := Option.some.inj h
  exact (grd_some K (Or.inr ht) h1).2
set_option maxRecDepth 20000 in
theorem j_X11_ward_j15 {X : FX} {g : WC} {Xo : Nat → va_E} {n : Nat} {kd : Nat → Nat} (C : Cx X g RX11 cX11_ward 3) (K : KD n kd) {t : Nat} (ht : kd t = 12) (hR : x_R X = rmx 68 1 6) {M : Mem} {res : Sum Nat (Int32 × Mem)} (h : J_X11_ward_j15 t M = some res) (B : BX X g (some .int) 68 1 6 n (oIM res) (ent g Xo kd M) (ent g Xo kd (mX res M))) : EW X g (x_s X).heap.size n 3 (ent g Xo kd M) 0 0 15 [] [] := by
  rw [J_X11_ward_j15] at h
  obtain rfl := Option.some.inj h
  exact e_throwIAE C B sx_92 (by decide) (by decide) (Nat.le_of_ble_eq_true rfl) (dk dX11_ward 7 rfl) (dk dX11_ward 8 rfl) (dk dX11_ward 9 rfl) (dk dX11_ward 10 rfl) (dk dX11_ward 11 rfl)
set_option maxRecDepth 20000 in
theorem c_X11_ward {g : WC} {Xo : Nat → va_E} {n : Nat} {kd : Nat → Nat} (K : KD n kd) {t : Nat} {p0 : Int32} (ht : kd t = 12) {M : Mem} {res : Sum Nat (Int32 × Mem)} (h : F_X11_ward t p0 M = some res) : MX g yX11_ward cX11_ward 3 (some .int) 68 1 6 n [.ref (g_N g + t), .int p0] (ent g Xo kd M) (oIM res) (ent g Xo kd (mX res M)) := by
  refine MX_of pn_X11 (Nat.le_of_ble_eq_true rfl) (fun X C B => ?_)
  have hR := B.1
  rw [F_X11_ward] at h
  refine e_iload_n C 1 (dk dX11_ward 0 rfl) rfl rfl ?_
  refine e_if_lt C 15 (dk dX11_ward 1 rfl) (by decide) (fun c1 => ?_) (fun c1 => ?_)
  · rw [if_pos c1] at h
    refine e_lv [] rfl ?_
    exact j_X11_ward_j15 C K ht hR h B
  · rw [if_neg c1] at h
    refine e_iload_n C 1 (dk dX11_ward 2 rfl) rfl rfl ?_
    refine e_aload_n C 0 (dk dX11_ward 3 rfl) rfl rfl ?_
    refine gf_X11_reader C K ht fl_X11_12 (dk dX11_ward 4 rfl) ?_
    refine gf_X5_taped C K (kd_X11_reader K ht) fl_X11_83 (dk dX11_ward 5 rfl) ?_
    refine e_icmp_le C 25 (dk dX11_ward 6 rfl) (by decide) (fun c2 => ?_) (fun c2 => ?_)
    · rw [if_pos c2] at h
      refine e_aload_n C 0 (dk dX11_ward 12 rfl) rfl rfl ?_
      refine gf_X11_reader C K ht fl_X11_12 (dk dX11_ward 13 rfl) ?_
      refine e_iload_n C 1 (dk dX11_ward 14 rfl) rfl rfl ?_
      obtain ⟨q3, hq3, h⟩ := ob h
      refine e_callV2 (ci := 5) C cal_X5_read im_X5_read se_X5_read ml_X11_97 rfl (rmx_room hR (by decide) cal_X5_read.2.2.1) (dk dX11_ward 15 rfl) (K.1 _ (by rw [(kd_X11_reader K ht)]; decide)) (ent_o5 (kd_X11_reader K ht)) (c_X5_read K (kd_X11_reader K ht) hq3) (rmx_cap hR (by decide) (by decide)) (Nat.le_of_ble_eq_true rfl) rfl ?_
      refine e_istore_n C [(2, .int q3.1), (0, .ref (g_N g + t)), (1, .int p0)] (dk dX11_ward 16 rfl) rfl (by decide) rfl ?_
      refine e_iload_n C 0 (dk dX11_ward 17 rfl) rfl rfl ?_
      refine e_if_eq C 60 (dk dX11_ward 18 rfl) (by decide) (fun c4 => ?_) (fun c4 => ?_)
      · rw [if_pos c4] at h
        refine e_aload_n C 1 (dk dX11_ward 31 rfl) rfl rfl ?_
        refine e_iconst C (-1) (dk dX11_ward 32 rfl) (by decide) ?_
        refine pf_X11_faultPlace C K ht fl_X11_23 (dk dX11_ward 33 rfl) ?_
        refine e_aload_n C 1 (dk dX11_ward 34 rfl) rfl rfl ?_
        refine e_aload_n C 1 (dk dX11_ward 35 rfl) rfl rfl ?_
        refine gf_X11_reader C K ht fl_X11_12 (dk dX11_ward 36 rfl) ?_
        refine e_aload_n C 1 (dk dX11_ward 37 rfl) rfl rfl ?_
        obtain ⟨w5, hw5, h⟩ := ob h
        have gw5 := grd_some K (Or.inl ht) hw5
        refine gf_X11_plan C K ht fl_X11_19 (dk dX11_ward 38 rfl) ?_
        rw [gw5.1]
        obtain ⟨q6, hq6, h⟩ := ob h
        refine e_callV2 (ci := 5) C cal_X5_exchange im_X5_exchange se_X5_exchange ml_X11_107 rfl (rmx_room hR (by decide) cal_X5_exchange.2.2.1) (dk dX11_ward 39 rfl) (K.1 _ (by rw [(kd_X11_reader K ht)]; decide)) (ent_o5 (kd_X11_reader K ht)) (c_X5_exchange K (kd_X11_reader K ht) gw5.2 hq6) (rmx_cap hR (by decide) (by decide)) (Nat.le_of_ble_eq_true rfl) rfl ?_
        refine pf_X11_plan C K ht (c_X5_exchange_kd K (kd_X11_reader K ht) hq6) fl_X11_19 (dk dX11_ward 40 rfl) ?_
        refine e_aload_n C 1 (dk dX11_ward 41 rfl) rfl rfl ?_
        refine gf_X11_book C K ht fl_X11_30 (dk dX11_ward 42 rfl) ?_
        refine e_aload_n C 1 (dk dX11_ward 43 rfl) rfl rfl ?_
        obtain ⟨w7, hw7, h⟩ := ob h
        have gw7 := grd_some K (Or.inl ht) hw7
        refine gf_X11_plan C K ht fl_X11_19 (dk dX11_ward 44 rfl) ?_
        rw [gw7.1]
        obtain ⟨q8, hq8, h⟩ := ob h
        refine e_callV2 (ci := 0) C cal_X0_begin im_X0_begin se_X0_begin ml_X11_111 rfl (rmx_room hR (by decide) cal_X0_begin.2.2.1) (dk dX11_ward 45 rfl) (K.1 _ (by rw [(kd_X11_book K ht)]; decide)) (ent_o0 (kd_X11_book K ht)) (c_X0_begin K (kd_X11_book K ht) gw7.2 hq8) (rmx_cap hR (by decide) (by decide)) (Nat.le_of_ble_eq_true rfl) rfl ?_
        refine e_aload_n C 1 (dk dX11_ward 46 rfl) rfl rfl ?_
        refine e_iconst C 0 (dk dX11_ward 47 rfl) (by decide) ?_
        refine pf_X11_isKept (b := false) C K ht fl_X11_37 (dk dX11_ward 48 rfl) ?_
        refine e_iconst C 0 (dk dX11_ward 49 rfl) (by decide) ?_
        obtain rfl := Option.some.inj h
        exact e_iretX C B (nar1 _) (by decide) (by decide) (dk dX11_ward 50 rfl)
      · rw [if_neg c4] at h
        refine e_aload_n C 1 (dk dX11_ward 19 rfl) rfl rfl ?_
        refine e_aload_n C 1 (dk dX11_ward 20 rfl) rfl rfl ?_
        refine gf_X11_reader C K ht fl_X11_12 (dk dX11_ward 21 rfl) ?_
        refine gf_X5_start C K (kd_X11_reader K ht) fl_X11_101 (dk dX11_ward 22 rfl) ?_
        refine pf_X11_faultPlace C K ht fl_X11_23 (dk dX11_ward 23 rfl) ?_
        refine e_aload_n C 1 (dk dX11_ward 24 rfl) rfl rfl ?_
        refine gf_X11_book C K ht fl_X11_30 (dk dX11_ward 25 rfl) ?_
        refine e_iconst C 0 (dk dX11_ward 26 rfl) (by decide) ?_
        refine e_callV2 (ci := 0) C cal_X0_refuse im_X0_refuse se_X0_refuse ml_X11_104 rfl (rmx_room hR (by decide) cal_X0_refuse.2.2.1) (dk dX11_ward 27 rfl) (K.1 _ (by rw [(kd_X11_book K ht)]; decide)) (ent_o0 (kd_X11_book K ht)) (c_X0_refuse K (kd_X11_book K ht) (rfl : F_X0_refuse (t + 24) 0 (up q3.2 t 2 (q3.2 (t + 1) 4)) = _)) (rmx_cap hR (by decide) (by decide)) (Nat.le_of_ble_eq_true rfl) rfl ?_
        refine e_pop C (dk dX11_ward 28 rfl) rfl ?_
        refine e_iload_n C 0 (dk dX11_ward 29 rfl) rfl rfl ?_
        obtain rfl := Option.some.inj h
        exact e_iretX C B (nar1 _) (by decide) (by decide) (dk dX11_ward 30 rfl)
    · rw [if_neg c2] at h
      refine e_lv [] rfl ?_
      exact j_X11_ward_j15 C K ht hR h B
set_option maxRecDepth 20000 in
theorem j_X11_needWhat_j9 {X : FX} {g : WC} {Xo : Nat → va_E} {n : Nat} {kd : Nat → Nat} (C : Cx X g RX11 cX11_needWhat 2) (K : KD n kd) (hR : x_R X = rmx 0 1 6) {M : Mem} {res : Sum Nat (Unit)} (h : J_X11_needWhat_j9 M = res) (B : BX X g none 0 1 6 n (oV res) (ent g Xo kd M) (ent g Xo kd M)) : EW X g (x_s X).heap.size n 2 (ent g Xo kd M) 0 0 9 [] [] := by
  rw [J_X11_needWhat_j9] at h
  subst h
  exact e_throwNSEW C B sx_360 (by decide) (by decide) (Nat.le_of_ble_eq_true rfl) (dk dX11_needWhat 5 rfl) (dk dX11_needWhat 6 rfl) (dk dX11_needWhat 7 rfl) (dk dX11_needWhat 8 rfl) (dk dX11_needWhat 9 rfl)
set_option maxRecDepth 20000 in
theorem c_X11_needWhat {g : WC} {Xo : Nat → va_E} {n : Nat} {kd : Nat → Nat} (K : KD n kd) {p0 : Int32} {p1 : Int32} {M : Mem} {res : Sum Nat (Unit)} (h : F_X11_needWhat p0 p1 M = res) : MX g yX11_needWhat cX11_needWhat 2 none 0 1 6 n [.int p0, .int p1] (ent g Xo kd M) (oV res) (ent g Xo kd M) := by
  refine MX_of pn_X11 (Nat.le_of_ble_eq_true rfl) (fun X C B => ?_)
  have hR := B.1
  rw [F_X11_needWhat] at h
  refine e_iload_n C 0 (dk dX11_needWhat 0 rfl) rfl rfl ?_
  refine e_if_lt C 9 (dk dX11_needWhat 1 rfl) (by decide) (fun c1 => ?_) (fun c1 => ?_)
  · rw [if_pos c1] at h
    refine e_lv [] rfl ?_
    exact j_X11_needWhat_j9 C K hR h B
  · rw [if_neg c1] at h
    refine e_iload_n C 0 (dk dX11_needWhat 2 rfl) rfl rfl ?_
    refine e_iload_n C 1 (dk dX11_needWhat 3 rfl) rfl rfl ?_
    refine e_icmp_lt C 20 (dk dX11_needWhat 4 rfl) (by decide) (fun c2 => ?_) (fun c2 => ?_)
    · rw [if_pos c2] at h
      subst h
      exact e_vretX C B (by decide) (by decide) (dk dX11_needWhat 10 rfl)
    · rw [if_neg c2] at h
      refine e_lv [] rfl ?_
      exact j_X11_needWhat_j9 C K hR h B
set_option maxRecDepth 20000 in
theorem j_X11_needWithin_j10 {X : FX} {g : WC} {Xo : Nat → va_E} {n : Nat} {kd : Nat → Nat} (C : Cx X g RX11 cX11_needWithin 3) (K : KD n kd) (hR : x_R X = rmx 0 1 6) {M : Mem} {res : Sum Nat (Unit)} (h : J_X11_needWithin_j10 M = res) (B : BX X g none 0 1 6 n (oV res) (ent g Xo kd M) (ent g Xo kd M)) : EW X g (x_s X).heap.size n 3 (ent g Xo kd M) 0 0 10 [] [] := by
  rw [J_X11_needWithin_j10] at h
  subst h
  exact e_throwIAEW C B sx_363 (by decide) (by decide) (Nat.le_of_ble_eq_true rfl) (dk dX11_needWithin 6 rfl) (dk dX11_needWithin 7 rfl) (dk dX11_needWithin 8 rfl) (dk dX11_needWithin 9 rfl) (dk dX11_needWithin 10 rfl)
set_option maxRecDepth 20000 in
theorem c_X11_needWithin {g : WC} {Xo : Nat → va_E} {n : Nat} {kd : Nat → Nat} (K : KD n kd) {p0 : Int32} {p1 : Int32} {p2 : Int32} {M : Mem} {res : Sum Nat (Unit)} (h : F_X11_needWithin p0 p1 p2 M = res) : MX g yX11_needWithin cX11_needWithin 3 none 0 1 6 n [.int p0, .int p1, .int p2] (ent g Xo kd M) (oV res) (ent g Xo kd M) := by
  refine MX_of pn_X11 (Nat.le_of_ble_eq_true rfl) (fun X C B => ?_)
  have hR := B.1
  rw [F_X11_needWithin] at h
  refine e_iload_n C 0 (dk dX11_needWithin 0 rfl) rfl rfl ?_
  refine e_iload_n C 1 (dk dX11_needWithin 1 rfl) rfl rfl ?_
  refine e_icmp_lt C 10 (dk dX11_needWithin 2 rfl) (by decide) (fun c1 => ?_) (fun c1 => ?_)
  · rw [if_pos c1] at h
    refine e_lv [] rfl ?_
    exact j_X11_needWithin_j10 C K hR h B
  · rw [if_neg c1] at h
    refine e_iload_n C 0 (dk dX11_needWithin 3 rfl) rfl rfl ?_
    refine e_iload_n C 2 (dk dX11_needWithin 4 rfl) rfl rfl ?_
    refine e_icmp_le C 21 (dk dX11_needWithin 5 rfl) (by decide) (fun c2 => ?_) (fun c2 => ?_)
    · rw [if_pos c2] at h
      subst h
      exact e_vretX C B (by decide) (by decide) (dk dX11_needWithin 11 rfl)
    · rw [if_neg c2] at h
      refine e_lv [] rfl ?_
      exact j_X11_needWithin_j10 C K hR h B
set_option maxRecDepth 20000 in
theorem j_X11_needStreet_j15 {X : FX} {g : WC} {Xo : Nat → va_E} {n : Nat} {kd : Nat → Nat} (C : Cx X g RX11 cX11_needStreet 2) (K : KD n kd) {t : Nat} (ht : kd t = 12) (hR : x_R X = rmx 0 1 6) {M : Mem} {res : Sum Nat (Unit)} (h : J_X11_needStreet_j15 t M = some res) (B : BX X g none 0 1 6 n (oV res) (ent g Xo kd M) (ent g Xo kd M)) : EW X g (x_s X).heap.size n 2 (ent g Xo kd M) 0 0 15 [] [] := by
  rw [J_X11_needStreet_j15] at h
  obtain rfl := Option.some.inj h
  exact e_throwNSEW C B sx_365 (by decide) (by decide) (Nat.le_of_ble_eq_true rfl) (dk dX11_needStreet 7 rfl) (dk dX11_needStreet 8 rfl) (dk dX11_needStreet 9 rfl) (dk dX11_needStreet 10 rfl) (dk dX11_needStreet 11 rfl)
set_option maxRecDepth 20000 in
theorem c_X11_needStreet {g : WC} {Xo : Nat → va_E} {n : Nat} {kd : Nat → Nat} (K : KD n kd) {t : Nat} {p0 : Int32} (ht : kd t = 12) {M : Mem} {res : Sum Nat (Unit)} (h : F_X11_needStreet t p0 M = some res) : MX g yX11_needStreet cX11_needStreet 2 none 0 1 6 n [.ref (g_N g + t), .int p0] (ent g Xo kd M) (oV res) (ent g Xo kd M) := by
  refine MX_of pn_X11 (Nat.le_of_ble_eq_true rfl) (fun X C B => ?_)
  have hR := B.1
  rw [F_X11_needStreet] at h
  refine e_iload_n C 1 (dk dX11_needStreet 0 rfl) rfl rfl ?_
  refine e_if_lt C 15 (dk dX11_needStreet 1 rfl) (by decide) (fun c1 => ?_) (fun c1 => ?_)
  · rw [if_pos c1] at h
    refine e_lv [] rfl ?_
    exact j_X11_needStreet_j15 C K ht hR h B
  · rw [if_neg c1] at h
    refine e_iload_n C 1 (dk dX11_needStreet 2 rfl) rfl rfl ?_
    refine e_aload_n C 0 (dk dX11_needStreet 3 rfl) rfl rfl ?_
    obtain ⟨w2, hw2, h⟩ := ob h
    have gw2 := grd_some K (Or.inl ht) hw2
    refine gf_X11_plan C K ht fl_X11_19 (dk dX11_needStreet 4 rfl) ?_
    rw [gw2.1]
    refine gf_X9_streets C K gw2.2 fl_X11_122 (dk dX11_needStreet 5 rfl) ?_
    refine e_icmp_lt C 26 (dk dX11_needStreet 6 rfl) (by decide) (fun c3 => ?_) (fun c3 => ?_)
    · rw [if_pos c3] at h
      obtain rfl := Option.some.inj h
      exact e_vretX C B (by decide) (by decide) (dk dX11_needStreet 12 rfl)
    · rw [if_neg c3] at h
      refine e_lv [] rfl ?_
      exact j_X11_needStreet_j15 C K ht hR h B
set_option maxRecDepth 20000 in
theorem j_X11_needPerson_j15 {X : FX} {g : WC} {Xo : Nat → va_E} {n : Nat} {kd : Nat → Nat} (C : Cx X g RX11 cX11_needPerson 2) (K : KD n kd) {t : Nat} (ht : kd t = 12) (hR : x_R X = rmx 0 1 6) {M : Mem} {res : Sum Nat (Unit)} (h : J_X11_needPerson_j15 t M = some res) (B : BX X g none 0 1 6 n (oV res) (ent g Xo kd M) (ent g Xo kd M)) : EW X g (x_s X).heap.size n 2 (ent g Xo kd M) 0 0 15 [] [] := by
  rw [J_X11_needPerson_j15] at h
  obtain rfl := Option.some.inj h
  exact e_throwNSEW C B sx_367 (by decide) (by decide) (Nat.le_of_ble_eq_true rfl) (dk dX11_needPerson 7 rfl) (dk dX11_needPerson 8 rfl) (dk dX11_needPerson 9 rfl) (dk dX11_needPerson 10 rfl) (dk dX11_needPerson 11 rfl)
set_option maxRecDepth 20000 in
theorem c_X11_needPerson {g : WC} {Xo : Nat → va_E} {n : Nat} {kd : Nat → Nat} (K : KD n kd) {t : Nat} {p0 : Int32} (ht : kd t = 12) {M : Mem} {res : Sum Nat (Unit)} (h : F_X11_needPerson t p0 M = some res) : MX g yX11_needPerson cX11_needPerson 2 none 0 1 6 n [.ref (g_N g + t), .int p0] (ent g Xo kd M) (oV res) (ent g Xo kd M) := by
  refine MX_of pn_X11 (Nat.le_of_ble_eq_true rfl) (fun X C B => ?_)
  have hR := B.1
  rw [F_X11_needPerson] at h
  refine e_iload_n C 1 (dk dX11_needPerson 0 rfl) rfl rfl ?_
  refine e_if_lt C 15 (dk dX11_needPerson 1 rfl) (by decide) (fun c1 => ?_) (fun c1 => ?_)
  · rw [if_pos c1] at h
    refine e_lv [] rfl ?_
    exact j_X11_needPerson_j15 C K ht hR h B
  · rw [if_neg c1] at h
    refine e_iload_n C 1 (dk dX11_needPerson 2 rfl) rfl rfl ?_
    refine e_aload_n C 0 (dk dX11_needPerson 3 rfl) rfl rfl ?_
    obtain ⟨w2, hw2, h⟩ := ob h
    have gw2 := grd_some K (Or.inl ht) hw2
    refine gf_X11_plan C K ht fl_X11_19 (dk dX11_needPerson 4 rfl) ?_
    rw [gw2.1]
    refine gf_X9_people C K gw2.2 fl_X11_128 (dk dX11_needPerson 5 rfl) ?_
    refine e_icmp_lt C 26 (dk dX11_needPerson 6 rfl) (by decide) (fun c3 => ?_) (fun c3 => ?_)
    · rw [if_pos c3] at h
      obtain rfl := Option.some.inj h
      exact e_vretX C B (by decide) (by decide) (dk dX11_needPerson 12 rfl)
    · rw [if_neg c3] at h
      refine e_lv [] rfl ?_
      exact j_X11_needPerson_j15 C K ht hR h B
set_option maxRecDepth 20000 in
theorem j_X11_needPlace_j24 {X : FX} {g : WC} {Xo : Nat → va_E} {n : Nat} {kd : Nat → Nat} (C : Cx X g RX11 cX11_needPlace 3) (K : KD n kd) {t : Nat} (ht : kd t = 12) (hR : x_R X = rmx 1 2 12) {M : Mem} {res : Sum Nat (Unit)} (h : J_X11_needPlace_j24 t M = some res) (B : BX X g none 1 2 12 n (oV res) (ent g Xo kd M) (ent g Xo kd M)) : EW X g (x_s X).heap.size n 3 (ent g Xo kd M) 1 6 24 [] [] := by
  rw [J_X11_needPlace_j24] at h
  obtain rfl := Option.some.inj h
  exact e_throwNSEW C B sx_369 (by decide) (by decide) (Nat.le_of_ble_eq_true rfl) (dk dX11_needPlace 12 rfl) (dk dX11_needPlace 13 rfl) (dk dX11_needPlace 14 rfl) (dk dX11_needPlace 15 rfl) (dk dX11_needPlace 16 rfl)
set_option maxRecDepth 20000 in
theorem c_X11_needPlace {g : WC} {Xo : Nat → va_E} {n : Nat} {kd : Nat → Nat} (K : KD n kd) {t : Nat} {p0 : Int32} {p1 : Int32} (ht : kd t = 12) {M : Mem} {res : Sum Nat (Unit)} (h : F_X11_needPlace t p0 p1 M = some res) : MX g yX11_needPlace cX11_needPlace 3 none 1 2 12 n [.ref (g_N g + t), .int p0, .int p1] (ent g Xo kd M) (oV res) (ent g Xo kd M) := by
  refine MX_of pn_X11 (Nat.le_of_ble_eq_true rfl) (fun X C B => ?_)
  have hR := B.1
  rw [F_X11_needPlace] at h
  refine e_aload_n C 0 (dk dX11_needPlace 0 rfl) rfl rfl ?_
  refine e_iload_n C 1 (dk dX11_needPlace 1 rfl) rfl rfl ?_
  obtain ⟨q1, hq1, h⟩ := ob h
  rcases q1 with jq1 | uq1
  · dsimp only [Sum.elim_inl] at h
    obtain rfl := Option.some.inj h
    exact e_xcallV (ci := 11) C cal_X11_needPerson im_X11_needPerson se_X11_needPerson ml_X11_182 rfl (rmx_roomX hR (by decide) cal_X11_needPerson.2.2.1) (dk dX11_needPlace 2 rfl) (K.1 _ (by rw [ht]; decide)) (ent_o11 ht) (c_X11_needPerson K ht hq1) (rmx_cap hR (by decide) (by decide)) (Nat.le_of_ble_eq_true rfl) rfl (fun r hr => nomatch hr) (fun j hj => by
      obtain rfl := Sum.inl.inj hj
      exact e_prop C B (by decide) (by decide))
  dsimp only [Sum.elim_inr] at h
  refine e_xcallV (ci := 11) C cal_X11_needPerson im_X11_needPerson se_X11_needPerson ml_X11_182 rfl (rmx_roomX hR (by decide) cal_X11_needPerson.2.2.1) (dk dX11_needPlace 2 rfl) (K.1 _ (by rw [ht]; decide)) (ent_o11 ht) (c_X11_needPerson K ht hq1) (rmx_cap hR (by decide) (by decide)) (Nat.le_of_ble_eq_true rfl) rfl (fun r hr => ?_) (fun j hj => nomatch hj)
  obtain rfl := Sum.inr.inj hr
  refine e_iload_n C 2 (dk dX11_needPlace 3 rfl) rfl rfl ?_
  refine e_if_lt C 24 (dk dX11_needPlace 4 rfl) (by decide) (fun c2 => ?_) (fun c2 => ?_)
  · rw [if_pos c2] at h
    refine e_lv [] rfl ?_
    exact j_X11_needPlace_j24 C K ht hR h B
  · rw [if_neg c2] at h
    refine e_iload_n C 2 (dk dX11_needPlace 5 rfl) rfl rfl ?_
    refine e_aload_n C 0 (dk dX11_needPlace 6 rfl) rfl rfl ?_
    obtain ⟨w3, hw3, h⟩ := ob h
    have gw3 := grd_some K (Or.inl ht) hw3
    refine gf_X11_plan C K ht fl_X11_19 (dk dX11_needPlace 7 rfl) ?_
    rw [gw3.1]
    refine gf_X9_lengths C K gw3.2 fl_X11_188 (dk dX11_needPlace 8 rfl) ?_
    refine e_iload_n C 1 (dk dX11_needPlace 9 rfl) rfl rfl ?_
    refine e_callS2 C cal_X11_at sm_X11_at ml_X11_172 (rmx_room hR (by decide) cal_X11_at.2.2.1) (dk dX11_needPlace 10 rfl) (c_X11_at K (kd_X9_lengths K gw3.2) (rfl : F_X11_at (w3 + 4) 7 p0 M = _)) (rmx_cap hR (by decide) (by decide)) (Nat.le_of_ble_eq_true rfl) rfl ?_
    refine e_icmp_lt C 35 (dk dX11_needPlace 11 rfl) (by decide) (fun c4 => ?_) (fun c4 => ?_)
    · rw [if_pos c4] at h
      obtain rfl := Option.some.inj h
      exact e_vretX C B (by decide) (by decide) (dk dX11_needPlace 17 rfl)
    · rw [if_neg c4] at h
      refine e_lv [] rfl ?_
      exact j_X11_needPlace_j24 C K ht hR h B
set_option maxRecDepth 20000 in
theorem c_X11_count {g : WC} {Xo : Nat → va_E} {n : Nat} {kd : Nat → Nat} (K : KD n kd) {t : Nat} {p0 : Int32} (ht : kd t = 12) {M : Mem} {res : Sum Nat (Int32)} (h : F_X11_count t p0 M = some res) : MX g yX11_count cX11_count 3 (some .int) 1 1 6 n [.ref (g_N g + t), .int p0] (ent g Xo kd M) (oI res) (ent g Xo kd M) := by
  refine MX_of pn_X11 (Nat.le_of_ble_eq_true rfl) (fun X C B => ?_)
  have hR := B.1
  rw [F_X11_count] at h
  refine e_iload_n C 1 (dk dX11_count_0 0 rfl) rfl rfl ?_
  refine e_bipush C 16 (dk dX11_count_0 1 rfl) (by decide) ?_
  rcases hq1 : F_X11_needWhat p0 16 M with jq1 | uq1
  · rw [hq1] at h
    dsimp only [Sum.elim_inl] at h
    obtain rfl := Option.some.inj h
    exact e_xcallS C cal_X11_needWhat sm_X11_needWhat ml_X11_115 (rmx_roomX hR (by decide) cal_X11_needWhat.2.2.1) (dk dX11_count_0 2 rfl) (c_X11_needWhat K hq1) (rmx_cap hR (by decide) (by decide)) (Nat.le_of_ble_eq_true rfl) rfl (fun r hr => nomatch hr) (fun j hj => by
      obtain rfl := Sum.inl.inj hj
      exact e_prop C B (by decide) (by decide))
  rw [hq1] at h
  dsimp only [Sum.elim_inr] at h
  refine e_xcallS C cal_X11_needWhat sm_X11_needWhat ml_X11_115 (rmx_roomX hR (by decide) cal_X11_needWhat.2.2.1) (dk dX11_count_0 2 rfl) (c_X11_needWhat K hq1) (rmx_cap hR (by decide) (by decide)) (Nat.le_of_ble_eq_true rfl) rfl (fun r hr => ?_) (fun j hj => nomatch hj)
  obtain rfl := Sum.inr.inj hr
  refine e_aload_n C 0 (dk dX11_count_0 3 rfl) rfl rfl ?_
  refine gf_X11_book C K ht fl_X11_30 (dk dX11_count_0 4 rfl) ?_
  refine gf_X0_town C K (kd_X11_book K ht) fl_X11_119 (dk dX11_count_0 5 rfl) ?_
  refine e_astore_n C [(2, .ref (g_N g + ((t + 24) + 1))), (0, .ref (g_N g + t)), (1, .int p0)] (dk dX11_count_0 6 rfl) rfl (by decide) rfl ?_
  refine e_iload_n C 2 (dk dX11_count_0 7 rfl) rfl rfl ?_
  by_cases c2 : p0 = 0
  · rw [if_pos c2] at h
    refine e_tsIn C 80 (dk dX11_count_0 8 rfl) (by rw [c2]; decide) (by rw [c2]; decide) (by rw [c2]; rfl) (by decide) ?_
    refine e_aload_n C 1 (dk dX11_count_0 9 rfl) rfl rfl ?_
    obtain ⟨w3, hw3, h⟩ := ob h
    have gw3 := grd_some K (Or.inl ht) hw3
    refine gf_X11_plan C K ht fl_X11_19 (dk dX11_count_0 10 rfl) ?_
    rw [gw3.1]
    refine gf_X9_streets C K gw3.2 fl_X11_122 (dk dX11_count_0 11 rfl) ?_
    obtain rfl := Option.some.inj h
    exact e_iretX C B (nar1 _) (by decide) (by decide) (dk dX11_count_0 12 rfl)
  rw [if_neg c2] at h
  by_cases c4 : p0 = 1
  · rw [if_pos c4] at h
    refine e_tsIn C 88 (dk dX11_count_0 8 rfl) (by rw [c4]; decide) (by rw [c4]; decide) (by rw [c4]; rfl) (by decide) ?_
    refine e_aload_n C 1 (dk dX11_count_0 13 rfl) rfl rfl ?_
    obtain ⟨w5, hw5, h⟩ := ob h
    have gw5 := grd_some K (Or.inl ht) hw5
    refine gf_X11_plan C K ht fl_X11_19 (dk dX11_count_0 14 rfl) ?_
    rw [gw5.1]
    refine gf_X9_paths C K gw5.2 fl_X11_125 (dk dX11_count_0 15 rfl) ?_
    obtain rfl := Option.some.inj h
    exact e_iretX C B (nar1 _) (by decide) (by decide) (dk dX11_count_0 16 rfl)
  rw [if_neg c4] at h
  by_cases c6 : p0 = 2
  · rw [if_pos c6] at h
    refine e_tsIn C 96 (dk dX11_count_0 8 rfl) (by rw [c6]; decide) (by rw [c6]; decide) (by rw [c6]; rfl) (by decide) ?_
    refine e_aload_n C 1 (dk dX11_count_0 17 rfl) rfl rfl ?_
    obtain ⟨w7, hw7, h⟩ := ob h
    have gw7 := grd_some K (Or.inl ht) hw7
    refine gf_X11_plan C K ht fl_X11_19 (dk dX11_count_0 18 rfl) ?_
    rw [gw7.1]
    refine gf_X9_people C K gw7.2 fl_X11_128 (dk dX11_count_0 19 rfl) ?_
    obtain rfl := Option.some.inj h
    exact e_iretX C B (nar1 _) (by decide) (by decide) (dk dX11_count_0 20 rfl)
  rw [if_neg c6] at h
  by_cases c8 : p0 = 3
  · rw [if_pos c8] at h
    refine e_tsIn C 104 (dk dX11_count_0 8 rfl) (by rw [c8]; decide) (by rw [c8]; decide) (by rw [c8]; rfl) (by decide) ?_
    refine e_aload_n C 1 (dk dX11_count_0 21 rfl) rfl rfl ?_
    obtain ⟨w9, hw9, h⟩ := ob h
    have gw9 := grd_some K (Or.inl ht) hw9
    refine gf_X11_plan C K ht fl_X11_19 (dk dX11_count_0 22 rfl) ?_
    rw [gw9.1]
    refine gf_X9_rounds C K gw9.2 fl_X11_131 (dk dX11_count_0 23 rfl) ?_
    obtain rfl := Option.some.inj h
    exact e_iretX C B (nar1 _) (by decide) (by decide) (dk dX11_count_0 24 rfl)
  rw [if_neg c8] at h
  by_cases c10 : p0 = 4
  · rw [if_pos c10] at h
    refine e_tsIn C 112 (dk dX11_count_0 8 rfl) (by rw [c10]; decide) (by rw [c10]; decide) (by rw [c10]; rfl) (by decide) ?_
    refine e_aload_n C 0 (dk dX11_count_0 25 rfl) rfl rfl ?_
    refine gf_X8_night C K (kd_X0_town K (kd_X11_book K ht)) fl_X11_134 (dk dX11_count_0 26 rfl) ?_
    obtain rfl := Option.some.inj h
    exact e_iretX C B (nar1 _) (by decide) (by decide) (dk dX11_count_0 27 rfl)
  rw [if_neg c10] at h
  by_cases c11 : p0 = 5
  · rw [if_pos c11] at h
    refine e_tsIn C 117 (dk dX11_count_0 8 rfl) (by rw [c11]; decide) (by rw [c11]; decide) (by rw [c11]; rfl) (by decide) ?_
    refine e_aload_n C 1 (dk dX11_count_0 28 rfl) rfl rfl ?_
    obtain ⟨w12, hw12, h⟩ := ob h
    have gw12 := grd_some K (Or.inl ht) hw12
    refine gf_X11_plan C K ht fl_X11_19 (dk dX11_count_0 29 rfl) ?_
    rw [gw12.1]
    refine e_aload_n C 0 (dk dX11_count_0 30 rfl) rfl rfl ?_
    refine gf_X8_night C K (kd_X0_town K (kd_X11_book K ht)) fl_X11_134 (dk dX11_count_0 31 rfl) ?_
    obtain ⟨q13, hq13, h⟩ := ob h
    refine e_callV2 (ci := 9) C cal_X9_fogOf im_X9_fogOf se_X9_fogOf ml_X11_137 rfl (rmx_room hR (by decide) cal_X9_fogOf.2.2.1) (dk dX11_count_0 32 rfl) (K.1 _ (by rw [gw12.2]; decide)) (ent_o9 gw12.2) (c_X9_fogOf K gw12.2 hq13) (rmx_cap hR (by decide) (by decide)) (Nat.le_of_ble_eq_true rfl) rfl ?_
    obtain rfl := Option.some.inj h
    exact e_iretX C B (nar1 _) (by decide) (by decide) (dk dX11_count_0 33 rfl)
  rw [if_neg c11] at h
  by_cases c14 : p0 = 6
  · rw [if_pos c14] at h
    refine e_tsIn C 129 (dk dX11_count_0 8 rfl) (by rw [c14]; decide) (by rw [c14]; decide) (by rw [c14]; rfl) (by decide) ?_
    refine e_aload_n C 0 (dk dX11_count_0 34 rfl) rfl rfl ?_
    refine gf_X8_reserve C K (kd_X0_town K (kd_X11_book K ht)) fl_X11_140 (dk dX11_count_0 35 rfl) ?_
    obtain rfl := Option.some.inj h
    exact e_iretX C B (nar1 _) (by decide) (by decide) (dk dX11_count_0 36 rfl)
  rw [if_neg c14] at h
  by_cases c15 : p0 = 7
  · rw [if_pos c15] at h
    refine e_tsIn C 134 (dk dX11_count_0 8 rfl) (by rw [c15]; decide) (by rw [c15]; decide) (by rw [c15]; rfl) (by decide) ?_
    refine e_aload_n C 0 (dk dX11_count_0 37 rfl) rfl rfl ?_
    refine gf_X8_dark C K (kd_X0_town K (kd_X11_book K ht)) fl_X11_143 (dk dX11_count_0 38 rfl) ?_
    obtain rfl := Option.some.inj h
    exact e_iretX C B (nar1 _) (by decide) (by decide) (dk dX11_count_0 39 rfl)
  rw [if_neg c15] at h
  by_cases c16 : p0 = 8
  · rw [if_pos c16] at h
    refine e_tsIn C 139 (dk dX11_count_0 8 rfl) (by rw [c16]; decide) (by rw [c16]; decide) (by rw [c16]; rfl) (by decide) ?_
    refine e_aload_n C 0 (dk dX11_count_0 40 rfl) rfl rfl ?_
    refine gf_X8_bribing C K (kd_X0_town K (kd_X11_book K ht)) fl_X11_146 (dk dX11_count_0 41 rfl) ?_
    obtain rfl := Option.some.inj h
    exact e_iretX C B (nar1 _) (by decide) (by decide) (dk dX11_count_0 42 rfl)
  rw [if_neg c16] at h
  by_cases c17 : p0 = 9
  · rw [if_pos c17] at h
    refine e_tsIn C 144 (dk dX11_count_0 8 rfl) (by rw [c17]; decide) (by rw [c17]; decide) (by rw [c17]; rfl) (by decide) ?_
    refine e_aload_n C 0 (dk dX11_count_0 43 rfl) rfl rfl ?_
    obtain ⟨q18, hq18, h⟩ := ob h
    refine e_callV2 (ci := 8) C cal_X8_coinsOfAll im_X8_coinsOfAll se_X8_coinsOfAll ml_X11_149 rfl (rmx_room hR (by decide) cal_X8_coinsOfAll.2.2.1) (dk dX11_count_0 44 rfl) (K.1 _ (by rw [(kd_X0_town K (kd_X11_book K ht))]; decide)) (ent_o8 (kd_X0_town K (kd_X11_book K ht))) (c_X8_coinsOfAll K (kd_X0_town K (kd_X11_book K ht)) hq18) (rmx_cap hR (by decide) (by decide)) (Nat.le_of_ble_eq_true rfl) rfl ?_
    obtain rfl := Option.some.inj h
    exact e_iretX C B (nar1 _) (by decide) (by decide) (dk dX11_count_0 45 rfl)
  rw [if_neg c17] at h
  by_cases c19 : p0 = 10
  · rw [if_pos c19] at h
    refine e_tsIn C 149 (dk dX11_count_0 8 rfl) (by rw [c19]; decide) (by rw [c19]; decide) (by rw [c19]; rfl) (by decide) ?_
    refine e_aload_n C 1 (dk dX11_count_0 46 rfl) rfl rfl ?_
    refine gf_X11_book C K ht fl_X11_30 (dk dX11_count_0 47 rfl) ?_
    refine gf_X0_diary C K (kd_X11_book K ht) fl_X11_153 (dk dX11_count_0 48 rfl) ?_
    refine gf_X1_count C K (kd_X0_diary K (kd_X11_book K ht)) fl_X11_157 (dk dX11_count_0 49 rfl) ?_
    obtain rfl := Option.some.inj h
    exact e_iretX C B (nar1 _) (by decide) (by decide) (dk dX11_count_0 50 rfl)
  rw [if_neg c19] at h
  by_cases c20 : p0 = 11
  · rw [if_pos c20] at h
    refine e_tsIn C 160 (dk dX11_count_0 8 rfl) (by rw [c20]; decide) (by rw [c20]; decide) (by rw [c20]; rfl) (by decide) ?_
    refine e_aload_n C 1 (dk dX11_count_0 51 rfl) rfl rfl ?_
    refine gf_X11_book C K ht fl_X11_30 (dk dX11_count_0 52 rfl) ?_
    refine gf_X0_told C K (kd_X11_book K ht) fl_X11_162 (dk dX11_count_0 53 rfl) ?_
    refine gf_X7_count C K (kd_X0_told K (kd_X11_book K ht)) fl_X11_166 (dk dX11_count_0 54 rfl) ?_
    obtain rfl := Option.some.inj h
    exact e_iretX C B (nar1 _) (by decide) (by decide) (dk dX11_count_0 55 rfl)
  rw [if_neg c20] at h
  by_cases c21 : p0 = 12
  · rw [if_pos c21] at h
    refine e_tsIn C 171 (dk dX11_count_0 8 rfl) (by rw [c21]; decide) (by rw [c21]; decide) (by rw [c21]; rfl) (by decide) ?_
    refine e_aload_n C 1 (dk dX11_count_0 56 rfl) rfl rfl ?_
    refine gf_X11_reader C K ht fl_X11_12 (dk dX11_count_0 57 rfl) ?_
    refine gf_X5_taped C K (kd_X11_reader K ht) fl_X11_83 (dk dX11_count_0 58 rfl) ?_
    obtain rfl := Option.some.inj h
    exact e_iretX C B (nar1 _) (by decide) (by decide) (dk dX11_count_0 59 rfl)
  rw [if_neg c21] at h
  refine e_tsOut C 179 (dk dX11_count_0 8 rfl) (ts_out (0) (12) (by decide) (fun v h1 h2 => ?_)) (by decide) ?_
  · intro o22
    have hv : v = (0 : Int) ∨ v = (1 : Int) ∨ v = (2 : Int) ∨ v = (3 : Int) ∨ v = (4 : Int) ∨ v = (5 : Int) ∨ v = (6 : Int) ∨ v = (7 : Int) ∨ v = (8 : Int) ∨ v = (9 : Int) ∨ v = (10 : Int) ∨ v = (11 : Int) ∨ v = (12 : Int) := by omega
    rcases hv with rfl | rfl | rfl | rfl | rfl | rfl | rfl | rfl | rfl | rfl | rfl | rfl | rfl
    · exact c2 (Int32.toInt_inj.mp (by rw [o22]; rfl))
    · exact c4 (Int32.toInt_inj.mp (by rw [o22]; rfl))
    · exact c6 (Int32.toInt_inj.mp (by rw [o22]; rfl))
    · exact c8 (Int32.toInt_inj.mp (by rw [o22]; rfl))
    · exact c10 (Int32.toInt_inj.mp (by rw [o22]; rfl))
    · exact c11 (Int32.toInt_inj.mp (by rw [o22]; rfl))
    · exact c14 (Int32.toInt_inj.mp (by rw [o22]; rfl))
    · exact c15 (Int32.toInt_inj.mp (by rw [o22]; rfl))
    · exact c16 (Int32.toInt_inj.mp (by rw [o22]; rfl))
    · exact c17 (Int32.toInt_inj.mp (by rw [o22]; rfl))
    · exact c19 (Int32.toInt_inj.mp (by rw [o22]; rfl))
    · exact c20 (Int32.toInt_inj.mp (by rw [o22]; rfl))
    · exact c21 (Int32.toInt_inj.mp (by rw [o22]; rfl))
  refine e_aload_n C 1 (dk dX11_count_1 0 rfl) rfl rfl ?_
  refine gf_X11_book C K ht fl_X11_30 (dk dX11_count_1 1 rfl) ?_
  refine gf_X0_status C K (kd_X11_book K ht) fl_X11_169 (dk dX11_count_1 2 rfl) ?_
  refine e_iload_n C 2 (dk dX11_count_1 3 rfl) rfl rfl ?_
  refine e_bipush C 13 (dk dX11_count_1 4 rfl) (by decide) ?_
  refine e_isub C (dk dX11_count_1 5 rfl) ?_
  refine e_callS2 C cal_X11_at sm_X11_at ml_X11_172 (rmx_room hR (by decide) cal_X11_at.2.2.1) (dk dX11_count_1 6 rfl) (c_X11_at K (kd_X0_status K (kd_X11_book K ht)) (rfl : F_X11_at ((t + 24) + 11) 3 (p0 - 13) M = _)) (rmx_cap hR (by decide) (by decide)) (Nat.le_of_ble_eq_true rfl) rfl ?_
  obtain rfl := Option.some.inj h
  exact e_iretX C B (nar1 _) (by decide) (by decide) (dk dX11_count_1 7 rfl)
set_option maxRecDepth 20000 in
theorem c_X11_paths {g : WC} {Xo : Nat → va_E} {n : Nat} {kd : Nat → Nat} (K : KD n kd) {t : Nat} {p0 : Int32} (ht : kd t = 12) {M : Mem} {res : Sum Nat (Int32)} (h : F_X11_paths t p0 M = some res) : MX g yX11_paths cX11_paths 2 (some .int) 1 1 6 n [.ref (g_N g + t), .int p0] (ent g Xo kd M) (oI res) (ent g Xo kd M) := by
  refine MX_of pn_X11 (Nat.le_of_ble_eq_true rfl) (fun X C B => ?_)
  have hR := B.1
  rw [F_X11_paths] at h
  refine e_aload_n C 0 (dk dX11_paths 0 rfl) rfl rfl ?_
  refine e_iload_n C 1 (dk dX11_paths 1 rfl) rfl rfl ?_
  obtain ⟨q1, hq1, h⟩ := ob h
  rcases q1 with jq1 | uq1
  · dsimp only [Sum.elim_inl] at h
    obtain rfl := Option.some.inj h
    exact e_xcallV (ci := 11) C cal_X11_needStreet im_X11_needStreet se_X11_needStreet ml_X11_176 rfl (rmx_roomX hR (by decide) cal_X11_needStreet.2.2.1) (dk dX11_paths 2 rfl) (K.1 _ (by rw [ht]; decide)) (ent_o11 ht) (c_X11_needStreet K ht hq1) (rmx_cap hR (by decide) (by decide)) (Nat.le_of_ble_eq_true rfl) rfl (fun r hr => nomatch hr) (fun j hj => by
      obtain rfl := Sum.inl.inj hj
      exact e_prop C B (by decide) (by decide))
  dsimp only [Sum.elim_inr] at h
  refine e_xcallV (ci := 11) C cal_X11_needStreet im_X11_needStreet se_X11_needStreet ml_X11_176 rfl (rmx_roomX hR (by decide) cal_X11_needStreet.2.2.1) (dk dX11_paths 2 rfl) (K.1 _ (by rw [ht]; decide)) (ent_o11 ht) (c_X11_needStreet K ht hq1) (rmx_cap hR (by decide) (by decide)) (Nat.le_of_ble_eq_true rfl) rfl (fun r hr => ?_) (fun j hj => nomatch hj)
  obtain rfl := Sum.inr.inj hr
  refine e_aload_n C 0 (dk dX11_paths 3 rfl) rfl rfl ?_
  obtain ⟨w2, hw2, h⟩ := ob h
  have gw2 := grd_some K (Or.inl ht) hw2
  refine gf_X11_plan C K ht fl_X11_19 (dk dX11_paths 4 rfl) ?_
  rw [gw2.1]
  refine gf_X9_near C K gw2.2 fl_X11_179 (dk dX11_paths 5 rfl) ?_
  refine e_iload_n C 1 (dk dX11_paths 6 rfl) rfl rfl ?_
  refine e_callS2 C cal_X11_at sm_X11_at ml_X11_172 (rmx_room hR (by decide) cal_X11_at.2.2.1) (dk dX11_paths 7 rfl) (c_X11_at K (kd_X9_near K gw2.2) (rfl : F_X11_at (w2 + 1) 8 p0 M = _)) (rmx_cap hR (by decide) (by decide)) (Nat.le_of_ble_eq_true rfl) rfl ?_
  obtain rfl := Option.some.inj h
  exact e_iretX C B (nar1 _) (by decide) (by decide) (dk dX11_paths 8 rfl)
set_option maxRecDepth 20000 in
theorem c_X11_person {g : WC} {Xo : Nat → va_E} {n : Nat} {kd : Nat → Nat} (K : KD n kd) {t : Nat} {p0 : Int32} {p1 : Int32} (ht : kd t = 12) {M : Mem} {res : Sum Nat (Int32)} (h : F_X11_person t p0 p1 M = some res) : MX g yX11_person cX11_person 4 (some .int) 3 2 12 n [.ref (g_N g + t), .int p0, .int p1] (ent g Xo kd M) (oI res) (ent g Xo kd M) := by
  refine MX_of pn_X11 (Nat.le_of_ble_eq_true rfl) (fun X C B => ?_)
  have hR := B.1
  rw [F_X11_person] at h
  refine e_aload_n C 0 (dk dX11_person 0 rfl) rfl rfl ?_
  refine e_iload_n C 1 (dk dX11_person 1 rfl) rfl rfl ?_
  obtain ⟨q1, hq1, h⟩ := ob h
  rcases q1 with jq1 | uq1
  · dsimp only [Sum.elim_inl] at h
    obtain rfl := Option.some.inj h
    exact e_xcallV (ci := 11) C cal_X11_needPerson im_X11_needPerson se_X11_needPerson ml_X11_182 rfl (rmx_roomX hR (by decide) cal_X11_needPerson.2.2.1) (dk dX11_person 2 rfl) (K.1 _ (by rw [ht]; decide)) (ent_o11 ht) (c_X11_needPerson K ht hq1) (rmx_cap hR (by decide) (by decide)) (Nat.le_of_ble_eq_true rfl) rfl (fun r hr => nomatch hr) (fun j hj => by
      obtain rfl := Sum.inl.inj hj
      exact e_prop C B (by decide) (by decide))
  dsimp only [Sum.elim_inr] at h
  refine e_xcallV (ci := 11) C cal_X11_needPerson im_X11_needPerson se_X11_needPerson ml_X11_182 rfl (rmx_roomX hR (by decide) cal_X11_needPerson.2.2.1) (dk dX11_person 2 rfl) (K.1 _ (by rw [ht]; decide)) (ent_o11 ht) (c_X11_needPerson K ht hq1) (rmx_cap hR (by decide) (by decide)) (Nat.le_of_ble_eq_true rfl) rfl (fun r hr => ?_) (fun j hj => nomatch hj)
  obtain rfl := Sum.inr.inj hr
  refine e_iload_n C 2 (dk dX11_person 3 rfl) rfl rfl ?_
  refine e_iconst C 5 (dk dX11_person 4 rfl) (by decide) ?_
  rcases hq2 : F_X11_needWhat p1 5 M with jq2 | uq2
  · rw [hq2] at h
    dsimp only [Sum.elim_inl] at h
    obtain rfl := Option.some.inj h
    exact e_xcallS C cal_X11_needWhat sm_X11_needWhat ml_X11_115 (rmx_roomX hR (by decide) cal_X11_needWhat.2.2.1) (dk dX11_person 5 rfl) (c_X11_needWhat K hq2) (rmx_cap hR (by decide) (by decide)) (Nat.le_of_ble_eq_true rfl) rfl (fun r hr => nomatch hr) (fun j hj => by
      obtain rfl := Sum.inl.inj hj
      exact e_prop C B (by decide) (by decide))
  rw [hq2] at h
  dsimp only [Sum.elim_inr] at h
  refine e_xcallS C cal_X11_needWhat sm_X11_needWhat ml_X11_115 (rmx_roomX hR (by decide) cal_X11_needWhat.2.2.1) (dk dX11_person 5 rfl) (c_X11_needWhat K hq2) (rmx_cap hR (by decide) (by decide)) (Nat.le_of_ble_eq_true rfl) rfl (fun r hr => ?_) (fun j hj => nomatch hj)
  obtain rfl := Sum.inr.inj hr
  refine e_aload_n C 0 (dk dX11_person 6 rfl) rfl rfl ?_
  refine gf_X11_book C K ht fl_X11_30 (dk dX11_person 7 rfl) ?_
  refine gf_X0_town C K (kd_X11_book K ht) fl_X11_119 (dk dX11_person 8 rfl) ?_
  refine e_astore_n C [(3, .ref (g_N g + ((t + 24) + 1))), (0, .ref (g_N g + t)), (1, .int p0), (2, .int p1)] (dk dX11_person 9 rfl) rfl (by decide) rfl ?_
  refine e_iload_n C 3 (dk dX11_person 10 rfl) rfl rfl ?_
  by_cases c3 : p1 = 0
  · rw [if_pos c3] at h
    refine e_tsIn C 48 (dk dX11_person 11 rfl) (by rw [c3]; decide) (by rw [c3]; decide) (by rw [c3]; rfl) (by decide) ?_
    refine e_aload_n C 0 (dk dX11_person 12 rfl) rfl rfl ?_
    refine gf_X8_coins C K (kd_X0_town K (kd_X11_book K ht)) fl_X11_185 (dk dX11_person 13 rfl) ?_
    refine e_iload_n C 2 (dk dX11_person 14 rfl) rfl rfl ?_
    refine e_callS2 C cal_X11_at sm_X11_at ml_X11_172 (rmx_room hR (by decide) cal_X11_at.2.2.1) (dk dX11_person 15 rfl) (c_X11_at K (kd_X8_coins K (kd_X0_town K (kd_X11_book K ht))) (rfl : F_X11_at (((t + 24) + 1) + 1) 7 p0 M = _)) (rmx_cap hR (by decide) (by decide)) (Nat.le_of_ble_eq_true rfl) rfl ?_
    obtain rfl := Option.some.inj h
    exact e_iretX C B (nar1 _) (by decide) (by decide) (dk dX11_person 16 rfl)
  rw [if_neg c3] at h
  by_cases c4 : p1 = 1
  · rw [if_pos c4] at h
    refine e_tsIn C 57 (dk dX11_person 11 rfl) (by rw [c4]; decide) (by rw [c4]; decide) (by rw [c4]; rfl) (by decide) ?_
    refine e_aload_n C 1 (dk dX11_person 17 rfl) rfl rfl ?_
    obtain ⟨w5, hw5, h⟩ := ob h
    have gw5 := grd_some K (Or.inl ht) hw5
    refine gf_X11_plan C K ht fl_X11_19 (dk dX11_person 18 rfl) ?_
    rw [gw5.1]
    refine gf_X9_lengths C K gw5.2 fl_X11_188 (dk dX11_person 19 rfl) ?_
    refine e_iload_n C 2 (dk dX11_person 20 rfl) rfl rfl ?_
    refine e_callS2 C cal_X11_at sm_X11_at ml_X11_172 (rmx_room hR (by decide) cal_X11_at.2.2.1) (dk dX11_person 21 rfl) (c_X11_at K (kd_X9_lengths K gw5.2) (rfl : F_X11_at (w5 + 4) 7 p0 M = _)) (rmx_cap hR (by decide) (by decide)) (Nat.le_of_ble_eq_true rfl) rfl ?_
    obtain rfl := Option.some.inj h
    exact e_iretX C B (nar1 _) (by decide) (by decide) (dk dX11_person 22 rfl)
  rw [if_neg c4] at h
  by_cases c6 : p1 = 2
  · rw [if_pos c6] at h
    refine e_tsIn C 69 (dk dX11_person 11 rfl) (by rw [c6]; decide) (by rw [c6]; decide) (by rw [c6]; rfl) (by decide) ?_
    refine e_aload_n C 0 (dk dX11_person 23 rfl) rfl rfl ?_
    refine gf_X8_knows C K (kd_X0_town K (kd_X11_book K ht)) fl_X11_191 (dk dX11_person 24 rfl) ?_
    refine e_iload_n C 2 (dk dX11_person 25 rfl) rfl rfl ?_
    refine e_callS2 C cal_X11_at sm_X11_at ml_X11_172 (rmx_room hR (by decide) cal_X11_at.2.2.1) (dk dX11_person 26 rfl) (c_X11_at K (kd_X8_knows K (kd_X0_town K (kd_X11_book K ht))) (rfl : F_X11_at (((t + 24) + 1) + 2) 7 p0 M = _)) (rmx_cap hR (by decide) (by decide)) (Nat.le_of_ble_eq_true rfl) rfl ?_
    obtain rfl := Option.some.inj h
    exact e_iretX C B (nar1 _) (by decide) (by decide) (dk dX11_person 27 rfl)
  rw [if_neg c6] at h
  by_cases c7 : p1 = 3
  · rw [if_pos c7] at h
    refine e_tsIn C 78 (dk dX11_person 11 rfl) (by rw [c7]; decide) (by rw [c7]; decide) (by rw [c7]; rfl) (by decide) ?_
    refine e_aload_n C 1 (dk dX11_person 28 rfl) rfl rfl ?_
    obtain ⟨w8, hw8, h⟩ := ob h
    have gw8 := grd_some K (Or.inl ht) hw8
    refine gf_X11_plan C K ht fl_X11_19 (dk dX11_person 29 rfl) ?_
    rw [gw8.1]
    refine gf_X9_bishops C K gw8.2 fl_X11_194 (dk dX11_person 30 rfl) ?_
    refine e_iload_n C 2 (dk dX11_person 31 rfl) rfl rfl ?_
    refine e_ishr C (dk dX11_person 32 rfl) ?_
    refine e_iconst C 1 (dk dX11_person 33 rfl) (by decide) ?_
    refine e_iand C (dk dX11_person 34 rfl) ?_
    obtain rfl := Option.some.inj h
    exact e_iretX C B (nar1 _) (by decide) (by decide) (dk dX11_person 35 rfl)
  rw [if_neg c7] at h
  refine e_tsOut C 90 (dk dX11_person 11 rfl) (ts_out (0) (3) (by decide) (fun v h1 h2 => ?_)) (by decide) ?_
  · intro o9
    have hv : v = (0 : Int) ∨ v = (1 : Int) ∨ v = (2 : Int) ∨ v = (3 : Int) := by omega
    rcases hv with rfl | rfl | rfl | rfl
    · exact c3 (Int32.toInt_inj.mp (by rw [o9]; rfl))
    · exact c4 (Int32.toInt_inj.mp (by rw [o9]; rfl))
    · exact c6 (Int32.toInt_inj.mp (by rw [o9]; rfl))
    · exact c7 (Int32.toInt_inj.mp (by rw [o9]; rfl))
  refine e_aload_n C 1 (dk dX11_person 36 rfl) rfl rfl ?_
  obtain ⟨w10, hw10, h⟩ := ob h
  have gw10 := grd_some K (Or.inl ht) hw10
  refine gf_X11_plan C K ht fl_X11_19 (dk dX11_person 37 rfl) ?_
  rw [gw10.1]
  refine e_aload_n C 0 (dk dX11_person 38 rfl) rfl rfl ?_
  refine e_iload_n C 2 (dk dX11_person 39 rfl) rfl rfl ?_
  refine e_aload_n C 0 (dk dX11_person 40 rfl) rfl rfl ?_
  refine gf_X8_walks C K (kd_X0_town K (kd_X11_book K ht)) fl_X11_197 (dk dX11_person 41 rfl) ?_
  refine e_iload_n C 2 (dk dX11_person 42 rfl) rfl rfl ?_
  refine e_callS2 C cal_X11_at sm_X11_at ml_X11_172 (rmx_room hR (by decide) cal_X11_at.2.2.1) (dk dX11_person 43 rfl) (c_X11_at K (kd_X8_walks K (kd_X0_town K (kd_X11_book K ht))) (rfl : F_X11_at (((t + 24) + 1) + 3) 7 p0 M = _)) (rmx_cap hR (by decide) (by decide)) (Nat.le_of_ble_eq_true rfl) rfl ?_
  refine e_iconst C 1 (dk dX11_person 44 rfl) (by decide) ?_
  obtain ⟨q11, hq11, h⟩ := ob h
  refine e_callV2 (ci := 9) C cal_X9_seenIn im_X9_seenIn se_X9_seenIn ml_X11_200 rfl (rmx_room hR (by decide) cal_X9_seenIn.2.2.1) (dk dX11_person 45 rfl) (K.1 _ (by rw [gw10.2]; decide)) (ent_o9 gw10.2) (c_X9_seenIn K gw10.2 (kd_X0_town K (kd_X11_book K ht)) hq11) (rmx_cap hR (by decide) (by decide)) (Nat.le_of_ble_eq_true rfl) rfl ?_
  obtain rfl := Option.some.inj h
  exact e_iretX C B (nar1 _) (by decide) (by decide) (dk dX11_person 46 rfl)
set_option maxRecDepth 20000 in
theorem c_X11_walk {g : WC} {Xo : Nat → va_E} {n : Nat} {kd : Nat → Nat} (K : KD n kd) {t : Nat} {p0 : Int32} {p1 : Int32} (ht : kd t = 12) {M : Mem} {res : Sum Nat (Int32)} (h : F_X11_walk t p0 p1 M = some res) : MX g yX11_walk cX11_walk 3 (some .int) 2 2 12 n [.ref (g_N g + t), .int p0, .int p1] (ent g Xo kd M) (oI res) (ent g Xo kd M) := by
  refine MX_of pn_X11 (Nat.le_of_ble_eq_true rfl) (fun X C B => ?_)
  have hR := B.1
  rw [F_X11_walk] at h
  refine e_aload_n C 0 (dk dX11_walk 0 rfl) rfl rfl ?_
  refine e_iload_n C 1 (dk dX11_walk 1 rfl) rfl rfl ?_
  refine e_iload_n C 2 (dk dX11_walk 2 rfl) rfl rfl ?_
  obtain ⟨q1, hq1, h⟩ := ob h
  rcases q1 with jq1 | uq1
  · dsimp only [Sum.elim_inl] at h
    obtain rfl := Option.some.inj h
    exact e_xcallV (ci := 11) C cal_X11_needPlace im_X11_needPlace se_X11_needPlace ml_X11_204 rfl (rmx_roomX hR (by decide) cal_X11_needPlace.2.2.1) (dk dX11_walk 3 rfl) (K.1 _ (by rw [ht]; decide)) (ent_o11 ht) (c_X11_needPlace K ht hq1) (rmx_cap hR (by decide) (by decide)) (Nat.le_of_ble_eq_true rfl) rfl (fun r hr => nomatch hr) (fun j hj => by
      obtain rfl := Sum.inl.inj hj
      exact e_prop C B (by decide) (by decide))
  dsimp only [Sum.elim_inr] at h
  refine e_xcallV (ci := 11) C cal_X11_needPlace im_X11_needPlace se_X11_needPlace ml_X11_204 rfl (rmx_roomX hR (by decide) cal_X11_needPlace.2.2.1) (dk dX11_walk 3 rfl) (K.1 _ (by rw [ht]; decide)) (ent_o11 ht) (c_X11_needPlace K ht hq1) (rmx_cap hR (by decide) (by decide)) (Nat.le_of_ble_eq_true rfl) rfl (fun r hr => ?_) (fun j hj => nomatch hj)
  obtain rfl := Sum.inr.inj hr
  refine e_aload_n C 0 (dk dX11_walk 4 rfl) rfl rfl ?_
  refine gf_X11_book C K ht fl_X11_30 (dk dX11_walk 5 rfl) ?_
  refine gf_X0_town C K (kd_X11_book K ht) fl_X11_119 (dk dX11_walk 6 rfl) ?_
  refine gf_X8_walks C K (kd_X0_town K (kd_X11_book K ht)) fl_X11_197 (dk dX11_walk 7 rfl) ?_
  refine e_iload_n C 1 (dk dX11_walk 8 rfl) rfl rfl ?_
  refine e_callS2 C cal_X11_at sm_X11_at ml_X11_172 (rmx_room hR (by decide) cal_X11_at.2.2.1) (dk dX11_walk 9 rfl) (c_X11_at K (kd_X8_walks K (kd_X0_town K (kd_X11_book K ht))) (rfl : F_X11_at (((t + 24) + 1) + 3) 7 p0 M = _)) (rmx_cap hR (by decide) (by decide)) (Nat.le_of_ble_eq_true rfl) rfl ?_
  refine e_iload_n C 2 (dk dX11_walk 10 rfl) rfl rfl ?_
  refine e_callS2 C cal_X11_streetIn sm_X11_streetIn ml_X11_207 (rmx_room hR (by decide) cal_X11_streetIn.2.2.1) (dk dX11_walk 11 rfl) (c_X11_streetIn K (rfl : F_X11_streetIn (F_X11_at (((t + 24) + 1) + 3) 7 p0 M) p1 = _)) (rmx_cap hR (by decide) (by decide)) (Nat.le_of_ble_eq_true rfl) rfl ?_
  obtain rfl := Option.some.inj h
  exact e_iretX C B (nar1 _) (by decide) (by decide) (dk dX11_walk 12 rfl)
set_option maxRecDepth 20000 in
theorem c_X11_bribe {g : WC} {Xo : Nat → va_E} {n : Nat} {kd : Nat → Nat} (K : KD n kd) {t : Nat} {p0 : Int32} (ht : kd t = 12) {M : Mem} {res : Sum Nat (Int32 × Mem)} (h : F_X11_bribe t p0 M = some res) : MX g yX11_bribe cX11_bribe 2 (some .int) 3 1 6 n [.ref (g_N g + t), .int p0] (ent g Xo kd M) (oIM res) (ent g Xo kd (mX res M)) := by
  refine MX_of pn_X11 (Nat.le_of_ble_eq_true rfl) (fun X C B => ?_)
  have hR := B.1
  rw [F_X11_bribe] at h
  refine e_aload_n C 0 (dk dX11_bribe 0 rfl) rfl rfl ?_
  refine e_iload_n C 1 (dk dX11_bribe 1 rfl) rfl rfl ?_
  obtain ⟨q1, hq1, h⟩ := ob h
  rcases q1 with jq1 | uq1
  · dsimp only [Sum.elim_inl] at h
    obtain rfl := Option.some.inj h
    exact e_xcallV (ci := 11) C cal_X11_needPerson im_X11_needPerson se_X11_needPerson ml_X11_182 rfl (rmx_roomX hR (by decide) cal_X11_needPerson.2.2.1) (dk dX11_bribe 2 rfl) (K.1 _ (by rw [ht]; decide)) (ent_o11 ht) (c_X11_needPerson K ht hq1) (rmx_cap hR (by decide) (by decide)) (Nat.le_of_ble_eq_true rfl) rfl (fun r hr => nomatch hr) (fun j hj => by
      obtain rfl := Sum.inl.inj hj
      exact e_prop C B (by decide) (by decide))
  dsimp only [Sum.elim_inr] at h
  refine e_xcallV (ci := 11) C cal_X11_needPerson im_X11_needPerson se_X11_needPerson ml_X11_182 rfl (rmx_roomX hR (by decide) cal_X11_needPerson.2.2.1) (dk dX11_bribe 2 rfl) (K.1 _ (by rw [ht]; decide)) (ent_o11 ht) (c_X11_needPerson K ht hq1) (rmx_cap hR (by decide) (by decide)) (Nat.le_of_ble_eq_true rfl) rfl (fun r hr => ?_) (fun j hj => nomatch hj)
  obtain rfl := Sum.inr.inj hr
  refine e_aload_n C 0 (dk dX11_bribe 3 rfl) rfl rfl ?_
  refine gf_X11_book C K ht fl_X11_30 (dk dX11_bribe 4 rfl) ?_
  refine gf_X0_town C K (kd_X11_book K ht) fl_X11_119 (dk dX11_bribe 5 rfl) ?_
  refine e_iload_n C 1 (dk dX11_bribe 6 rfl) rfl rfl ?_
  refine e_callV2 (ci := 8) C cal_X8_canBribe im_X8_canBribe se_X8_canBribe ml_X11_218 rfl (rmx_room hR (by decide) cal_X8_canBribe.2.2.1) (dk dX11_bribe 7 rfl) (K.1 _ (by rw [(kd_X0_town K (kd_X11_book K ht))]; decide)) (ent_o8 (kd_X0_town K (kd_X11_book K ht))) (c_X8_canBribe K (kd_X0_town K (kd_X11_book K ht)) (rfl : F_X8_canBribe ((t + 24) + 1) p0 M = _)) (rmx_cap hR (by decide) (by decide)) (Nat.le_of_ble_eq_true rfl) rfl ?_
  refine e_if_ne C 28 (dk dX11_bribe 8 rfl) (by decide) (fun c2 => ?_) (fun c2 => ?_)
  · rw [if_neg c2] at h
    refine e_aload_n C 0 (dk dX11_bribe 14 rfl) rfl rfl ?_
    refine gf_X11_book C K ht fl_X11_30 (dk dX11_bribe 15 rfl) ?_
    obtain ⟨q3, hq3, h⟩ := ob h
    refine e_callV2 (ci := 0) C cal_X0_keepAct im_X0_keepAct se_X0_keepAct ml_X11_211 rfl (rmx_room hR (by decide) cal_X0_keepAct.2.2.1) (dk dX11_bribe 16 rfl) (K.1 _ (by rw [(kd_X11_book K ht)]; decide)) (ent_o0 (kd_X11_book K ht)) (c_X0_keepAct K (kd_X11_book K ht) hq3) (rmx_cap hR (by decide) (by decide)) (Nat.le_of_ble_eq_true rfl) rfl ?_
    refine e_aload_n C 0 (dk dX11_bribe 17 rfl) rfl rfl ?_
    refine gf_X11_book C K ht fl_X11_30 (dk dX11_bribe 18 rfl) ?_
    refine gf_X0_town C K (kd_X11_book K ht) fl_X11_119 (dk dX11_bribe 19 rfl) ?_
    refine e_iload_n C 1 (dk dX11_bribe 20 rfl) rfl rfl ?_
    refine e_callV2 (ci := 8) C cal_X8_startBribing im_X8_startBribing se_X8_startBribing ml_X11_222 rfl (rmx_room hR (by decide) cal_X8_startBribing.2.2.1) (dk dX11_bribe 21 rfl) (K.1 _ (by rw [(kd_X0_town K (kd_X11_book K ht))]; decide)) (ent_o8 (kd_X0_town K (kd_X11_book K ht))) (c_X8_startBribing K (kd_X0_town K (kd_X11_book K ht)) (rfl : F_X8_startBribing ((t + 24) + 1) p0 q3 = _)) (rmx_cap hR (by decide) (by decide)) (Nat.le_of_ble_eq_true rfl) rfl ?_
    refine e_aload_n C 0 (dk dX11_bribe 22 rfl) rfl rfl ?_
    refine gf_X11_book C K ht fl_X11_30 (dk dX11_bribe 23 rfl) ?_
    refine gf_X0_town C K (kd_X11_book K ht) fl_X11_119 (dk dX11_bribe 24 rfl) ?_
    refine gf_X8_coins C K (kd_X0_town K (kd_X11_book K ht)) fl_X11_185 (dk dX11_bribe 25 rfl) ?_
    refine e_iload_n C 1 (dk dX11_bribe 26 rfl) rfl rfl ?_
    refine e_callS2 C cal_X11_at sm_X11_at ml_X11_172 (rmx_room hR (by decide) cal_X11_at.2.2.1) (dk dX11_bribe 27 rfl) (c_X11_at K (kd_X8_coins K (kd_X0_town K (kd_X11_book K ht))) (rfl : F_X11_at (((t + 24) + 1) + 1) 7 p0 (F_X8_startBribing ((t + 24) + 1) p0 q3) = _)) (rmx_cap hR (by decide) (by decide)) (Nat.le_of_ble_eq_true rfl) rfl ?_
    obtain rfl := Option.some.inj h
    exact e_iretX C B (nar1 _) (by decide) (by decide) (dk dX11_bribe 28 rfl)
  · rw [if_pos c2] at h
    refine e_aload_n C 0 (dk dX11_bribe 9 rfl) rfl rfl ?_
    refine gf_X11_book C K ht fl_X11_30 (dk dX11_bribe 10 rfl) ?_
    refine e_iconst C 1 (dk dX11_bribe 11 rfl) (by decide) ?_
    refine e_callV2 (ci := 0) C cal_X0_refuse im_X0_refuse se_X0_refuse ml_X11_104 rfl (rmx_room hR (by decide) cal_X0_refuse.2.2.1) (dk dX11_bribe 12 rfl) (K.1 _ (by rw [(kd_X11_book K ht)]; decide)) (ent_o0 (kd_X11_book K ht)) (c_X0_refuse K (kd_X11_book K ht) (rfl : F_X0_refuse (t + 24) 1 M = _)) (rmx_cap hR (by decide) (by decide)) (Nat.le_of_ble_eq_true rfl) rfl ?_
    obtain rfl := Option.some.inj h
    exact e_iretX C B (nar1 _) (by decide) (by decide) (dk dX11_bribe 13 rfl)
set_option maxRecDepth 20000 in
theorem c_X11_wander {g : WC} {Xo : Nat → va_E} {n : Nat} {kd : Nat → Nat} (K : KD n kd) {t : Nat} {p0 : Int32} {p1 : Int32} {p2 : Int32} (ht : kd t = 12) {M : Mem} {res : Sum Nat (Int32 × Mem)} (h : F_X11_wander t p0 p1 p2 M = some res) : MX g yX11_wander cX11_wander 5 (some .int) 3 3 18 n [.ref (g_N g + t), .int p0, .int p1, .int p2] (ent g Xo kd M) (oIM res) (ent g Xo kd (mX res M)) := by
  refine MX_of pn_X11 (Nat.le_of_ble_eq_true rfl) (fun X C B => ?_)
  have hR := B.1
  rw [F_X11_wander] at h
  refine e_aload_n C 0 (dk dX11_wander 0 rfl) rfl rfl ?_
  refine e_iload_n C 1 (dk dX11_wander 1 rfl) rfl rfl ?_
  refine e_iload_n C 2 (dk dX11_wander 2 rfl) rfl rfl ?_
  obtain ⟨q1, hq1, h⟩ := ob h
  rcases q1 with jq1 | uq1
  · dsimp only [Sum.elim_inl] at h
    obtain rfl := Option.some.inj h
    exact e_xcallV (ci := 11) C cal_X11_needPlace im_X11_needPlace se_X11_needPlace ml_X11_204 rfl (rmx_roomX hR (by decide) cal_X11_needPlace.2.2.1) (dk dX11_wander 3 rfl) (K.1 _ (by rw [ht]; decide)) (ent_o11 ht) (c_X11_needPlace K ht hq1) (rmx_cap hR (by decide) (by decide)) (Nat.le_of_ble_eq_true rfl) rfl (fun r hr => nomatch hr) (fun j hj => by
      obtain rfl := Sum.inl.inj hj
      exact e_prop C B (by decide) (by decide))
  dsimp only [Sum.elim_inr] at h
  refine e_xcallV (ci := 11) C cal_X11_needPlace im_X11_needPlace se_X11_needPlace ml_X11_204 rfl (rmx_roomX hR (by decide) cal_X11_needPlace.2.2.1) (dk dX11_wander 3 rfl) (K.1 _ (by rw [ht]; decide)) (ent_o11 ht) (c_X11_needPlace K ht hq1) (rmx_cap hR (by decide) (by decide)) (Nat.le_of_ble_eq_true rfl) rfl (fun r hr => ?_) (fun j hj => nomatch hj)
  obtain rfl := Sum.inr.inj hr
  refine e_aload_n C 0 (dk dX11_wander 4 rfl) rfl rfl ?_
  refine e_iload_n C 3 (dk dX11_wander 5 rfl) rfl rfl ?_
  obtain ⟨q2, hq2, h⟩ := ob h
  rcases q2 with jq2 | uq2
  · dsimp only [Sum.elim_inl] at h
    obtain rfl := Option.some.inj h
    exact e_xcallV (ci := 11) C cal_X11_needStreet im_X11_needStreet se_X11_needStreet ml_X11_176 rfl (rmx_roomX hR (by decide) cal_X11_needStreet.2.2.1) (dk dX11_wander 6 rfl) (K.1 _ (by rw [ht]; decide)) (ent_o11 ht) (c_X11_needStreet K ht hq2) (rmx_cap hR (by decide) (by decide)) (Nat.le_of_ble_eq_true rfl) rfl (fun r hr => nomatch hr) (fun j hj => by
      obtain rfl := Sum.inl.inj hj
      exact e_prop C B (by decide) (by decide))
  dsimp only [Sum.elim_inr] at h
  refine e_xcallV (ci := 11) C cal_X11_needStreet im_X11_needStreet se_X11_needStreet ml_X11_176 rfl (rmx_roomX hR (by decide) cal_X11_needStreet.2.2.1) (dk dX11_wander 6 rfl) (K.1 _ (by rw [ht]; decide)) (ent_o11 ht) (c_X11_needStreet K ht hq2) (rmx_cap hR (by decide) (by decide)) (Nat.le_of_ble_eq_true rfl) rfl (fun r hr => ?_) (fun j hj => nomatch hj)
  obtain rfl := Sum.inr.inj hr
  refine e_aload_n C 0 (dk dX11_wander 7 rfl) rfl rfl ?_
  refine gf_X11_book C K ht fl_X11_30 (dk dX11_wander 8 rfl) ?_
  refine gf_X0_town C K (kd_X11_book K ht) fl_X11_119 (dk dX11_wander 9 rfl) ?_
  refine gf_X8_walks C K (kd_X0_town K (kd_X11_book K ht)) fl_X11_197 (dk dX11_wander 10 rfl) ?_
  refine e_iload_n C 1 (dk dX11_wander 11 rfl) rfl rfl ?_
  refine e_callS2 C cal_X11_at sm_X11_at ml_X11_172 (rmx_room hR (by decide) cal_X11_at.2.2.1) (dk dX11_wander 12 rfl) (c_X11_at K (kd_X8_walks K (kd_X0_town K (kd_X11_book K ht))) (rfl : F_X11_at (((t + 24) + 1) + 3) 7 p0 M = _)) (rmx_cap hR (by decide) (by decide)) (Nat.le_of_ble_eq_true rfl) rfl ?_
  refine e_iload_n C 2 (dk dX11_wander 13 rfl) rfl rfl ?_
  refine e_callS2 C cal_X11_streetIn sm_X11_streetIn ml_X11_207 (rmx_room hR (by decide) cal_X11_streetIn.2.2.1) (dk dX11_wander 14 rfl) (c_X11_streetIn K (rfl : F_X11_streetIn (F_X11_at (((t + 24) + 1) + 3) 7 p0 M) p1 = _)) (rmx_cap hR (by decide) (by decide)) (Nat.le_of_ble_eq_true rfl) rfl ?_
  refine e_istore C [(4, .int (F_X11_streetIn (F_X11_at (((t + 24) + 1) + 3) 7 p0 M) p1)), (0, .ref (g_N g + t)), (1, .int p0), (2, .int p1), (3, .int p2)] (dk dX11_wander 15 rfl) (by decide) rfl ?_
  refine e_iload C 0 (dk dX11_wander 16 rfl) rfl ?_
  refine e_iload_n C 4 (dk dX11_wander 17 rfl) rfl rfl ?_
  refine e_icmp_ne C 46 (dk dX11_wander 18 rfl) (by decide) (fun c3 => ?_) (fun c3 => ?_)
  · rw [if_neg c3] at h
    refine e_aload_n C 1 (dk dX11_wander 24 rfl) rfl rfl ?_
    refine gf_X11_book C K ht fl_X11_30 (dk dX11_wander 25 rfl) ?_
    obtain ⟨q4, hq4, h⟩ := ob h
    refine e_callV2 (ci := 0) C cal_X0_keepAct im_X0_keepAct se_X0_keepAct ml_X11_211 rfl (rmx_room hR (by decide) cal_X0_keepAct.2.2.1) (dk dX11_wander 26 rfl) (K.1 _ (by rw [(kd_X11_book K ht)]; decide)) (ent_o0 (kd_X11_book K ht)) (c_X0_keepAct K (kd_X11_book K ht) hq4) (rmx_cap hR (by decide) (by decide)) (Nat.le_of_ble_eq_true rfl) rfl ?_
    refine e_aload_n C 1 (dk dX11_wander 27 rfl) rfl rfl ?_
    refine gf_X11_book C K ht fl_X11_30 (dk dX11_wander 28 rfl) ?_
    refine gf_X0_town C K (kd_X11_book K ht) fl_X11_119 (dk dX11_wander 29 rfl) ?_
    refine e_iload_n C 2 (dk dX11_wander 30 rfl) rfl rfl ?_
    refine e_iload_n C 3 (dk dX11_wander 31 rfl) rfl rfl ?_
    refine e_iload_n C 4 (dk dX11_wander 32 rfl) rfl rfl ?_
    refine e_callV2 (ci := 8) C cal_X8_move im_X8_move se_X8_move ml_X11_225 rfl (rmx_room hR (by decide) cal_X8_move.2.2.1) (dk dX11_wander 33 rfl) (K.1 _ (by rw [(kd_X0_town K (kd_X11_book K ht))]; decide)) (ent_o8 (kd_X0_town K (kd_X11_book K ht))) (c_X8_move K (kd_X0_town K (kd_X11_book K ht)) (rfl : F_X8_move ((t + 24) + 1) p0 p1 p2 q4 = _)) (rmx_cap hR (by decide) (by decide)) (Nat.le_of_ble_eq_true rfl) rfl ?_
    refine e_iload C 0 (dk dX11_wander 34 rfl) rfl ?_
    obtain rfl := Option.some.inj h
    exact e_iretX C B (nar1 _) (by decide) (by decide) (dk dX11_wander 35 rfl)
  · rw [if_pos c3] at h
    refine e_aload_n C 1 (dk dX11_wander 19 rfl) rfl rfl ?_
    refine gf_X11_book C K ht fl_X11_30 (dk dX11_wander 20 rfl) ?_
    refine e_iconst C 1 (dk dX11_wander 21 rfl) (by decide) ?_
    refine e_callV2 (ci := 0) C cal_X0_refuse im_X0_refuse se_X0_refuse ml_X11_104 rfl (rmx_room hR (by decide) cal_X0_refuse.2.2.1) (dk dX11_wander 22 rfl) (K.1 _ (by rw [(kd_X11_book K ht)]; decide)) (ent_o0 (kd_X11_book K ht)) (c_X0_refuse K (kd_X11_book K ht) (rfl : F_X0_refuse (t + 24) 1 M = _)) (rmx_cap hR (by decide) (by decide)) (Nat.le_of_ble_eq_true rfl) rfl ?_
    obtain rfl := Option.some.inj h
    exact e_iretX C B (nar1 _) (by decide) (by decide) (dk dX11_wander 23 rfl)
set_option maxRecDepth 20000 in
theorem j_X11_earn_j16 {X : FX} {g : WC} {Xo : Nat → va_E} {n : Nat} {kd : Nat → Nat} {E0 : Nat → va_E} (C : Cx X g RX11 cX11_earn 3) (K : KD n kd) {t : Nat} (ht : kd t = 12) (hR : x_R X = rmx 3 1 6) {M : Mem} {M0 : Mem} {res : Sum Nat (Int32 × Mem)} (h : J_X11_earn_j16 t M = some res) (B : BX X g (some .int) 3 1 6 n (oIM res) E0 (ent g Xo kd (mX res M0))) : EW X g (x_s X).heap.size n 3 (ent g Xo kd M) 1 6 16 [(0, .ref (g_N g + t))] [] := by
  rw [J_X11_earn_j16] at h
  refine e_aload_n C 0 (dk dX11_earn 9 rfl) rfl rfl ?_
  refine gf_X11_book C K ht fl_X11_30 (dk dX11_earn 10 rfl) ?_
  refine e_iconst C 1 (dk dX11_earn 11 rfl) (by decide) ?_
  refine e_callV2 (ci := 0) C cal_X0_refuse im_X0_refuse se_X0_refuse ml_X11_104 rfl (rmx_room hR (by decide) cal_X0_refuse.2.2.1) (dk dX11_earn 12 rfl) (K.1 _ (by rw [(kd_X11_book K ht)]; decide)) (ent_o0 (kd_X11_book K ht)) (c_X0_refuse K (kd_X11_book K ht) (rfl : F_X0_refuse (t + 24) 1 M = _)) (rmx_cap hR (by decide) (by decide)) (Nat.le_of_ble_eq_true rfl) rfl ?_
  obtain rfl := Option.some.inj h
  exact e_iretX C B (nar1 _) (by decide) (by decide) (dk dX11_earn 13 rfl)
set_option maxRecDepth 20000 in
theorem c_X11_earn {g : WC} {Xo : Nat → va_E} {n : Nat} {kd : Nat → Nat} (K : KD n kd) {t : Nat} {p0 : Int32} {p1 : Int32} (ht : kd t = 12) {M : Mem} {res : Sum Nat (Int32 × Mem)} (h : F_X11_earn t p0 p1 M = some res) : MX g yX11_earn cX11_earn 3 (some .int) 3 1 6 n [.ref (g_N g + t), .int p0, .int p1] (ent g Xo kd M) (oIM res) (ent g Xo kd (mX res M)) := by
  refine MX_of pn_X11 (Nat.le_of_ble_eq_true rfl) (fun X C B => ?_)
  have hR := B.1
  rw [F_X11_earn] at h
  refine e_aload_n C 0 (dk dX11_earn 0 rfl) rfl rfl ?_
  refine e_iload_n C 1 (dk dX11_earn 1 rfl) rfl rfl ?_
  obtain ⟨q1, hq1, h⟩ := ob h
  rcases q1 with jq1 | uq1
  · dsimp only [Sum.elim_inl] at h
    obtain rfl := Option.some.inj h
    exact e_xcallV (ci := 11) C cal_X11_needPerson im_X11_needPerson se_X11_needPerson ml_X11_182 rfl (rmx_roomX hR (by decide) cal_X11_needPerson.2.2.1) (dk dX11_earn 2 rfl) (K.1 _ (by rw [ht]; decide)) (ent_o11 ht) (c_X11_needPerson K ht hq1) (rmx_cap hR (by decide) (by decide)) (Nat.le_of_ble_eq_true rfl) rfl (fun r hr => nomatch hr) (fun j hj => by
      obtain rfl := Sum.inl.inj hj
      exact e_prop C B (by decide) (by decide))
  dsimp only [Sum.elim_inr] at h
  refine e_xcallV (ci := 11) C cal_X11_needPerson im_X11_needPerson se_X11_needPerson ml_X11_182 rfl (rmx_roomX hR (by decide) cal_X11_needPerson.2.2.1) (dk dX11_earn 2 rfl) (K.1 _ (by rw [ht]; decide)) (ent_o11 ht) (c_X11_needPerson K ht hq1) (rmx_cap hR (by decide) (by decide)) (Nat.le_of_ble_eq_true rfl) rfl (fun r hr => ?_) (fun j hj => nomatch hj)
  obtain rfl := Sum.inr.inj hr
  refine e_iload_n C 2 (dk dX11_earn 3 rfl) rfl rfl ?_
  refine e_iconst C 1 (dk dX11_earn 4 rfl) (by decide) ?_
  refine e_icmp_lt C 16 (dk dX11_earn 5 rfl) (by decide) (fun c2 => ?_) (fun c2 => ?_)
  · rw [if_pos c2] at h
    refine e_lv [0] rfl ?_
    exact j_X11_earn_j16 C K ht hR h B
  · rw [if_neg c2] at h
    refine e_iload_n C 2 (dk dX11_earn 6 rfl) rfl rfl ?_
    refine e_bipush C 99 (dk dX11_earn 7 rfl) (by decide) ?_
    refine e_icmp_le C 25 (dk dX11_earn 8 rfl) (by decide) (fun c3 => ?_) (fun c3 => ?_)
    · rw [if_pos c3] at h
      refine e_aload_n C 0 (dk dX11_earn 14 rfl) rfl rfl ?_
      refine gf_X11_book C K ht fl_X11_30 (dk dX11_earn 15 rfl) ?_
      obtain ⟨q4, hq4, h⟩ := ob h
      refine e_callV2 (ci := 0) C cal_X0_keepAct im_X0_keepAct se_X0_keepAct ml_X11_211 rfl (rmx_room hR (by decide) cal_X0_keepAct.2.2.1) (dk dX11_earn 16 rfl) (K.1 _ (by rw [(kd_X11_book K ht)]; decide)) (ent_o0 (kd_X11_book K ht)) (c_X0_keepAct K (kd_X11_book K ht) hq4) (rmx_cap hR (by decide) (by decide)) (Nat.le_of_ble_eq_true rfl) rfl ?_
      refine e_aload_n C 0 (dk dX11_earn 17 rfl) rfl rfl ?_
      refine gf_X11_book C K ht fl_X11_30 (dk dX11_earn 18 rfl) ?_
      refine gf_X0_town C K (kd_X11_book K ht) fl_X11_119 (dk dX11_earn 19 rfl) ?_
      refine e_iload_n C 1 (dk dX11_earn 20 rfl) rfl rfl ?_
      refine e_iload_n C 2 (dk dX11_earn 21 rfl) rfl rfl ?_
      refine e_callV2 (ci := 8) C cal_X8_addCoins im_X8_addCoins se_X8_addCoins ml_X11_229 rfl (rmx_room hR (by decide) cal_X8_addCoins.2.2.1) (dk dX11_earn 22 rfl) (K.1 _ (by rw [(kd_X0_town K (kd_X11_book K ht))]; decide)) (ent_o8 (kd_X0_town K (kd_X11_book K ht))) (c_X8_addCoins K (kd_X0_town K (kd_X11_book K ht)) (rfl : F_X8_addCoins ((t + 24) + 1) p0 p1 q4 = _)) (rmx_cap hR (by decide) (by decide)) (Nat.le_of_ble_eq_true rfl) rfl ?_
      refine e_aload_n C 0 (dk dX11_earn 23 rfl) rfl rfl ?_
      refine gf_X11_book C K ht fl_X11_30 (dk dX11_earn 24 rfl) ?_
      refine gf_X0_town C K (kd_X11_book K ht) fl_X11_119 (dk dX11_earn 25 rfl) ?_
      refine gf_X8_coins C K (kd_X0_town K (kd_X11_book K ht)) fl_X11_185 (dk dX11_earn 26 rfl) ?_
      refine e_iload_n C 1 (dk dX11_earn 27 rfl) rfl rfl ?_
      refine e_callS2 C cal_X11_at sm_X11_at ml_X11_172 (rmx_room hR (by decide) cal_X11_at.2.2.1) (dk dX11_earn 28 rfl) (c_X11_at K (kd_X8_coins K (kd_X0_town K (kd_X11_book K ht))) (rfl : F_X11_at (((t + 24) + 1) + 1) 7 p0 (F_X8_addCoins ((t + 24) + 1) p0 p1 q4) = _)) (rmx_cap hR (by decide) (by decide)) (Nat.le_of_ble_eq_true rfl) rfl ?_
      obtain rfl := Option.some.inj h
      exact e_iretX C B (nar1 _) (by decide) (by decide) (dk dX11_earn 29 rfl)
    · rw [if_neg c3] at h
      refine e_lv [0] rfl ?_
      exact j_X11_earn_j16 C K ht hR h B
set_option maxRecDepth 20000 in
theorem c_X11_lots {g : WC} {Xo : Nat → va_E} {n : Nat} {kd : Nat → Nat} (K : KD n kd) {t : Nat} {p0 : Int32} (ht : kd t = 12) {M : Mem} {res : Sum Nat (Int32)} (h : F_X11_lots t p0 M = some res) : MX g yX11_lots cX11_lots 2 (some .int) 4 1 6 n [.ref (g_N g + t), .int p0] (ent g Xo kd M) (oI res) (ent g Xo kd M) := by
  refine MX_of pn_X11 (Nat.le_of_ble_eq_true rfl) (fun X C B => ?_)
  have hR := B.1
  rw [F_X11_lots] at h
  refine e_iload_n C 1 (dk dX11_lots 0 rfl) rfl rfl ?_
  refine e_iconst C 1 (dk dX11_lots 1 rfl) (by decide) ?_
  refine e_bipush C 40 (dk dX11_lots 2 rfl) (by decide) ?_
  rcases hq1 : F_X11_needWithin p0 1 40 M with jq1 | uq1
  · rw [hq1] at h
    dsimp only [Sum.elim_inl] at h
    obtain rfl := Option.some.inj h
    exact e_xcallS C cal_X11_needWithin sm_X11_needWithin ml_X11_236 (rmx_roomX hR (by decide) cal_X11_needWithin.2.2.1) (dk dX11_lots 3 rfl) (c_X11_needWithin K hq1) (rmx_cap hR (by decide) (by decide)) (Nat.le_of_ble_eq_true rfl) rfl (fun r hr => nomatch hr) (fun j hj => by
      obtain rfl := Sum.inl.inj hj
      exact e_prop C B (by decide) (by decide))
  rw [hq1] at h
  dsimp only [Sum.elim_inr] at h
  refine e_xcallS C cal_X11_needWithin sm_X11_needWithin ml_X11_236 (rmx_roomX hR (by decide) cal_X11_needWithin.2.2.1) (dk dX11_lots 3 rfl) (c_X11_needWithin K hq1) (rmx_cap hR (by decide) (by decide)) (Nat.le_of_ble_eq_true rfl) rfl (fun r hr => ?_) (fun j hj => nomatch hj)
  obtain rfl := Sum.inr.inj hr
  refine e_aload_n C 0 (dk dX11_lots 4 rfl) rfl rfl ?_
  obtain ⟨w2, hw2, h⟩ := ob h
  have gw2 := grd_some K (Or.inl ht) hw2
  refine gf_X11_plan C K ht fl_X11_19 (dk dX11_lots 5 rfl) ?_
  rw [gw2.1]
  refine e_aload_n C 0 (dk dX11_lots 6 rfl) rfl rfl ?_
  refine gf_X11_book C K ht fl_X11_30 (dk dX11_lots 7 rfl) ?_
  refine gf_X0_town C K (kd_X11_book K ht) fl_X11_119 (dk dX11_lots 8 rfl) ?_
  refine e_iload_n C 1 (dk dX11_lots 9 rfl) rfl rfl ?_
  obtain ⟨q3, hq3, h⟩ := ob h
  refine e_callV2 (ci := 9) C cal_X9_lotsIn im_X9_lotsIn se_X9_lotsIn ml_X11_239 rfl (rmx_room hR (by decide) cal_X9_lotsIn.2.2.1) (dk dX11_lots 10 rfl) (K.1 _ (by rw [gw2.2]; decide)) (ent_o9 gw2.2) (c_X9_lotsIn K gw2.2 (kd_X0_town K (kd_X11_book K ht)) hq3) (rmx_cap hR (by decide) (by decide)) (Nat.le_of_ble_eq_true rfl) rfl ?_
  obtain rfl := Option.some.inj h
  exact e_iretX C B (nar1 _) (by decide) (by decide) (dk dX11_lots 11 rfl)
set_option maxRecDepth 20000 in
theorem c_X11_sold {g : WC} {Xo : Nat → va_E} {n : Nat} {kd : Nat → Nat} (K : KD n kd) {t : Nat} {p0 : Int32} {p1 : Int32} {p2 : Int32} (ht : kd t = 12) {M : Mem} {res : Sum Nat (Int32 × Mem)} (h : F_X11_sold t p0 p1 p2 M = some res) : MX g yX11_sold cX11_sold 4 (some .int) 6 3 18 n [.ref (g_N g + t), .int p0, .int p1, .int p2] (ent g Xo kd M) (oIM res) (ent g Xo kd (mX res M)) := by
  refine MX_of pn_X11 (Nat.le_of_ble_eq_true rfl) (fun X C B => ?_)
  have hR := B.1
  rw [F_X11_sold] at h
  refine e_aload_n C 0 (dk dX11_sold 0 rfl) rfl rfl ?_
  refine e_iload_n C 1 (dk dX11_sold 1 rfl) rfl rfl ?_
  obtain ⟨q1, hq1, h⟩ := ob h
  rcases q1 with jq1 | uq1
  · dsimp only [Sum.elim_inl] at h
    obtain rfl := Option.some.inj h
    exact e_xcallV (ci := 11) C cal_X11_needPerson im_X11_needPerson se_X11_needPerson ml_X11_182 rfl (rmx_roomX hR (by decide) cal_X11_needPerson.2.2.1) (dk dX11_sold 2 rfl) (K.1 _ (by rw [ht]; decide)) (ent_o11 ht) (c_X11_needPerson K ht hq1) (rmx_cap hR (by decide) (by decide)) (Nat.le_of_ble_eq_true rfl) rfl (fun r hr => nomatch hr) (fun j hj => by
      obtain rfl := Sum.inl.inj hj
      exact e_prop C B (by decide) (by decide))
  dsimp only [Sum.elim_inr] at h
  refine e_xcallV (ci := 11) C cal_X11_needPerson im_X11_needPerson se_X11_needPerson ml_X11_182 rfl (rmx_roomX hR (by decide) cal_X11_needPerson.2.2.1) (dk dX11_sold 2 rfl) (K.1 _ (by rw [ht]; decide)) (ent_o11 ht) (c_X11_needPerson K ht hq1) (rmx_cap hR (by decide) (by decide)) (Nat.le_of_ble_eq_true rfl) rfl (fun r hr => ?_) (fun j hj => nomatch hj)
  obtain rfl := Sum.inr.inj hr
  refine e_iload_n C 3 (dk dX11_sold 3 rfl) rfl rfl ?_
  refine e_iconst C 2 (dk dX11_sold 4 rfl) (by decide) ?_
  rcases hq2 : F_X11_needWhat p2 2 M with jq2 | uq2
  · rw [hq2] at h
    dsimp only [Sum.elim_inl] at h
    obtain rfl := Option.some.inj h
    exact e_xcallS C cal_X11_needWhat sm_X11_needWhat ml_X11_115 (rmx_roomX hR (by decide) cal_X11_needWhat.2.2.1) (dk dX11_sold 5 rfl) (c_X11_needWhat K hq2) (rmx_cap hR (by decide) (by decide)) (Nat.le_of_ble_eq_true rfl) rfl (fun r hr => nomatch hr) (fun j hj => by
      obtain rfl := Sum.inl.inj hj
      exact e_prop C B (by decide) (by decide))
  rw [hq2] at h
  dsimp only [Sum.elim_inr] at h
  refine e_xcallS C cal_X11_needWhat sm_X11_needWhat ml_X11_115 (rmx_roomX hR (by decide) cal_X11_needWhat.2.2.1) (dk dX11_sold 5 rfl) (c_X11_needWhat K hq2) (rmx_cap hR (by decide) (by decide)) (Nat.le_of_ble_eq_true rfl) rfl (fun r hr => ?_) (fun j hj => nomatch hj)
  obtain rfl := Sum.inr.inj hr
  refine e_iload_n C 2 (dk dX11_sold 6 rfl) rfl rfl ?_
  refine e_iconst C 1 (dk dX11_sold 7 rfl) (by decide) ?_
  refine e_bipush C 40 (dk dX11_sold 8 rfl) (by decide) ?_
  rcases hq3 : F_X11_needWithin p1 1 40 M with jq3 | uq3
  · rw [hq3] at h
    dsimp only [Sum.elim_inl] at h
    obtain rfl := Option.some.inj h
    exact e_xcallS C cal_X11_needWithin sm_X11_needWithin ml_X11_236 (rmx_roomX hR (by decide) cal_X11_needWithin.2.2.1) (dk dX11_sold 9 rfl) (c_X11_needWithin K hq3) (rmx_cap hR (by decide) (by decide)) (Nat.le_of_ble_eq_true rfl) rfl (fun r hr => nomatch hr) (fun j hj => by
      obtain rfl := Sum.inl.inj hj
      exact e_prop C B (by decide) (by decide))
  rw [hq3] at h
  dsimp only [Sum.elim_inr] at h
  refine e_xcallS C cal_X11_needWithin sm_X11_needWithin ml_X11_236 (rmx_roomX hR (by decide) cal_X11_needWithin.2.2.1) (dk dX11_sold 9 rfl) (c_X11_needWithin K hq3) (rmx_cap hR (by decide) (by decide)) (Nat.le_of_ble_eq_true rfl) rfl (fun r hr => ?_) (fun j hj => nomatch hj)
  obtain rfl := Sum.inr.inj hr
  refine e_aload_n C 0 (dk dX11_sold 10 rfl) rfl rfl ?_
  refine e_iload_n C 2 (dk dX11_sold 11 rfl) rfl rfl ?_
  obtain ⟨q4, hq4, h⟩ := ob h
  refine e_callV2 (ci := 11) C cal_X11_goAhead im_X11_goAhead se_X11_goAhead ml_X11_243 rfl (rmx_room hR (by decide) cal_X11_goAhead.2.2.1) (dk dX11_sold 12 rfl) (K.1 _ (by rw [ht]; decide)) (ent_o11 ht) (c_X11_goAhead K ht hq4) (rmx_cap hR (by decide) (by decide)) (Nat.le_of_ble_eq_true rfl) rfl ?_
  refine e_iload_n C 3 (dk dX11_sold 13 rfl) rfl rfl ?_
  refine e_if_ne C 40 (dk dX11_sold 14 rfl) (by decide) (fun c5 => ?_) (fun c5 => ?_)
  · rw [if_neg c5] at h
    refine e_aload_n C 0 (dk dX11_sold 21 rfl) rfl rfl ?_
    refine gf_X11_sale C K ht fl_X11_51 (dk dX11_sold 22 rfl) ?_
    refine gf_X6_prices C K (kd_X11_sale K ht) fl_X11_249 (dk dX11_sold 23 rfl) ?_
    refine e_iload_n C 1 (dk dX11_sold 24 rfl) rfl rfl ?_
    refine e_callS2 C cal_X11_at sm_X11_at ml_X11_172 (rmx_room hR (by decide) cal_X11_at.2.2.1) (dk dX11_sold 25 rfl) (c_X11_at K (kd_X6_prices K (kd_X11_sale K ht)) (rfl : F_X11_at ((t + 52) + 4) 7 p0 q4 = _)) (rmx_cap hR (by decide) (by decide)) (Nat.le_of_ble_eq_true rfl) rfl ?_
    obtain rfl := Option.some.inj h
    exact e_iretX C B (nar1 _) (by decide) (by decide) (dk dX11_sold 26 rfl)
  · rw [if_pos c5] at h
    refine e_aload_n C 0 (dk dX11_sold 15 rfl) rfl rfl ?_
    refine gf_X11_sale C K ht fl_X11_51 (dk dX11_sold 16 rfl) ?_
    refine gf_X6_buyers C K (kd_X11_sale K ht) fl_X11_246 (dk dX11_sold 17 rfl) ?_
    refine e_iload_n C 1 (dk dX11_sold 18 rfl) rfl rfl ?_
    refine e_callS2 C cal_X11_at sm_X11_at ml_X11_172 (rmx_room hR (by decide) cal_X11_at.2.2.1) (dk dX11_sold 19 rfl) (c_X11_at K (kd_X6_buyers K (kd_X11_sale K ht)) (rfl : F_X11_at ((t + 52) + 3) 7 p0 q4 = _)) (rmx_cap hR (by decide) (by decide)) (Nat.le_of_ble_eq_true rfl) rfl ?_
    refine e_goto C 51 (dk dX11_sold 20 rfl) (by decide) ?_
    obtain rfl := Option.some.inj h
    exact e_iretX C B (nar1 _) (by decide) (by decide) (dk dX11_sold 26 rfl)
set_option maxRecDepth 20000 in
theorem c_X11_then {g : WC} {Xo : Nat → va_E} {n : Nat} {kd : Nat → Nat} (K : KD n kd) {t : Nat} {p0 : Int32} {p1 : Int32} {p2 : Int32} (ht : kd t = 12) {M : Mem} {res : Sum Nat (Int32 × Mem)} (h : F_X11_then t p0 p1 p2 M = some res) : MX g yX11_then cX11_then 4 (some .int) 6 3 18 n [.ref (g_N g + t), .int p0, .int p1, .int p2] (ent g Xo kd M) (oIM res) (ent g Xo kd (mX res M)) := by
  refine MX_of pn_X11 (Nat.le_of_ble_eq_true rfl) (fun X C B => ?_)
  have hR := B.1
  rw [F_X11_then] at h
  refine e_aload_n C 0 (dk dX11_then 0 rfl) rfl rfl ?_
  refine e_iload_n C 1 (dk dX11_then 1 rfl) rfl rfl ?_
  obtain ⟨q1, hq1, h⟩ := ob h
  rcases q1 with jq1 | uq1
  · dsimp only [Sum.elim_inl] at h
    obtain rfl := Option.some.inj h
    exact e_xcallV (ci := 11) C cal_X11_needPerson im_X11_needPerson se_X11_needPerson ml_X11_182 rfl (rmx_roomX hR (by decide) cal_X11_needPerson.2.2.1) (dk dX11_then 2 rfl) (K.1 _ (by rw [ht]; decide)) (ent_o11 ht) (c_X11_needPerson K ht hq1) (rmx_cap hR (by decide) (by decide)) (Nat.le_of_ble_eq_true rfl) rfl (fun r hr => nomatch hr) (fun j hj => by
      obtain rfl := Sum.inl.inj hj
      exact e_prop C B (by decide) (by decide))
  dsimp only [Sum.elim_inr] at h
  refine e_xcallV (ci := 11) C cal_X11_needPerson im_X11_needPerson se_X11_needPerson ml_X11_182 rfl (rmx_roomX hR (by decide) cal_X11_needPerson.2.2.1) (dk dX11_then 2 rfl) (K.1 _ (by rw [ht]; decide)) (ent_o11 ht) (c_X11_needPerson K ht hq1) (rmx_cap hR (by decide) (by decide)) (Nat.le_of_ble_eq_true rfl) rfl (fun r hr => ?_) (fun j hj => nomatch hj)
  obtain rfl := Sum.inr.inj hr
  refine e_iload_n C 3 (dk dX11_then 3 rfl) rfl rfl ?_
  refine e_iconst C 2 (dk dX11_then 4 rfl) (by decide) ?_
  rcases hq2 : F_X11_needWhat p2 2 M with jq2 | uq2
  · rw [hq2] at h
    dsimp only [Sum.elim_inl] at h
    obtain rfl := Option.some.inj h
    exact e_xcallS C cal_X11_needWhat sm_X11_needWhat ml_X11_115 (rmx_roomX hR (by decide) cal_X11_needWhat.2.2.1) (dk dX11_then 5 rfl) (c_X11_needWhat K hq2) (rmx_cap hR (by decide) (by decide)) (Nat.le_of_ble_eq_true rfl) rfl (fun r hr => nomatch hr) (fun j hj => by
      obtain rfl := Sum.inl.inj hj
      exact e_prop C B (by decide) (by decide))
  rw [hq2] at h
  dsimp only [Sum.elim_inr] at h
  refine e_xcallS C cal_X11_needWhat sm_X11_needWhat ml_X11_115 (rmx_roomX hR (by decide) cal_X11_needWhat.2.2.1) (dk dX11_then 5 rfl) (c_X11_needWhat K hq2) (rmx_cap hR (by decide) (by decide)) (Nat.le_of_ble_eq_true rfl) rfl (fun r hr => ?_) (fun j hj => nomatch hj)
  obtain rfl := Sum.inr.inj hr
  refine e_iload_n C 2 (dk dX11_then 6 rfl) rfl rfl ?_
  refine e_iconst C 0 (dk dX11_then 7 rfl) (by decide) ?_
  refine e_bipush C 40 (dk dX11_then 8 rfl) (by decide) ?_
  rcases hq3 : F_X11_needWithin p1 0 40 M with jq3 | uq3
  · rw [hq3] at h
    dsimp only [Sum.elim_inl] at h
    obtain rfl := Option.some.inj h
    exact e_xcallS C cal_X11_needWithin sm_X11_needWithin ml_X11_236 (rmx_roomX hR (by decide) cal_X11_needWithin.2.2.1) (dk dX11_then 9 rfl) (c_X11_needWithin K hq3) (rmx_cap hR (by decide) (by decide)) (Nat.le_of_ble_eq_true rfl) rfl (fun r hr => nomatch hr) (fun j hj => by
      obtain rfl := Sum.inl.inj hj
      exact e_prop C B (by decide) (by decide))
  rw [hq3] at h
  dsimp only [Sum.elim_inr] at h
  refine e_xcallS C cal_X11_needWithin sm_X11_needWithin ml_X11_236 (rmx_roomX hR (by decide) cal_X11_needWithin.2.2.1) (dk dX11_then 9 rfl) (c_X11_needWithin K hq3) (rmx_cap hR (by decide) (by decide)) (Nat.le_of_ble_eq_true rfl) rfl (fun r hr => ?_) (fun j hj => nomatch hj)
  obtain rfl := Sum.inr.inj hr
  refine e_aload_n C 0 (dk dX11_then 10 rfl) rfl rfl ?_
  refine e_iload_n C 2 (dk dX11_then 11 rfl) rfl rfl ?_
  obtain ⟨q4, hq4, h⟩ := ob h
  refine e_callV2 (ci := 11) C cal_X11_goAhead im_X11_goAhead se_X11_goAhead ml_X11_243 rfl (rmx_room hR (by decide) cal_X11_goAhead.2.2.1) (dk dX11_then 12 rfl) (K.1 _ (by rw [ht]; decide)) (ent_o11 ht) (c_X11_goAhead K ht hq4) (rmx_cap hR (by decide) (by decide)) (Nat.le_of_ble_eq_true rfl) rfl ?_
  refine e_iload_n C 3 (dk dX11_then 13 rfl) rfl rfl ?_
  refine e_if_ne C 40 (dk dX11_then 14 rfl) (by decide) (fun c5 => ?_) (fun c5 => ?_)
  · rw [if_neg c5] at h
    refine e_aload_n C 0 (dk dX11_then 21 rfl) rfl rfl ?_
    refine gf_X11_later C K ht fl_X11_44 (dk dX11_then 22 rfl) ?_
    refine gf_X8_knows C K (kd_X11_later K ht) fl_X11_191 (dk dX11_then 23 rfl) ?_
    refine e_iload_n C 1 (dk dX11_then 24 rfl) rfl rfl ?_
    refine e_callS2 C cal_X11_at sm_X11_at ml_X11_172 (rmx_room hR (by decide) cal_X11_at.2.2.1) (dk dX11_then 25 rfl) (c_X11_at K (kd_X8_knows K (kd_X11_later K ht)) (rfl : F_X11_at ((t + 48) + 2) 7 p0 q4 = _)) (rmx_cap hR (by decide) (by decide)) (Nat.le_of_ble_eq_true rfl) rfl ?_
    obtain rfl := Option.some.inj h
    exact e_iretX C B (nar1 _) (by decide) (by decide) (dk dX11_then 26 rfl)
  · rw [if_pos c5] at h
    refine e_aload_n C 0 (dk dX11_then 15 rfl) rfl rfl ?_
    refine gf_X11_later C K ht fl_X11_44 (dk dX11_then 16 rfl) ?_
    refine gf_X8_coins C K (kd_X11_later K ht) fl_X11_185 (dk dX11_then 17 rfl) ?_
    refine e_iload_n C 1 (dk dX11_then 18 rfl) rfl rfl ?_
    refine e_callS2 C cal_X11_at sm_X11_at ml_X11_172 (rmx_room hR (by decide) cal_X11_at.2.2.1) (dk dX11_then 19 rfl) (c_X11_at K (kd_X8_coins K (kd_X11_later K ht)) (rfl : F_X11_at ((t + 48) + 1) 7 p0 q4 = _)) (rmx_cap hR (by decide) (by decide)) (Nat.le_of_ble_eq_true rfl) rfl ?_
    refine e_goto C 51 (dk dX11_then 20 rfl) (by decide) ?_
    obtain rfl := Option.some.inj h
    exact e_iretX C B (nar1 _) (by decide) (by decide) (dk dX11_then 26 rfl)
set_option maxRecDepth 20000 in
theorem c_X11_dark {g : WC} {Xo : Nat → va_E} {n : Nat} {kd : Nat → Nat} (K : KD n kd) {t : Nat} {p0 : Int32} (ht : kd t = 12) {M : Mem} {res : Sum Nat (Int32 × Mem)} (h : F_X11_dark t p0 M = some res) : MX g yX11_dark cX11_dark 2 (some .int) 6 1 6 n [.ref (g_N g + t), .int p0] (ent g Xo kd M) (oIM res) (ent g Xo kd (mX res M)) := by
  refine MX_of pn_X11 (Nat.le_of_ble_eq_true rfl) (fun X C B => ?_)
  have hR := B.1
  rw [F_X11_dark] at h
  refine e_iload_n C 1 (dk dX11_dark 0 rfl) rfl rfl ?_
  refine e_iconst C 0 (dk dX11_dark 1 rfl) (by decide) ?_
  refine e_bipush C 40 (dk dX11_dark 2 rfl) (by decide) ?_
  rcases hq1 : F_X11_needWithin p0 0 40 M with jq1 | uq1
  · rw [hq1] at h
    dsimp only [Sum.elim_inl] at h
    obtain rfl := Option.some.inj h
    exact e_xcallS C cal_X11_needWithin sm_X11_needWithin ml_X11_236 (rmx_roomX hR (by decide) cal_X11_needWithin.2.2.1) (dk dX11_dark 3 rfl) (c_X11_needWithin K hq1) (rmx_cap hR (by decide) (by decide)) (Nat.le_of_ble_eq_true rfl) rfl (fun r hr => nomatch hr) (fun j hj => by
      obtain rfl := Sum.inl.inj hj
      exact e_prop C B (by decide) (by decide))
  rw [hq1] at h
  dsimp only [Sum.elim_inr] at h
  refine e_xcallS C cal_X11_needWithin sm_X11_needWithin ml_X11_236 (rmx_roomX hR (by decide) cal_X11_needWithin.2.2.1) (dk dX11_dark 3 rfl) (c_X11_needWithin K hq1) (rmx_cap hR (by decide) (by decide)) (Nat.le_of_ble_eq_true rfl) rfl (fun r hr => ?_) (fun j hj => nomatch hj)
  obtain rfl := Sum.inr.inj hr
  refine e_aload_n C 0 (dk dX11_dark 4 rfl) rfl rfl ?_
  refine e_iload_n C 1 (dk dX11_dark 5 rfl) rfl rfl ?_
  obtain ⟨q2, hq2, h⟩ := ob h
  refine e_callV2 (ci := 11) C cal_X11_goAhead im_X11_goAhead se_X11_goAhead ml_X11_243 rfl (rmx_room hR (by decide) cal_X11_goAhead.2.2.1) (dk dX11_dark 6 rfl) (K.1 _ (by rw [ht]; decide)) (ent_o11 ht) (c_X11_goAhead K ht hq2) (rmx_cap hR (by decide) (by decide)) (Nat.le_of_ble_eq_true rfl) rfl ?_
  refine e_aload_n C 0 (dk dX11_dark 7 rfl) rfl rfl ?_
  refine gf_X11_later C K ht fl_X11_44 (dk dX11_dark 8 rfl) ?_
  refine gf_X8_dark C K (kd_X11_later K ht) fl_X11_143 (dk dX11_dark 9 rfl) ?_
  obtain rfl := Option.some.inj h
  exact e_iretX C B (nar1 _) (by decide) (by decide) (dk dX11_dark 10 rfl)
set_option maxRecDepth 20000 in
theorem c_X11_first {g : WC} {Xo : Nat → va_E} {n : Nat} {kd : Nat → Nat} (K : KD n kd) {t : Nat} {p0 : Int32} (ht : kd t = 12) {M : Mem} {res : Sum Nat (Int32)} (h : F_X11_first t p0 M = some res) : MX g yX11_first cX11_first 2 (some .int) 4 1 6 n [.ref (g_N g + t), .int p0] (ent g Xo kd M) (oI res) (ent g Xo kd M) := by
  refine MX_of pn_X11 (Nat.le_of_ble_eq_true rfl) (fun X C B => ?_)
  have hR := B.1
  rw [F_X11_first] at h
  refine e_aload_n C 0 (dk dX11_first 0 rfl) rfl rfl ?_
  refine e_iload_n C 1 (dk dX11_first 1 rfl) rfl rfl ?_
  obtain ⟨q1, hq1, h⟩ := ob h
  rcases q1 with jq1 | uq1
  · dsimp only [Sum.elim_inl] at h
    obtain rfl := Option.some.inj h
    exact e_xcallV (ci := 11) C cal_X11_needPerson im_X11_needPerson se_X11_needPerson ml_X11_182 rfl (rmx_roomX hR (by decide) cal_X11_needPerson.2.2.1) (dk dX11_first 2 rfl) (K.1 _ (by rw [ht]; decide)) (ent_o11 ht) (c_X11_needPerson K ht hq1) (rmx_cap hR (by decide) (by decide)) (Nat.le_of_ble_eq_true rfl) rfl (fun r hr => nomatch hr) (fun j hj => by
      obtain rfl := Sum.inl.inj hj
      exact e_prop C B (by decide) (by decide))
  dsimp only [Sum.elim_inr] at h
  refine e_xcallV (ci := 11) C cal_X11_needPerson im_X11_needPerson se_X11_needPerson ml_X11_182 rfl (rmx_roomX hR (by decide) cal_X11_needPerson.2.2.1) (dk dX11_first 2 rfl) (K.1 _ (by rw [ht]; decide)) (ent_o11 ht) (c_X11_needPerson K ht hq1) (rmx_cap hR (by decide) (by decide)) (Nat.le_of_ble_eq_true rfl) rfl (fun r hr => ?_) (fun j hj => nomatch hj)
  obtain rfl := Sum.inr.inj hr
  refine e_aload_n C 0 (dk dX11_first 3 rfl) rfl rfl ?_
  refine e_iload_n C 1 (dk dX11_first 4 rfl) rfl rfl ?_
  obtain ⟨q2, hq2, h⟩ := ob h
  refine e_callV2 (ci := 11) C cal_X11_firstSeen im_X11_firstSeen se_X11_firstSeen ml_X11_252 rfl (rmx_room hR (by decide) cal_X11_firstSeen.2.2.1) (dk dX11_first 5 rfl) (K.1 _ (by rw [ht]; decide)) (ent_o11 ht) (c_X11_firstSeen K ht hq2) (rmx_cap hR (by decide) (by decide)) (Nat.le_of_ble_eq_true rfl) rfl ?_
  obtain rfl := Option.some.inj h
  exact e_iretX C B (nar1 _) (by decide) (by decide) (dk dX11_first 6 rfl)
set_option maxRecDepth 20000 in
theorem l_X11_haunt_14 {X : FX} {g : WC} {Xo : Nat → va_E} {n : Nat} {kd : Nat → Nat} (C : Cx X g RX11 cX11_haunt 6) (K : KD n kd) {t : Nat} (ht : kd t = 12) {x1 : Int32} {M : Mem} (hR : x_R X = rmx 4 1 6) {OK : Int32 → Prop} (hx : ∀ s, OK s → EW X g (x_s X).heap.size n 6 (ent g Xo kd M) 1 6 63 [(2, .int s)] []) : ∀ (N9 : Nat) (x2 : Int32) (x3 : Int32) (x4 : Int32) (q : Int32), L_X11_haunt_14 t x1 M N9 x2 x3 x4 = some q → OK q → EW X g (x_s X).heap.size n 6 (ent g Xo kd M) 1 6 14 [(0, .ref (g_N g + t)), (1, .int x1), (2, .int x2), (3, .int x3), (4, .int x4)] [] := by
  intro N9
  induction N9 with
  | zero =>
    intro x2 x3 x4 q h
    rw [L_X11_haunt_14.eq_1] at h
    cases h
  | succ m9 ih =>
    intro x2 x3 x4 q h hOK
    rw [L_X11_haunt_14.eq_2] at h
    refine e_iload C 4 (dk dX11_haunt 10 rfl) rfl ?_
    refine e_aload_n C 0 (dk dX11_haunt 11 rfl) rfl rfl ?_
    obtain ⟨w2, hw2, h⟩ := ob h
    have gw2 := grd_some K (Or.inl ht) hw2
    refine gf_X11_plan C K ht fl_X11_19 (dk dX11_haunt 12 rfl) ?_
    rw [gw2.1]
    refine gf_X9_streets C K gw2.2 fl_X11_122 (dk dX11_haunt 13 rfl) ?_
    refine e_icmp_ge C 63 (dk dX11_haunt 14 rfl) (by decide) (fun c3 => ?_) (fun c3 => ?_)
    · rw [if_pos c3] at h
      obtain rfl := Option.some.inj h
      refine e_lv [2] rfl ?_
      exact hx _ hOK
    · rw [if_neg c3] at h
      refine e_aload_n C 0 (dk dX11_haunt 15 rfl) rfl rfl ?_
      obtain ⟨w4, hw4, h⟩ := ob h
      have gw4 := grd_some K (Or.inl ht) hw4
      refine gf_X11_plan C K ht fl_X11_19 (dk dX11_haunt 16 rfl) ?_
      rw [gw4.1]
      refine e_aload_n C 0 (dk dX11_haunt 17 rfl) rfl rfl ?_
      refine gf_X11_book C K ht fl_X11_30 (dk dX11_haunt 18 rfl) ?_
      refine gf_X0_town C K (kd_X11_book K ht) fl_X11_119 (dk dX11_haunt 19 rfl) ?_
      refine e_iload C 4 (dk dX11_haunt 20 rfl) rfl ?_
      refine e_iload_n C 1 (dk dX11_haunt 21 rfl) rfl rfl ?_
      obtain ⟨q5, hq5, h⟩ := ob h
      refine e_callV2 (ci := 9) C cal_X9_seenAt im_X9_seenAt se_X9_seenAt ml_X11_255 rfl (rmx_room hR (by decide) cal_X9_seenAt.2.2.1) (dk dX11_haunt 22 rfl) (K.1 _ (by rw [gw4.2]; decide)) (ent_o9 gw4.2) (c_X9_seenAt K gw4.2 (kd_X0_town K (kd_X11_book K ht)) hq5) (rmx_cap hR (by decide) (by decide)) (Nat.le_of_ble_eq_true rfl) rfl ?_
      refine e_istore C [(5, .int q5), (0, .ref (g_N g + t)), (1, .int x1), (2, .int x2), (3, .int x3), (4, .int x4)] (dk dX11_haunt 23 rfl) (by decide) rfl ?_
      refine e_iload C 0 (dk dX11_haunt 24 rfl) rfl ?_
      refine e_iload_n C 4 (dk dX11_haunt 25 rfl) rfl rfl ?_
      refine e_icmp_le C 57 (dk dX11_haunt 26 rfl) (by decide) (fun c6 => ?_) (fun c6 => ?_)
      · rw [if_pos c6] at h
        refine e_iinc C [(4, .int (x4 + 1)), (5, .int q5), (0, .ref (g_N g + t)), (1, .int x1), (2, .int x2), (3, .int x3)] 5 1 (dk dX11_haunt 31 rfl) rfl (by decide) (by decide) rfl ?_
        refine e_goto C 14 (dk dX11_haunt 32 rfl) (by decide) ?_
        refine e_lv [2, 3, 4, 5, 0] rfl ?_
        exact ih _ _ _ _ h hOK
      · rw [if_neg c6] at h
        refine e_iload C 0 (dk dX11_haunt 27 rfl) rfl ?_
        refine e_istore_n C [(3, .int q5), (5, .int q5), (0, .ref (g_N g + t)), (1, .int x1), (2, .int x2), (4, .int x4)] (dk dX11_haunt 28 rfl) rfl (by decide) rfl ?_
        refine e_iload C 5 (dk dX11_haunt 29 rfl) rfl ?_
        refine e_istore_n C [(2, .int x4), (3, .int q5), (5, .int q5), (0, .ref (g_N g + t)), (1, .int x1), (4, .int x4)] (dk dX11_haunt 30 rfl) rfl (by decide) rfl ?_
        refine e_iinc C [(4, .int (x4 + 1)), (2, .int x4), (3, .int q5), (5, .int q5), (0, .ref (g_N g + t)), (1, .int x1)] 5 1 (dk dX11_haunt 31 rfl) rfl (by decide) (by decide) rfl ?_
        refine e_goto C 14 (dk dX11_haunt 32 rfl) (by decide) ?_
        refine e_lv [4, 5, 1, 2, 0] rfl ?_
        exact ih _ _ _ _ h hOK
set_option maxRecDepth 20000 in
theorem lb_X11_haunt_14 {X : FX} {g : WC} {Xo : Nat → va_E} {n : Nat} {kd : Nat → Nat} (C : Cx X g RX11 cX11_haunt 6) (K : KD n kd) {t : Nat} (ht : kd t = 12) {x1 : Int32} {M : Mem} (hR : x_R X = rmx 4 1 6) {T9 : Type} {f9 : Int32 → Option T9} {b9 : T9} (hx : ∀ s, f9 s = some b9 → EW X g (x_s X).heap.size n 6 (ent g Xo kd M) 1 6 63 [(2, .int s)] []) {x2 : Int32} {x3 : Int32} {x4 : Int32} (h : (L_X11_haunt_14 t x1 M FU x2 x3 x4).bind f9 = some b9) : EW X g (x_s X).heap.size n 6 (ent g Xo kd M) 1 6 14 [(0, .ref (g_N g + t)), (1, .int x1), (2, .int x2), (3, .int x3), (4, .int x4)] [] := by
  obtain ⟨q, hq, h⟩ := ob h
  exact l_X11_haunt_14 C K ht hR (OK := fun q => f9 q = some b9) hx FU x2 x3 x4 q hq h
set_option maxRecDepth 20000 in
theorem c_X11_haunt {g : WC} {Xo : Nat → va_E} {n : Nat} {kd : Nat → Nat} (K : KD n kd) {t : Nat} {p0 : Int32} (ht : kd t = 12) {M : Mem} {res : Sum Nat (Int32)} (h : F_X11_haunt t p0 M = some res) : MX g yX11_haunt cX11_haunt 6 (some .int) 4 1 6 n [.ref (g_N g + t), .int p0] (ent g Xo kd M) (oI res) (ent g Xo kd M) := by
  refine MX_of pn_X11 (Nat.le_of_ble_eq_true rfl) (fun X C B => ?_)
  have hR := B.1
  rw [F_X11_haunt] at h
  refine e_iload_n C 1 (dk dX11_haunt 0 rfl) rfl rfl ?_
  refine e_iconst C 1 (dk dX11_haunt 1 rfl) (by decide) ?_
  refine e_bipush C 40 (dk dX11_haunt 2 rfl) (by decide) ?_
  rcases hq1 : F_X11_needWithin p0 1 40 M with jq1 | uq1
  · rw [hq1] at h
    dsimp only [Sum.elim_inl] at h
    obtain rfl := Option.some.inj h
    exact e_xcallS C cal_X11_needWithin sm_X11_needWithin ml_X11_236 (rmx_roomX hR (by decide) cal_X11_needWithin.2.2.1) (dk dX11_haunt 3 rfl) (c_X11_needWithin K hq1) (rmx_cap hR (by decide) (by decide)) (Nat.le_of_ble_eq_true rfl) rfl (fun r hr => nomatch hr) (fun j hj => by
      obtain rfl := Sum.inl.inj hj
      exact e_prop C B (by decide) (by decide))
  rw [hq1] at h
  dsimp only [Sum.elim_inr] at h
  refine e_xcallS C cal_X11_needWithin sm_X11_needWithin ml_X11_236 (rmx_roomX hR (by decide) cal_X11_needWithin.2.2.1) (dk dX11_haunt 3 rfl) (c_X11_needWithin K hq1) (rmx_cap hR (by decide) (by decide)) (Nat.le_of_ble_eq_true rfl) rfl (fun r hr => ?_) (fun j hj => nomatch hj)
  obtain rfl := Sum.inr.inj hr
  refine e_iconst C (-1) (dk dX11_haunt 4 rfl) (by decide) ?_
  refine e_istore_n C [(2, .int (-1)), (0, .ref (g_N g + t)), (1, .int p0)] (dk dX11_haunt 5 rfl) rfl (by decide) rfl ?_
  refine e_iconst C 0 (dk dX11_haunt 6 rfl) (by decide) ?_
  refine e_istore_n C [(3, .int 0), (2, .int (-1)), (0, .ref (g_N g + t)), (1, .int p0)] (dk dX11_haunt 7 rfl) rfl (by decide) rfl ?_
  refine e_iconst C 0 (dk dX11_haunt 8 rfl) (by decide) ?_
  refine e_istore C [(4, .int 0), (3, .int 0), (2, .int (-1)), (0, .ref (g_N g + t)), (1, .int p0)] (dk dX11_haunt 9 rfl) (by decide) rfl ?_
  refine e_lv [3, 4, 2, 1, 0] rfl ?_
  refine lb_X11_haunt_14 C K ht hR (fun s8 h => ?_) h
  refine e_iload_n C 0 (dk dX11_haunt 33 rfl) rfl rfl ?_
  obtain rfl := Option.some.inj h
  exact e_iretX C B (nar1 _) (by decide) (by decide) (dk dX11_haunt 34 rfl)
set_option maxRecDepth 20000 in
theorem c_X11_watch {g : WC} {Xo : Nat → va_E} {n : Nat} {kd : Nat → Nat} (K : KD n kd) {t : Nat} {p0 : Int32} {p1 : Int32} (ht : kd t = 12) {M : Mem} {res : Sum Nat (Int32)} (h : F_X11_watch t p0 p1 M = some res) : MX g yX11_watch cX11_watch 3 (some .int) 1 2 12 n [.ref (g_N g + t), .int p0, .int p1] (ent g Xo kd M) (oI res) (ent g Xo kd M) := by
  refine MX_of pn_X11 (Nat.le_of_ble_eq_true rfl) (fun X C B => ?_)
  have hR := B.1
  rw [F_X11_watch] at h
  refine e_iload_n C 1 (dk dX11_watch 0 rfl) rfl rfl ?_
  refine e_iconst C 1 (dk dX11_watch 1 rfl) (by decide) ?_
  refine e_bipush C 40 (dk dX11_watch 2 rfl) (by decide) ?_
  rcases hq1 : F_X11_needWithin p0 1 40 M with jq1 | uq1
  · rw [hq1] at h
    dsimp only [Sum.elim_inl] at h
    obtain rfl := Option.some.inj h
    exact e_xcallS C cal_X11_needWithin sm_X11_needWithin ml_X11_236 (rmx_roomX hR (by decide) cal_X11_needWithin.2.2.1) (dk dX11_watch 3 rfl) (c_X11_needWithin K hq1) (rmx_cap hR (by decide) (by decide)) (Nat.le_of_ble_eq_true rfl) rfl (fun r hr => nomatch hr) (fun j hj => by
      obtain rfl := Sum.inl.inj hj
      exact e_prop C B (by decide) (by decide))
  rw [hq1] at h
  dsimp only [Sum.elim_inr] at h
  refine e_xcallS C cal_X11_needWithin sm_X11_needWithin ml_X11_236 (rmx_roomX hR (by decide) cal_X11_needWithin.2.2.1) (dk dX11_watch 3 rfl) (c_X11_needWithin K hq1) (rmx_cap hR (by decide) (by decide)) (Nat.le_of_ble_eq_true rfl) rfl (fun r hr => ?_) (fun j hj => nomatch hj)
  obtain rfl := Sum.inr.inj hr
  refine e_iload_n C 2 (dk dX11_watch 4 rfl) rfl rfl ?_
  refine e_iconst C 0 (dk dX11_watch 5 rfl) (by decide) ?_
  refine e_iconst C 5 (dk dX11_watch 6 rfl) (by decide) ?_
  rcases hq2 : F_X11_needWithin p1 0 5 M with jq2 | uq2
  · rw [hq2] at h
    dsimp only [Sum.elim_inl] at h
    obtain rfl := Option.some.inj h
    exact e_xcallS C cal_X11_needWithin sm_X11_needWithin ml_X11_236 (rmx_roomX hR (by decide) cal_X11_needWithin.2.2.1) (dk dX11_watch 7 rfl) (c_X11_needWithin K hq2) (rmx_cap hR (by decide) (by decide)) (Nat.le_of_ble_eq_true rfl) rfl (fun r hr => nomatch hr) (fun j hj => by
      obtain rfl := Sum.inl.inj hj
      exact e_prop C B (by decide) (by decide))
  rw [hq2] at h
  dsimp only [Sum.elim_inr] at h
  refine e_xcallS C cal_X11_needWithin sm_X11_needWithin ml_X11_236 (rmx_roomX hR (by decide) cal_X11_needWithin.2.2.1) (dk dX11_watch 7 rfl) (c_X11_needWithin K hq2) (rmx_cap hR (by decide) (by decide)) (Nat.le_of_ble_eq_true rfl) rfl (fun r hr => ?_) (fun j hj => nomatch hj)
  obtain rfl := Sum.inr.inj hr
  refine e_aload_n C 0 (dk dX11_watch 8 rfl) rfl rfl ?_
  obtain ⟨w3, hw3, h⟩ := ob h
  have gw3 := grd_some K (Or.inl ht) hw3
  refine gf_X11_plan C K ht fl_X11_19 (dk dX11_watch 9 rfl) ?_
  rw [gw3.1]
  refine e_aload_n C 0 (dk dX11_watch 10 rfl) rfl rfl ?_
  refine gf_X11_book C K ht fl_X11_30 (dk dX11_watch 11 rfl) ?_
  refine gf_X0_town C K (kd_X11_book K ht) fl_X11_119 (dk dX11_watch 12 rfl) ?_
  refine gf_X8_night C K (kd_X0_town K (kd_X11_book K ht)) fl_X11_134 (dk dX11_watch 13 rfl) ?_
  refine e_iload_n C 1 (dk dX11_watch 14 rfl) rfl rfl ?_
  refine e_iadd C (dk dX11_watch 15 rfl) ?_
  refine e_iconst C 1 (dk dX11_watch 16 rfl) (by decide) ?_
  refine e_isub C (dk dX11_watch 17 rfl) ?_
  refine e_iload_n C 2 (dk dX11_watch 18 rfl) rfl rfl ?_
  obtain ⟨q4, hq4, h⟩ := ob h
  refine e_callV2 (ci := 9) C cal_X9_watchAt im_X9_watchAt se_X9_watchAt ml_X11_259 rfl (rmx_room hR (by decide) cal_X9_watchAt.2.2.1) (dk dX11_watch 19 rfl) (K.1 _ (by rw [gw3.2]; decide)) (ent_o9 gw3.2) (c_X9_watchAt K gw3.2 hq4) (rmx_cap hR (by decide) (by decide)) (Nat.le_of_ble_eq_true rfl) rfl ?_
  obtain rfl := Option.some.inj h
  exact e_iretX C B (nar1 _) (by decide) (by decide) (dk dX11_watch 20 rfl)
set_option maxRecDepth 20000 in
theorem l_X11_way_17 {X : FX} {g : WC} {Xo : Nat → va_E} {n : Nat} {kd : Nat → Nat} {E0 : Nat → va_E} (C : Cx X g RX11 cX11_way 5) (K : KD n kd) {t : Nat} (ht : kd t = 12) {x2 : Int32} {M : Mem} (hR : x_R X = rmx 1 2 12) {OK : Sum (Int32) (Unit) → Prop} (hB : ∀ v, OK (Sum.inl v) → BX X g (some .int) 1 2 12 n (oI (Sum.inr v)) E0 (ent g Xo kd M)) (hx : ∀ s, OK (Sum.inr s) → EW X g (x_s X).heap.size n 5 (ent g Xo kd M) 2 12 50 [] []) : ∀ (N9 : Nat) (x3 : Int32) (x4 : Int32) (q : Sum (Int32) (Unit)), L_X11_way_17 t x2 M N9 x3 x4 = some q → OK q → EW X g (x_s X).heap.size n 5 (ent g Xo kd M) 2 12 17 [(0, .ref (g_N g + t)), (2, .int x2), (3, .int x3), (4, .int x4)] [] := by
  intro N9
  induction N9 with
  | zero =>
    intro x3 x4 q h
    rw [L_X11_way_17.eq_1] at h
    cases h
  | succ m9 ih =>
    intro x3 x4 q h hOK
    rw [L_X11_way_17.eq_2] at h
    refine e_iload C 3 (dk dX11_way 12 rfl) rfl ?_
    refine e_bipush C 8 (dk dX11_way 13 rfl) (by decide) ?_
    refine e_icmp_ge C 50 (dk dX11_way 14 rfl) (by decide) (fun c3 => ?_) (fun c3 => ?_)
    · rw [if_pos c3] at h
      obtain rfl := Option.some.inj h
      refine e_lv [] rfl ?_
      exact hx _ hOK
    · rw [if_neg c3] at h
      refine e_iload_n C 2 (dk dX11_way 15 rfl) rfl rfl ?_
      refine e_iload_n C 1 (dk dX11_way 16 rfl) rfl rfl ?_
      refine e_ishr C (dk dX11_way 17 rfl) ?_
      refine e_iconst C 1 (dk dX11_way 18 rfl) (by decide) ?_
      refine e_iand C (dk dX11_way 19 rfl) ?_
      refine e_if_eq C 35 (dk dX11_way 20 rfl) (by decide) (fun c4 => ?_) (fun c4 => ?_)
      · rw [if_pos c4] at h
        refine e_aload_n C 0 (dk dX11_way 23 rfl) rfl rfl ?_
        obtain ⟨w5, hw5, h⟩ := ob h
        have gw5 := grd_some K (Or.inl ht) hw5
        refine gf_X11_plan C K ht fl_X11_19 (dk dX11_way 24 rfl) ?_
        rw [gw5.1]
        refine e_iload_n C 2 (dk dX11_way 25 rfl) rfl rfl ?_
        obtain ⟨q6, hq6, h⟩ := ob h
        refine e_callV2 (ci := 9) C cal_X9_spread im_X9_spread se_X9_spread ml_X11_262 rfl (rmx_room hR (by decide) cal_X9_spread.2.2.1) (dk dX11_way 26 rfl) (K.1 _ (by rw [gw5.2]; decide)) (ent_o9 gw5.2) (c_X9_spread K gw5.2 hq6) (rmx_cap hR (by decide) (by decide)) (Nat.le_of_ble_eq_true rfl) rfl ?_
        refine e_istore_n C [(3, .int q6), (0, .ref (g_N g + t)), (2, .int x2), (4, .int x4)] (dk dX11_way 27 rfl) rfl (by decide) rfl ?_
        refine e_iinc C [(4, .int (x4 + 1)), (3, .int q6), (0, .ref (g_N g + t)), (2, .int x2)] 3 1 (dk dX11_way 28 rfl) rfl (by decide) (by decide) rfl ?_
        refine e_goto C 17 (dk dX11_way 29 rfl) (by decide) ?_
        refine e_lv [2, 3, 1, 0] rfl ?_
        exact ih _ _ _ h hOK
      · rw [if_neg c4] at h
        refine e_iload C 3 (dk dX11_way 21 rfl) rfl ?_
        obtain rfl := Option.some.inj h
        exact e_iretX C (hB _ hOK) (nar1 _) (by decide) (by decide) (dk dX11_way 22 rfl)
set_option maxRecDepth 20000 in
theorem lb_X11_way_17 {X : FX} {g : WC} {Xo : Nat → va_E} {n : Nat} {kd : Nat → Nat} {E0 : Nat → va_E} (C : Cx X g RX11 cX11_way 5) (K : KD n kd) {t : Nat} (ht : kd t = 12) {x2 : Int32} {M : Mem} (hR : x_R X = rmx 1 2 12) {T9 : Type} {f9 : Sum (Int32) (Unit) → Option T9} {b9 : T9} (hB : ∀ v, f9 (Sum.inl v) = some b9 → BX X g (some .int) 1 2 12 n (oI (Sum.inr v)) E0 (ent g Xo kd M)) (hx : ∀ s, f9 (Sum.inr s) = some b9 → EW X g (x_s X).heap.size n 5 (ent g Xo kd M) 2 12 50 [] []) {x3 : Int32} {x4 : Int32} (h : (L_X11_way_17 t x2 M FU x3 x4).bind f9 = some b9) : EW X g (x_s X).heap.size n 5 (ent g Xo kd M) 2 12 17 [(0, .ref (g_N g + t)), (2, .int x2), (3, .int x3), (4, .int x4)] [] := by
  obtain ⟨q, hq, h⟩ := ob h
  exact l_X11_way_17 (E0 := E0) C K ht hR (OK := fun q => f9 q = some b9) hB hx FU x3 x4 q hq h
set_option maxRecDepth 20000 in
theorem c_X11_way {g : WC} {Xo : Nat → va_E} {n : Nat} {kd : Nat → Nat} (K : KD n kd) {t : Nat} {p0 : Int32} {p1 : Int32} (ht : kd t = 12) {M : Mem} {res : Sum Nat (Int32)} (h : F_X11_way t p0 p1 M = some res) : MX g yX11_way cX11_way 5 (some .int) 1 2 12 n [.ref (g_N g + t), .int p0, .int p1] (ent g Xo kd M) (oI res) (ent g Xo kd M) := by
  refine MX_of pn_X11 (Nat.le_of_ble_eq_true rfl) (fun X C B => ?_)
  have hR := B.1
  rw [F_X11_way] at h
  refine e_aload_n C 0 (dk dX11_way 0 rfl) rfl rfl ?_
  refine e_iload_n C 1 (dk dX11_way 1 rfl) rfl rfl ?_
  obtain ⟨q1, hq1, h⟩ := ob h
  rcases q1 with jq1 | uq1
  · dsimp only [Sum.elim_inl] at h
    obtain rfl := Option.some.inj h
    exact e_xcallV (ci := 11) C cal_X11_needStreet im_X11_needStreet se_X11_needStreet ml_X11_176 rfl (rmx_roomX hR (by decide) cal_X11_needStreet.2.2.1) (dk dX11_way 2 rfl) (K.1 _ (by rw [ht]; decide)) (ent_o11 ht) (c_X11_needStreet K ht hq1) (rmx_cap hR (by decide) (by decide)) (Nat.le_of_ble_eq_true rfl) rfl (fun r hr => nomatch hr) (fun j hj => by
      obtain rfl := Sum.inl.inj hj
      exact e_prop C B (by decide) (by decide))
  dsimp only [Sum.elim_inr] at h
  refine e_xcallV (ci := 11) C cal_X11_needStreet im_X11_needStreet se_X11_needStreet ml_X11_176 rfl (rmx_roomX hR (by decide) cal_X11_needStreet.2.2.1) (dk dX11_way 2 rfl) (K.1 _ (by rw [ht]; decide)) (ent_o11 ht) (c_X11_needStreet K ht hq1) (rmx_cap hR (by decide) (by decide)) (Nat.le_of_ble_eq_true rfl) rfl (fun r hr => ?_) (fun j hj => nomatch hj)
  obtain rfl := Sum.inr.inj hr
  refine e_aload_n C 0 (dk dX11_way 3 rfl) rfl rfl ?_
  refine e_iload_n C 2 (dk dX11_way 4 rfl) rfl rfl ?_
  obtain ⟨q2, hq2, h⟩ := ob h
  rcases q2 with jq2 | uq2
  · dsimp only [Sum.elim_inl] at h
    obtain rfl := Option.some.inj h
    exact e_xcallV (ci := 11) C cal_X11_needStreet im_X11_needStreet se_X11_needStreet ml_X11_176 rfl (rmx_roomX hR (by decide) cal_X11_needStreet.2.2.1) (dk dX11_way 5 rfl) (K.1 _ (by rw [ht]; decide)) (ent_o11 ht) (c_X11_needStreet K ht hq2) (rmx_cap hR (by decide) (by decide)) (Nat.le_of_ble_eq_true rfl) rfl (fun r hr => nomatch hr) (fun j hj => by
      obtain rfl := Sum.inl.inj hj
      exact e_prop C B (by decide) (by decide))
  dsimp only [Sum.elim_inr] at h
  refine e_xcallV (ci := 11) C cal_X11_needStreet im_X11_needStreet se_X11_needStreet ml_X11_176 rfl (rmx_roomX hR (by decide) cal_X11_needStreet.2.2.1) (dk dX11_way 5 rfl) (K.1 _ (by rw [ht]; decide)) (ent_o11 ht) (c_X11_needStreet K ht hq2) (rmx_cap hR (by decide) (by decide)) (Nat.le_of_ble_eq_true rfl) rfl (fun r hr => ?_) (fun j hj => nomatch hj)
  obtain rfl := Sum.inr.inj hr
  refine e_iconst C 1 (dk dX11_way 6 rfl) (by decide) ?_
  refine e_iload_n C 1 (dk dX11_way 7 rfl) rfl rfl ?_
  refine e_ishl C (dk dX11_way 8 rfl) ?_
  refine e_istore_n C [(3, .int ((1 : Int32) <<< (p0 &&& 31))), (0, .ref (g_N g + t)), (1, .int p0), (2, .int p1)] (dk dX11_way 9 rfl) rfl (by decide) rfl ?_
  refine e_iconst C 0 (dk dX11_way 10 rfl) (by decide) ?_
  refine e_istore C [(4, .int 0), (3, .int ((1 : Int32) <<< (p0 &&& 31))), (0, .ref (g_N g + t)), (1, .int p0), (2, .int p1)] (dk dX11_way 11 rfl) (by decide) rfl ?_
  refine e_lv [2, 4, 1, 0] rfl ?_
  refine lb_X11_way_17 (E0 := (ent g Xo kd M)) C K ht hR (fun v h => ?_) (fun s8 h => ?_) h
  · obtain rfl := Option.some.inj (show some (Sum.inr v) = some _ from h)
    exact B
  dsimp only [Sum.elim_inr] at h
  refine e_iconst C (-1) (dk dX11_way 30 rfl) (by decide) ?_
  obtain rfl := Option.some.inj h
  exact e_iretX C B (nar1 _) (by decide) (by decide) (dk dX11_way 31 rfl)
set_option maxRecDepth 20000 in
theorem j_X11_sneak_j38 {X : FX} {g : WC} {Xo : Nat → va_E} {n : Nat} {kd : Nat → Nat} {E0 : Nat → va_E} (C : Cx X g RX11 cX11_sneak 5) (K : KD n kd) {t : Nat} (ht : kd t = 12) {x2 : Int32} {M : Mem} (hR : x_R X = rmx 1 2 12) {OK : Sum (Int32) (Unit) → Prop} (hB : ∀ v, OK (Sum.inl v) → BX X g (some .int) 1 2 12 n (oI (Sum.inr v)) E0 (ent g Xo kd M)) (hx : ∀ s, OK (Sum.inr s) → EW X g (x_s X).heap.size n 5 (ent g Xo kd M) 2 12 81 [] []) {rec : Int32 → Int32 → Option (Sum (Int32) (Unit))} (hrec : ∀ (x3 : Int32) (x4 : Int32) (q : Sum (Int32) (Unit)), rec x3 x4 = some q → OK q → EW X g (x_s X).heap.size n 5 (ent g Xo kd M) 2 12 17 [(0, .ref (g_N g + t)), (2, .int x2), (3, .int x3), (4, .int x4)] []) {x3 : Int32} {x4 : Int32} (q : Sum (Int32) (Unit)) (h : J_X11_sneak_j38 t rec x2 x3 x4 M = some q) (hOK : OK q) : EW X g (x_s X).heap.size n 5 (ent g Xo kd M) 2 12 38 [(0, .ref (g_N g + t)), (2, .int x2), (3, .int x3), (4, .int x4)] [] := by
  rw [J_X11_sneak_j38] at h
  refine e_iload_n C 2 (dk dX11_sneak 22 rfl) rfl rfl ?_
  refine e_iconst C 1 (dk dX11_sneak 23 rfl) (by decide) ?_
  refine e_aload_n C 0 (dk dX11_sneak 24 rfl) rfl rfl ?_
  obtain ⟨w5, hw5, h⟩ := ob h
  have gw5 := grd_some K (Or.inl ht) hw5
  refine gf_X11_plan C K ht fl_X11_19 (dk dX11_sneak 25 rfl) ?_
  rw [gw5.1]
  refine e_aload_n C 0 (dk dX11_sneak 26 rfl) rfl rfl ?_
  refine gf_X11_book C K ht fl_X11_30 (dk dX11_sneak 27 rfl) ?_
  refine gf_X0_town C K (kd_X11_book K ht) fl_X11_119 (dk dX11_sneak 28 rfl) ?_
  refine gf_X8_night C K (kd_X0_town K (kd_X11_book K ht)) fl_X11_134 (dk dX11_sneak 29 rfl) ?_
  refine e_iload C 3 (dk dX11_sneak 30 rfl) rfl ?_
  obtain ⟨q6, hq6, h⟩ := ob h
  refine e_callV2 (ci := 9) C cal_X9_watchAt im_X9_watchAt se_X9_watchAt ml_X11_259 rfl (rmx_room hR (by decide) cal_X9_watchAt.2.2.1) (dk dX11_sneak 31 rfl) (K.1 _ (by rw [gw5.2]; decide)) (ent_o9 gw5.2) (c_X9_watchAt K gw5.2 hq6) (rmx_cap hR (by decide) (by decide)) (Nat.le_of_ble_eq_true rfl) rfl ?_
  refine e_ishl C (dk dX11_sneak 32 rfl) ?_
  refine e_iconst C (-1) (dk dX11_sneak 33 rfl) (by decide) ?_
  refine e_ixor C (dk dX11_sneak 34 rfl) ?_
  refine e_iand C (dk dX11_sneak 35 rfl) ?_
  refine e_istore_n C [(3, .int (x3 &&& (((1 : Int32) <<< (q6 &&& 31)) ^^^ (-1)))), (0, .ref (g_N g + t)), (2, .int x2), (4, .int x4)] (dk dX11_sneak 36 rfl) rfl (by decide) rfl ?_
  refine e_iload_n C 0 (dk dX11_sneak 37 rfl) rfl rfl ?_
  refine e_iload_n C 2 (dk dX11_sneak 38 rfl) rfl rfl ?_
  refine e_ishr C (dk dX11_sneak 39 rfl) ?_
  refine e_iconst C 1 (dk dX11_sneak 40 rfl) (by decide) ?_
  refine e_iand C (dk dX11_sneak 41 rfl) ?_
  refine e_if_eq C 75 (dk dX11_sneak 42 rfl) (by decide) (fun c7 => ?_) (fun c7 => ?_)
  · rw [if_pos c7] at h
    refine e_iinc C [(4, .int (x4 + 1)), (3, .int (x3 &&& (((1 : Int32) <<< (q6 &&& 31)) ^^^ (-1)))), (0, .ref (g_N g + t)), (2, .int x2)] 3 1 (dk dX11_sneak 45 rfl) rfl (by decide) (by decide) rfl ?_
    refine e_goto C 17 (dk dX11_sneak 46 rfl) (by decide) ?_
    refine e_lv [2, 3, 1, 0] rfl ?_
    exact hrec _ _ _ h hOK
  · rw [if_neg c7] at h
    refine e_iload C 3 (dk dX11_sneak 43 rfl) rfl ?_
    obtain rfl := Option.some.inj h
    exact e_iretX C (hB _ hOK) (nar1 _) (by decide) (by decide) (dk dX11_sneak 44 rfl)
set_option maxRecDepth 20000 in
theorem l_X11_sneak_17 {X : FX} {g : WC} {Xo : Nat → va_E} {n : Nat} {kd : Nat → Nat} {E0 : Nat → va_E} (C : Cx X g RX11 cX11_sneak 5) (K : KD n kd) {t : Nat} (ht : kd t = 12) {x2 : Int32} {M : Mem} (hR : x_R X = rmx 1 2 12) {OK : Sum (Int32) (Unit) → Prop} (hB : ∀ v, OK (Sum.inl v) → BX X g (some .int) 1 2 12 n (oI (Sum.inr v)) E0 (ent g Xo kd M)) (hx : ∀ s, OK (Sum.inr s) → EW X g (x_s X).heap.size n 5 (ent g Xo kd M) 2 12 81 [] []) : ∀ (N9 : Nat) (x3 : Int32) (x4 : Int32) (q : Sum (Int32) (Unit)), L_X11_sneak_17 t x2 M N9 x3 x4 = some q → OK q → EW X g (x_s X).heap.size n 5 (ent g Xo kd M) 2 12 17 [(0, .ref (g_N g + t)), (2, .int x2), (3, .int x3), (4, .int x4)] [] := by
  intro N9
  induction N9 with
  | zero =>
    intro x3 x4 q h
    rw [L_X11_sneak_17.eq_1] at h
    cases h
  | succ m9 ih =>
    intro x3 x4 q h hOK
    rw [L_X11_sneak_17.eq_2] at h
    refine e_iload C 3 (dk dX11_sneak 12 rfl) rfl ?_
    refine e_bipush C 6 (dk dX11_sneak 13 rfl) (by decide) ?_
    refine e_icmp_ge C 81 (dk dX11_sneak 14 rfl) (by decide) (fun c3 => ?_) (fun c3 => ?_)
    · rw [if_pos c3] at h
      obtain rfl := Option.some.inj h
      refine e_lv [] rfl ?_
      exact hx _ hOK
    · rw [if_neg c3] at h
      refine e_iload C 3 (dk dX11_sneak 15 rfl) rfl ?_
      refine e_if_le C 38 (dk dX11_sneak 16 rfl) (by decide) (fun c4 => ?_) (fun c4 => ?_)
      · rw [if_pos c4] at h
        exact j_X11_sneak_j38 C K ht hR hB hx ih _ h hOK
      · rw [if_neg c4] at h
        refine e_aload_n C 0 (dk dX11_sneak 17 rfl) rfl rfl ?_
        obtain ⟨w8, hw8, h⟩ := ob h
        have gw8 := grd_some K (Or.inl ht) hw8
        refine gf_X11_plan C K ht fl_X11_19 (dk dX11_sneak 18 rfl) ?_
        rw [gw8.1]
        refine e_iload_n C 2 (dk dX11_sneak 19 rfl) rfl rfl ?_
        obtain ⟨q9, hq9, h⟩ := ob h
        refine e_callV2 (ci := 9) C cal_X9_spread im_X9_spread se_X9_spread ml_X11_262 rfl (rmx_room hR (by decide) cal_X9_spread.2.2.1) (dk dX11_sneak 20 rfl) (K.1 _ (by rw [gw8.2]; decide)) (ent_o9 gw8.2) (c_X9_spread K gw8.2 hq9) (rmx_cap hR (by decide) (by decide)) (Nat.le_of_ble_eq_true rfl) rfl ?_
        refine e_istore_n C [(3, .int q9), (0, .ref (g_N g + t)), (2, .int x2), (4, .int x4)] (dk dX11_sneak 21 rfl) rfl (by decide) rfl ?_
        refine e_lv [1, 2, 0, 3] rfl ?_
        exact j_X11_sneak_j38 C K ht hR hB hx ih _ h hOK
set_option maxRecDepth 20000 in
theorem lb_X11_sneak_17 {X : FX} {g : WC} {Xo : Nat → va_E} {n : Nat} {kd : Nat → Nat} {E0 : Nat → va_E} (C : Cx X g RX11 cX11_sneak 5) (K : KD n kd) {t : Nat} (ht : kd t = 12) {x2 : Int32} {M : Mem} (hR : x_R X = rmx 1 2 12) {T9 : Type} {f9 : Sum (Int32) (Unit) → Option T9} {b9 : T9} (hB : ∀ v, f9 (Sum.inl v) = some b9 → BX X g (some .int) 1 2 12 n (oI (Sum.inr v)) E0 (ent g Xo kd M)) (hx : ∀ s, f9 (Sum.inr s) = some b9 → EW X g (x_s X).heap.size n 5 (ent g Xo kd M) 2 12 81 [] []) {x3 : Int32} {x4 : Int32} (h : (L_X11_sneak_17 t x2 M FU x3 x4).bind f9 = some b9) : EW X g (x_s X).heap.size n 5 (ent g Xo kd M) 2 12 17 [(0, .ref (g_N g + t)), (2, .int x2), (3, .int x3), (4, .int x4)] [] := by
  obtain ⟨q, hq, h⟩ := ob h
  exact l_X11_sneak_17 (E0 := E0) C K ht hR (OK := fun q => f9 q = some b9) hB hx FU x3 x4 q hq h
set_option maxRecDepth 20000 in
theorem c_X11_sneak {g : WC} {Xo : Nat → va_E} {n : Nat} {kd : Nat → Nat} (K : KD n kd) {t : Nat} {p0 : Int32} {p1 : Int32} (ht : kd t = 12) {M : Mem} {res : Sum Nat (Int32)} (h : F_X11_sneak t p0 p1 M = some res) : MX g yX11_sneak cX11_sneak 5 (some .int) 1 2 12 n [.ref (g_N g + t), .int p0, .int p1] (ent g Xo kd M) (oI res) (ent g Xo kd M) := by
  refine MX_of pn_X11 (Nat.le_of_ble_eq_true rfl) (fun X C B => ?_)
  have hR := B.1
  rw [F_X11_sneak] at h
  refine e_aload_n C 0 (dk dX11_sneak 0 rfl) rfl rfl ?_
  refine e_iload_n C 1 (dk dX11_sneak 1 rfl) rfl rfl ?_
  obtain ⟨q1, hq1, h⟩ := ob h
  rcases q1 with jq1 | uq1
  · dsimp only [Sum.elim_inl] at h
    obtain rfl := Option.some.inj h
    exact e_xcallV (ci := 11) C cal_X11_needStreet im_X11_needStreet se_X11_needStreet ml_X11_176 rfl (rmx_roomX hR (by decide) cal_X11_needStreet.2.2.1) (dk dX11_sneak 2 rfl) (K.1 _ (by rw [ht]; decide)) (ent_o11 ht) (c_X11_needStreet K ht hq1) (rmx_cap hR (by decide) (by decide)) (Nat.le_of_ble_eq_true rfl) rfl (fun r hr => nomatch hr) (fun j hj => by
      obtain rfl := Sum.inl.inj hj
      exact e_prop C B (by decide) (by decide))
  dsimp only [Sum.elim_inr] at h
  refine e_xcallV (ci := 11) C cal_X11_needStreet im_X11_needStreet se_X11_needStreet ml_X11_176 rfl (rmx_roomX hR (by decide) cal_X11_needStreet.2.2.1) (dk dX11_sneak 2 rfl) (K.1 _ (by rw [ht]; decide)) (ent_o11 ht) (c_X11_needStreet K ht hq1) (rmx_cap hR (by decide) (by decide)) (Nat.le_of_ble_eq_true rfl) rfl (fun r hr => ?_) (fun j hj => nomatch hj)
  obtain rfl := Sum.inr.inj hr
  refine e_aload_n C 0 (dk dX11_sneak 3 rfl) rfl rfl ?_
  refine e_iload_n C 2 (dk dX11_sneak 4 rfl) rfl rfl ?_
  obtain ⟨q2, hq2, h⟩ := ob h
  rcases q2 with jq2 | uq2
  · dsimp only [Sum.elim_inl] at h
    obtain rfl := Option.some.inj h
    exact e_xcallV (ci := 11) C cal_X11_needStreet im_X11_needStreet se_X11_needStreet ml_X11_176 rfl (rmx_roomX hR (by decide) cal_X11_needStreet.2.2.1) (dk dX11_sneak 5 rfl) (K.1 _ (by rw [ht]; decide)) (ent_o11 ht) (c_X11_needStreet K ht hq2) (rmx_cap hR (by decide) (by decide)) (Nat.le_of_ble_eq_true rfl) rfl (fun r hr => nomatch hr) (fun j hj => by
      obtain rfl := Sum.inl.inj hj
      exact e_prop C B (by decide) (by decide))
  dsimp only [Sum.elim_inr] at h
  refine e_xcallV (ci := 11) C cal_X11_needStreet im_X11_needStreet se_X11_needStreet ml_X11_176 rfl (rmx_roomX hR (by decide) cal_X11_needStreet.2.2.1) (dk dX11_sneak 5 rfl) (K.1 _ (by rw [ht]; decide)) (ent_o11 ht) (c_X11_needStreet K ht hq2) (rmx_cap hR (by decide) (by decide)) (Nat.le_of_ble_eq_true rfl) rfl (fun r hr => ?_) (fun j hj => nomatch hj)
  obtain rfl := Sum.inr.inj hr
  refine e_iconst C 1 (dk dX11_sneak 6 rfl) (by decide) ?_
  refine e_iload_n C 1 (dk dX11_sneak 7 rfl) rfl rfl ?_
  refine e_ishl C (dk dX11_sneak 8 rfl) ?_
  refine e_istore_n C [(3, .int ((1 : Int32) <<< (p0 &&& 31))), (0, .ref (g_N g + t)), (1, .int p0), (2, .int p1)] (dk dX11_sneak 9 rfl) rfl (by decide) rfl ?_
  refine e_iconst C 0 (dk dX11_sneak 10 rfl) (by decide) ?_
  refine e_istore C [(4, .int 0), (3, .int ((1 : Int32) <<< (p0 &&& 31))), (0, .ref (g_N g + t)), (1, .int p0), (2, .int p1)] (dk dX11_sneak 11 rfl) (by decide) rfl ?_
  refine e_lv [2, 4, 1, 0] rfl ?_
  refine lb_X11_sneak_17 (E0 := (ent g Xo kd M)) C K ht hR (fun v h => ?_) (fun s11 h => ?_) h
  · obtain rfl := Option.some.inj (show some (Sum.inr v) = some _ from h)
    exact B
  dsimp only [Sum.elim_inr] at h
  refine e_iconst C (-1) (dk dX11_sneak 47 rfl) (by decide) ?_
  obtain rfl := Option.some.inj h
  exact e_iretX C B (nar1 _) (by decide) (by decide) (dk dX11_sneak 48 rfl)
set_option maxRecDepth 20000 in
theorem l_X11_safe_22 {X : FX} {g : WC} {Xo : Nat → va_E} {n : Nat} {kd : Nat → Nat} (C : Cx X g RX11 cX11_safe 5) (K : KD n kd) {t : Nat} (ht : kd t = 12) {x1 : Int32} {x2 : Int32} {M : Mem} (hR : x_R X = rmx 2 1 6) {OK : Int32 → Prop} (hx : ∀ s, OK s → EW X g (x_s X).heap.size n 5 (ent g Xo kd M) 1 6 70 [(3, .int s)] []) : ∀ (N9 : Nat) (x3 : Int32) (x4 : Int32) (q : Int32), L_X11_safe_22 t x1 x2 M N9 x3 x4 = some q → OK q → EW X g (x_s X).heap.size n 5 (ent g Xo kd M) 1 6 22 [(0, .ref (g_N g + t)), (1, .int x1), (2, .int x2), (3, .int x3), (4, .int x4)] [] := by
  intro N9
  induction N9 with
  | zero =>
    intro x3 x4 q h
    rw [L_X11_safe_22.eq_1] at h
    cases h
  | succ m9 ih =>
    intro x3 x4 q h hOK
    rw [L_X11_safe_22.eq_2] at h
    refine e_iload C 4 (dk dX11_safe 13 rfl) rfl ?_
    refine e_iload_n C 2 (dk dX11_safe 14 rfl) rfl rfl ?_
    refine e_icmp_ge C 70 (dk dX11_safe 15 rfl) (by decide) (fun c3 => ?_) (fun c3 => ?_)
    · rw [if_pos c3] at h
      obtain rfl := Option.some.inj h
      refine e_lv [3] rfl ?_
      exact hx _ hOK
    · rw [if_neg c3] at h
      refine e_aload_n C 0 (dk dX11_safe 16 rfl) rfl rfl ?_
      refine e_iload_n C 1 (dk dX11_safe 17 rfl) rfl rfl ?_
      refine e_iload C 4 (dk dX11_safe 18 rfl) rfl ?_
      refine e_aload_n C 0 (dk dX11_safe 19 rfl) rfl rfl ?_
      refine gf_X11_book C K ht fl_X11_30 (dk dX11_safe 20 rfl) ?_
      refine gf_X0_town C K (kd_X11_book K ht) fl_X11_119 (dk dX11_safe 21 rfl) ?_
      refine gf_X8_walks C K (kd_X0_town K (kd_X11_book K ht)) fl_X11_197 (dk dX11_safe 22 rfl) ?_
      refine e_iload_n C 1 (dk dX11_safe 23 rfl) rfl rfl ?_
      refine e_callS2 C cal_X11_at sm_X11_at ml_X11_172 (rmx_room hR (by decide) cal_X11_at.2.2.1) (dk dX11_safe 24 rfl) (c_X11_at K (kd_X8_walks K (kd_X0_town K (kd_X11_book K ht))) (rfl : F_X11_at (((t + 24) + 1) + 3) 7 x1 M = _)) (rmx_cap hR (by decide) (by decide)) (Nat.le_of_ble_eq_true rfl) rfl ?_
      refine e_iload C 4 (dk dX11_safe 25 rfl) rfl ?_
      refine e_callS2 C cal_X11_streetIn sm_X11_streetIn ml_X11_207 (rmx_room hR (by decide) cal_X11_streetIn.2.2.1) (dk dX11_safe 26 rfl) (c_X11_streetIn K (rfl : F_X11_streetIn (F_X11_at (((t + 24) + 1) + 3) 7 x1 M) x4 = _)) (rmx_cap hR (by decide) (by decide)) (Nat.le_of_ble_eq_true rfl) rfl ?_
      obtain ⟨q4, hq4, h⟩ := ob h
      refine e_callV2 (ci := 11) C cal_X11_isSafe im_X11_isSafe se_X11_isSafe ml_X11_265 rfl (rmx_room hR (by decide) cal_X11_isSafe.2.2.1) (dk dX11_safe 27 rfl) (K.1 _ (by rw [ht]; decide)) (ent_o11 ht) (c_X11_isSafe K ht hq4) (rmx_cap hR (by decide) (by decide)) (Nat.le_of_ble_eq_true rfl) rfl ?_
      refine e_if_eq C 64 (dk dX11_safe 28 rfl) (by decide) (fun c5 => ?_) (fun c5 => ?_)
      · rw [if_pos c5] at h
        refine e_iinc C [(4, .int (x4 + 1)), (0, .ref (g_N g + t)), (1, .int x1), (2, .int x2), (3, .int x3)] 4 1 (dk dX11_safe 35 rfl) rfl (by decide) (by decide) rfl ?_
        refine e_goto C 22 (dk dX11_safe 36 rfl) (by decide) ?_
        refine e_lv [1, 2, 3, 4, 0] rfl ?_
        exact ih _ _ _ h hOK
      · rw [if_neg c5] at h
        refine e_iload_n C 3 (dk dX11_safe 29 rfl) rfl rfl ?_
        refine e_iconst C 1 (dk dX11_safe 30 rfl) (by decide) ?_
        refine e_iload C 4 (dk dX11_safe 31 rfl) rfl ?_
        refine e_ishl C (dk dX11_safe 32 rfl) ?_
        refine e_ior C (dk dX11_safe 33 rfl) ?_
        refine e_istore_n C [(3, .int (x3 ||| ((1 : Int32) <<< (x4 &&& 31)))), (0, .ref (g_N g + t)), (1, .int x1), (2, .int x2), (4, .int x4)] (dk dX11_safe 34 rfl) rfl (by decide) rfl ?_
        refine e_iinc C [(4, .int (x4 + 1)), (3, .int (x3 ||| ((1 : Int32) <<< (x4 &&& 31)))), (0, .ref (g_N g + t)), (1, .int x1), (2, .int x2)] 4 1 (dk dX11_safe 35 rfl) rfl (by decide) (by decide) rfl ?_
        refine e_goto C 22 (dk dX11_safe 36 rfl) (by decide) ?_
        refine e_lv [2, 3, 4, 1, 0] rfl ?_
        exact ih _ _ _ h hOK
set_option maxRecDepth 20000 in
theorem lb_X11_safe_22 {X : FX} {g : WC} {Xo : Nat → va_E} {n : Nat} {kd : Nat → Nat} (C : Cx X g RX11 cX11_safe 5) (K : KD n kd) {t : Nat} (ht : kd t = 12) {x1 : Int32} {x2 : Int32} {M : Mem} (hR : x_R X = rmx 2 1 6) {T9 : Type} {f9 : Int32 → Option T9} {b9 : T9} (hx : ∀ s, f9 s = some b9 → EW X g (x_s X).heap.size n 5 (ent g Xo kd M) 1 6 70 [(3, .int s)] []) {x3 : Int32} {x4 : Int32} (h : (L_X11_safe_22 t x1 x2 M FU x3 x4).bind f9 = some b9) : EW X g (x_s X).heap.size n 5 (ent g Xo kd M) 1 6 22 [(0, .ref (g_N g + t)), (1, .int x1), (2, .int x2), (3, .int x3), (4, .int x4)] [] := by
  obtain ⟨q, hq, h⟩ := ob h
  exact l_X11_safe_22 C K ht hR (OK := fun q => f9 q = some b9) hx FU x3 x4 q hq h
set_option maxRecDepth 20000 in
theorem c_X11_safe {g : WC} {Xo : Nat → va_E} {n : Nat} {kd : Nat → Nat} (K : KD n kd) {t : Nat} {p0 : Int32} (ht : kd t = 12) {M : Mem} {res : Sum Nat (Int32)} (h : F_X11_safe t p0 M = some res) : MX g yX11_safe cX11_safe 5 (some .int) 2 1 6 n [.ref (g_N g + t), .int p0] (ent g Xo kd M) (oI res) (ent g Xo kd M) := by
  refine MX_of pn_X11 (Nat.le_of_ble_eq_true rfl) (fun X C B => ?_)
  have hR := B.1
  rw [F_X11_safe] at h
  refine e_aload_n C 0 (dk dX11_safe 0 rfl) rfl rfl ?_
  refine e_iload_n C 1 (dk dX11_safe 1 rfl) rfl rfl ?_
  obtain ⟨q1, hq1, h⟩ := ob h
  rcases q1 with jq1 | uq1
  · dsimp only [Sum.elim_inl] at h
    obtain rfl := Option.some.inj h
    exact e_xcallV (ci := 11) C cal_X11_needPerson im_X11_needPerson se_X11_needPerson ml_X11_182 rfl (rmx_roomX hR (by decide) cal_X11_needPerson.2.2.1) (dk dX11_safe 2 rfl) (K.1 _ (by rw [ht]; decide)) (ent_o11 ht) (c_X11_needPerson K ht hq1) (rmx_cap hR (by decide) (by decide)) (Nat.le_of_ble_eq_true rfl) rfl (fun r hr => nomatch hr) (fun j hj => by
      obtain rfl := Sum.inl.inj hj
      exact e_prop C B (by decide) (by decide))
  dsimp only [Sum.elim_inr] at h
  refine e_xcallV (ci := 11) C cal_X11_needPerson im_X11_needPerson se_X11_needPerson ml_X11_182 rfl (rmx_roomX hR (by decide) cal_X11_needPerson.2.2.1) (dk dX11_safe 2 rfl) (K.1 _ (by rw [ht]; decide)) (ent_o11 ht) (c_X11_needPerson K ht hq1) (rmx_cap hR (by decide) (by decide)) (Nat.le_of_ble_eq_true rfl) rfl (fun r hr => ?_) (fun j hj => nomatch hj)
  obtain rfl := Sum.inr.inj hr
  refine e_aload_n C 0 (dk dX11_safe 3 rfl) rfl rfl ?_
  obtain ⟨w2, hw2, h⟩ := ob h
  have gw2 := grd_some K (Or.inl ht) hw2
  refine gf_X11_plan C K ht fl_X11_19 (dk dX11_safe 4 rfl) ?_
  rw [gw2.1]
  refine gf_X9_lengths C K gw2.2 fl_X11_188 (dk dX11_safe 5 rfl) ?_
  refine e_iload_n C 1 (dk dX11_safe 6 rfl) rfl rfl ?_
  refine e_callS2 C cal_X11_at sm_X11_at ml_X11_172 (rmx_room hR (by decide) cal_X11_at.2.2.1) (dk dX11_safe 7 rfl) (c_X11_at K (kd_X9_lengths K gw2.2) (rfl : F_X11_at (w2 + 4) 7 p0 M = _)) (rmx_cap hR (by decide) (by decide)) (Nat.le_of_ble_eq_true rfl) rfl ?_
  refine e_istore_n C [(2, .int (F_X11_at (w2 + 4) 7 p0 M)), (0, .ref (g_N g + t)), (1, .int p0)] (dk dX11_safe 8 rfl) rfl (by decide) rfl ?_
  refine e_iconst C 0 (dk dX11_safe 9 rfl) (by decide) ?_
  refine e_istore_n C [(3, .int 0), (2, .int (F_X11_at (w2 + 4) 7 p0 M)), (0, .ref (g_N g + t)), (1, .int p0)] (dk dX11_safe 10 rfl) rfl (by decide) rfl ?_
  refine e_iconst C 0 (dk dX11_safe 11 rfl) (by decide) ?_
  refine e_istore C [(4, .int 0), (3, .int 0), (2, .int (F_X11_at (w2 + 4) 7 p0 M)), (0, .ref (g_N g + t)), (1, .int p0)] (dk dX11_safe 12 rfl) (by decide) rfl ?_
  refine e_lv [3, 4, 2, 1, 0] rfl ?_
  refine lb_X11_safe_22 C K ht hR (fun s7 h => ?_) h
  refine e_iload_n C 0 (dk dX11_safe 37 rfl) rfl rfl ?_
  obtain rfl := Option.some.inj h
  exact e_iretX C B (nar1 _) (by decide) (by decide) (dk dX11_safe 38 rfl)
set_option maxRecDepth 20000 in
theorem l_X11_toHide_22 {X : FX} {g : WC} {Xo : Nat → va_E} {n : Nat} {kd : Nat → Nat} {E0 : Nat → va_E} (C : Cx X g RX11 cX11_toHide 5) (K : KD n kd) {t : Nat} (ht : kd t = 12) {x1 : Int32} {x2 : Int32} {M : Mem} (hR : x_R X = rmx 3 1 6) {OK : Sum (Int32) (Int32) → Prop} (hB : ∀ v, OK (Sum.inl v) → BX X g (some .int) 3 1 6 n (oI (Sum.inr v)) E0 (ent g Xo kd M)) (hx : ∀ s, OK (Sum.inr s) → EW X g (x_s X).heap.size n 5 (ent g Xo kd M) 1 6 78 [(3, .int s)] []) : ∀ (N9 : Nat) (x3 : Int32) (x4 : Int32) (q : Sum (Int32) (Int32)), L_X11_toHide_22 t x1 x2 M N9 x3 x4 = some q → OK q → EW X g (x_s X).heap.size n 5 (ent g Xo kd M) 1 6 22 [(0, .ref (g_N g + t)), (1, .int x1), (2, .int x2), (3, .int x3), (4, .int x4)] [] := by
  intro N9
  induction N9 with
  | zero =>
    intro x3 x4 q h
    rw [L_X11_toHide_22.eq_1] at h
    cases h
  | succ m9 ih =>
    intro x3 x4 q h hOK
    rw [L_X11_toHide_22.eq_2] at h
    refine e_iload C 4 (dk dX11_toHide 13 rfl) rfl ?_
    refine e_iload_n C 2 (dk dX11_toHide 14 rfl) rfl rfl ?_
    refine e_icmp_ge C 78 (dk dX11_toHide 15 rfl) (by decide) (fun c3 => ?_) (fun c3 => ?_)
    · rw [if_pos c3] at h
      obtain rfl := Option.some.inj h
      refine e_lv [3] rfl ?_
      exact hx _ hOK
    · rw [if_neg c3] at h
      refine e_aload_n C 0 (dk dX11_toHide 16 rfl) rfl rfl ?_
      refine e_iload_n C 1 (dk dX11_toHide 17 rfl) rfl rfl ?_
      refine e_iload C 4 (dk dX11_toHide 18 rfl) rfl ?_
      refine e_aload_n C 0 (dk dX11_toHide 19 rfl) rfl rfl ?_
      refine gf_X11_book C K ht fl_X11_30 (dk dX11_toHide 20 rfl) ?_
      refine gf_X0_town C K (kd_X11_book K ht) fl_X11_119 (dk dX11_toHide 21 rfl) ?_
      refine gf_X8_walks C K (kd_X0_town K (kd_X11_book K ht)) fl_X11_197 (dk dX11_toHide 22 rfl) ?_
      refine e_iload_n C 1 (dk dX11_toHide 23 rfl) rfl rfl ?_
      refine e_callS2 C cal_X11_at sm_X11_at ml_X11_172 (rmx_room hR (by decide) cal_X11_at.2.2.1) (dk dX11_toHide 24 rfl) (c_X11_at K (kd_X8_walks K (kd_X0_town K (kd_X11_book K ht))) (rfl : F_X11_at (((t + 24) + 1) + 3) 7 x1 M = _)) (rmx_cap hR (by decide) (by decide)) (Nat.le_of_ble_eq_true rfl) rfl ?_
      refine e_iload C 4 (dk dX11_toHide 25 rfl) rfl ?_
      refine e_callS2 C cal_X11_streetIn sm_X11_streetIn ml_X11_207 (rmx_room hR (by decide) cal_X11_streetIn.2.2.1) (dk dX11_toHide 26 rfl) (c_X11_streetIn K (rfl : F_X11_streetIn (F_X11_at (((t + 24) + 1) + 3) 7 x1 M) x4 = _)) (rmx_cap hR (by decide) (by decide)) (Nat.le_of_ble_eq_true rfl) rfl ?_
      obtain ⟨q4, hq4, h⟩ := ob h
      refine e_callV2 (ci := 11) C cal_X11_isSafe im_X11_isSafe se_X11_isSafe ml_X11_265 rfl (rmx_room hR (by decide) cal_X11_isSafe.2.2.1) (dk dX11_toHide 27 rfl) (K.1 _ (by rw [ht]; decide)) (ent_o11 ht) (c_X11_isSafe K ht hq4) (rmx_cap hR (by decide) (by decide)) (Nat.le_of_ble_eq_true rfl) rfl ?_
      refine e_if_ne C 72 (dk dX11_toHide 28 rfl) (by decide) (fun c5 => ?_) (fun c5 => ?_)
      · rw [if_neg c5] at h
        refine e_iinc C [(4, .int (x4 + 1)), (0, .ref (g_N g + t)), (1, .int x1), (2, .int x2), (3, .int x3)] 4 1 (dk dX11_toHide 37 rfl) rfl (by decide) (by decide) rfl ?_
        refine e_goto C 22 (dk dX11_toHide 38 rfl) (by decide) ?_
        refine e_lv [1, 2, 3, 4, 0] rfl ?_
        exact ih _ _ _ h hOK
      · rw [if_pos c5] at h
        refine e_aload_n C 0 (dk dX11_toHide 29 rfl) rfl rfl ?_
        refine e_iload_n C 1 (dk dX11_toHide 30 rfl) rfl rfl ?_
        refine e_iload C 4 (dk dX11_toHide 31 rfl) rfl ?_
        obtain ⟨q6, hq6, h⟩ := ob h
        refine e_callV2 (ci := 11) C cal_X11_canHide im_X11_canHide se_X11_canHide ml_X11_269 rfl (rmx_room hR (by decide) cal_X11_canHide.2.2.1) (dk dX11_toHide 32 rfl) (K.1 _ (by rw [ht]; decide)) (ent_o11 ht) (c_X11_canHide K ht hq6) (rmx_cap hR (by decide) (by decide)) (Nat.le_of_ble_eq_true rfl) rfl ?_
        refine e_if_ne C 69 (dk dX11_toHide 33 rfl) (by decide) (fun c7 => ?_) (fun c7 => ?_)
        · rw [if_neg c7] at h
          refine e_iinc C [(3, .int (x3 + 1)), (0, .ref (g_N g + t)), (1, .int x1), (2, .int x2), (4, .int x4)] 3 1 (dk dX11_toHide 36 rfl) rfl (by decide) (by decide) rfl ?_
          refine e_iinc C [(4, .int (x4 + 1)), (3, .int (x3 + 1)), (0, .ref (g_N g + t)), (1, .int x1), (2, .int x2)] 4 1 (dk dX11_toHide 37 rfl) rfl (by decide) (by decide) rfl ?_
          refine e_goto C 22 (dk dX11_toHide 38 rfl) (by decide) ?_
          refine e_lv [2, 3, 4, 1, 0] rfl ?_
          exact ih _ _ _ h hOK
        · rw [if_pos c7] at h
          refine e_iconst C (-1) (dk dX11_toHide 34 rfl) (by decide) ?_
          obtain rfl := Option.some.inj h
          exact e_iretX C (hB _ hOK) (nar1 _) (by decide) (by decide) (dk dX11_toHide 35 rfl)
set_option maxRecDepth 20000 in
theorem lb_X11_toHide_22 {X : FX} {g : WC} {Xo : Nat → va_E} {n : Nat} {kd : Nat → Nat} {E0 : Nat → va_E} (C : Cx X g RX11 cX11_toHide 5) (K : KD n kd) {t : Nat} (ht : kd t = 12) {x1 : Int32} {x2 : Int32} {M : Mem} (hR : x_R X = rmx 3 1 6) {T9 : Type} {f9 : Sum (Int32) (Int32) → Option T9} {b9 : T9} (hB : ∀ v, f9 (Sum.inl v) = some b9 → BX X g (some .int) 3 1 6 n (oI (Sum.inr v)) E0 (ent g Xo kd M)) (hx : ∀ s, f9 (Sum.inr s) = some b9 → EW X g (x_s X).heap.size n 5 (ent g Xo kd M) 1 6 78 [(3, .int s)] []) {x3 : Int32} {x4 : Int32} (h : (L_X11_toHide_22 t x1 x2 M FU x3 x4).bind f9 = some b9) : EW X g (x_s X).heap.size n 5 (ent g Xo kd M) 1 6 22 [(0, .ref (g_N g + t)), (1, .int x1), (2, .int x2), (3, .int x3), (4, .int x4)] [] := by
  obtain ⟨q, hq, h⟩ := ob h
  exact l_X11_toHide_22 (E0 := E0) C K ht hR (OK := fun q => f9 q = some b9) hB hx FU x3 x4 q hq h
set_option maxRecDepth 20000 in
theorem c_X11_toHide {g : WC} {Xo : Nat → va_E} {n : Nat} {kd : Nat → Nat} (K : KD n kd) {t : Nat} {p0 : Int32} (ht : kd t = 12) {M : Mem} {res : Sum Nat (Int32)} (h : F_X11_toHide t p0 M = some res) : MX g yX11_toHide cX11_toHide 5 (some .int) 3 1 6 n [.ref (g_N g + t), .int p0] (ent g Xo kd M) (oI res) (ent g Xo kd M) := by
  refine MX_of pn_X11 (Nat.le_of_ble_eq_true rfl) (fun X C B => ?_)
  have hR := B.1
  rw [F_X11_toHide] at h
  refine e_aload_n C 0 (dk dX11_toHide 0 rfl) rfl rfl ?_
  refine e_iload_n C 1 (dk dX11_toHide 1 rfl) rfl rfl ?_
  obtain ⟨q1, hq1, h⟩ := ob h
  rcases q1 with jq1 | uq1
  · dsimp only [Sum.elim_inl] at h
    obtain rfl := Option.some.inj h
    exact e_xcallV (ci := 11) C cal_X11_needPerson im_X11_needPerson se_X11_needPerson ml_X11_182 rfl (rmx_roomX hR (by decide) cal_X11_needPerson.2.2.1) (dk dX11_toHide 2 rfl) (K.1 _ (by rw [ht]; decide)) (ent_o11 ht) (c_X11_needPerson K ht hq1) (rmx_cap hR (by decide) (by decide)) (Nat.le_of_ble_eq_true rfl) rfl (fun r hr => nomatch hr) (fun j hj => by
      obtain rfl := Sum.inl.inj hj
      exact e_prop C B (by decide) (by decide))
  dsimp only [Sum.elim_inr] at h
  refine e_xcallV (ci := 11) C cal_X11_needPerson im_X11_needPerson se_X11_needPerson ml_X11_182 rfl (rmx_roomX hR (by decide) cal_X11_needPerson.2.2.1) (dk dX11_toHide 2 rfl) (K.1 _ (by rw [ht]; decide)) (ent_o11 ht) (c_X11_needPerson K ht hq1) (rmx_cap hR (by decide) (by decide)) (Nat.le_of_ble_eq_true rfl) rfl (fun r hr => ?_) (fun j hj => nomatch hj)
  obtain rfl := Sum.inr.inj hr
  refine e_aload_n C 0 (dk dX11_toHide 3 rfl) rfl rfl ?_
  obtain ⟨w2, hw2, h⟩ := ob h
  have gw2 := grd_some K (Or.inl ht) hw2
  refine gf_X11_plan C K ht fl_X11_19 (dk dX11_toHide 4 rfl) ?_
  rw [gw2.1]
  refine gf_X9_lengths C K gw2.2 fl_X11_188 (dk dX11_toHide 5 rfl) ?_
  refine e_iload_n C 1 (dk dX11_toHide 6 rfl) rfl rfl ?_
  refine e_callS2 C cal_X11_at sm_X11_at ml_X11_172 (rmx_room hR (by decide) cal_X11_at.2.2.1) (dk dX11_toHide 7 rfl) (c_X11_at K (kd_X9_lengths K gw2.2) (rfl : F_X11_at (w2 + 4) 7 p0 M = _)) (rmx_cap hR (by decide) (by decide)) (Nat.le_of_ble_eq_true rfl) rfl ?_
  refine e_istore_n C [(2, .int (F_X11_at (w2 + 4) 7 p0 M)), (0, .ref (g_N g + t)), (1, .int p0)] (dk dX11_toHide 8 rfl) rfl (by decide) rfl ?_
  refine e_iconst C 0 (dk dX11_toHide 9 rfl) (by decide) ?_
  refine e_istore_n C [(3, .int 0), (2, .int (F_X11_at (w2 + 4) 7 p0 M)), (0, .ref (g_N g + t)), (1, .int p0)] (dk dX11_toHide 10 rfl) rfl (by decide) rfl ?_
  refine e_iconst C 0 (dk dX11_toHide 11 rfl) (by decide) ?_
  refine e_istore C [(4, .int 0), (3, .int 0), (2, .int (F_X11_at (w2 + 4) 7 p0 M)), (0, .ref (g_N g + t)), (1, .int p0)] (dk dX11_toHide 12 rfl) (by decide) rfl ?_
  refine e_lv [3, 4, 2, 1, 0] rfl ?_
  refine lb_X11_toHide_22 (E0 := (ent g Xo kd M)) C K ht hR (fun v h => ?_) (fun s9 h => ?_) h
  · obtain rfl := Option.some.inj (show some (Sum.inr v) = some _ from h)
    exact B
  dsimp only [Sum.elim_inr] at h
  refine e_iload_n C 0 (dk dX11_toHide 39 rfl) rfl rfl ?_
  obtain rfl := Option.some.inj h
  exact e_iretX C B (nar1 _) (by decide) (by decide) (dk dX11_toHide 40 rfl)
set_option maxRecDepth 20000 in
theorem l_X11_toWin_47 {X : FX} {g : WC} {Xo : Nat → va_E} {n : Nat} {kd : Nat → Nat} {E0 : Nat → va_E} (C : Cx X g RX11 cX11_toWin 4) (K : KD n kd) {t : Nat} (ht : kd t = 12) {x1 : Int32} {x2 : Int32} (hR : x_R X = rmx 5 2 12) {OK : Sum (Int32 × Mem) (Mem) → Prop} (hB : ∀ v, OK (Sum.inl v) → BX X g (some .int) 5 2 12 n (oIM (Sum.inr v)) E0 (ent g Xo kd v.2)) (hx : ∀ s, OK (Sum.inr s) → EW X g (x_s X).heap.size n 4 (ent g Xo kd s) 2 12 72 [] []) : ∀ (N9 : Nat) (x3 : Int32) (M : Mem) (q : Sum (Int32 × Mem) (Mem)), L_X11_toWin_47 t x1 x2 N9 x3 M = some q → OK q → EW X g (x_s X).heap.size n 4 (ent g Xo kd M) 2 12 47 [(0, .ref (g_N g + t)), (1, .int x1), (2, .int x2), (3, .int x3)] [] := by
  intro N9
  induction N9 with
  | zero =>
    intro x3 M q h
    rw [L_X11_toWin_47.eq_1] at h
    cases h
  | succ m9 ih =>
    intro x3 M q h hOK
    rw [L_X11_toWin_47.eq_2] at h
    refine e_iload_n C 3 (dk dX11_toWin 25 rfl) rfl rfl ?_
    refine e_sipush C 999 (dk dX11_toWin 26 rfl) (by decide) ?_
    refine e_icmp_gt C 72 (dk dX11_toWin 27 rfl) (by decide) (fun c6 => ?_) (fun c6 => ?_)
    · rw [if_pos c6] at h
      obtain rfl := Option.some.inj h
      refine e_lv [] rfl ?_
      exact hx _ hOK
    · rw [if_neg c6] at h
      refine e_aload_n C 0 (dk dX11_toWin 28 rfl) rfl rfl ?_
      refine e_iload_n C 1 (dk dX11_toWin 29 rfl) rfl rfl ?_
      refine e_iload_n C 2 (dk dX11_toWin 30 rfl) rfl rfl ?_
      refine e_iload_n C 3 (dk dX11_toWin 31 rfl) rfl rfl ?_
      obtain ⟨q7, hq7, h⟩ := ob h
      refine e_callV2 (ci := 11) C cal_X11_wouldBuy im_X11_wouldBuy se_X11_wouldBuy ml_X11_273 rfl (rmx_room hR (by decide) cal_X11_wouldBuy.2.2.1) (dk dX11_toWin 32 rfl) (K.1 _ (by rw [ht]; decide)) (ent_o11 ht) (c_X11_wouldBuy K ht hq7) (rmx_cap hR (by decide) (by decide)) (Nat.le_of_ble_eq_true rfl) rfl ?_
      refine e_if_eq C 66 (dk dX11_toWin 33 rfl) (by decide) (fun c8 => ?_) (fun c8 => ?_)
      · rw [if_pos c8] at h
        refine e_iinc C [(3, .int (x3 + 1)), (0, .ref (g_N g + t)), (1, .int x1), (2, .int x2)] 3 1 (dk dX11_toWin 36 rfl) rfl (by decide) (by decide) rfl ?_
        refine e_goto C 47 (dk dX11_toWin 37 rfl) (by decide) ?_
        refine e_lv [1, 2, 3, 0] rfl ?_
        exact ih _ _ _ h hOK
      · rw [if_neg c8] at h
        refine e_iload_n C 3 (dk dX11_toWin 34 rfl) rfl rfl ?_
        obtain rfl := Option.some.inj h
        exact e_iretX C (hB _ hOK) (nar1 _) (by decide) (by decide) (dk dX11_toWin 35 rfl)
set_option maxRecDepth 20000 in
theorem lb_X11_toWin_47 {X : FX} {g : WC} {Xo : Nat → va_E} {n : Nat} {kd : Nat → Nat} {E0 : Nat → va_E} (C : Cx X g RX11 cX11_toWin 4) (K : KD n kd) {t : Nat} (ht : kd t = 12) {x1 : Int32} {x2 : Int32} (hR : x_R X = rmx 5 2 12) {T9 : Type} {f9 : Sum (Int32 × Mem) (Mem) → Option T9} {b9 : T9} (hB : ∀ v, f9 (Sum.inl v) = some b9 → BX X g (some .int) 5 2 12 n (oIM (Sum.inr v)) E0 (ent g Xo kd v.2)) (hx : ∀ s, f9 (Sum.inr s) = some b9 → EW X g (x_s X).heap.size n 4 (ent g Xo kd s) 2 12 72 [] []) {x3 : Int32} {M : Mem} (h : (L_X11_toWin_47 t x1 x2 FU x3 M).bind f9 = some b9) : EW X g (x_s X).heap.size n 4 (ent g Xo kd M) 2 12 47 [(0, .ref (g_N g + t)), (1, .int x1), (2, .int x2), (3, .int x3)] [] := by
  obtain ⟨q, hq, h⟩ := ob h
  exact l_X11_toWin_47 (E0 := E0) C K ht hR (OK := fun q => f9 q = some b9) hB hx FU x3 M q hq h
set_option maxRecDepth 20000 in
theorem c_X11_toWin {g : WC} {Xo : Nat → va_E} {n : Nat} {kd : Nat → Nat} (K : KD n kd) {t : Nat} {p0 : Int32} {p1 : Int32} (ht : kd t = 12) {M : Mem} {res : Sum Nat (Int32 × Mem)} (h : F_X11_toWin t p0 p1 M = some res) : MX g yX11_toWin cX11_toWin 4 (some .int) 5 2 12 n [.ref (g_N g + t), .int p0, .int p1] (ent g Xo kd M) (oIM res) (ent g Xo kd (mX res M)) := by
  refine MX_of pn_X11 (Nat.le_of_ble_eq_true rfl) (fun X C B => ?_)
  have hR := B.1
  rw [F_X11_toWin] at h
  refine e_aload_n C 0 (dk dX11_toWin 0 rfl) rfl rfl ?_
  refine e_iload_n C 1 (dk dX11_toWin 1 rfl) rfl rfl ?_
  obtain ⟨q1, hq1, h⟩ := ob h
  rcases q1 with jq1 | uq1
  · dsimp only [Sum.elim_inl] at h
    obtain rfl := Option.some.inj h
    exact e_xcallV (ci := 11) C cal_X11_needPerson im_X11_needPerson se_X11_needPerson ml_X11_182 rfl (rmx_roomX hR (by decide) cal_X11_needPerson.2.2.1) (dk dX11_toWin 2 rfl) (K.1 _ (by rw [ht]; decide)) (ent_o11 ht) (c_X11_needPerson K ht hq1) (rmx_cap hR (by decide) (by decide)) (Nat.le_of_ble_eq_true rfl) rfl (fun r hr => nomatch hr) (fun j hj => by
      obtain rfl := Sum.inl.inj hj
      exact e_prop C B (by decide) (by decide))
  dsimp only [Sum.elim_inr] at h
  refine e_xcallV (ci := 11) C cal_X11_needPerson im_X11_needPerson se_X11_needPerson ml_X11_182 rfl (rmx_roomX hR (by decide) cal_X11_needPerson.2.2.1) (dk dX11_toWin 2 rfl) (K.1 _ (by rw [ht]; decide)) (ent_o11 ht) (c_X11_needPerson K ht hq1) (rmx_cap hR (by decide) (by decide)) (Nat.le_of_ble_eq_true rfl) rfl (fun r hr => ?_) (fun j hj => nomatch hj)
  obtain rfl := Sum.inr.inj hr
  refine e_aload_n C 0 (dk dX11_toWin 3 rfl) rfl rfl ?_
  refine e_iload_n C 2 (dk dX11_toWin 4 rfl) rfl rfl ?_
  obtain ⟨q2, hq2, h⟩ := ob h
  rcases q2 with jq2 | uq2
  · dsimp only [Sum.elim_inl] at h
    obtain rfl := Option.some.inj h
    exact e_xcallV (ci := 11) C cal_X11_needPerson im_X11_needPerson se_X11_needPerson ml_X11_182 rfl (rmx_roomX hR (by decide) cal_X11_needPerson.2.2.1) (dk dX11_toWin 5 rfl) (K.1 _ (by rw [ht]; decide)) (ent_o11 ht) (c_X11_needPerson K ht hq2) (rmx_cap hR (by decide) (by decide)) (Nat.le_of_ble_eq_true rfl) rfl (fun r hr => nomatch hr) (fun j hj => by
      obtain rfl := Sum.inl.inj hj
      exact e_prop C B (by decide) (by decide))
  dsimp only [Sum.elim_inr] at h
  refine e_xcallV (ci := 11) C cal_X11_needPerson im_X11_needPerson se_X11_needPerson ml_X11_182 rfl (rmx_roomX hR (by decide) cal_X11_needPerson.2.2.1) (dk dX11_toWin 5 rfl) (K.1 _ (by rw [ht]; decide)) (ent_o11 ht) (c_X11_needPerson K ht hq2) (rmx_cap hR (by decide) (by decide)) (Nat.le_of_ble_eq_true rfl) rfl (fun r hr => ?_) (fun j hj => nomatch hj)
  obtain rfl := Sum.inr.inj hr
  refine e_aload_n C 0 (dk dX11_toWin 6 rfl) rfl rfl ?_
  obtain ⟨w3, hw3, h⟩ := ob h
  have gw3 := grd_some K (Or.inl ht) hw3
  refine gf_X11_plan C K ht fl_X11_19 (dk dX11_toWin 7 rfl) ?_
  rw [gw3.1]
  refine e_aload_n C 0 (dk dX11_toWin 8 rfl) rfl rfl ?_
  refine gf_X11_book C K ht fl_X11_30 (dk dX11_toWin 9 rfl) ?_
  refine gf_X0_town C K (kd_X11_book K ht) fl_X11_119 (dk dX11_toWin 10 rfl) ?_
  refine e_iload_n C 2 (dk dX11_toWin 11 rfl) rfl rfl ?_
  refine e_aload_n C 0 (dk dX11_toWin 12 rfl) rfl rfl ?_
  refine gf_X11_book C K ht fl_X11_30 (dk dX11_toWin 13 rfl) ?_
  refine gf_X0_town C K (kd_X11_book K ht) fl_X11_119 (dk dX11_toWin 14 rfl) ?_
  refine gf_X8_walks C K (kd_X0_town K (kd_X11_book K ht)) fl_X11_197 (dk dX11_toWin 15 rfl) ?_
  refine e_iload_n C 2 (dk dX11_toWin 16 rfl) rfl rfl ?_
  refine e_callS2 C cal_X11_at sm_X11_at ml_X11_172 (rmx_room hR (by decide) cal_X11_at.2.2.1) (dk dX11_toWin 17 rfl) (c_X11_at K (kd_X8_walks K (kd_X0_town K (kd_X11_book K ht))) (rfl : F_X11_at (((t + 24) + 1) + 3) 7 p1 M = _)) (rmx_cap hR (by decide) (by decide)) (Nat.le_of_ble_eq_true rfl) rfl ?_
  refine e_iconst C 1 (dk dX11_toWin 18 rfl) (by decide) ?_
  obtain ⟨q4, hq4, h⟩ := ob h
  refine e_callV2 (ci := 9) C cal_X9_seenIn im_X9_seenIn se_X9_seenIn ml_X11_200 rfl (rmx_room hR (by decide) cal_X9_seenIn.2.2.1) (dk dX11_toWin 19 rfl) (K.1 _ (by rw [gw3.2]; decide)) (ent_o9 gw3.2) (c_X9_seenIn K gw3.2 (kd_X0_town K (kd_X11_book K ht)) hq4) (rmx_cap hR (by decide) (by decide)) (Nat.le_of_ble_eq_true rfl) rfl ?_
  refine e_if_ne C 45 (dk dX11_toWin 20 rfl) (by decide) (fun c5 => ?_) (fun c5 => ?_)
  · rw [if_neg c5] at h
    refine e_iconst C 0 (dk dX11_toWin 23 rfl) (by decide) ?_
    refine e_istore_n C [(3, .int 0), (0, .ref (g_N g + t)), (1, .int p0), (2, .int p1)] (dk dX11_toWin 24 rfl) rfl (by decide) rfl ?_
    refine e_lv [1, 2, 3, 0] rfl ?_
    refine lb_X11_toWin_47 (E0 := (ent g Xo kd M)) C K ht hR (fun v h => ?_) (fun s10 h => ?_) h
    · obtain rfl := Option.some.inj (show some (Sum.inr v) = some _ from h)
      exact B
    dsimp only [Sum.elim_inr] at h
    refine e_iconst C (-1) (dk dX11_toWin 38 rfl) (by decide) ?_
    obtain rfl := Option.some.inj h
    exact e_iretX C B (nar1 _) (by decide) (by decide) (dk dX11_toWin 39 rfl)
  · rw [if_pos c5] at h
    refine e_iconst C (-1) (dk dX11_toWin 21 rfl) (by decide) ?_
    obtain rfl := Option.some.inj h
    exact e_iretX C B (nar1 _) (by decide) (by decide) (dk dX11_toWin 22 rfl)
set_option maxRecDepth 20000 in
theorem j_X11_given_j10 {X : FX} {g : WC} {Xo : Nat → va_E} {n : Nat} {kd : Nat → Nat} {E0 : Nat → va_E} (C : Cx X g RX11 cX11_given 2) (K : KD n kd) {t : Nat} (ht : kd t = 12) (hR : x_R X = rmx 4 1 6) {x1 : Int32} {M : Mem} {M0 : Mem} {res : Sum Nat (Int32 × Mem)} (h : J_X11_given_j10 t x1 M = some res) (B : BX X g (some .int) 4 1 6 n (oIM res) E0 (ent g Xo kd (mX res M0))) : EW X g (x_s X).heap.size n 2 (ent g Xo kd M) 1 6 10 [(0, .ref (g_N g + t)), (1, .int x1)] [] := by
  rw [J_X11_given_j10] at h
  refine e_aload_n C 0 (dk dX11_given 6 rfl) rfl rfl ?_
  refine gf_X11_later C K ht fl_X11_44 (dk dX11_given 7 rfl) ?_
  refine e_aload_n C 0 (dk dX11_given 8 rfl) rfl rfl ?_
  refine gf_X11_book C K ht fl_X11_30 (dk dX11_given 9 rfl) ?_
  refine gf_X0_town C K (kd_X11_book K ht) fl_X11_119 (dk dX11_given 10 rfl) ?_
  obtain ⟨q2, hq2, h⟩ := ob h
  refine e_callV2 (ci := 8) C cal_X8_copy im_X8_copy se_X8_copy ml_X11_276 rfl (rmx_room hR (by decide) cal_X8_copy.2.2.1) (dk dX11_given 11 rfl) (K.1 _ (by rw [(kd_X11_later K ht)]; decide)) (ent_o8 (kd_X11_later K ht)) (c_X8_copy K (kd_X11_later K ht) (kd_X0_town K (kd_X11_book K ht)) hq2) (rmx_cap hR (by decide) (by decide)) (Nat.le_of_ble_eq_true rfl) rfl ?_
  refine e_aload_n C 0 (dk dX11_given 12 rfl) rfl rfl ?_
  refine gf_X11_sale C K ht fl_X11_51 (dk dX11_given 13 rfl) ?_
  refine e_aload_n C 0 (dk dX11_given 14 rfl) rfl rfl ?_
  obtain ⟨w3, hw3, h⟩ := ob h
  have gw3 := grd_some K (Or.inl ht) hw3
  refine gf_X11_plan C K ht fl_X11_19 (dk dX11_given 15 rfl) ?_
  rw [gw3.1]
  refine e_aload_n C 0 (dk dX11_given 16 rfl) rfl rfl ?_
  refine gf_X11_later C K ht fl_X11_44 (dk dX11_given 17 rfl) ?_
  refine e_aload_n C 0 (dk dX11_given 18 rfl) rfl rfl ?_
  obtain ⟨w4, hw4, h⟩ := ob h
  have gw4 := grd_some K (Or.inl ht) hw4
  refine gf_X11_plan C K ht fl_X11_19 (dk dX11_given 19 rfl) ?_
  rw [gw4.1]
  refine e_aload_n C 0 (dk dX11_given 20 rfl) rfl rfl ?_
  refine gf_X11_later C K ht fl_X11_44 (dk dX11_given 21 rfl) ?_
  refine gf_X8_night C K (kd_X11_later K ht) fl_X11_134 (dk dX11_given 22 rfl) ?_
  obtain ⟨q5, hq5, h⟩ := ob h
  refine e_callV2 (ci := 9) C cal_X9_fogOf im_X9_fogOf se_X9_fogOf ml_X11_137 rfl (rmx_room hR (by decide) cal_X9_fogOf.2.2.1) (dk dX11_given 23 rfl) (K.1 _ (by rw [gw4.2]; decide)) (ent_o9 gw4.2) (c_X9_fogOf K gw4.2 hq5) (rmx_cap hR (by decide) (by decide)) (Nat.le_of_ble_eq_true rfl) rfl ?_
  obtain ⟨q6, hq6, h⟩ := ob h
  refine e_callV2 (ci := 6) C cal_X6_open im_X6_open se_X6_open ml_X11_280 rfl (rmx_room hR (by decide) cal_X6_open.2.2.1) (dk dX11_given 24 rfl) (K.1 _ (by rw [(kd_X11_sale K ht)]; decide)) (ent_o6 (kd_X11_sale K ht)) (c_X6_open K (kd_X11_sale K ht) gw3.2 (kd_X11_later K ht) hq6) (rmx_cap hR (by decide) (by decide)) (Nat.le_of_ble_eq_true rfl) rfl ?_
  refine e_aload_n C 0 (dk dX11_given 25 rfl) rfl rfl ?_
  refine gf_X11_gifts C K ht fl_X11_58 (dk dX11_given 26 rfl) ?_
  refine e_aload_n C 0 (dk dX11_given 27 rfl) rfl rfl ?_
  obtain ⟨w7, hw7, h⟩ := ob h
  have gw7 := grd_some K (Or.inl ht) hw7
  refine gf_X11_plan C K ht fl_X11_19 (dk dX11_given 28 rfl) ?_
  rw [gw7.1]
  refine e_aload_n C 0 (dk dX11_given 29 rfl) rfl rfl ?_
  refine gf_X11_later C K ht fl_X11_44 (dk dX11_given 30 rfl) ?_
  refine e_aload_n C 0 (dk dX11_given 31 rfl) rfl rfl ?_
  refine gf_X11_sale C K ht fl_X11_51 (dk dX11_given 32 rfl) ?_
  obtain ⟨q8, hq8, h⟩ := ob h
  refine e_callV2 (ci := 3) C cal_X3_giveOut im_X3_giveOut se_X3_giveOut ml_X11_283 rfl (rmx_room hR (by decide) cal_X3_giveOut.2.2.1) (dk dX11_given 33 rfl) (K.1 _ (by rw [(kd_X11_gifts K ht)]; decide)) (ent_o3 (kd_X11_gifts K ht)) (c_X3_giveOut K (kd_X11_gifts K ht) gw7.2 (kd_X11_later K ht) (kd_X11_sale K ht) hq8) (rmx_cap hR (by decide) (by decide)) (Nat.le_of_ble_eq_true rfl) rfl ?_
  refine e_iload_n C 1 (dk dX11_given 34 rfl) rfl rfl ?_
  refine e_iconst C (-1) (dk dX11_given 35 rfl) (by decide) ?_
  refine e_icmp_ne C 87 (dk dX11_given 36 rfl) (by decide) (fun c9 => ?_) (fun c9 => ?_)
  · rw [if_neg c9] at h
    refine e_aload_n C 0 (dk dX11_given 41 rfl) rfl rfl ?_
    refine gf_X11_gifts C K ht fl_X11_58 (dk dX11_given 42 rfl) ?_
    refine gf_X3_takers C K (kd_X11_gifts K ht) fl_X11_290 (dk dX11_given 43 rfl) ?_
    refine e_iload_n C 1 (dk dX11_given 44 rfl) rfl rfl ?_
    refine e_callS2 C cal_X11_at sm_X11_at ml_X11_172 (rmx_room hR (by decide) cal_X11_at.2.2.1) (dk dX11_given 45 rfl) (c_X11_at K (kd_X3_takers K (kd_X11_gifts K ht)) (rfl : F_X11_at ((t + 57) + 3) 7 x1 q8 = _)) (rmx_cap hR (by decide) (by decide)) (Nat.le_of_ble_eq_true rfl) rfl ?_
    obtain rfl := Option.some.inj h
    exact e_iretX C B (nar1 _) (by decide) (by decide) (dk dX11_given 46 rfl)
  · rw [if_pos c9] at h
    refine e_aload_n C 0 (dk dX11_given 37 rfl) rfl rfl ?_
    refine gf_X11_gifts C K ht fl_X11_58 (dk dX11_given 38 rfl) ?_
    refine e_callV2 (ci := 3) C cal_X3_allTogether im_X3_allTogether se_X3_allTogether ml_X11_287 rfl (rmx_room hR (by decide) cal_X3_allTogether.2.2.1) (dk dX11_given 39 rfl) (K.1 _ (by rw [(kd_X11_gifts K ht)]; decide)) (ent_o3 (kd_X11_gifts K ht)) (c_X3_allTogether K (kd_X11_gifts K ht) (rfl : F_X3_allTogether (t + 57) q8 = _)) (rmx_cap hR (by decide) (by decide)) (Nat.le_of_ble_eq_true rfl) rfl ?_
    refine e_goto C 98 (dk dX11_given 40 rfl) (by decide) ?_
    obtain rfl := Option.some.inj h
    exact e_iretX C B (nar1 _) (by decide) (by decide) (dk dX11_given 46 rfl)
set_option maxRecDepth 20000 in
theorem c_X11_given {g : WC} {Xo : Nat → va_E} {n : Nat} {kd : Nat → Nat} (K : KD n kd) {t : Nat} {p0 : Int32} (ht : kd t = 12) {M : Mem} {res : Sum Nat (Int32 × Mem)} (h : F_X11_given t p0 M = some res) : MX g yX11_given cX11_given 2 (some .int) 4 1 6 n [.ref (g_N g + t), .int p0] (ent g Xo kd M) (oIM res) (ent g Xo kd (mX res M)) := by
  refine MX_of pn_X11 (Nat.le_of_ble_eq_true rfl) (fun X C B => ?_)
  have hR := B.1
  rw [F_X11_given] at h
  refine e_iload_n C 1 (dk dX11_given 0 rfl) rfl rfl ?_
  refine e_iconst C (-1) (dk dX11_given 1 rfl) (by decide) ?_
  refine e_icmp_eq C 10 (dk dX11_given 2 rfl) (by decide) (fun c1 => ?_) (fun c1 => ?_)
  · rw [if_pos c1] at h
    refine e_wide (k2 := 1) (sl2 := 6) (Nat.le_of_ble_eq_true rfl) (Nat.le_of_ble_eq_true rfl) ?_
    exact j_X11_given_j10 C K ht hR h B
  · rw [if_neg c1] at h
    refine e_aload_n C 0 (dk dX11_given 3 rfl) rfl rfl ?_
    refine e_iload_n C 1 (dk dX11_given 4 rfl) rfl rfl ?_
    obtain ⟨q10, hq10, h⟩ := ob h
    rcases q10 with jq10 | uq10
    · dsimp only [Sum.elim_inl] at h
      obtain rfl := Option.some.inj h
      exact e_xcallV (ci := 11) C cal_X11_needPerson im_X11_needPerson se_X11_needPerson ml_X11_182 rfl (rmx_roomX hR (by decide) cal_X11_needPerson.2.2.1) (dk dX11_given 5 rfl) (K.1 _ (by rw [ht]; decide)) (ent_o11 ht) (c_X11_needPerson K ht hq10) (rmx_cap hR (by decide) (by decide)) (Nat.le_of_ble_eq_true rfl) rfl (fun r hr => nomatch hr) (fun j hj => by
        obtain rfl := Sum.inl.inj hj
        exact e_prop C B (by decide) (by decide))
    dsimp only [Sum.elim_inr] at h
    refine e_xcallV (ci := 11) C cal_X11_needPerson im_X11_needPerson se_X11_needPerson ml_X11_182 rfl (rmx_roomX hR (by decide) cal_X11_needPerson.2.2.1) (dk dX11_given 5 rfl) (K.1 _ (by rw [ht]; decide)) (ent_o11 ht) (c_X11_needPerson K ht hq10) (rmx_cap hR (by decide) (by decide)) (Nat.le_of_ble_eq_true rfl) rfl (fun r hr => ?_) (fun j hj => nomatch hj)
    obtain rfl := Sum.inr.inj hr
    exact j_X11_given_j10 C K ht hR h B
set_option maxRecDepth 20000 in
theorem l_X11_gossip_11 {X : FX} {g : WC} {Xo : Nat → va_E} {n : Nat} {kd : Nat → Nat} (C : Cx X g RX11 cX11_gossip 4) (K : KD n kd) {t : Nat} (ht : kd t = 12) {x1 : Int32} {M : Mem} (hR : x_R X = rmx 1 1 6) {OK : Int32 → Prop} (hx : ∀ s, OK s → EW X g (x_s X).heap.size n 4 (ent g Xo kd M) 1 6 37 [(1, .int x1), (2, .int s)] []) : ∀ (N9 : Nat) (x2 : Int32) (x3 : Int32) (q : Int32), L_X11_gossip_11 t x1 M N9 x2 x3 = some q → OK q → EW X g (x_s X).heap.size n 4 (ent g Xo kd M) 1 6 11 [(0, .ref (g_N g + t)), (1, .int x1), (2, .int x2), (3, .int x3)] [] := by
  intro N9
  induction N9 with
  | zero =>
    intro x2 x3 q h
    rw [L_X11_gossip_11.eq_1] at h
    cases h
  | succ m9 ih =>
    intro x2 x3 q h hOK
    rw [L_X11_gossip_11.eq_2] at h
    refine e_iload_n C 3 (dk dX11_gossip 9 rfl) rfl rfl ?_
    refine e_bipush C 7 (dk dX11_gossip 10 rfl) (by decide) ?_
    refine e_icmp_ge C 37 (dk dX11_gossip 11 rfl) (by decide) (fun c2 => ?_) (fun c2 => ?_)
    · rw [if_pos c2] at h
      obtain rfl := Option.some.inj h
      refine e_lv [1, 2] rfl ?_
      exact hx _ hOK
    · rw [if_neg c2] at h
      refine e_iload_n C 2 (dk dX11_gossip 12 rfl) rfl rfl ?_
      refine e_aload_n C 0 (dk dX11_gossip 13 rfl) rfl rfl ?_
      refine gf_X11_book C K ht fl_X11_30 (dk dX11_gossip 14 rfl) ?_
      refine gf_X0_town C K (kd_X11_book K ht) fl_X11_119 (dk dX11_gossip 15 rfl) ?_
      refine e_iload_n C 2 (dk dX11_gossip 16 rfl) rfl rfl ?_
      obtain ⟨q3, hq3, h⟩ := ob h
      refine e_callV2 (ci := 8) C cal_X8_knownBy im_X8_knownBy se_X8_knownBy ml_X11_293 rfl (rmx_room hR (by decide) cal_X8_knownBy.2.2.1) (dk dX11_gossip 17 rfl) (K.1 _ (by rw [(kd_X0_town K (kd_X11_book K ht))]; decide)) (ent_o8 (kd_X0_town K (kd_X11_book K ht))) (c_X8_knownBy K (kd_X0_town K (kd_X11_book K ht)) hq3) (rmx_cap hR (by decide) (by decide)) (Nat.le_of_ble_eq_true rfl) rfl ?_
      refine e_ior C (dk dX11_gossip 18 rfl) ?_
      refine e_istore_n C [(2, .int (x2 ||| q3)), (0, .ref (g_N g + t)), (1, .int x1), (3, .int x3)] (dk dX11_gossip 19 rfl) rfl (by decide) rfl ?_
      refine e_iinc C [(3, .int (x3 + 1)), (2, .int (x2 ||| q3)), (0, .ref (g_N g + t)), (1, .int x1)] 3 1 (dk dX11_gossip 20 rfl) rfl (by decide) (by decide) rfl ?_
      refine e_goto C 11 (dk dX11_gossip 21 rfl) (by decide) ?_
      refine e_lv [2, 3, 1, 0] rfl ?_
      exact ih _ _ _ h hOK
set_option maxRecDepth 20000 in
theorem lb_X11_gossip_11 {X : FX} {g : WC} {Xo : Nat → va_E} {n : Nat} {kd : Nat → Nat} (C : Cx X g RX11 cX11_gossip 4) (K : KD n kd) {t : Nat} (ht : kd t = 12) {x1 : Int32} {M : Mem} (hR : x_R X = rmx 1 1 6) {T9 : Type} {f9 : Int32 → Option T9} {b9 : T9} (hx : ∀ s, f9 s = some b9 → EW X g (x_s X).heap.size n 4 (ent g Xo kd M) 1 6 37 [(1, .int x1), (2, .int s)] []) {x2 : Int32} {x3 : Int32} (h : (L_X11_gossip_11 t x1 M FU x2 x3).bind f9 = some b9) : EW X g (x_s X).heap.size n 4 (ent g Xo kd M) 1 6 11 [(0, .ref (g_N g + t)), (1, .int x1), (2, .int x2), (3, .int x3)] [] := by
  obtain ⟨q, hq, h⟩ := ob h
  exact l_X11_gossip_11 C K ht hR (OK := fun q => f9 q = some b9) hx FU x2 x3 q hq h
set_option maxRecDepth 20000 in
theorem c_X11_gossip {g : WC} {Xo : Nat → va_E} {n : Nat} {kd : Nat → Nat} (K : KD n kd) {t : Nat} {p0 : Int32} (ht : kd t = 12) {M : Mem} {res : Sum Nat (Int32)} (h : F_X11_gossip t p0 M = some res) : MX g yX11_gossip cX11_gossip 4 (some .int) 1 1 6 n [.ref (g_N g + t), .int p0] (ent g Xo kd M) (oI res) (ent g Xo kd M) := by
  refine MX_of pn_X11 (Nat.le_of_ble_eq_true rfl) (fun X C B => ?_)
  have hR := B.1
  rw [F_X11_gossip] at h
  refine e_aload_n C 0 (dk dX11_gossip 0 rfl) rfl rfl ?_
  refine e_iload_n C 1 (dk dX11_gossip 1 rfl) rfl rfl ?_
  obtain ⟨q1, hq1, h⟩ := ob h
  rcases q1 with jq1 | uq1
  · dsimp only [Sum.elim_inl] at h
    obtain rfl := Option.some.inj h
    exact e_xcallV (ci := 11) C cal_X11_needPerson im_X11_needPerson se_X11_needPerson ml_X11_182 rfl (rmx_roomX hR (by decide) cal_X11_needPerson.2.2.1) (dk dX11_gossip 2 rfl) (K.1 _ (by rw [ht]; decide)) (ent_o11 ht) (c_X11_needPerson K ht hq1) (rmx_cap hR (by decide) (by decide)) (Nat.le_of_ble_eq_true rfl) rfl (fun r hr => nomatch hr) (fun j hj => by
      obtain rfl := Sum.inl.inj hj
      exact e_prop C B (by decide) (by decide))
  dsimp only [Sum.elim_inr] at h
  refine e_xcallV (ci := 11) C cal_X11_needPerson im_X11_needPerson se_X11_needPerson ml_X11_182 rfl (rmx_roomX hR (by decide) cal_X11_needPerson.2.2.1) (dk dX11_gossip 2 rfl) (K.1 _ (by rw [ht]; decide)) (ent_o11 ht) (c_X11_needPerson K ht hq1) (rmx_cap hR (by decide) (by decide)) (Nat.le_of_ble_eq_true rfl) rfl (fun r hr => ?_) (fun j hj => nomatch hj)
  obtain rfl := Sum.inr.inj hr
  refine e_iconst C 1 (dk dX11_gossip 3 rfl) (by decide) ?_
  refine e_iload_n C 1 (dk dX11_gossip 4 rfl) rfl rfl ?_
  refine e_ishl C (dk dX11_gossip 5 rfl) ?_
  refine e_istore_n C [(2, .int ((1 : Int32) <<< (p0 &&& 31))), (0, .ref (g_N g + t)), (1, .int p0)] (dk dX11_gossip 6 rfl) rfl (by decide) rfl ?_
  refine e_iconst C 0 (dk dX11_gossip 7 rfl) (by decide) ?_
  refine e_istore_n C [(3, .int 0), (2, .int ((1 : Int32) <<< (p0 &&& 31))), (0, .ref (g_N g + t)), (1, .int p0)] (dk dX11_gossip 8 rfl) rfl (by decide) rfl ?_
  refine e_lv [2, 3, 1, 0] rfl ?_
  refine lb_X11_gossip_11 C K ht hR (fun s5 h => ?_) h
  refine e_iload_n C 1 (dk dX11_gossip 22 rfl) rfl rfl ?_
  refine e_iconst C 1 (dk dX11_gossip 23 rfl) (by decide) ?_
  refine e_iload_n C 0 (dk dX11_gossip 24 rfl) rfl rfl ?_
  refine e_ishl C (dk dX11_gossip 25 rfl) ?_
  refine e_iconst C (-1) (dk dX11_gossip 26 rfl) (by decide) ?_
  refine e_ixor C (dk dX11_gossip 27 rfl) ?_
  refine e_iand C (dk dX11_gossip 28 rfl) ?_
  obtain rfl := Option.some.inj h
  exact e_iretX C B (nar1 _) (by decide) (by decide) (dk dX11_gossip 29 rfl)
set_option maxRecDepth 20000 in
theorem j_X11_most_j61 {X : FX} {g : WC} {Xo : Nat → va_E} {n : Nat} {kd : Nat → Nat} (C : Cx X g RX11 cX11_most 6) (K : KD n kd) {t : Nat} (ht : kd t = 12) {x1 : Int32} {M : Mem} (hR : x_R X = rmx 1 1 6) {OK : Int32 → Prop} (hx : ∀ s, OK s → EW X g (x_s X).heap.size n 6 (ent g Xo kd M) 1 6 81 [(2, .int s)] []) {rec : Int32 → Int32 → Int32 → Option (Int32)} (hrec : ∀ (x2 : Int32) (x3 : Int32) (x4 : Int32) (q : Int32), rec x2 x3 x4 = some q → OK q → EW X g (x_s X).heap.size n 6 (ent g Xo kd M) 1 6 12 [(0, .ref (g_N g + t)), (1, .int x1), (2, .int x2), (3, .int x3), (4, .int x4)] []) {x2 : Int32} {x3 : Int32} {x4 : Int32} {y0 : Int32} (q : Int32) (h : J_X11_most_j61 t rec x1 x2 x3 x4 y0 M = some q) (hOK : OK q) : EW X g (x_s X).heap.size n 6 (ent g Xo kd M) 1 6 61 [(0, .ref (g_N g + t)), (1, .int x1), (2, .int x2), (3, .int x3), (4, .int x4)] [.int y0] := by
  rw [J_X11_most_j61] at h
  refine e_istore C [(5, .int y0), (0, .ref (g_N g + t)), (1, .int x1), (2, .int x2), (3, .int x3), (4, .int x4)] (dk dX11_most 29 rfl) (by decide) rfl ?_
  refine e_iload C 0 (dk dX11_most 30 rfl) rfl ?_
  refine e_iload_n C 4 (dk dX11_most 31 rfl) rfl rfl ?_
  refine e_icmp_le C 75 (dk dX11_most 32 rfl) (by decide) (fun c5 => ?_) (fun c5 => ?_)
  · rw [if_pos c5] at h
    refine e_iinc C [(4, .int (x4 + 1)), (5, .int y0), (0, .ref (g_N g + t)), (1, .int x1), (2, .int x2), (3, .int x3)] 5 1 (dk dX11_most 37 rfl) rfl (by decide) (by decide) rfl ?_
    refine e_goto C 12 (dk dX11_most 38 rfl) (by decide) ?_
    refine e_lv [2, 3, 4, 5, 0] rfl ?_
    exact hrec _ _ _ _ h hOK
  · rw [if_neg c5] at h
    refine e_iload C 0 (dk dX11_most 33 rfl) rfl ?_
    refine e_istore_n C [(3, .int y0), (5, .int y0), (0, .ref (g_N g + t)), (1, .int x1), (2, .int x2), (4, .int x4)] (dk dX11_most 34 rfl) rfl (by decide) rfl ?_
    refine e_iload C 5 (dk dX11_most 35 rfl) rfl ?_
    refine e_istore_n C [(2, .int x4), (3, .int y0), (5, .int y0), (0, .ref (g_N g + t)), (1, .int x1), (4, .int x4)] (dk dX11_most 36 rfl) rfl (by decide) rfl ?_
    refine e_iinc C [(4, .int (x4 + 1)), (2, .int x4), (3, .int y0), (5, .int y0), (0, .ref (g_N g + t)), (1, .int x1)] 5 1 (dk dX11_most 37 rfl) rfl (by decide) (by decide) rfl ?_
    refine e_goto C 12 (dk dX11_most 38 rfl) (by decide) ?_
    refine e_lv [4, 5, 1, 2, 0] rfl ?_
    exact hrec _ _ _ _ h hOK
set_option maxRecDepth 20000 in
theorem l_X11_most_12 {X : FX} {g : WC} {Xo : Nat → va_E} {n : Nat} {kd : Nat → Nat} (C : Cx X g RX11 cX11_most 6) (K : KD n kd) {t : Nat} (ht : kd t = 12) {x1 : Int32} {M : Mem} (hR : x_R X = rmx 1 1 6) {OK : Int32 → Prop} (hx : ∀ s, OK s → EW X g (x_s X).heap.size n 6 (ent g Xo kd M) 1 6 81 [(2, .int s)] []) : ∀ (N9 : Nat) (x2 : Int32) (x3 : Int32) (x4 : Int32) (q : Int32), L_X11_most_12 t x1 M N9 x2 x3 x4 = some q → OK q → EW X g (x_s X).heap.size n 6 (ent g Xo kd M) 1 6 12 [(0, .ref (g_N g + t)), (1, .int x1), (2, .int x2), (3, .int x3), (4, .int x4)] [] := by
  intro N9
  induction N9 with
  | zero =>
    intro x2 x3 x4 q h
    rw [L_X11_most_12.eq_1] at h
    cases h
  | succ m9 ih =>
    intro x2 x3 x4 q h hOK
    rw [L_X11_most_12.eq_2] at h
    refine e_iload C 4 (dk dX11_most 9 rfl) rfl ?_
    refine e_aload_n C 0 (dk dX11_most 10 rfl) rfl rfl ?_
    obtain ⟨w2, hw2, h⟩ := ob h
    have gw2 := grd_some K (Or.inl ht) hw2
    refine gf_X11_plan C K ht fl_X11_19 (dk dX11_most 11 rfl) ?_
    rw [gw2.1]
    refine gf_X9_people C K gw2.2 fl_X11_128 (dk dX11_most 12 rfl) ?_
    refine e_icmp_ge C 81 (dk dX11_most 13 rfl) (by decide) (fun c3 => ?_) (fun c3 => ?_)
    · rw [if_pos c3] at h
      obtain rfl := Option.some.inj h
      refine e_lv [2] rfl ?_
      exact hx _ hOK
    · rw [if_neg c3] at h
      refine e_iload_n C 1 (dk dX11_most 14 rfl) rfl rfl ?_
      refine e_if_ne C 46 (dk dX11_most 15 rfl) (by decide) (fun c4 => ?_) (fun c4 => ?_)
      · rw [if_neg c4] at h
        refine e_aload_n C 0 (dk dX11_most 23 rfl) rfl rfl ?_
        refine gf_X11_book C K ht fl_X11_30 (dk dX11_most 24 rfl) ?_
        refine gf_X0_town C K (kd_X11_book K ht) fl_X11_119 (dk dX11_most 25 rfl) ?_
        refine gf_X8_coins C K (kd_X0_town K (kd_X11_book K ht)) fl_X11_185 (dk dX11_most 26 rfl) ?_
        refine e_iload C 4 (dk dX11_most 27 rfl) rfl ?_
        refine e_callS2 C cal_X11_at sm_X11_at ml_X11_172 (rmx_room hR (by decide) cal_X11_at.2.2.1) (dk dX11_most 28 rfl) (c_X11_at K (kd_X8_coins K (kd_X0_town K (kd_X11_book K ht))) (rfl : F_X11_at (((t + 24) + 1) + 1) 7 x4 M = _)) (rmx_cap hR (by decide) (by decide)) (Nat.le_of_ble_eq_true rfl) rfl ?_
        exact j_X11_most_j61 C K ht hR hx ih _ h hOK
      · rw [if_pos c4] at h
        refine e_aload_n C 0 (dk dX11_most 16 rfl) rfl rfl ?_
        refine gf_X11_book C K ht fl_X11_30 (dk dX11_most 17 rfl) ?_
        refine gf_X0_town C K (kd_X11_book K ht) fl_X11_119 (dk dX11_most 18 rfl) ?_
        refine e_iload C 4 (dk dX11_most 19 rfl) rfl ?_
        obtain ⟨q6, hq6, h⟩ := ob h
        refine e_callV2 (ci := 8) C cal_X8_knowers im_X8_knowers se_X8_knowers ml_X11_296 rfl (rmx_room hR (by decide) cal_X8_knowers.2.2.1) (dk dX11_most 20 rfl) (K.1 _ (by rw [(kd_X0_town K (kd_X11_book K ht))]; decide)) (ent_o8 (kd_X0_town K (kd_X11_book K ht))) (c_X8_knowers K (kd_X0_town K (kd_X11_book K ht)) hq6) (rmx_cap hR (by decide) (by decide)) (Nat.le_of_ble_eq_true rfl) rfl ?_
        refine e_callS2 C cal_J6_bitCount_0f7a4 sm_J6_bitCount_0f7a4 ml_X11_299 (rmx_room hR (by decide) cal_J6_bitCount_0f7a4.2.2.1) (dk dX11_most 21 rfl) (c_J6_bitCount_0f7a4 K (rfl : F_J6_bitCount_0f7a4 q6 = _)) (rmx_cap hR (by decide) (by decide)) (Nat.le_of_ble_eq_true rfl) rfl ?_
        refine e_goto C 61 (dk dX11_most 22 rfl) (by decide) ?_
        exact j_X11_most_j61 C K ht hR hx ih _ h hOK
set_option maxRecDepth 20000 in
theorem lb_X11_most_12 {X : FX} {g : WC} {Xo : Nat → va_E} {n : Nat} {kd : Nat → Nat} (C : Cx X g RX11 cX11_most 6) (K : KD n kd) {t : Nat} (ht : kd t = 12) {x1 : Int32} {M : Mem} (hR : x_R X = rmx 1 1 6) {T9 : Type} {f9 : Int32 → Option T9} {b9 : T9} (hx : ∀ s, f9 s = some b9 → EW X g (x_s X).heap.size n 6 (ent g Xo kd M) 1 6 81 [(2, .int s)] []) {x2 : Int32} {x3 : Int32} {x4 : Int32} (h : (L_X11_most_12 t x1 M FU x2 x3 x4).bind f9 = some b9) : EW X g (x_s X).heap.size n 6 (ent g Xo kd M) 1 6 12 [(0, .ref (g_N g + t)), (1, .int x1), (2, .int x2), (3, .int x3), (4, .int x4)] [] := by
  obtain ⟨q, hq, h⟩ := ob h
  exact l_X11_most_12 C K ht hR (OK := fun q => f9 q = some b9) hx FU x2 x3 x4 q hq h
set_option maxRecDepth 20000 in
theorem c_X11_most {g : WC} {Xo : Nat → va_E} {n : Nat} {kd : Nat → Nat} (K : KD n kd) {t : Nat} {p0 : Int32} (ht : kd t = 12) {M : Mem} {res : Sum Nat (Int32)} (h : F_X11_most t p0 M = some res) : MX g yX11_most cX11_most 6 (some .int) 1 1 6 n [.ref (g_N g + t), .int p0] (ent g Xo kd M) (oI res) (ent g Xo kd M) := by
  refine MX_of pn_X11 (Nat.le_of_ble_eq_true rfl) (fun X C B => ?_)
  have hR := B.1
  rw [F_X11_most] at h
  refine e_iload_n C 1 (dk dX11_most 0 rfl) rfl rfl ?_
  refine e_iconst C 2 (dk dX11_most 1 rfl) (by decide) ?_
  rcases hq1 : F_X11_needWhat p0 2 M with jq1 | uq1
  · rw [hq1] at h
    dsimp only [Sum.elim_inl] at h
    obtain rfl := Option.some.inj h
    exact e_xcallS C cal_X11_needWhat sm_X11_needWhat ml_X11_115 (rmx_roomX hR (by decide) cal_X11_needWhat.2.2.1) (dk dX11_most 2 rfl) (c_X11_needWhat K hq1) (rmx_cap hR (by decide) (by decide)) (Nat.le_of_ble_eq_true rfl) rfl (fun r hr => nomatch hr) (fun j hj => by
      obtain rfl := Sum.inl.inj hj
      exact e_prop C B (by decide) (by decide))
  rw [hq1] at h
  dsimp only [Sum.elim_inr] at h
  refine e_xcallS C cal_X11_needWhat sm_X11_needWhat ml_X11_115 (rmx_roomX hR (by decide) cal_X11_needWhat.2.2.1) (dk dX11_most 2 rfl) (c_X11_needWhat K hq1) (rmx_cap hR (by decide) (by decide)) (Nat.le_of_ble_eq_true rfl) rfl (fun r hr => ?_) (fun j hj => nomatch hj)
  obtain rfl := Sum.inr.inj hr
  refine e_iconst C (-1) (dk dX11_most 3 rfl) (by decide) ?_
  refine e_istore_n C [(2, .int (-1)), (0, .ref (g_N g + t)), (1, .int p0)] (dk dX11_most 4 rfl) rfl (by decide) rfl ?_
  refine e_iconst C (-1) (dk dX11_most 5 rfl) (by decide) ?_
  refine e_istore_n C [(3, .int (-1)), (2, .int (-1)), (0, .ref (g_N g + t)), (1, .int p0)] (dk dX11_most 6 rfl) rfl (by decide) rfl ?_
  refine e_iconst C 0 (dk dX11_most 7 rfl) (by decide) ?_
  refine e_istore C [(4, .int 0), (3, .int (-1)), (2, .int (-1)), (0, .ref (g_N g + t)), (1, .int p0)] (dk dX11_most 8 rfl) (by decide) rfl ?_
  refine e_lv [3, 4, 2, 1, 0] rfl ?_
  refine lb_X11_most_12 C K ht hR (fun s8 h => ?_) h
  refine e_iload_n C 0 (dk dX11_most 39 rfl) rfl rfl ?_
  obtain rfl := Option.some.inj h
  exact e_iretX C B (nar1 _) (by decide) (by decide) (dk dX11_most 40 rfl)
set_option maxRecDepth 20000 in
theorem l_X11_lantern_9 {X : FX} {g : WC} {Xo : Nat → va_E} {n : Nat} {kd : Nat → Nat} (C : Cx X g RX11 cX11_lantern 4) (K : KD n kd) {t : Nat} (ht : kd t = 12) {x1 : Int32} {M : Mem} (hR : x_R X = rmx 1 1 6) {OK : Int32 → Prop} (hx : ∀ s, OK s → EW X g (x_s X).heap.size n 4 (ent g Xo kd M) 1 6 49 [(2, .int s)] []) : ∀ (N9 : Nat) (x2 : Int32) (x3 : Int32) (q : Int32), L_X11_lantern_9 t x1 M N9 x2 x3 = some q → OK q → EW X g (x_s X).heap.size n 4 (ent g Xo kd M) 1 6 9 [(0, .ref (g_N g + t)), (1, .int x1), (2, .int x2), (3, .int x3)] [] := by
  intro N9
  induction N9 with
  | zero =>
    intro x2 x3 q h
    rw [L_X11_lantern_9.eq_1] at h
    cases h
  | succ m9 ih =>
    intro x2 x3 q h hOK
    rw [L_X11_lantern_9.eq_2] at h
    refine e_iload_n C 3 (dk dX11_lantern 7 rfl) rfl rfl ?_
    refine e_bipush C 6 (dk dX11_lantern 8 rfl) (by decide) ?_
    refine e_icmp_ge C 49 (dk dX11_lantern 9 rfl) (by decide) (fun c2 => ?_) (fun c2 => ?_)
    · rw [if_pos c2] at h
      obtain rfl := Option.some.inj h
      refine e_lv [2] rfl ?_
      exact hx _ hOK
    · rw [if_neg c2] at h
      refine e_aload_n C 0 (dk dX11_lantern 10 rfl) rfl rfl ?_
      obtain ⟨w3, hw3, h⟩ := ob h
      have gw3 := grd_some K (Or.inl ht) hw3
      refine gf_X11_plan C K ht fl_X11_19 (dk dX11_lantern 11 rfl) ?_
      rw [gw3.1]
      refine e_aload_n C 0 (dk dX11_lantern 12 rfl) rfl rfl ?_
      refine gf_X11_book C K ht fl_X11_30 (dk dX11_lantern 13 rfl) ?_
      refine gf_X0_town C K (kd_X11_book K ht) fl_X11_119 (dk dX11_lantern 14 rfl) ?_
      refine gf_X8_night C K (kd_X0_town K (kd_X11_book K ht)) fl_X11_134 (dk dX11_lantern 15 rfl) ?_
      refine e_iload_n C 3 (dk dX11_lantern 16 rfl) rfl rfl ?_
      obtain ⟨q4, hq4, h⟩ := ob h
      refine e_callV2 (ci := 9) C cal_X9_watchAt im_X9_watchAt se_X9_watchAt ml_X11_259 rfl (rmx_room hR (by decide) cal_X9_watchAt.2.2.1) (dk dX11_lantern 17 rfl) (K.1 _ (by rw [gw3.2]; decide)) (ent_o9 gw3.2) (c_X9_watchAt K gw3.2 hq4) (rmx_cap hR (by decide) (by decide)) (Nat.le_of_ble_eq_true rfl) rfl ?_
      refine e_iload_n C 1 (dk dX11_lantern 18 rfl) rfl rfl ?_
      refine e_icmp_ne C 43 (dk dX11_lantern 19 rfl) (by decide) (fun c5 => ?_) (fun c5 => ?_)
      · rw [if_neg c5] at h
        refine e_iinc C [(3, .int (x3 + 1)), (0, .ref (g_N g + t)), (1, .int x1), (2, .int x2)] 3 1 (dk dX11_lantern 26 rfl) rfl (by decide) (by decide) rfl ?_
        refine e_goto C 9 (dk dX11_lantern 27 rfl) (by decide) ?_
        refine e_lv [1, 2, 3, 0] rfl ?_
        exact ih _ _ _ h hOK
      · rw [if_pos c5] at h
        refine e_iload_n C 2 (dk dX11_lantern 20 rfl) rfl rfl ?_
        refine e_iconst C 1 (dk dX11_lantern 21 rfl) (by decide) ?_
        refine e_iload_n C 3 (dk dX11_lantern 22 rfl) rfl rfl ?_
        refine e_ishl C (dk dX11_lantern 23 rfl) ?_
        refine e_ior C (dk dX11_lantern 24 rfl) ?_
        refine e_istore_n C [(2, .int (x2 ||| ((1 : Int32) <<< (x3 &&& 31)))), (0, .ref (g_N g + t)), (1, .int x1), (3, .int x3)] (dk dX11_lantern 25 rfl) rfl (by decide) rfl ?_
        refine e_iinc C [(3, .int (x3 + 1)), (2, .int (x2 ||| ((1 : Int32) <<< (x3 &&& 31)))), (0, .ref (g_N g + t)), (1, .int x1)] 3 1 (dk dX11_lantern 26 rfl) rfl (by decide) (by decide) rfl ?_
        refine e_goto C 9 (dk dX11_lantern 27 rfl) (by decide) ?_
        refine e_lv [2, 3, 1, 0] rfl ?_
        exact ih _ _ _ h hOK
set_option maxRecDepth 20000 in
theorem lb_X11_lantern_9 {X : FX} {g : WC} {Xo : Nat → va_E} {n : Nat} {kd : Nat → Nat} (C : Cx X g RX11 cX11_lantern 4) (K : KD n kd) {t : Nat} (ht : kd t = 12) {x1 : Int32} {M : Mem} (hR : x_R X = rmx 1 1 6) {T9 : Type} {f9 : Int32 → Option T9} {b9 : T9} (hx : ∀ s, f9 s = some b9 → EW X g (x_s X).heap.size n 4 (ent g Xo kd M) 1 6 49 [(2, .int s)] []) {x2 : Int32} {x3 : Int32} (h : (L_X11_lantern_9 t x1 M FU x2 x3).bind f9 = some b9) : EW X g (x_s X).heap.size n 4 (ent g Xo kd M) 1 6 9 [(0, .ref (g_N g + t)), (1, .int x1), (2, .int x2), (3, .int x3)] [] := by
  obtain ⟨q, hq, h⟩ := ob h
  exact l_X11_lantern_9 C K ht hR (OK := fun q => f9 q = some b9) hx FU x2 x3 q hq h
set_option maxRecDepth 20000 in
theorem c_X11_lantern {g : WC} {Xo : Nat → va_E} {n : Nat} {kd : Nat → Nat} (K : KD n kd) {t : Nat} {p0 : Int32} (ht : kd t = 12) {M : Mem} {res : Sum Nat (Int32)} (h : F_X11_lantern t p0 M = some res) : MX g yX11_lantern cX11_lantern 4 (some .int) 1 1 6 n [.ref (g_N g + t), .int p0] (ent g Xo kd M) (oI res) (ent g Xo kd M) := by
  refine MX_of pn_X11 (Nat.le_of_ble_eq_true rfl) (fun X C B => ?_)
  have hR := B.1
  rw [F_X11_lantern] at h
  refine e_aload_n C 0 (dk dX11_lantern 0 rfl) rfl rfl ?_
  refine e_iload_n C 1 (dk dX11_lantern 1 rfl) rfl rfl ?_
  obtain ⟨q1, hq1, h⟩ := ob h
  rcases q1 with jq1 | uq1
  · dsimp only [Sum.elim_inl] at h
    obtain rfl := Option.some.inj h
    exact e_xcallV (ci := 11) C cal_X11_needStreet im_X11_needStreet se_X11_needStreet ml_X11_176 rfl (rmx_roomX hR (by decide) cal_X11_needStreet.2.2.1) (dk dX11_lantern 2 rfl) (K.1 _ (by rw [ht]; decide)) (ent_o11 ht) (c_X11_needStreet K ht hq1) (rmx_cap hR (by decide) (by decide)) (Nat.le_of_ble_eq_true rfl) rfl (fun r hr => nomatch hr) (fun j hj => by
      obtain rfl := Sum.inl.inj hj
      exact e_prop C B (by decide) (by decide))
  dsimp only [Sum.elim_inr] at h
  refine e_xcallV (ci := 11) C cal_X11_needStreet im_X11_needStreet se_X11_needStreet ml_X11_176 rfl (rmx_roomX hR (by decide) cal_X11_needStreet.2.2.1) (dk dX11_lantern 2 rfl) (K.1 _ (by rw [ht]; decide)) (ent_o11 ht) (c_X11_needStreet K ht hq1) (rmx_cap hR (by decide) (by decide)) (Nat.le_of_ble_eq_true rfl) rfl (fun r hr => ?_) (fun j hj => nomatch hj)
  obtain rfl := Sum.inr.inj hr
  refine e_iconst C 0 (dk dX11_lantern 3 rfl) (by decide) ?_
  refine e_istore_n C [(2, .int 0), (0, .ref (g_N g + t)), (1, .int p0)] (dk dX11_lantern 4 rfl) rfl (by decide) rfl ?_
  refine e_iconst C 0 (dk dX11_lantern 5 rfl) (by decide) ?_
  refine e_istore_n C [(3, .int 0), (2, .int 0), (0, .ref (g_N g + t)), (1, .int p0)] (dk dX11_lantern 6 rfl) rfl (by decide) rfl ?_
  refine e_lv [2, 3, 1, 0] rfl ?_
  refine lb_X11_lantern_9 C K ht hR (fun s7 h => ?_) h
  refine e_iload_n C 0 (dk dX11_lantern 28 rfl) rfl rfl ?_
  obtain rfl := Option.some.inj h
  exact e_iretX C B (nar1 _) (by decide) (by decide) (dk dX11_lantern 29 rfl)
set_option maxRecDepth 20000 in
theorem l_X11_meet_15 {X : FX} {g : WC} {Xo : Nat → va_E} {n : Nat} {kd : Nat → Nat} (C : Cx X g RX11 cX11_meet 5) (K : KD n kd) {t : Nat} (ht : kd t = 12) {x1 : Int32} {x2 : Int32} {M : Mem} (hR : x_R X = rmx 2 2 12) {OK : Int32 → Prop} (hx : ∀ s, OK s → EW X g (x_s X).heap.size n 5 (ent g Xo kd M) 2 12 52 [(3, .int s)] []) : ∀ (N9 : Nat) (x3 : Int32) (x4 : Int32) (q : Int32), L_X11_meet_15 t x1 x2 M N9 x3 x4 = some q → OK q → EW X g (x_s X).heap.size n 5 (ent g Xo kd M) 2 12 15 [(0, .ref (g_N g + t)), (1, .int x1), (2, .int x2), (3, .int x3), (4, .int x4)] [] := by
  intro N9
  induction N9 with
  | zero =>
    intro x3 x4 q h
    rw [L_X11_meet_15.eq_1] at h
    cases h
  | succ m9 ih =>
    intro x3 x4 q h hOK
    rw [L_X11_meet_15.eq_2] at h
    refine e_iload C 4 (dk dX11_meet 10 rfl) rfl ?_
    refine e_bipush C 6 (dk dX11_meet 11 rfl) (by decide) ?_
    refine e_icmp_ge C 52 (dk dX11_meet 12 rfl) (by decide) (fun c3 => ?_) (fun c3 => ?_)
    · rw [if_pos c3] at h
      obtain rfl := Option.some.inj h
      refine e_lv [3] rfl ?_
      exact hx _ hOK
    · rw [if_neg c3] at h
      refine e_aload_n C 0 (dk dX11_meet 13 rfl) rfl rfl ?_
      refine e_iload_n C 1 (dk dX11_meet 14 rfl) rfl rfl ?_
      refine e_iload C 4 (dk dX11_meet 15 rfl) rfl ?_
      obtain ⟨q4, hq4, h⟩ := ob h
      refine e_callV2 (ci := 11) C cal_X11_streetNow im_X11_streetNow se_X11_streetNow ml_X11_304 rfl (rmx_room hR (by decide) cal_X11_streetNow.2.2.1) (dk dX11_meet 16 rfl) (K.1 _ (by rw [ht]; decide)) (ent_o11 ht) (c_X11_streetNow K ht hq4) (rmx_cap hR (by decide) (by decide)) (Nat.le_of_ble_eq_true rfl) rfl ?_
      refine e_aload_n C 0 (dk dX11_meet 17 rfl) rfl rfl ?_
      refine e_iload_n C 2 (dk dX11_meet 18 rfl) rfl rfl ?_
      refine e_iload C 4 (dk dX11_meet 19 rfl) rfl ?_
      obtain ⟨q5, hq5, h⟩ := ob h
      refine e_callV2 (ci := 11) C cal_X11_streetNow im_X11_streetNow se_X11_streetNow ml_X11_304 rfl (rmx_room hR (by decide) cal_X11_streetNow.2.2.1) (dk dX11_meet 20 rfl) (K.1 _ (by rw [ht]; decide)) (ent_o11 ht) (c_X11_streetNow K ht hq5) (rmx_cap hR (by decide) (by decide)) (Nat.le_of_ble_eq_true rfl) rfl ?_
      refine e_icmp_ne C 46 (dk dX11_meet 21 rfl) (by decide) (fun c6 => ?_) (fun c6 => ?_)
      · rw [if_neg c6] at h
        refine e_iinc C [(4, .int (x4 + 1)), (0, .ref (g_N g + t)), (1, .int x1), (2, .int x2), (3, .int x3)] 4 1 (dk dX11_meet 28 rfl) rfl (by decide) (by decide) rfl ?_
        refine e_goto C 15 (dk dX11_meet 29 rfl) (by decide) ?_
        refine e_lv [1, 2, 3, 4, 0] rfl ?_
        exact ih _ _ _ h hOK
      · rw [if_pos c6] at h
        refine e_iload_n C 3 (dk dX11_meet 22 rfl) rfl rfl ?_
        refine e_iconst C 1 (dk dX11_meet 23 rfl) (by decide) ?_
        refine e_iload C 4 (dk dX11_meet 24 rfl) rfl ?_
        refine e_ishl C (dk dX11_meet 25 rfl) ?_
        refine e_ior C (dk dX11_meet 26 rfl) ?_
        refine e_istore_n C [(3, .int (x3 ||| ((1 : Int32) <<< (x4 &&& 31)))), (0, .ref (g_N g + t)), (1, .int x1), (2, .int x2), (4, .int x4)] (dk dX11_meet 27 rfl) rfl (by decide) rfl ?_
        refine e_iinc C [(4, .int (x4 + 1)), (3, .int (x3 ||| ((1 : Int32) <<< (x4 &&& 31)))), (0, .ref (g_N g + t)), (1, .int x1), (2, .int x2)] 4 1 (dk dX11_meet 28 rfl) rfl (by decide) (by decide) rfl ?_
        refine e_goto C 15 (dk dX11_meet 29 rfl) (by decide) ?_
        refine e_lv [2, 3, 4, 1, 0] rfl ?_
        exact ih _ _ _ h hOK
set_option maxRecDepth 20000 in
theorem lb_X11_meet_15 {X : FX} {g : WC} {Xo : Nat → va_E} {n : Nat} {kd : Nat → Nat} (C : Cx X g RX11 cX11_meet 5) (K : KD n kd) {t : Nat} (ht : kd t = 12) {x1 : Int32} {x2 : Int32} {M : Mem} (hR : x_R X = rmx 2 2 12) {T9 : Type} {f9 : Int32 → Option T9} {b9 : T9} (hx : ∀ s, f9 s = some b9 → EW X g (x_s X).heap.size n 5 (ent g Xo kd M) 2 12 52 [(3, .int s)] []) {x3 : Int32} {x4 : Int32} (h : (L_X11_meet_15 t x1 x2 M FU x3 x4).bind f9 = some b9) : EW X g (x_s X).heap.size n 5 (ent g Xo kd M) 2 12 15 [(0, .ref (g_N g + t)), (1, .int x1), (2, .int x2), (3, .int x3), (4, .int x4)] [] := by
  obtain ⟨q, hq, h⟩ := ob h
  exact l_X11_meet_15 C K ht hR (OK := fun q => f9 q = some b9) hx FU x3 x4 q hq h
set_option maxRecDepth 20000 in
theorem c_X11_meet {g : WC} {Xo : Nat → va_E} {n : Nat} {kd : Nat → Nat} (K : KD n kd) {t : Nat} {p0 : Int32} {p1 : Int32} (ht : kd t = 12) {M : Mem} {res : Sum Nat (Int32)} (h : F_X11_meet t p0 p1 M = some res) : MX g yX11_meet cX11_meet 5 (some .int) 2 2 12 n [.ref (g_N g + t), .int p0, .int p1] (ent g Xo kd M) (oI res) (ent g Xo kd M) := by
  refine MX_of pn_X11 (Nat.le_of_ble_eq_true rfl) (fun X C B => ?_)
  have hR := B.1
  rw [F_X11_meet] at h
  refine e_aload_n C 0 (dk dX11_meet 0 rfl) rfl rfl ?_
  refine e_iload_n C 1 (dk dX11_meet 1 rfl) rfl rfl ?_
  obtain ⟨q1, hq1, h⟩ := ob h
  rcases q1 with jq1 | uq1
  · dsimp only [Sum.elim_inl] at h
    obtain rfl := Option.some.inj h
    exact e_xcallV (ci := 11) C cal_X11_needPerson im_X11_needPerson se_X11_needPerson ml_X11_182 rfl (rmx_roomX hR (by decide) cal_X11_needPerson.2.2.1) (dk dX11_meet 2 rfl) (K.1 _ (by rw [ht]; decide)) (ent_o11 ht) (c_X11_needPerson K ht hq1) (rmx_cap hR (by decide) (by decide)) (Nat.le_of_ble_eq_true rfl) rfl (fun r hr => nomatch hr) (fun j hj => by
      obtain rfl := Sum.inl.inj hj
      exact e_prop C B (by decide) (by decide))
  dsimp only [Sum.elim_inr] at h
  refine e_xcallV (ci := 11) C cal_X11_needPerson im_X11_needPerson se_X11_needPerson ml_X11_182 rfl (rmx_roomX hR (by decide) cal_X11_needPerson.2.2.1) (dk dX11_meet 2 rfl) (K.1 _ (by rw [ht]; decide)) (ent_o11 ht) (c_X11_needPerson K ht hq1) (rmx_cap hR (by decide) (by decide)) (Nat.le_of_ble_eq_true rfl) rfl (fun r hr => ?_) (fun j hj => nomatch hj)
  obtain rfl := Sum.inr.inj hr
  refine e_aload_n C 0 (dk dX11_meet 3 rfl) rfl rfl ?_
  refine e_iload_n C 2 (dk dX11_meet 4 rfl) rfl rfl ?_
  obtain ⟨q2, hq2, h⟩ := ob h
  rcases q2 with jq2 | uq2
  · dsimp only [Sum.elim_inl] at h
    obtain rfl := Option.some.inj h
    exact e_xcallV (ci := 11) C cal_X11_needPerson im_X11_needPerson se_X11_needPerson ml_X11_182 rfl (rmx_roomX hR (by decide) cal_X11_needPerson.2.2.1) (dk dX11_meet 5 rfl) (K.1 _ (by rw [ht]; decide)) (ent_o11 ht) (c_X11_needPerson K ht hq2) (rmx_cap hR (by decide) (by decide)) (Nat.le_of_ble_eq_true rfl) rfl (fun r hr => nomatch hr) (fun j hj => by
      obtain rfl := Sum.inl.inj hj
      exact e_prop C B (by decide) (by decide))
  dsimp only [Sum.elim_inr] at h
  refine e_xcallV (ci := 11) C cal_X11_needPerson im_X11_needPerson se_X11_needPerson ml_X11_182 rfl (rmx_roomX hR (by decide) cal_X11_needPerson.2.2.1) (dk dX11_meet 5 rfl) (K.1 _ (by rw [ht]; decide)) (ent_o11 ht) (c_X11_needPerson K ht hq2) (rmx_cap hR (by decide) (by decide)) (Nat.le_of_ble_eq_true rfl) rfl (fun r hr => ?_) (fun j hj => nomatch hj)
  obtain rfl := Sum.inr.inj hr
  refine e_iconst C 0 (dk dX11_meet 6 rfl) (by decide) ?_
  refine e_istore_n C [(3, .int 0), (0, .ref (g_N g + t)), (1, .int p0), (2, .int p1)] (dk dX11_meet 7 rfl) rfl (by decide) rfl ?_
  refine e_iconst C 0 (dk dX11_meet 8 rfl) (by decide) ?_
  refine e_istore C [(4, .int 0), (3, .int 0), (0, .ref (g_N g + t)), (1, .int p0), (2, .int p1)] (dk dX11_meet 9 rfl) (by decide) rfl ?_
  refine e_lv [2, 3, 4, 1, 0] rfl ?_
  refine lb_X11_meet_15 C K ht hR (fun s8 h => ?_) h
  refine e_iload_n C 0 (dk dX11_meet 30 rfl) rfl rfl ?_
  obtain rfl := Option.some.inj h
  exact e_iretX C B (nar1 _) (by decide) (by decide) (dk dX11_meet 31 rfl)
set_option maxRecDepth 20000 in
theorem l_X11_spends_31 {X : FX} {g : WC} {Xo : Nat → va_E} {n : Nat} {kd : Nat → Nat} (C : Cx X g RX11 cX11_spends 5) (K : KD n kd) {t : Nat} (ht : kd t = 12) {x1 : Int32} {x2 : Int32} (hR : x_R X = rmx 5 2 12) {OK : Int32 × Mem → Prop} (hx : ∀ s, OK s → EW X g (x_s X).heap.size n 5 (ent g Xo kd s.2) 2 12 83 [(3, .int s.1)] []) : ∀ (N9 : Nat) (x3 : Int32) (x4 : Int32) (M : Mem) (q : Int32 × Mem), L_X11_spends_31 t x1 x2 N9 x3 x4 M = some q → OK q → EW X g (x_s X).heap.size n 5 (ent g Xo kd M) 2 12 31 [(0, .ref (g_N g + t)), (1, .int x1), (2, .int x2), (3, .int x3), (4, .int x4)] [] := by
  intro N9
  induction N9 with
  | zero =>
    intro x3 x4 M q h
    rw [L_X11_spends_31.eq_1] at h
    cases h
  | succ m9 ih =>
    intro x3 x4 M q h hOK
    rw [L_X11_spends_31.eq_2] at h
    refine e_iload C 4 (dk dX11_spends 17 rfl) rfl ?_
    refine e_iload_n C 2 (dk dX11_spends 18 rfl) rfl rfl ?_
    refine e_icmp_ge C 83 (dk dX11_spends 19 rfl) (by decide) (fun c4 => ?_) (fun c4 => ?_)
    · rw [if_pos c4] at h
      obtain rfl := Option.some.inj h
      refine e_lv [3] rfl ?_
      exact hx _ hOK
    · rw [if_neg c4] at h
      refine e_aload_n C 0 (dk dX11_spends 20 rfl) rfl rfl ?_
      refine gf_X11_sale C K ht fl_X11_51 (dk dX11_spends 21 rfl) ?_
      refine e_aload_n C 0 (dk dX11_spends 22 rfl) rfl rfl ?_
      obtain ⟨w5, hw5, h⟩ := ob h
      have gw5 := grd_some K (Or.inl ht) hw5
      refine gf_X11_plan C K ht fl_X11_19 (dk dX11_spends 23 rfl) ?_
      rw [gw5.1]
      refine e_aload_n C 0 (dk dX11_spends 24 rfl) rfl rfl ?_
      refine gf_X11_later C K ht fl_X11_44 (dk dX11_spends 25 rfl) ?_
      refine e_aload_n C 0 (dk dX11_spends 26 rfl) rfl rfl ?_
      obtain ⟨w6, hw6, h⟩ := ob h
      have gw6 := grd_some K (Or.inl ht) hw6
      refine gf_X11_plan C K ht fl_X11_19 (dk dX11_spends 27 rfl) ?_
      rw [gw6.1]
      refine e_aload_n C 0 (dk dX11_spends 28 rfl) rfl rfl ?_
      refine gf_X11_later C K ht fl_X11_44 (dk dX11_spends 29 rfl) ?_
      refine gf_X8_night C K (kd_X11_later K ht) fl_X11_134 (dk dX11_spends 30 rfl) ?_
      obtain ⟨q7, hq7, h⟩ := ob h
      refine e_callV2 (ci := 9) C cal_X9_fogOf im_X9_fogOf se_X9_fogOf ml_X11_137 rfl (rmx_room hR (by decide) cal_X9_fogOf.2.2.1) (dk dX11_spends 31 rfl) (K.1 _ (by rw [gw6.2]; decide)) (ent_o9 gw6.2) (c_X9_fogOf K gw6.2 hq7) (rmx_cap hR (by decide) (by decide)) (Nat.le_of_ble_eq_true rfl) rfl ?_
      obtain ⟨q8, hq8, h⟩ := ob h
      refine e_callV2 (ci := 6) C cal_X6_pass im_X6_pass se_X6_pass ml_X11_214 rfl (rmx_room hR (by decide) cal_X6_pass.2.2.1) (dk dX11_spends 32 rfl) (K.1 _ (by rw [(kd_X11_sale K ht)]; decide)) (ent_o6 (kd_X11_sale K ht)) (c_X6_pass K (kd_X11_sale K ht) gw5.2 (kd_X11_later K ht) hq8) (rmx_cap hR (by decide) (by decide)) (Nat.le_of_ble_eq_true rfl) rfl ?_
      refine e_iload_n C 3 (dk dX11_spends 33 rfl) rfl rfl ?_
      refine e_aload_n C 0 (dk dX11_spends 34 rfl) rfl rfl ?_
      refine gf_X11_sale C K ht fl_X11_51 (dk dX11_spends 35 rfl) ?_
      refine e_iload_n C 1 (dk dX11_spends 36 rfl) rfl rfl ?_
      obtain ⟨q9, hq9, h⟩ := ob h
      refine e_callV2 (ci := 6) C cal_X6_paidBy im_X6_paidBy se_X6_paidBy ml_X11_307 rfl (rmx_room hR (by decide) cal_X6_paidBy.2.2.1) (dk dX11_spends 37 rfl) (K.1 _ (by rw [(kd_X11_sale K ht)]; decide)) (ent_o6 (kd_X11_sale K ht)) (c_X6_paidBy K (kd_X11_sale K ht) hq9) (rmx_cap hR (by decide) (by decide)) (Nat.le_of_ble_eq_true rfl) rfl ?_
      refine e_iadd C (dk dX11_spends 38 rfl) ?_
      refine e_istore_n C [(3, .int (x3 + q9)), (0, .ref (g_N g + t)), (1, .int x1), (2, .int x2), (4, .int x4)] (dk dX11_spends 39 rfl) rfl (by decide) rfl ?_
      refine e_iinc C [(4, .int (x4 + 1)), (3, .int (x3 + q9)), (0, .ref (g_N g + t)), (1, .int x1), (2, .int x2)] 4 1 (dk dX11_spends 40 rfl) rfl (by decide) (by decide) rfl ?_
      refine e_goto C 31 (dk dX11_spends 41 rfl) (by decide) ?_
      refine e_lv [2, 3, 4, 1, 0] rfl ?_
      exact ih _ _ _ _ h hOK
set_option maxRecDepth 20000 in
theorem lb_X11_spends_31 {X : FX} {g : WC} {Xo : Nat → va_E} {n : Nat} {kd : Nat → Nat} (C : Cx X g RX11 cX11_spends 5) (K : KD n kd) {t : Nat} (ht : kd t = 12) {x1 : Int32} {x2 : Int32} (hR : x_R X = rmx 5 2 12) {T9 : Type} {f9 : Int32 × Mem → Option T9} {b9 : T9} (hx : ∀ s, f9 s = some b9 → EW X g (x_s X).heap.size n 5 (ent g Xo kd s.2) 2 12 83 [(3, .int s.1)] []) {x3 : Int32} {x4 : Int32} {M : Mem} (h : (L_X11_spends_31 t x1 x2 FU x3 x4 M).bind f9 = some b9) : EW X g (x_s X).heap.size n 5 (ent g Xo kd M) 2 12 31 [(0, .ref (g_N g + t)), (1, .int x1), (2, .int x2), (3, .int x3), (4, .int x4)] [] := by
  obtain ⟨q, hq, h⟩ := ob h
  exact l_X11_spends_31 C K ht hR (OK := fun q => f9 q = some b9) hx FU x3 x4 M q hq h
set_option maxRecDepth 20000 in
theorem c_X11_spends {g : WC} {Xo : Nat → va_E} {n : Nat} {kd : Nat → Nat} (K : KD n kd) {t : Nat} {p0 : Int32} {p1 : Int32} (ht : kd t = 12) {M : Mem} {res : Sum Nat (Int32 × Mem)} (h : F_X11_spends t p0 p1 M = some res) : MX g yX11_spends cX11_spends 5 (some .int) 5 2 12 n [.ref (g_N g + t), .int p0, .int p1] (ent g Xo kd M) (oIM res) (ent g Xo kd (mX res M)) := by
  refine MX_of pn_X11 (Nat.le_of_ble_eq_true rfl) (fun X C B => ?_)
  have hR := B.1
  rw [F_X11_spends] at h
  refine e_aload_n C 0 (dk dX11_spends 0 rfl) rfl rfl ?_
  refine e_iload_n C 1 (dk dX11_spends 1 rfl) rfl rfl ?_
  obtain ⟨q1, hq1, h⟩ := ob h
  rcases q1 with jq1 | uq1
  · dsimp only [Sum.elim_inl] at h
    obtain rfl := Option.some.inj h
    exact e_xcallV (ci := 11) C cal_X11_needPerson im_X11_needPerson se_X11_needPerson ml_X11_182 rfl (rmx_roomX hR (by decide) cal_X11_needPerson.2.2.1) (dk dX11_spends 2 rfl) (K.1 _ (by rw [ht]; decide)) (ent_o11 ht) (c_X11_needPerson K ht hq1) (rmx_cap hR (by decide) (by decide)) (Nat.le_of_ble_eq_true rfl) rfl (fun r hr => nomatch hr) (fun j hj => by
      obtain rfl := Sum.inl.inj hj
      exact e_prop C B (by decide) (by decide))
  dsimp only [Sum.elim_inr] at h
  refine e_xcallV (ci := 11) C cal_X11_needPerson im_X11_needPerson se_X11_needPerson ml_X11_182 rfl (rmx_roomX hR (by decide) cal_X11_needPerson.2.2.1) (dk dX11_spends 2 rfl) (K.1 _ (by rw [ht]; decide)) (ent_o11 ht) (c_X11_needPerson K ht hq1) (rmx_cap hR (by decide) (by decide)) (Nat.le_of_ble_eq_true rfl) rfl (fun r hr => ?_) (fun j hj => nomatch hj)
  obtain rfl := Sum.inr.inj hr
  refine e_iload_n C 2 (dk dX11_spends 3 rfl) rfl rfl ?_
  refine e_iconst C 0 (dk dX11_spends 4 rfl) (by decide) ?_
  refine e_bipush C 40 (dk dX11_spends 5 rfl) (by decide) ?_
  rcases hq2 : F_X11_needWithin p1 0 40 M with jq2 | uq2
  · rw [hq2] at h
    dsimp only [Sum.elim_inl] at h
    obtain rfl := Option.some.inj h
    exact e_xcallS C cal_X11_needWithin sm_X11_needWithin ml_X11_236 (rmx_roomX hR (by decide) cal_X11_needWithin.2.2.1) (dk dX11_spends 6 rfl) (c_X11_needWithin K hq2) (rmx_cap hR (by decide) (by decide)) (Nat.le_of_ble_eq_true rfl) rfl (fun r hr => nomatch hr) (fun j hj => by
      obtain rfl := Sum.inl.inj hj
      exact e_prop C B (by decide) (by decide))
  rw [hq2] at h
  dsimp only [Sum.elim_inr] at h
  refine e_xcallS C cal_X11_needWithin sm_X11_needWithin ml_X11_236 (rmx_roomX hR (by decide) cal_X11_needWithin.2.2.1) (dk dX11_spends 6 rfl) (c_X11_needWithin K hq2) (rmx_cap hR (by decide) (by decide)) (Nat.le_of_ble_eq_true rfl) rfl (fun r hr => ?_) (fun j hj => nomatch hj)
  obtain rfl := Sum.inr.inj hr
  refine e_iconst C 0 (dk dX11_spends 7 rfl) (by decide) ?_
  refine e_istore_n C [(3, .int 0), (0, .ref (g_N g + t)), (1, .int p0), (2, .int p1)] (dk dX11_spends 8 rfl) rfl (by decide) rfl ?_
  refine e_aload_n C 1 (dk dX11_spends 9 rfl) rfl rfl ?_
  refine gf_X11_later C K ht fl_X11_44 (dk dX11_spends 10 rfl) ?_
  refine e_aload_n C 1 (dk dX11_spends 11 rfl) rfl rfl ?_
  refine gf_X11_book C K ht fl_X11_30 (dk dX11_spends 12 rfl) ?_
  refine gf_X0_town C K (kd_X11_book K ht) fl_X11_119 (dk dX11_spends 13 rfl) ?_
  obtain ⟨q3, hq3, h⟩ := ob h
  refine e_callV2 (ci := 8) C cal_X8_copy im_X8_copy se_X8_copy ml_X11_276 rfl (rmx_room hR (by decide) cal_X8_copy.2.2.1) (dk dX11_spends 14 rfl) (K.1 _ (by rw [(kd_X11_later K ht)]; decide)) (ent_o8 (kd_X11_later K ht)) (c_X8_copy K (kd_X11_later K ht) (kd_X0_town K (kd_X11_book K ht)) hq3) (rmx_cap hR (by decide) (by decide)) (Nat.le_of_ble_eq_true rfl) rfl ?_
  refine e_iconst C 0 (dk dX11_spends 15 rfl) (by decide) ?_
  refine e_istore C [(4, .int 0), (3, .int 0), (0, .ref (g_N g + t)), (1, .int p0), (2, .int p1)] (dk dX11_spends 16 rfl) (by decide) rfl ?_
  refine e_lv [2, 3, 4, 1, 0] rfl ?_
  refine lb_X11_spends_31 C K ht hR (fun s11 h => ?_) h
  refine e_iload_n C 0 (dk dX11_spends 42 rfl) rfl rfl ?_
  obtain rfl := Option.some.inj h
  exact e_iretX C B (nar1 _) (by decide) (by decide) (dk dX11_spends 43 rfl)
set_option maxRecDepth 20000 in
theorem c_X11_unknown {g : WC} {Xo : Nat → va_E} {n : Nat} {kd : Nat → Nat} (K : KD n kd) {t : Nat} {p0 : Int32} (ht : kd t = 12) {M : Mem} {res : Sum Nat (Int32)} (h : F_X11_unknown t p0 M = some res) : MX g yX11_unknown cX11_unknown 3 (some .int) 1 1 6 n [.ref (g_N g + t), .int p0] (ent g Xo kd M) (oI res) (ent g Xo kd M) := by
  refine MX_of pn_X11 (Nat.le_of_ble_eq_true rfl) (fun X C B => ?_)
  have hR := B.1
  rw [F_X11_unknown] at h
  refine e_aload_n C 0 (dk dX11_unknown 0 rfl) rfl rfl ?_
  refine e_iload_n C 1 (dk dX11_unknown 1 rfl) rfl rfl ?_
  obtain ⟨q1, hq1, h⟩ := ob h
  rcases q1 with jq1 | uq1
  · dsimp only [Sum.elim_inl] at h
    obtain rfl := Option.some.inj h
    exact e_xcallV (ci := 11) C cal_X11_needPerson im_X11_needPerson se_X11_needPerson ml_X11_182 rfl (rmx_roomX hR (by decide) cal_X11_needPerson.2.2.1) (dk dX11_unknown 2 rfl) (K.1 _ (by rw [ht]; decide)) (ent_o11 ht) (c_X11_needPerson K ht hq1) (rmx_cap hR (by decide) (by decide)) (Nat.le_of_ble_eq_true rfl) rfl (fun r hr => nomatch hr) (fun j hj => by
      obtain rfl := Sum.inl.inj hj
      exact e_prop C B (by decide) (by decide))
  dsimp only [Sum.elim_inr] at h
  refine e_xcallV (ci := 11) C cal_X11_needPerson im_X11_needPerson se_X11_needPerson ml_X11_182 rfl (rmx_roomX hR (by decide) cal_X11_needPerson.2.2.1) (dk dX11_unknown 2 rfl) (K.1 _ (by rw [ht]; decide)) (ent_o11 ht) (c_X11_needPerson K ht hq1) (rmx_cap hR (by decide) (by decide)) (Nat.le_of_ble_eq_true rfl) rfl (fun r hr => ?_) (fun j hj => nomatch hj)
  obtain rfl := Sum.inr.inj hr
  refine e_iconst C 1 (dk dX11_unknown 3 rfl) (by decide) ?_
  refine e_aload_n C 0 (dk dX11_unknown 4 rfl) rfl rfl ?_
  obtain ⟨w2, hw2, h⟩ := ob h
  have gw2 := grd_some K (Or.inl ht) hw2
  refine gf_X11_plan C K ht fl_X11_19 (dk dX11_unknown 5 rfl) ?_
  rw [gw2.1]
  refine gf_X9_people C K gw2.2 fl_X11_128 (dk dX11_unknown 6 rfl) ?_
  refine e_ishl C (dk dX11_unknown 7 rfl) ?_
  refine e_iconst C 1 (dk dX11_unknown 8 rfl) (by decide) ?_
  refine e_isub C (dk dX11_unknown 9 rfl) ?_
  refine e_iconst C 1 (dk dX11_unknown 10 rfl) (by decide) ?_
  refine e_iload_n C 1 (dk dX11_unknown 11 rfl) rfl rfl ?_
  refine e_ishl C (dk dX11_unknown 12 rfl) ?_
  refine e_iconst C (-1) (dk dX11_unknown 13 rfl) (by decide) ?_
  refine e_ixor C (dk dX11_unknown 14 rfl) ?_
  refine e_iand C (dk dX11_unknown 15 rfl) ?_
  refine e_istore_n C [(2, .int ((((1 : Int32) <<< ((M w2 3) &&& 31)) - 1) &&& (((1 : Int32) <<< (p0 &&& 31)) ^^^ (-1)))), (0, .ref (g_N g + t)), (1, .int p0)] (dk dX11_unknown 16 rfl) rfl (by decide) rfl ?_
  refine e_iload_n C 0 (dk dX11_unknown 17 rfl) rfl rfl ?_
  refine e_aload_n C 1 (dk dX11_unknown 18 rfl) rfl rfl ?_
  refine gf_X11_book C K ht fl_X11_30 (dk dX11_unknown 19 rfl) ?_
  refine gf_X0_town C K (kd_X11_book K ht) fl_X11_119 (dk dX11_unknown 20 rfl) ?_
  refine e_iload_n C 2 (dk dX11_unknown 21 rfl) rfl rfl ?_
  obtain ⟨q3, hq3, h⟩ := ob h
  refine e_callV2 (ci := 8) C cal_X8_knowers im_X8_knowers se_X8_knowers ml_X11_296 rfl (rmx_room hR (by decide) cal_X8_knowers.2.2.1) (dk dX11_unknown 22 rfl) (K.1 _ (by rw [(kd_X0_town K (kd_X11_book K ht))]; decide)) (ent_o8 (kd_X0_town K (kd_X11_book K ht))) (c_X8_knowers K (kd_X0_town K (kd_X11_book K ht)) hq3) (rmx_cap hR (by decide) (by decide)) (Nat.le_of_ble_eq_true rfl) rfl ?_
  refine e_iconst C (-1) (dk dX11_unknown 23 rfl) (by decide) ?_
  refine e_ixor C (dk dX11_unknown 24 rfl) ?_
  refine e_iand C (dk dX11_unknown 25 rfl) ?_
  obtain rfl := Option.some.inj h
  exact e_iretX C B (nar1 _) (by decide) (by decide) (dk dX11_unknown 26 rfl)
set_option maxRecDepth 20000 in
theorem j_X11_tell_j29 {X : FX} {g : WC} {Xo : Nat → va_E} {n : Nat} {kd : Nat → Nat} {E0 : Nat → va_E} (C : Cx X g RX11 cX11_tell 4) (K : KD n kd) {t : Nat} (ht : kd t = 12) (hR : x_R X = rmx 1 1 6) {M : Mem} {M0 : Mem} {res : Sum Nat (Int32 × Mem)} (h : J_X11_tell_j29 t M = some res) (B : BX X g (some .int) 1 1 6 n (oIM res) E0 (ent g Xo kd (mX res M0))) : EW X g (x_s X).heap.size n 4 (ent g Xo kd M) 1 6 29 [(0, .ref (g_N g + t))] [] := by
  rw [J_X11_tell_j29] at h
  refine e_aload_n C 0 (dk dX11_tell 14 rfl) rfl rfl ?_
  refine gf_X11_book C K ht fl_X11_30 (dk dX11_tell 15 rfl) ?_
  refine e_iconst C 2 (dk dX11_tell 16 rfl) (by decide) ?_
  refine e_callV2 (ci := 0) C cal_X0_refuse im_X0_refuse se_X0_refuse ml_X11_104 rfl (rmx_room hR (by decide) cal_X0_refuse.2.2.1) (dk dX11_tell 17 rfl) (K.1 _ (by rw [(kd_X11_book K ht)]; decide)) (ent_o0 (kd_X11_book K ht)) (c_X0_refuse K (kd_X11_book K ht) (rfl : F_X0_refuse (t + 24) 2 M = _)) (rmx_cap hR (by decide) (by decide)) (Nat.le_of_ble_eq_true rfl) rfl ?_
  obtain rfl := Option.some.inj h
  exact e_iretX C B (nar1 _) (by decide) (by decide) (dk dX11_tell 18 rfl)
set_option maxRecDepth 20000 in
theorem c_X11_tell {g : WC} {Xo : Nat → va_E} {n : Nat} {kd : Nat → Nat} (K : KD n kd) {t : Nat} {p0 : Int32} {p1 : Int32} {p2 : Int32} (ht : kd t = 12) {M : Mem} {res : Sum Nat (Int32 × Mem)} (h : F_X11_tell t p0 p1 p2 M = some res) : MX g yX11_tell cX11_tell 4 (some .int) 1 1 6 n [.ref (g_N g + t), .int p0, .int p1, .int p2] (ent g Xo kd M) (oIM res) (ent g Xo kd (mX res M)) := by
  refine MX_of pn_X11 (Nat.le_of_ble_eq_true rfl) (fun X C B => ?_)
  have hR := B.1
  rw [F_X11_tell] at h
  refine e_aload_n C 0 (dk dX11_tell 0 rfl) rfl rfl ?_
  refine e_iload_n C 1 (dk dX11_tell 1 rfl) rfl rfl ?_
  obtain ⟨q1, hq1, h⟩ := ob h
  rcases q1 with jq1 | uq1
  · dsimp only [Sum.elim_inl] at h
    obtain rfl := Option.some.inj h
    exact e_xcallV (ci := 11) C cal_X11_needPerson im_X11_needPerson se_X11_needPerson ml_X11_182 rfl (rmx_roomX hR (by decide) cal_X11_needPerson.2.2.1) (dk dX11_tell 2 rfl) (K.1 _ (by rw [ht]; decide)) (ent_o11 ht) (c_X11_needPerson K ht hq1) (rmx_cap hR (by decide) (by decide)) (Nat.le_of_ble_eq_true rfl) rfl (fun r hr => nomatch hr) (fun j hj => by
      obtain rfl := Sum.inl.inj hj
      exact e_prop C B (by decide) (by decide))
  dsimp only [Sum.elim_inr] at h
  refine e_xcallV (ci := 11) C cal_X11_needPerson im_X11_needPerson se_X11_needPerson ml_X11_182 rfl (rmx_roomX hR (by decide) cal_X11_needPerson.2.2.1) (dk dX11_tell 2 rfl) (K.1 _ (by rw [ht]; decide)) (ent_o11 ht) (c_X11_needPerson K ht hq1) (rmx_cap hR (by decide) (by decide)) (Nat.le_of_ble_eq_true rfl) rfl (fun r hr => ?_) (fun j hj => nomatch hj)
  obtain rfl := Sum.inr.inj hr
  refine e_iload_n C 2 (dk dX11_tell 3 rfl) rfl rfl ?_
  refine e_iconst C 1 (dk dX11_tell 4 rfl) (by decide) ?_
  refine e_icmp_lt C 29 (dk dX11_tell 5 rfl) (by decide) (fun c2 => ?_) (fun c2 => ?_)
  · rw [if_pos c2] at h
    refine e_lv [0] rfl ?_
    exact j_X11_tell_j29 C K ht hR h B
  · rw [if_neg c2] at h
    refine e_iload_n C 2 (dk dX11_tell 6 rfl) rfl rfl ?_
    refine e_bipush C 12 (dk dX11_tell 7 rfl) (by decide) ?_
    refine e_icmp_gt C 29 (dk dX11_tell 8 rfl) (by decide) (fun c3 => ?_) (fun c3 => ?_)
    · rw [if_pos c3] at h
      refine e_lv [0] rfl ?_
      exact j_X11_tell_j29 C K ht hR h B
    · rw [if_neg c3] at h
      refine e_aload_n C 0 (dk dX11_tell 9 rfl) rfl rfl ?_
      refine gf_X11_book C K ht fl_X11_30 (dk dX11_tell 10 rfl) ?_
      refine gf_X0_told C K (kd_X11_book K ht) fl_X11_162 (dk dX11_tell 11 rfl) ?_
      refine e_callV2 (ci := 7) C cal_X7_hasRoom im_X7_hasRoom se_X7_hasRoom ml_X11_310 rfl (rmx_room hR (by decide) cal_X7_hasRoom.2.2.1) (dk dX11_tell 12 rfl) (K.1 _ (by rw [(kd_X0_told K (kd_X11_book K ht))]; decide)) (ent_o7 (kd_X0_told K (kd_X11_book K ht))) (c_X7_hasRoom K (kd_X0_told K (kd_X11_book K ht)) (rfl : F_X7_hasRoom ((t + 24) + 7) M = _)) (rmx_cap hR (by decide) (by decide)) (Nat.le_of_ble_eq_true rfl) rfl ?_
      refine e_if_ne C 38 (dk dX11_tell 13 rfl) (by decide) (fun c4 => ?_) (fun c4 => ?_)
      · rw [if_neg c4] at h
        refine e_aload_n C 0 (dk dX11_tell 19 rfl) rfl rfl ?_
        refine gf_X11_book C K ht fl_X11_30 (dk dX11_tell 20 rfl) ?_
        refine gf_X0_told C K (kd_X11_book K ht) fl_X11_162 (dk dX11_tell 21 rfl) ?_
        refine e_iload_n C 1 (dk dX11_tell 22 rfl) rfl rfl ?_
        refine e_iload_n C 2 (dk dX11_tell 23 rfl) rfl rfl ?_
        refine e_iload_n C 3 (dk dX11_tell 24 rfl) rfl rfl ?_
        refine e_callV2 (ci := 7) C cal_X7_add im_X7_add se_X7_add ml_X11_313 rfl (rmx_room hR (by decide) cal_X7_add.2.2.1) (dk dX11_tell 25 rfl) (K.1 _ (by rw [(kd_X0_told K (kd_X11_book K ht))]; decide)) (ent_o7 (kd_X0_told K (kd_X11_book K ht))) (c_X7_add K (kd_X0_told K (kd_X11_book K ht)) (rfl : F_X7_add ((t + 24) + 7) p0 p1 p2 M = _)) (rmx_cap hR (by decide) (by decide)) (Nat.le_of_ble_eq_true rfl) rfl ?_
        refine e_aload_n C 0 (dk dX11_tell 26 rfl) rfl rfl ?_
        refine gf_X11_book C K ht fl_X11_30 (dk dX11_tell 27 rfl) ?_
        refine gf_X0_told C K (kd_X11_book K ht) fl_X11_162 (dk dX11_tell 28 rfl) ?_
        refine gf_X7_count C K (kd_X0_told K (kd_X11_book K ht)) fl_X11_166 (dk dX11_tell 29 rfl) ?_
        obtain rfl := Option.some.inj h
        exact e_iretX C B (nar1 _) (by decide) (by decide) (dk dX11_tell 30 rfl)
      · rw [if_pos c4] at h
        refine e_lv [0] rfl ?_
        exact j_X11_tell_j29 C K ht hR h B
set_option maxRecDepth 20000 in
theorem c_X11_otherwise {g : WC} {Xo : Nat → va_E} {n : Nat} {kd : Nat → Nat} (K : KD n kd) {t : Nat} {p0 : Int32} (ht : kd t = 12) {M : Mem} {res : Sum Nat (Int32 × Mem)} (h : F_X11_otherwise t p0 M = some res) : MX g yX11_otherwise cX11_otherwise 2 (some .int) 6 1 6 n [.ref (g_N g + t), .int p0] (ent g Xo kd M) (oIM res) (ent g Xo kd (mX res M)) := by
  refine MX_of pn_X11 (Nat.le_of_ble_eq_true rfl) (fun X C B => ?_)
  have hR := B.1
  rw [F_X11_otherwise] at h
  refine e_iload_n C 1 (dk dX11_otherwise 0 rfl) rfl rfl ?_
  refine e_iconst C 3 (dk dX11_otherwise 1 rfl) (by decide) ?_
  rcases hq1 : F_X11_needWhat p0 3 M with jq1 | uq1
  · rw [hq1] at h
    dsimp only [Sum.elim_inl] at h
    obtain rfl := Option.some.inj h
    exact e_xcallS C cal_X11_needWhat sm_X11_needWhat ml_X11_115 (rmx_roomX hR (by decide) cal_X11_needWhat.2.2.1) (dk dX11_otherwise 2 rfl) (c_X11_needWhat K hq1) (rmx_cap hR (by decide) (by decide)) (Nat.le_of_ble_eq_true rfl) rfl (fun r hr => nomatch hr) (fun j hj => by
      obtain rfl := Sum.inl.inj hj
      exact e_prop C B (by decide) (by decide))
  rw [hq1] at h
  dsimp only [Sum.elim_inr] at h
  refine e_xcallS C cal_X11_needWhat sm_X11_needWhat ml_X11_115 (rmx_roomX hR (by decide) cal_X11_needWhat.2.2.1) (dk dX11_otherwise 2 rfl) (c_X11_needWhat K hq1) (rmx_cap hR (by decide) (by decide)) (Nat.le_of_ble_eq_true rfl) rfl (fun r hr => ?_) (fun j hj => nomatch hj)
  obtain rfl := Sum.inr.inj hr
  refine e_aload_n C 0 (dk dX11_otherwise 3 rfl) rfl rfl ?_
  refine gf_X11_guess C K ht fl_X11_65 (dk dX11_otherwise 4 rfl) ?_
  refine e_aload_n C 0 (dk dX11_otherwise 5 rfl) rfl rfl ?_
  obtain ⟨w2, hw2, h⟩ := ob h
  have gw2 := grd_some K (Or.inl ht) hw2
  refine gf_X11_plan C K ht fl_X11_19 (dk dX11_otherwise 6 rfl) ?_
  rw [gw2.1]
  refine e_aload_n C 0 (dk dX11_otherwise 7 rfl) rfl rfl ?_
  refine gf_X11_book C K ht fl_X11_30 (dk dX11_otherwise 8 rfl) ?_
  refine gf_X0_town C K (kd_X11_book K ht) fl_X11_119 (dk dX11_otherwise 9 rfl) ?_
  refine e_aload_n C 0 (dk dX11_otherwise 10 rfl) rfl rfl ?_
  refine gf_X11_book C K ht fl_X11_30 (dk dX11_otherwise 11 rfl) ?_
  refine gf_X0_told C K (kd_X11_book K ht) fl_X11_162 (dk dX11_otherwise 12 rfl) ?_
  obtain ⟨q3, hq3, h⟩ := ob h
  refine e_callV2 (ci := 4) C cal_X4_scan im_X4_scan se_X4_scan ml_X11_317 rfl (rmx_room hR (by decide) cal_X4_scan.2.2.1) (dk dX11_otherwise 13 rfl) (K.1 _ (by rw [(kd_X11_guess K ht)]; decide)) (ent_o4 (kd_X11_guess K ht)) (c_X4_scan K (kd_X11_guess K ht) gw2.2 (kd_X0_town K (kd_X11_book K ht)) (kd_X0_told K (kd_X11_book K ht)) hq3) (rmx_cap hR (by decide) (by decide)) (Nat.le_of_ble_eq_true rfl) rfl ?_
  refine e_iload_n C 1 (dk dX11_otherwise 14 rfl) rfl rfl ?_
  refine e_iconst C 2 (dk dX11_otherwise 15 rfl) (by decide) ?_
  refine e_icmp_ne C 51 (dk dX11_otherwise 16 rfl) (by decide) (fun c4 => ?_) (fun c4 => ?_)
  · rw [if_neg c4] at h
    refine e_iload_n C 1 (dk dX11_otherwise 25 rfl) rfl rfl ?_
    suffices hm6 : EW X g (x_s X).heap.size n 2 (ent g Xo kd q3) 1 6 72 [(0, .ref (g_N g + t)), (1, .int p0)] [.int (if p0 = 0 then (q3 (t + 61) 2) else (q3 (t + 61) 3))] from (by
      refine e_if_ne C 65 (dk dX11_otherwise 26 rfl) (by decide) (fun c5 => ?_) (fun c5 => ?_)
      · rw [show (if p0 = 0 then (q3 (t + 61) 2) else (q3 (t + 61) 3)) = (q3 (t + 61) 3) from if_neg c5] at hm6
        refine e_aload_n C 0 (dk dX11_otherwise 31 rfl) rfl rfl ?_
        refine gf_X11_guess C K ht fl_X11_65 (dk dX11_otherwise 32 rfl) ?_
        refine gf_X4_first C K (kd_X11_guess K ht) fl_X11_325 (dk dX11_otherwise 33 rfl) ?_
        exact hm6
      · rw [show (if p0 = 0 then (q3 (t + 61) 2) else (q3 (t + 61) 3)) = (q3 (t + 61) 2) from if_pos c5] at hm6
        refine e_aload_n C 0 (dk dX11_otherwise 27 rfl) rfl rfl ?_
        refine gf_X11_guess C K ht fl_X11_65 (dk dX11_otherwise 28 rfl) ?_
        refine gf_X4_count C K (kd_X11_guess K ht) fl_X11_324 (dk dX11_otherwise 29 rfl) ?_
        refine e_goto C 72 (dk dX11_otherwise 30 rfl) (by decide) ?_
        exact hm6)
    obtain rfl := Option.some.inj h
    exact e_iretX C B (nar1 _) (by decide) (by decide) (dk dX11_otherwise 34 rfl)
  · rw [if_pos c4] at h
    refine e_aload_n C 0 (dk dX11_otherwise 17 rfl) rfl rfl ?_
    refine gf_X11_guess C K ht fl_X11_65 (dk dX11_otherwise 18 rfl) ?_
    refine gf_X4_without C K (kd_X11_guess K ht) fl_X11_321 (dk dX11_otherwise 19 rfl) ?_
    suffices hm8 : EW X g (x_s X).heap.size n 2 (ent g Xo kd q3) 1 6 50 [(0, .ref (g_N g + t)), (1, .int p0)] [.int (if (q3 (t + 61) 4) = 0 then (0 : Int32) else (1 : Int32))] from (by
      refine e_if_eq C 49 (dk dX11_otherwise 20 rfl) (by decide) (fun c7 => ?_) (fun c7 => ?_)
      · rw [show (if (q3 (t + 61) 4) = 0 then (0 : Int32) else (1 : Int32)) = (0 : Int32) from if_pos c7] at hm8
        refine e_iconst C 0 (dk dX11_otherwise 23 rfl) (by decide) ?_
        exact hm8
      · rw [show (if (q3 (t + 61) 4) = 0 then (0 : Int32) else (1 : Int32)) = (1 : Int32) from if_neg c7] at hm8
        refine e_iconst C 1 (dk dX11_otherwise 21 rfl) (by decide) ?_
        refine e_goto C 50 (dk dX11_otherwise 22 rfl) (by decide) ?_
        exact hm8)
    obtain rfl := Option.some.inj h
    exact e_iretX C B (nar1 _) (by decide) (by decide) (dk dX11_otherwise 24 rfl)
set_option maxRecDepth 20000 in
theorem c_X11_look {g : WC} {Xo : Nat → va_E} {n : Nat} {kd : Nat → Nat} (K : KD n kd) {t : Nat} {p0 : Int32} (ht : kd t = 12) {M : Mem} {res : Sum Nat (Int32 × Mem)} (h : F_X11_look t p0 M = some res) : MX g yX11_look cX11_look 2 (some .int) 6 1 6 n [.ref (g_N g + t), .int p0] (ent g Xo kd M) (oIM res) (ent g Xo kd (mX res M)) := by
  refine MX_of pn_X11 (Nat.le_of_ble_eq_true rfl) (fun X C B => ?_)
  have hR := B.1
  rw [F_X11_look] at h
  refine e_iload_n C 1 (dk dX11_look 0 rfl) rfl rfl ?_
  refine e_iconst C 2 (dk dX11_look 1 rfl) (by decide) ?_
  rcases hq1 : F_X11_needWhat p0 2 M with jq1 | uq1
  · rw [hq1] at h
    dsimp only [Sum.elim_inl] at h
    obtain rfl := Option.some.inj h
    exact e_xcallS C cal_X11_needWhat sm_X11_needWhat ml_X11_115 (rmx_roomX hR (by decide) cal_X11_needWhat.2.2.1) (dk dX11_look 2 rfl) (c_X11_needWhat K hq1) (rmx_cap hR (by decide) (by decide)) (Nat.le_of_ble_eq_true rfl) rfl (fun r hr => nomatch hr) (fun j hj => by
      obtain rfl := Sum.inl.inj hj
      exact e_prop C B (by decide) (by decide))
  rw [hq1] at h
  dsimp only [Sum.elim_inr] at h
  refine e_xcallS C cal_X11_needWhat sm_X11_needWhat ml_X11_115 (rmx_roomX hR (by decide) cal_X11_needWhat.2.2.1) (dk dX11_look 2 rfl) (c_X11_needWhat K hq1) (rmx_cap hR (by decide) (by decide)) (Nat.le_of_ble_eq_true rfl) rfl (fun r hr => ?_) (fun j hj => nomatch hj)
  obtain rfl := Sum.inr.inj hr
  refine e_aload_n C 0 (dk dX11_look 3 rfl) rfl rfl ?_
  refine gf_X11_guess C K ht fl_X11_65 (dk dX11_look 4 rfl) ?_
  refine e_aload_n C 0 (dk dX11_look 5 rfl) rfl rfl ?_
  obtain ⟨w2, hw2, h⟩ := ob h
  have gw2 := grd_some K (Or.inl ht) hw2
  refine gf_X11_plan C K ht fl_X11_19 (dk dX11_look 6 rfl) ?_
  rw [gw2.1]
  refine e_aload_n C 0 (dk dX11_look 7 rfl) rfl rfl ?_
  refine gf_X11_book C K ht fl_X11_30 (dk dX11_look 8 rfl) ?_
  refine gf_X0_town C K (kd_X11_book K ht) fl_X11_119 (dk dX11_look 9 rfl) ?_
  refine e_aload_n C 0 (dk dX11_look 10 rfl) rfl rfl ?_
  refine gf_X11_book C K ht fl_X11_30 (dk dX11_look 11 rfl) ?_
  refine gf_X0_told C K (kd_X11_book K ht) fl_X11_162 (dk dX11_look 12 rfl) ?_
  obtain ⟨q3, hq3, h⟩ := ob h
  refine e_callV2 (ci := 4) C cal_X4_scan im_X4_scan se_X4_scan ml_X11_317 rfl (rmx_room hR (by decide) cal_X4_scan.2.2.1) (dk dX11_look 13 rfl) (K.1 _ (by rw [(kd_X11_guess K ht)]; decide)) (ent_o4 (kd_X11_guess K ht)) (c_X4_scan K (kd_X11_guess K ht) gw2.2 (kd_X0_town K (kd_X11_book K ht)) (kd_X0_told K (kd_X11_book K ht)) hq3) (rmx_cap hR (by decide) (by decide)) (Nat.le_of_ble_eq_true rfl) rfl ?_
  refine e_iload_n C 1 (dk dX11_look 14 rfl) rfl rfl ?_
  refine e_if_ne C 44 (dk dX11_look 15 rfl) (by decide) (fun c4 => ?_) (fun c4 => ?_)
  · rw [if_neg c4] at h
    refine e_aload_n C 0 (dk dX11_look 20 rfl) rfl rfl ?_
    refine gf_X11_guess C K ht fl_X11_65 (dk dX11_look 21 rfl) ?_
    obtain ⟨q5, hq5, h⟩ := ob h
    refine e_callV2 (ci := 4) C cal_X4_mostUnlike im_X4_mostUnlike se_X4_mostUnlike ml_X11_331 rfl (rmx_room hR (by decide) cal_X4_mostUnlike.2.2.1) (dk dX11_look 22 rfl) (K.1 _ (by rw [(kd_X11_guess K ht)]; decide)) (ent_o4 (kd_X11_guess K ht)) (c_X4_mostUnlike K (kd_X11_guess K ht) hq5) (rmx_cap hR (by decide) (by decide)) (Nat.le_of_ble_eq_true rfl) rfl ?_
    obtain rfl := Option.some.inj h
    exact e_iretX C B (nar1 _) (by decide) (by decide) (dk dX11_look 23 rfl)
  · rw [if_pos c4] at h
    refine e_aload_n C 0 (dk dX11_look 16 rfl) rfl rfl ?_
    refine gf_X11_guess C K ht fl_X11_65 (dk dX11_look 17 rfl) ?_
    obtain ⟨q6, hq6, h⟩ := ob h
    refine e_callV2 (ci := 4) C cal_X4_nightToLook im_X4_nightToLook se_X4_nightToLook ml_X11_328 rfl (rmx_room hR (by decide) cal_X4_nightToLook.2.2.1) (dk dX11_look 18 rfl) (K.1 _ (by rw [(kd_X11_guess K ht)]; decide)) (ent_o4 (kd_X11_guess K ht)) (c_X4_nightToLook K (kd_X11_guess K ht) hq6) (rmx_cap hR (by decide) (by decide)) (Nat.le_of_ble_eq_true rfl) rfl ?_
    refine e_goto C 51 (dk dX11_look 19 rfl) (by decide) ?_
    obtain rfl := Option.some.inj h
    exact e_iretX C B (nar1 _) (by decide) (by decide) (dk dX11_look 23 rfl)
set_option maxRecDepth 20000 in
theorem l_X11_game_102 {X : FX} {g : WC} {Xo : Nat → va_E} {n : Nat} {kd : Nat → Nat} (C : Cx X g RX11 cX11_game 10) (K : KD n kd) {t : Nat} (ht : kd t = 12) {x3 : Int32} {x4 : Int32} {x5 : Int32} {x8 : Int32} {M : Mem} (hR : x_R X = rmx 6 4 24) {OK : Int32 × Int32 → Prop} (hx : ∀ s, OK s → EW X g (x_s X).heap.size n 10 (ent g Xo kd M) 3 18 153 [(0, .ref (g_N g + t)), (3, .int x3), (4, .int x4), (5, .int x5), (6, .int s.1), (7, .int s.2), (8, .int x8)] []) : ∀ (N9 : Nat) (x6 : Int32) (x7 : Int32) (x9 : Int32) (q : Int32 × Int32), L_X11_game_102 t x3 x4 x5 x8 M N9 x6 x7 x9 = some q → OK q → EW X g (x_s X).heap.size n 10 (ent g Xo kd M) 3 18 102 [(0, .ref (g_N g + t)), (3, .int x3), (4, .int x4), (5, .int x5), (6, .int x6), (7, .int x7), (8, .int x8), (9, .int x9)] [] := by
  intro N9
  induction N9 with
  | zero =>
    intro x6 x7 x9 q h
    rw [L_X11_game_102.eq_1] at h
    cases h
  | succ m9 ih =>
    intro x6 x7 x9 q h hOK
    rw [L_X11_game_102.eq_2] at h
    refine e_iload C 7 (dk dX11_game_0 54 rfl) rfl ?_
    refine e_iload C 3 (dk dX11_game_0 55 rfl) rfl ?_
    refine e_icmp_ge C 153 (dk dX11_game_0 56 rfl) (by decide) (fun c11 => ?_) (fun c11 => ?_)
    · rw [if_pos c11] at h
      obtain rfl := Option.some.inj h
      refine e_lv [0, 1, 2, 3, 4, 5, 6] rfl ?_
      exact hx _ hOK
    · rw [if_neg c11] at h
      refine e_aload_n C 0 (dk dX11_game_0 57 rfl) rfl rfl ?_
      refine e_iload C 6 (dk dX11_game_0 58 rfl) rfl ?_
      refine e_iload C 7 (dk dX11_game_0 59 rfl) rfl ?_
      refine e_iload C 2 (dk dX11_game_1 0 rfl) rfl ?_
      refine e_iload C 3 (dk dX11_game_1 1 rfl) rfl ?_
      refine e_callV2 (ci := 11) C cal_X11_rests im_X11_rests se_X11_rests ml_X11_340 rfl (rmx_room hR (by decide) cal_X11_rests.2.2.1) (dk dX11_game_1 2 rfl) (K.1 _ (by rw [ht]; decide)) (ent_o11 ht) (c_X11_rests K ht (rfl : F_X11_rests t x8 x9 x4 x5 M = _)) (rmx_cap hR (by decide) (by decide)) (Nat.le_of_ble_eq_true rfl) rfl ?_
      refine e_if_eq C 147 (dk dX11_game_1 3 rfl) (by decide) (fun c12 => ?_) (fun c12 => ?_)
      · rw [if_pos c12] at h
        refine e_iinc C [(9, .int (x9 + 1)), (0, .ref (g_N g + t)), (3, .int x3), (4, .int x4), (5, .int x5), (6, .int x6), (7, .int x7), (8, .int x8)] 7 1 (dk dX11_game_1 15 rfl) rfl (by decide) (by decide) rfl ?_
        refine e_goto C 102 (dk dX11_game_1 16 rfl) (by decide) ?_
        refine e_lv [1, 2, 3, 4, 5, 6, 7, 0] rfl ?_
        exact ih _ _ _ _ h hOK
      · rw [if_neg c12] at h
        refine e_iload C 4 (dk dX11_game_1 4 rfl) rfl ?_
        suffices hm14 : EW X g (x_s X).heap.size n 10 (ent g Xo kd M) 3 18 142 [(0, .ref (g_N g + t)), (3, .int x3), (4, .int x4), (5, .int x5), (6, .int x6), (7, .int x7), (8, .int x8), (9, .int x9)] [.int (if x6 = 0 then ((10 * x8) + x9) else x7)] from (by
          refine e_if_ne C 140 (dk dX11_game_1 5 rfl) (by decide) (fun c13 => ?_) (fun c13 => ?_)
          · rw [show (if x6 = 0 then ((10 * x8) + x9) else x7) = x7 from if_neg c13] at hm14
            refine e_iload C 5 (dk dX11_game_1 12 rfl) rfl ?_
            exact hm14
          · rw [show (if x6 = 0 then ((10 * x8) + x9) else x7) = ((10 * x8) + x9) from if_pos c13] at hm14
            refine e_bipush C 10 (dk dX11_game_1 6 rfl) (by decide) ?_
            refine e_iload C 6 (dk dX11_game_1 7 rfl) rfl ?_
            refine e_imul C (dk dX11_game_1 8 rfl) ?_
            refine e_iload C 7 (dk dX11_game_1 9 rfl) rfl ?_
            refine e_iadd C (dk dX11_game_1 10 rfl) ?_
            refine e_goto C 142 (dk dX11_game_1 11 rfl) (by decide) ?_
            exact hm14)
        refine e_istore C [(7, .int (if x6 = 0 then ((10 * x8) + x9) else x7)), (0, .ref (g_N g + t)), (3, .int x3), (4, .int x4), (5, .int x5), (6, .int x6), (8, .int x8), (9, .int x9)] (dk dX11_game_1 13 rfl) (by decide) rfl ?_
        refine e_iinc C [(6, .int (x6 + 1)), (7, .int (if x6 = 0 then ((10 * x8) + x9) else x7)), (0, .ref (g_N g + t)), (3, .int x3), (4, .int x4), (5, .int x5), (8, .int x8), (9, .int x9)] 5 1 (dk dX11_game_1 14 rfl) rfl (by decide) (by decide) rfl ?_
        refine e_iinc C [(9, .int (x9 + 1)), (6, .int (x6 + 1)), (7, .int (if x6 = 0 then ((10 * x8) + x9) else x7)), (0, .ref (g_N g + t)), (3, .int x3), (4, .int x4), (5, .int x5), (8, .int x8)] 7 1 (dk dX11_game_1 15 rfl) rfl (by decide) (by decide) rfl ?_
        refine e_goto C 102 (dk dX11_game_1 16 rfl) (by decide) ?_
        refine e_lv [3, 4, 5, 6, 1, 2, 7, 0] rfl ?_
        exact ih _ _ _ _ h hOK
set_option maxRecDepth 20000 in
theorem lb_X11_game_102 {X : FX} {g : WC} {Xo : Nat → va_E} {n : Nat} {kd : Nat → Nat} (C : Cx X g RX11 cX11_game 10) (K : KD n kd) {t : Nat} (ht : kd t = 12) {x3 : Int32} {x4 : Int32} {x5 : Int32} {x8 : Int32} {M : Mem} (hR : x_R X = rmx 6 4 24) {T9 : Type} {f9 : Int32 × Int32 → Option T9} {b9 : T9} (hx : ∀ s, f9 s = some b9 → EW X g (x_s X).heap.size n 10 (ent g Xo kd M) 3 18 153 [(0, .ref (g_N g + t)), (3, .int x3), (4, .int x4), (5, .int x5), (6, .int s.1), (7, .int s.2), (8, .int x8)] []) {x6 : Int32} {x7 : Int32} {x9 : Int32} (h : (L_X11_game_102 t x3 x4 x5 x8 M FU x6 x7 x9).bind f9 = some b9) : EW X g (x_s X).heap.size n 10 (ent g Xo kd M) 3 18 102 [(0, .ref (g_N g + t)), (3, .int x3), (4, .int x4), (5, .int x5), (6, .int x6), (7, .int x7), (8, .int x8), (9, .int x9)] [] := by
  obtain ⟨q, hq, h⟩ := ob h
  exact l_X11_game_102 C K ht hR (OK := fun q => f9 q = some b9) hx FU x6 x7 x9 q hq h
set_option maxRecDepth 20000 in
theorem l_X11_game_92 {X : FX} {g : WC} {Xo : Nat → va_E} {n : Nat} {kd : Nat → Nat} (C : Cx X g RX11 cX11_game 10) (K : KD n kd) {t : Nat} (ht : kd t = 12) {x3 : Int32} {x4 : Int32} {x5 : Int32} {M : Mem} (hR : x_R X = rmx 6 4 24) {OK : Int32 × Int32 → Prop} (hx : ∀ s, OK s → EW X g (x_s X).heap.size n 10 (ent g Xo kd M) 3 18 159 [(3, .int x3), (6, .int s.1), (7, .int s.2)] []) : ∀ (N9 : Nat) (x6 : Int32) (x7 : Int32) (x8 : Int32) (q : Int32 × Int32), L_X11_game_92 t x3 x4 x5 M N9 x6 x7 x8 = some q → OK q → EW X g (x_s X).heap.size n 10 (ent g Xo kd M) 3 18 92 [(0, .ref (g_N g + t)), (3, .int x3), (4, .int x4), (5, .int x5), (6, .int x6), (7, .int x7), (8, .int x8)] [] := by
  intro N9
  induction N9 with
  | zero =>
    intro x6 x7 x8 q h
    rw [L_X11_game_92.eq_1] at h
    cases h
  | succ m9 ih =>
    intro x6 x7 x8 q h hOK
    rw [L_X11_game_92.eq_2] at h
    refine e_iload C 6 (dk dX11_game_0 49 rfl) rfl ?_
    refine e_iload C 2 (dk dX11_game_0 50 rfl) rfl ?_
    refine e_icmp_ge C 159 (dk dX11_game_0 51 rfl) (by decide) (fun c10 => ?_) (fun c10 => ?_)
    · rw [if_pos c10] at h
      obtain rfl := Option.some.inj h
      refine e_lv [1, 4, 5] rfl ?_
      exact hx _ hOK
    · rw [if_neg c10] at h
      refine e_iconst C 0 (dk dX11_game_0 52 rfl) (by decide) ?_
      refine e_istore C [(9, .int 0), (0, .ref (g_N g + t)), (3, .int x3), (4, .int x4), (5, .int x5), (6, .int x6), (7, .int x7), (8, .int x8)] (dk dX11_game_0 53 rfl) (by decide) rfl ?_
      refine e_lv [1, 2, 3, 4, 5, 6, 7, 0] rfl ?_
      refine lb_X11_game_102 C K ht hR (fun s16 h => ?_) h
      refine e_iinc C [(8, .int (x8 + 1)), (0, .ref (g_N g + t)), (3, .int x3), (4, .int x4), (5, .int x5), (6, .int s16.1), (7, .int s16.2)] 6 1 (dk dX11_game_1 17 rfl) rfl (by decide) (by decide) rfl ?_
      refine e_goto C 92 (dk dX11_game_1 18 rfl) (by decide) ?_
      refine e_lv [1, 2, 3, 4, 5, 6, 0] rfl ?_
      exact ih _ _ _ _ h hOK
set_option maxRecDepth 20000 in
theorem lb_X11_game_92 {X : FX} {g : WC} {Xo : Nat → va_E} {n : Nat} {kd : Nat → Nat} (C : Cx X g RX11 cX11_game 10) (K : KD n kd) {t : Nat} (ht : kd t = 12) {x3 : Int32} {x4 : Int32} {x5 : Int32} {M : Mem} (hR : x_R X = rmx 6 4 24) {T9 : Type} {f9 : Int32 × Int32 → Option T9} {b9 : T9} (hx : ∀ s, f9 s = some b9 → EW X g (x_s X).heap.size n 10 (ent g Xo kd M) 3 18 159 [(3, .int x3), (6, .int s.1), (7, .int s.2)] []) {x6 : Int32} {x7 : Int32} {x8 : Int32} (h : (L_X11_game_92 t x3 x4 x5 M FU x6 x7 x8).bind f9 = some b9) : EW X g (x_s X).heap.size n 10 (ent g Xo kd M) 3 18 92 [(0, .ref (g_N g + t)), (3, .int x3), (4, .int x4), (5, .int x5), (6, .int x6), (7, .int x7), (8, .int x8)] [] := by
  obtain ⟨q, hq, h⟩ := ob h
  exact l_X11_game_92 C K ht hR (OK := fun q => f9 q = some b9) hx FU x6 x7 x8 q hq h
set_option maxRecDepth 20000 in
theorem c_X11_game {g : WC} {Xo : Nat → va_E} {n : Nat} {kd : Nat → Nat} (K : KD n kd) {t : Nat} {p0 : Int32} {p1 : Int32} {p2 : Int32} (ht : kd t = 12) {M : Mem} {res : Sum Nat (Int32 × Mem)} (h : F_X11_game t p0 p1 p2 M = some res) : MX g yX11_game cX11_game 10 (some .int) 6 4 24 n [.ref (g_N g + t), .int p0, .int p1, .int p2] (ent g Xo kd M) (oIM res) (ent g Xo kd (mX res M)) := by
  refine MX_of pn_X11 (Nat.le_of_ble_eq_true rfl) (fun X C B => ?_)
  have hR := B.1
  rw [F_X11_game] at h
  refine e_aload_n C 0 (dk dX11_game_0 0 rfl) rfl rfl ?_
  refine e_iload_n C 1 (dk dX11_game_0 1 rfl) rfl rfl ?_
  obtain ⟨q1, hq1, h⟩ := ob h
  rcases q1 with jq1 | uq1
  · dsimp only [Sum.elim_inl] at h
    obtain rfl := Option.some.inj h
    exact e_xcallV (ci := 11) C cal_X11_needPerson im_X11_needPerson se_X11_needPerson ml_X11_182 rfl (rmx_roomX hR (by decide) cal_X11_needPerson.2.2.1) (dk dX11_game_0 2 rfl) (K.1 _ (by rw [ht]; decide)) (ent_o11 ht) (c_X11_needPerson K ht hq1) (rmx_cap hR (by decide) (by decide)) (Nat.le_of_ble_eq_true rfl) rfl (fun r hr => nomatch hr) (fun j hj => by
      obtain rfl := Sum.inl.inj hj
      exact e_prop C B (by decide) (by decide))
  dsimp only [Sum.elim_inr] at h
  refine e_xcallV (ci := 11) C cal_X11_needPerson im_X11_needPerson se_X11_needPerson ml_X11_182 rfl (rmx_roomX hR (by decide) cal_X11_needPerson.2.2.1) (dk dX11_game_0 2 rfl) (K.1 _ (by rw [ht]; decide)) (ent_o11 ht) (c_X11_needPerson K ht hq1) (rmx_cap hR (by decide) (by decide)) (Nat.le_of_ble_eq_true rfl) rfl (fun r hr => ?_) (fun j hj => nomatch hj)
  obtain rfl := Sum.inr.inj hr
  refine e_aload_n C 0 (dk dX11_game_0 3 rfl) rfl rfl ?_
  refine e_iload_n C 2 (dk dX11_game_0 4 rfl) rfl rfl ?_
  obtain ⟨q2, hq2, h⟩ := ob h
  rcases q2 with jq2 | uq2
  · dsimp only [Sum.elim_inl] at h
    obtain rfl := Option.some.inj h
    exact e_xcallV (ci := 11) C cal_X11_needPerson im_X11_needPerson se_X11_needPerson ml_X11_182 rfl (rmx_roomX hR (by decide) cal_X11_needPerson.2.2.1) (dk dX11_game_0 5 rfl) (K.1 _ (by rw [ht]; decide)) (ent_o11 ht) (c_X11_needPerson K ht hq2) (rmx_cap hR (by decide) (by decide)) (Nat.le_of_ble_eq_true rfl) rfl (fun r hr => nomatch hr) (fun j hj => by
      obtain rfl := Sum.inl.inj hj
      exact e_prop C B (by decide) (by decide))
  dsimp only [Sum.elim_inr] at h
  refine e_xcallV (ci := 11) C cal_X11_needPerson im_X11_needPerson se_X11_needPerson ml_X11_182 rfl (rmx_roomX hR (by decide) cal_X11_needPerson.2.2.1) (dk dX11_game_0 5 rfl) (K.1 _ (by rw [ht]; decide)) (ent_o11 ht) (c_X11_needPerson K ht hq2) (rmx_cap hR (by decide) (by decide)) (Nat.le_of_ble_eq_true rfl) rfl (fun r hr => ?_) (fun j hj => nomatch hj)
  obtain rfl := Sum.inr.inj hr
  refine e_iload_n C 3 (dk dX11_game_0 6 rfl) rfl rfl ?_
  refine e_iconst C 2 (dk dX11_game_0 7 rfl) (by decide) ?_
  rcases hq3 : F_X11_needWhat p2 2 M with jq3 | uq3
  · rw [hq3] at h
    dsimp only [Sum.elim_inl] at h
    obtain rfl := Option.some.inj h
    exact e_xcallS C cal_X11_needWhat sm_X11_needWhat ml_X11_115 (rmx_roomX hR (by decide) cal_X11_needWhat.2.2.1) (dk dX11_game_0 8 rfl) (c_X11_needWhat K hq3) (rmx_cap hR (by decide) (by decide)) (Nat.le_of_ble_eq_true rfl) rfl (fun r hr => nomatch hr) (fun j hj => by
      obtain rfl := Sum.inl.inj hj
      exact e_prop C B (by decide) (by decide))
  rw [hq3] at h
  dsimp only [Sum.elim_inr] at h
  refine e_xcallS C cal_X11_needWhat sm_X11_needWhat ml_X11_115 (rmx_roomX hR (by decide) cal_X11_needWhat.2.2.1) (dk dX11_game_0 8 rfl) (c_X11_needWhat K hq3) (rmx_cap hR (by decide) (by decide)) (Nat.le_of_ble_eq_true rfl) rfl (fun r hr => ?_) (fun j hj => nomatch hj)
  obtain rfl := Sum.inr.inj hr
  refine e_iload_n C 1 (dk dX11_game_0 9 rfl) rfl rfl ?_
  refine e_iload_n C 2 (dk dX11_game_0 10 rfl) rfl rfl ?_
  refine e_icmp_ne C 31 (dk dX11_game_0 11 rfl) (by decide) (fun c4 => ?_) (fun c4 => ?_)
  · rw [if_neg c4] at h
    refine e_aload_n C 0 (dk dX11_game_0 17 rfl) rfl rfl ?_
    refine gf_X11_book C K ht fl_X11_30 (dk dX11_game_0 18 rfl) ?_
    refine gf_X0_town C K (kd_X11_book K ht) fl_X11_119 (dk dX11_game_0 19 rfl) ?_
    refine e_iload_n C 1 (dk dX11_game_0 20 rfl) rfl rfl ?_
    refine e_callV2 (ci := 8) C cal_X8_canBribe im_X8_canBribe se_X8_canBribe ml_X11_218 rfl (rmx_room hR (by decide) cal_X8_canBribe.2.2.1) (dk dX11_game_0 21 rfl) (K.1 _ (by rw [(kd_X0_town K (kd_X11_book K ht))]; decide)) (ent_o8 (kd_X0_town K (kd_X11_book K ht))) (c_X8_canBribe K (kd_X0_town K (kd_X11_book K ht)) (rfl : F_X8_canBribe ((t + 24) + 1) p0 M = _)) (rmx_cap hR (by decide) (by decide)) (Nat.le_of_ble_eq_true rfl) rfl ?_
    suffices hm6 : EW X g (x_s X).heap.size n 10 (ent g Xo kd M) 3 18 50 [(0, .ref (g_N g + t)), (1, .int p0), (2, .int p1), (3, .int p2)] [.int (if (bi (F_X8_canBribe ((t + 24) + 1) p0 M)) = 0 then (1 : Int32) else (2 : Int32))] from (by
      refine e_if_eq C 49 (dk dX11_game_0 22 rfl) (by decide) (fun c5 => ?_) (fun c5 => ?_)
      · rw [show (if (bi (F_X8_canBribe ((t + 24) + 1) p0 M)) = 0 then (1 : Int32) else (2 : Int32)) = (1 : Int32) from if_pos c5] at hm6
        refine e_iconst C 1 (dk dX11_game_0 25 rfl) (by decide) ?_
        exact hm6
      · rw [show (if (bi (F_X8_canBribe ((t + 24) + 1) p0 M)) = 0 then (1 : Int32) else (2 : Int32)) = (2 : Int32) from if_neg c5] at hm6
        refine e_iconst C 2 (dk dX11_game_0 23 rfl) (by decide) ?_
        refine e_goto C 50 (dk dX11_game_0 24 rfl) (by decide) ?_
        exact hm6)
    refine e_istore C [(4, .int (if (bi (F_X8_canBribe ((t + 24) + 1) p0 M)) = 0 then (1 : Int32) else (2 : Int32))), (0, .ref (g_N g + t)), (1, .int p0), (2, .int p1), (3, .int p2)] (dk dX11_game_0 26 rfl) (by decide) rfl ?_
    refine e_aload_n C 1 (dk dX11_game_0 27 rfl) rfl rfl ?_
    refine gf_X11_book C K ht fl_X11_30 (dk dX11_game_0 28 rfl) ?_
    refine gf_X0_town C K (kd_X11_book K ht) fl_X11_119 (dk dX11_game_0 29 rfl) ?_
    refine e_iload_n C 3 (dk dX11_game_0 30 rfl) rfl rfl ?_
    refine e_callV2 (ci := 8) C cal_X8_canBribe im_X8_canBribe se_X8_canBribe ml_X11_218 rfl (rmx_room hR (by decide) cal_X8_canBribe.2.2.1) (dk dX11_game_0 31 rfl) (K.1 _ (by rw [(kd_X0_town K (kd_X11_book K ht))]; decide)) (ent_o8 (kd_X0_town K (kd_X11_book K ht))) (c_X8_canBribe K (kd_X0_town K (kd_X11_book K ht)) (rfl : F_X8_canBribe ((t + 24) + 1) p1 M = _)) (rmx_cap hR (by decide) (by decide)) (Nat.le_of_ble_eq_true rfl) rfl ?_
    suffices hm8 : EW X g (x_s X).heap.size n 10 (ent g Xo kd M) 3 18 71 [(4, .int (if (bi (F_X8_canBribe ((t + 24) + 1) p0 M)) = 0 then (1 : Int32) else (2 : Int32))), (0, .ref (g_N g + t)), (1, .int p0), (2, .int p1), (3, .int p2)] [.int (if (bi (F_X8_canBribe ((t + 24) + 1) p1 M)) = 0 then (1 : Int32) else (2 : Int32))] from (by
      refine e_if_eq C 70 (dk dX11_game_0 32 rfl) (by decide) (fun c7 => ?_) (fun c7 => ?_)
      · rw [show (if (bi (F_X8_canBribe ((t + 24) + 1) p1 M)) = 0 then (1 : Int32) else (2 : Int32)) = (1 : Int32) from if_pos c7] at hm8
        refine e_iconst C 1 (dk dX11_game_0 35 rfl) (by decide) ?_
        exact hm8
      · rw [show (if (bi (F_X8_canBribe ((t + 24) + 1) p1 M)) = 0 then (1 : Int32) else (2 : Int32)) = (2 : Int32) from if_neg c7] at hm8
        refine e_iconst C 2 (dk dX11_game_0 33 rfl) (by decide) ?_
        refine e_goto C 71 (dk dX11_game_0 34 rfl) (by decide) ?_
        exact hm8)
    refine e_istore C [(5, .int (if (bi (F_X8_canBribe ((t + 24) + 1) p1 M)) = 0 then (1 : Int32) else (2 : Int32))), (4, .int (if (bi (F_X8_canBribe ((t + 24) + 1) p0 M)) = 0 then (1 : Int32) else (2 : Int32))), (0, .ref (g_N g + t)), (1, .int p0), (2, .int p1), (3, .int p2)] (dk dX11_game_0 36 rfl) (by decide) rfl ?_
    refine e_aload_n C 2 (dk dX11_game_0 37 rfl) rfl rfl ?_
    refine e_iload_n C 3 (dk dX11_game_0 38 rfl) rfl rfl ?_
    refine e_iload_n C 4 (dk dX11_game_0 39 rfl) rfl rfl ?_
    refine e_iload C 1 (dk dX11_game_0 40 rfl) rfl ?_
    refine e_iload C 0 (dk dX11_game_0 41 rfl) rfl ?_
    obtain ⟨q9, hq9, h⟩ := ob h
    refine e_callV2 (ci := 11) C cal_X11_playCouples im_X11_playCouples se_X11_playCouples ml_X11_336 rfl (rmx_room hR (by decide) cal_X11_playCouples.2.2.1) (dk dX11_game_0 42 rfl) (K.1 _ (by rw [ht]; decide)) (ent_o11 ht) (c_X11_playCouples K ht hq9) (rmx_cap hR (by decide) (by decide)) (Nat.le_of_ble_eq_true rfl) rfl ?_
    refine e_iconst C 0 (dk dX11_game_0 43 rfl) (by decide) ?_
    refine e_istore C [(6, .int 0), (5, .int (if (bi (F_X8_canBribe ((t + 24) + 1) p1 M)) = 0 then (1 : Int32) else (2 : Int32))), (4, .int (if (bi (F_X8_canBribe ((t + 24) + 1) p0 M)) = 0 then (1 : Int32) else (2 : Int32))), (0, .ref (g_N g + t)), (1, .int p0), (2, .int p1), (3, .int p2)] (dk dX11_game_0 44 rfl) (by decide) rfl ?_
    refine e_iconst C (-1) (dk dX11_game_0 45 rfl) (by decide) ?_
    refine e_istore C [(7, .int (-1)), (6, .int 0), (5, .int (if (bi (F_X8_canBribe ((t + 24) + 1) p1 M)) = 0 then (1 : Int32) else (2 : Int32))), (4, .int (if (bi (F_X8_canBribe ((t + 24) + 1) p0 M)) = 0 then (1 : Int32) else (2 : Int32))), (0, .ref (g_N g + t)), (1, .int p0), (2, .int p1), (3, .int p2)] (dk dX11_game_0 46 rfl) (by decide) rfl ?_
    refine e_iconst C 0 (dk dX11_game_0 47 rfl) (by decide) ?_
    refine e_istore C [(8, .int 0), (7, .int (-1)), (6, .int 0), (5, .int (if (bi (F_X8_canBribe ((t + 24) + 1) p1 M)) = 0 then (1 : Int32) else (2 : Int32))), (4, .int (if (bi (F_X8_canBribe ((t + 24) + 1) p0 M)) = 0 then (1 : Int32) else (2 : Int32))), (0, .ref (g_N g + t)), (1, .int p0), (2, .int p1), (3, .int p2)] (dk dX11_game_0 48 rfl) (by decide) rfl ?_
    refine e_lv [5, 8, 4, 3, 2, 1, 0] rfl ?_
    refine lb_X11_game_92 C K ht hR (fun s18 h => ?_) h
    refine e_iload_n C 0 (dk dX11_game_1 19 rfl) rfl rfl ?_
    suffices hm20 : EW X g (x_s X).heap.size n 10 (ent g Xo kd q9) 3 18 170 [(3, .int p2), (6, .int s18.1), (7, .int s18.2)] [.int (if p2 = 0 then s18.1 else s18.2)] from (by
      refine e_if_ne C 168 (dk dX11_game_1 20 rfl) (by decide) (fun c19 => ?_) (fun c19 => ?_)
      · rw [show (if p2 = 0 then s18.1 else s18.2) = s18.2 from if_neg c19] at hm20
        refine e_iload C 2 (dk dX11_game_1 23 rfl) rfl ?_
        exact hm20
      · rw [show (if p2 = 0 then s18.1 else s18.2) = s18.1 from if_pos c19] at hm20
        refine e_iload C 1 (dk dX11_game_1 21 rfl) rfl ?_
        refine e_goto C 170 (dk dX11_game_1 22 rfl) (by decide) ?_
        exact hm20)
    obtain rfl := Option.some.inj h
    exact e_iretX C B (nar1 _) (by decide) (by decide) (dk dX11_game_1 24 rfl)
  · rw [if_pos c4] at h
    obtain rfl := Option.some.inj h
    exact e_throwIAEW C B sx_334 (by decide) (by decide) (Nat.le_of_ble_eq_true rfl) (dk dX11_game_0 12 rfl) (dk dX11_game_0 13 rfl) (dk dX11_game_0 14 rfl) (dk dX11_game_0 15 rfl) (dk dX11_game_0 16 rfl)
set_option maxRecDepth 20000 in
theorem l_X11_years_40 {X : FX} {g : WC} {Xo : Nat → va_E} {n : Nat} {kd : Nat → Nat} (C : Cx X g RX11 cX11_years 6) (K : KD n kd) {t : Nat} (ht : kd t = 12) {x2 : Int32} {x3 : Int32} (hR : x_R X = rmx 5 2 12) {OK : Int32 × Mem → Prop} (hx : ∀ s, OK s → EW X g (x_s X).heap.size n 6 (ent g Xo kd s.2) 2 12 92 [(0, .ref (g_N g + t)), (3, .int x3), (4, .int s.1)] []) : ∀ (N9 : Nat) (x4 : Int32) (x5 : Int32) (M : Mem) (q : Int32 × Mem), L_X11_years_40 t x2 x3 N9 x4 x5 M = some q → OK q → EW X g (x_s X).heap.size n 6 (ent g Xo kd M) 2 12 40 [(0, .ref (g_N g + t)), (2, .int x2), (3, .int x3), (4, .int x4), (5, .int x5)] [] := by
  intro N9
  induction N9 with
  | zero =>
    intro x4 x5 M q h
    rw [L_X11_years_40.eq_1] at h
    cases h
  | succ m9 ih =>
    intro x4 x5 M q h hOK
    rw [L_X11_years_40.eq_2] at h
    refine e_iload C 4 (dk dX11_years 21 rfl) rfl ?_
    refine e_iload_n C 1 (dk dX11_years 22 rfl) rfl rfl ?_
    refine e_icmp_ge C 92 (dk dX11_years 23 rfl) (by decide) (fun c4 => ?_) (fun c4 => ?_)
    · rw [if_pos c4] at h
      obtain rfl := Option.some.inj h
      refine e_lv [0, 2, 3] rfl ?_
      exact hx _ hOK
    · rw [if_neg c4] at h
      refine e_aload_n C 0 (dk dX11_years 24 rfl) rfl rfl ?_
      obtain ⟨q5, hq5, h⟩ := ob h
      refine e_callV2 (ci := 11) C cal_X11_drawEvent im_X11_drawEvent se_X11_drawEvent ml_X11_346 rfl (rmx_room hR (by decide) cal_X11_drawEvent.2.2.1) (dk dX11_years 25 rfl) (K.1 _ (by rw [ht]; decide)) (ent_o11 ht) (c_X11_drawEvent K ht hq5) (rmx_cap hR (by decide) (by decide)) (Nat.le_of_ble_eq_true rfl) rfl ?_
      refine e_aload_n C 0 (dk dX11_years 26 rfl) rfl rfl ?_
      refine gf_X11_sale C K ht fl_X11_51 (dk dX11_years 27 rfl) ?_
      refine e_aload_n C 0 (dk dX11_years 28 rfl) rfl rfl ?_
      obtain ⟨w6, hw6, h⟩ := ob h
      have gw6 := grd_some K (Or.inl ht) hw6
      refine gf_X11_plan C K ht fl_X11_19 (dk dX11_years 29 rfl) ?_
      rw [gw6.1]
      refine e_aload_n C 0 (dk dX11_years 30 rfl) rfl rfl ?_
      refine gf_X11_later C K ht fl_X11_44 (dk dX11_years 31 rfl) ?_
      refine e_aload_n C 0 (dk dX11_years 32 rfl) rfl rfl ?_
      refine gf_X11_dice C K ht fl_X11_72 (dk dX11_years 33 rfl) ?_
      refine e_bipush C 10 (dk dX11_years 34 rfl) (by decide) ?_
      obtain ⟨q7, hq7, h⟩ := ob h
      refine e_callV2 (ci := 2) C cal_X2_draw im_X2_draw se_X2_draw ml_X11_349 rfl (rmx_room hR (by decide) cal_X2_draw.2.2.1) (dk dX11_years 35 rfl) (K.1 _ (by rw [(kd_X11_dice K ht)]; decide)) (ent_o2 (kd_X11_dice K ht)) (c_X2_draw K (kd_X11_dice K ht) hq7) (rmx_cap hR (by decide) (by decide)) (Nat.le_of_ble_eq_true rfl) rfl ?_
      obtain ⟨q8, hq8, h⟩ := ob h
      refine e_callV2 (ci := 6) C cal_X6_pass im_X6_pass se_X6_pass ml_X11_214 rfl (rmx_room hR (by decide) cal_X6_pass.2.2.1) (dk dX11_years 36 rfl) (K.1 _ (by rw [(kd_X11_sale K ht)]; decide)) (ent_o6 (kd_X11_sale K ht)) (c_X6_pass K (kd_X11_sale K ht) gw6.2 (kd_X11_later K ht) hq8) (rmx_cap hR (by decide) (by decide)) (Nat.le_of_ble_eq_true rfl) rfl ?_
      refine e_iload C 3 (dk dX11_years 37 rfl) rfl ?_
      refine e_aload_n C 0 (dk dX11_years 38 rfl) rfl rfl ?_
      refine gf_X11_sale C K ht fl_X11_51 (dk dX11_years 39 rfl) ?_
      refine gf_X6_bought C K (kd_X11_sale K ht) fl_X11_352 (dk dX11_years 40 rfl) ?_
      refine e_iadd C (dk dX11_years 41 rfl) ?_
      refine e_istore C [(4, .int (x4 + (q8 (t + 52) 5))), (0, .ref (g_N g + t)), (2, .int x2), (3, .int x3), (5, .int x5)] (dk dX11_years 42 rfl) (by decide) rfl ?_
      refine e_iinc C [(5, .int (x5 + 1)), (4, .int (x4 + (q8 (t + 52) 5))), (0, .ref (g_N g + t)), (2, .int x2), (3, .int x3)] 4 1 (dk dX11_years 43 rfl) rfl (by decide) (by decide) rfl ?_
      refine e_goto C 40 (dk dX11_years 44 rfl) (by decide) ?_
      refine e_lv [2, 3, 4, 1, 0] rfl ?_
      exact ih _ _ _ _ h hOK
set_option maxRecDepth 20000 in
theorem lb_X11_years_40 {X : FX} {g : WC} {Xo : Nat → va_E} {n : Nat} {kd : Nat → Nat} (C : Cx X g RX11 cX11_years 6) (K : KD n kd) {t : Nat} (ht : kd t = 12) {x2 : Int32} {x3 : Int32} (hR : x_R X = rmx 5 2 12) {T9 : Type} {f9 : Int32 × Mem → Option T9} {b9 : T9} (hx : ∀ s, f9 s = some b9 → EW X g (x_s X).heap.size n 6 (ent g Xo kd s.2) 2 12 92 [(0, .ref (g_N g + t)), (3, .int x3), (4, .int s.1)] []) {x4 : Int32} {x5 : Int32} {M : Mem} (h : (L_X11_years_40 t x2 x3 FU x4 x5 M).bind f9 = some b9) : EW X g (x_s X).heap.size n 6 (ent g Xo kd M) 2 12 40 [(0, .ref (g_N g + t)), (2, .int x2), (3, .int x3), (4, .int x4), (5, .int x5)] [] := by
  obtain ⟨q, hq, h⟩ := ob h
  exact l_X11_years_40 C K ht hR (OK := fun q => f9 q = some b9) hx FU x4 x5 M q hq h
set_option maxRecDepth 20000 in
theorem c_X11_years {g : WC} {Xo : Nat → va_E} {n : Nat} {kd : Nat → Nat} (K : KD n kd) {t : Nat} {p0 : Int32} {p1 : Int32} {p2 : Int32} (ht : kd t = 12) {M : Mem} {res : Sum Nat (Int32 × Mem)} (h : F_X11_years t p0 p1 p2 M = some res) : MX g yX11_years cX11_years 6 (some .int) 5 2 12 n [.ref (g_N g + t), .int p0, .int p1, .int p2] (ent g Xo kd M) (oIM res) (ent g Xo kd (mX res M)) := by
  refine MX_of pn_X11 (Nat.le_of_ble_eq_true rfl) (fun X C B => ?_)
  have hR := B.1
  rw [F_X11_years] at h
  refine e_iload_n C 3 (dk dX11_years 0 rfl) rfl rfl ?_
  refine e_iconst C 3 (dk dX11_years 1 rfl) (by decide) ?_
  rcases hq1 : F_X11_needWhat p2 3 M with jq1 | uq1
  · rw [hq1] at h
    dsimp only [Sum.elim_inl] at h
    obtain rfl := Option.some.inj h
    exact e_xcallS C cal_X11_needWhat sm_X11_needWhat ml_X11_115 (rmx_roomX hR (by decide) cal_X11_needWhat.2.2.1) (dk dX11_years 2 rfl) (c_X11_needWhat K hq1) (rmx_cap hR (by decide) (by decide)) (Nat.le_of_ble_eq_true rfl) rfl (fun r hr => nomatch hr) (fun j hj => by
      obtain rfl := Sum.inl.inj hj
      exact e_prop C B (by decide) (by decide))
  rw [hq1] at h
  dsimp only [Sum.elim_inr] at h
  refine e_xcallS C cal_X11_needWhat sm_X11_needWhat ml_X11_115 (rmx_roomX hR (by decide) cal_X11_needWhat.2.2.1) (dk dX11_years 2 rfl) (c_X11_needWhat K hq1) (rmx_cap hR (by decide) (by decide)) (Nat.le_of_ble_eq_true rfl) rfl (fun r hr => ?_) (fun j hj => nomatch hj)
  obtain rfl := Sum.inr.inj hr
  refine e_iload_n C 2 (dk dX11_years 3 rfl) rfl rfl ?_
  refine e_iconst C 0 (dk dX11_years 4 rfl) (by decide) ?_
  refine e_bipush C 40 (dk dX11_years 5 rfl) (by decide) ?_
  rcases hq2 : F_X11_needWithin p1 0 40 M with jq2 | uq2
  · rw [hq2] at h
    dsimp only [Sum.elim_inl] at h
    obtain rfl := Option.some.inj h
    exact e_xcallS C cal_X11_needWithin sm_X11_needWithin ml_X11_236 (rmx_roomX hR (by decide) cal_X11_needWithin.2.2.1) (dk dX11_years 6 rfl) (c_X11_needWithin K hq2) (rmx_cap hR (by decide) (by decide)) (Nat.le_of_ble_eq_true rfl) rfl (fun r hr => nomatch hr) (fun j hj => by
      obtain rfl := Sum.inl.inj hj
      exact e_prop C B (by decide) (by decide))
  rw [hq2] at h
  dsimp only [Sum.elim_inr] at h
  refine e_xcallS C cal_X11_needWithin sm_X11_needWithin ml_X11_236 (rmx_roomX hR (by decide) cal_X11_needWithin.2.2.1) (dk dX11_years 6 rfl) (c_X11_needWithin K hq2) (rmx_cap hR (by decide) (by decide)) (Nat.le_of_ble_eq_true rfl) rfl (fun r hr => ?_) (fun j hj => nomatch hj)
  obtain rfl := Sum.inr.inj hr
  refine e_aload_n C 0 (dk dX11_years 7 rfl) rfl rfl ?_
  refine gf_X11_later C K ht fl_X11_44 (dk dX11_years 8 rfl) ?_
  refine e_aload_n C 0 (dk dX11_years 9 rfl) rfl rfl ?_
  refine gf_X11_book C K ht fl_X11_30 (dk dX11_years 10 rfl) ?_
  refine gf_X0_town C K (kd_X11_book K ht) fl_X11_119 (dk dX11_years 11 rfl) ?_
  obtain ⟨q3, hq3, h⟩ := ob h
  refine e_callV2 (ci := 8) C cal_X8_copy im_X8_copy se_X8_copy ml_X11_276 rfl (rmx_room hR (by decide) cal_X8_copy.2.2.1) (dk dX11_years 12 rfl) (K.1 _ (by rw [(kd_X11_later K ht)]; decide)) (ent_o8 (kd_X11_later K ht)) (c_X8_copy K (kd_X11_later K ht) (kd_X0_town K (kd_X11_book K ht)) hq3) (rmx_cap hR (by decide) (by decide)) (Nat.le_of_ble_eq_true rfl) rfl ?_
  refine e_aload_n C 0 (dk dX11_years 13 rfl) rfl rfl ?_
  refine gf_X11_dice C K ht fl_X11_72 (dk dX11_years 14 rfl) ?_
  refine e_iload_n C 1 (dk dX11_years 15 rfl) rfl rfl ?_
  refine e_callV2 (ci := 2) C cal_X2_start im_X2_start se_X2_start ml_X11_344 rfl (rmx_room hR (by decide) cal_X2_start.2.2.1) (dk dX11_years 16 rfl) (K.1 _ (by rw [(kd_X11_dice K ht)]; decide)) (ent_o2 (kd_X11_dice K ht)) (c_X2_start K (kd_X11_dice K ht) (rfl : F_X2_start (t + 64) p0 q3 = _)) (rmx_cap hR (by decide) (by decide)) (Nat.le_of_ble_eq_true rfl) rfl ?_
  refine e_iconst C 0 (dk dX11_years 17 rfl) (by decide) ?_
  refine e_istore C [(4, .int 0), (0, .ref (g_N g + t)), (1, .int p0), (2, .int p1), (3, .int p2)] (dk dX11_years 18 rfl) (by decide) rfl ?_
  refine e_iconst C 0 (dk dX11_years 19 rfl) (by decide) ?_
  refine e_istore C [(5, .int 0), (4, .int 0), (0, .ref (g_N g + t)), (1, .int p0), (2, .int p1), (3, .int p2)] (dk dX11_years 20 rfl) (by decide) rfl ?_
  refine e_lv [2, 4, 5, 1, 0] rfl ?_
  refine lb_X11_years_40 C K ht hR (fun s10 h => ?_) h
  refine e_iload_n C 1 (dk dX11_years 45 rfl) rfl rfl ?_
  refine e_if_ne C 99 (dk dX11_years 46 rfl) (by decide) (fun c11 => ?_) (fun c11 => ?_)
  · rw [if_neg c11] at h
    refine e_iload_n C 1 (dk dX11_years 49 rfl) rfl rfl ?_
    refine e_iconst C 1 (dk dX11_years 50 rfl) (by decide) ?_
    refine e_icmp_ne C 114 (dk dX11_years 51 rfl) (by decide) (fun c12 => ?_) (fun c12 => ?_)
    · rw [if_neg c12] at h
      refine e_aload_n C 0 (dk dX11_years 56 rfl) rfl rfl ?_
      refine gf_X11_later C K ht fl_X11_44 (dk dX11_years 57 rfl) ?_
      obtain ⟨q13, hq13, h⟩ := ob h
      refine e_callV2 (ci := 8) C cal_X8_coinsOfAll im_X8_coinsOfAll se_X8_coinsOfAll ml_X11_149 rfl (rmx_room hR (by decide) cal_X8_coinsOfAll.2.2.1) (dk dX11_years 58 rfl) (K.1 _ (by rw [(kd_X11_later K ht)]; decide)) (ent_o8 (kd_X11_later K ht)) (c_X8_coinsOfAll K (kd_X11_later K ht) hq13) (rmx_cap hR (by decide) (by decide)) (Nat.le_of_ble_eq_true rfl) rfl ?_
      obtain rfl := Option.some.inj h
      exact e_iretX C B (nar1 _) (by decide) (by decide) (dk dX11_years 59 rfl)
    · rw [if_pos c12] at h
      refine e_aload_n C 0 (dk dX11_years 52 rfl) rfl rfl ?_
      refine gf_X11_later C K ht fl_X11_44 (dk dX11_years 53 rfl) ?_
      refine gf_X8_dark C K (kd_X11_later K ht) fl_X11_143 (dk dX11_years 54 rfl) ?_
      refine e_goto C 121 (dk dX11_years 55 rfl) (by decide) ?_
      obtain rfl := Option.some.inj h
      exact e_iretX C B (nar1 _) (by decide) (by decide) (dk dX11_years 59 rfl)
  · rw [if_pos c11] at h
    refine e_iload C 2 (dk dX11_years 47 rfl) rfl ?_
    obtain rfl := Option.some.inj h
    exact e_iretX C B (nar1 _) (by decide) (by decide) (dk dX11_years 48 rfl)
