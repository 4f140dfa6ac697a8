set_option maxRecDepth 20000 in
theorem l_X11_secret_4 {X : FX} {g : WC} {Xo : Nat → va_E} {n : Nat} {kd : Nat → Nat} (C : Cx X g RX11 cX11_secret 3) (K : KD n kd) {t : Nat} (ht : kd t = 12) {M : Mem} (hR : x_R X = rm 5) {OK : Int32 → Prop} (hx : ∀ s, OK s → EW X g (x_s X).heap.size n 3 (ent g Xo kd M) 0 0 36 [(1, .int s)] []) : ∀ (N9 : Nat) (x1 : Int32) (x2 : Int32) (q : Int32), L_X11_secret_4 t M N9 x1 x2 = some q → OK q → EW X g (x_s X).heap.size n 3 (ent g Xo kd M) 0 0 4 [(0, .ref (g_N g + t)), (1, .int x1), (2, .int x2)] [] := by
  intro N9
  induction N9 with
  | zero =>
    intro x1 x2 q h
    rw [L_X11_secret_4.eq_1] at h
    cases h
  | succ m9 ih =>
    intro x1 x2 q h hOK
    rw [L_X11_secret_4.eq_2] at h
    refine e_iload_n C 2 (dk dX11_secret 4 rfl) rfl rfl ?_
    refine e_aload_n C 0 (dk dX11_secret 5 rfl) rfl rfl ?_
    obtain ⟨w1, hw1, h⟩ := ob h
    have gw1 := grd_some K (Or.inl ht) hw1
    refine gf_X11_plan C K ht fl_X11_19 (dk dX11_secret 6 rfl) ?_
    rw [gw1.1]
    refine gf_X9_people C K gw1.2 fl_X11_128 (dk dX11_secret 7 rfl) ?_
    refine e_icmp_ge C 36 (dk dX11_secret 8 rfl) (by decide) (fun c2 => ?_) (fun c2 => ?_)
    · rw [if_pos c2] at h
      obtain rfl := Option.some.inj h
      refine e_lv [1] rfl ?_
      exact hx _ hOK
    · rw [if_neg c2] at h
      refine e_aload_n C 0 (dk dX11_secret 9 rfl) rfl rfl ?_
      refine e_iload_n C 2 (dk dX11_secret 10 rfl) rfl rfl ?_
      obtain ⟨q3, hq3, h⟩ := ob h
      refine e_callV (ci := 11) C cal_X11_firstSeen im_X11_firstSeen se_X11_firstSeen ml_X11_252 rfl hR (by decide) (dk dX11_secret 11 rfl) (K.1 _ (by rw [ht]; decide)) (ent_o11 ht) (c_X11_firstSeen K ht hq3) ⟨Nat.zero_le _, Nat.zero_le _⟩ (Nat.le_of_ble_eq_true rfl) rfl ?_
      refine e_iconst C (-1) (dk dX11_secret 12 rfl) (by decide) ?_
      refine e_icmp_ne C 30 (dk dX11_secret 13 rfl) (by decide) (fun c4 => ?_) (fun c4 => ?_)
      · rw [if_neg c4] at h
        refine e_iinc C [(2, .int (x2 + 1)), (0, .ref (g_N g + t)), (1, .int x1)] 2 1 (dk dX11_secret 20 rfl) rfl (by decide) (by decide) rfl ?_
        refine e_goto C 4 (dk dX11_secret 21 rfl) (by decide) ?_
        refine e_lv [1, 2, 0] rfl ?_
        exact ih _ _ _ h hOK
      · rw [if_pos c4] at h
        refine e_iload_n C 1 (dk dX11_secret 14 rfl) rfl rfl ?_
        refine e_iconst C 1 (dk dX11_secret 15 rfl) (by decide) ?_
        refine e_iload_n C 2 (dk dX11_secret 16 rfl) rfl rfl ?_
        refine e_ishl C (dk dX11_secret 17 rfl) ?_
        refine e_ior C (dk dX11_secret 18 rfl) ?_
        refine e_istore_n C [(1, .int (x1 ||| ((1 : Int32) <<< (x2 &&& 31)))), (0, .ref (g_N g + t)), (2, .int x2)] (dk dX11_secret 19 rfl) rfl (by decide) rfl ?_
        refine e_iinc C [(2, .int (x2 + 1)), (1, .int (x1 ||| ((1 : Int32) <<< (x2 &&& 31)))), (0, .ref (g_N g + t))] 2 1 (dk dX11_secret 20 rfl) rfl (by decide) (by decide) rfl ?_
        refine e_goto C 4 (dk dX11_secret 21 rfl) (by decide) ?_
        refine e_lv [2, 1, 0] rfl ?_
        exact ih _ _ _ h hOK
set_option maxRecDepth 20000 in
theorem lb_X11_secret_4 {X : FX} {g : WC} {Xo : Nat → va_E} {n : Nat} {kd : Nat → Nat} (C : Cx X g RX11 cX11_secret 3) (K : KD n kd) {t : Nat} (ht : kd t = 12) {M : Mem} (hR : x_R X = rm 5) {T9 : Type} {f9 : Int32 → Option T9} {b9 : T9} (hx : ∀ s, f9 s = some b9 → EW X g (x_s X).heap.size n 3 (ent g Xo kd M) 0 0 36 [(1, .int s)] []) {x1 : Int32} {x2 : Int32} (h : (L_X11_secret_4 t M FU x1 x2).bind f9 = some b9) : EW X g (x_s X).heap.size n 3 (ent g Xo kd M) 0 0 4 [(0, .ref (g_N g + t)), (1, .int x1), (2, .int x2)] [] := by
  obtain ⟨q, hq, h⟩ := ob h
  exact l_X11_secret_4 C K ht hR (OK := fun q => f9 q = some b9) hx FU x1 x2 q hq h
set_option maxRecDepth 20000 in
theorem c_X11_secret {g : WC} {Xo : Nat → va_E} {n : Nat} {kd : Nat → Nat} (K : KD n kd) {t : Nat} (ht : kd t = 12) {M : Mem} {res : Int32} (h : F_X11_secret t M = some res) : MC g yX11_secret cX11_secret 3 (some .int) 5 n [.ref (g_N g + t)] (ent g Xo kd M) (some (.int res)) (ent g Xo kd M) := by
  refine MC_of pn_X11 (Nat.le_of_ble_eq_true rfl) (fun X C B => ?_)
  have hR := B.1
  rw [F_X11_secret] at h
  refine e_iconst C 0 (dk dX11_secret 0 rfl) (by decide) ?_
  refine e_istore_n C [(1, .int 0), (0, .ref (g_N g + t))] (dk dX11_secret 1 rfl) rfl (by decide) rfl ?_
  refine e_iconst C 0 (dk dX11_secret 2 rfl) (by decide) ?_
  refine e_istore_n C [(2, .int 0), (1, .int 0), (0, .ref (g_N g + t))] (dk dX11_secret 3 rfl) rfl (by decide) rfl ?_
  refine e_lv [2, 1, 0] rfl ?_
  refine lb_X11_secret_4 C K ht hR (fun s6 h => ?_) h
  refine e_iload_n C 0 (dk dX11_secret 22 rfl) rfl rfl ?_
  obtain rfl := Option.some.inj h
  exact e_iret C B (nar1 _) (dk dX11_secret 23 rfl)
set_option maxRecDepth 20000 in
theorem c_X11_image {g : WC} {Xo : Nat → va_E} {n : Nat} {kd : Nat → Nat} (K : KD n kd) {t : Nat} (ht : kd t = 12) {M : Mem} {res : Mem} (h : F_X11_image t M = some res) : MC g yX11_image cX11_image 1 none 3 n [.ref (g_N g + t)] (ent g Xo kd M) none (ent g Xo kd res) := by
  refine MC_of pn_X11 (Nat.le_of_ble_eq_true rfl) (fun X C B => ?_)
  have hR := B.1
  rw [F_X11_image] at h
  refine e_aload_n C 0 (dk dX11_image 0 rfl) rfl rfl ?_
  refine gf_X11_kept C K ht fl_X11_34 (dk dX11_image 1 rfl) ?_
  refine e_aload_n C 0 (dk dX11_image 2 rfl) rfl rfl ?_
  refine gf_X11_book C K ht fl_X11_30 (dk dX11_image 3 rfl) ?_
  obtain ⟨q1, hq1, h⟩ := ob h
  refine e_callV (ci := 0) C cal_X0_copy im_X0_copy se_X0_copy ml_X11_355 rfl hR (by decide) (dk dX11_image 4 rfl) (K.1 _ (by rw [(kd_X11_kept K ht)]; decide)) (ent_o0 (kd_X11_kept K ht)) (c_X0_copy K (kd_X11_kept K ht) (kd_X11_book K ht) hq1) ⟨Nat.zero_le _, Nat.zero_le _⟩ (Nat.le_of_ble_eq_true rfl) rfl ?_
  refine e_aload_n C 0 (dk dX11_image 5 rfl) rfl rfl ?_
  refine e_iconst C 1 (dk dX11_image 6 rfl) (by decide) ?_
  refine pf_X11_isKept (b := true) C K ht fl_X11_37 (dk dX11_image 7 rfl) ?_
  obtain rfl := Option.some.inj h
  exact e_vret C B (dk dX11_image 8 rfl)
set_option maxRecDepth 20000 in
theorem c_X11_restore {g : WC} {Xo : Nat → va_E} {n : Nat} {kd : Nat → Nat} (K : KD n kd) {t : Nat} (ht : kd t = 12) {M : Mem} {res : Bool × Mem} (h : F_X11_restore t M = some res) : MC g yX11_restore cX11_restore 1 (some .boolean) 3 n [.ref (g_N g + t)] (ent g Xo kd M) (some (.int (bi res.1))) (ent g Xo kd res.2) := by
  refine MC_of pn_X11 (Nat.le_of_ble_eq_true rfl) (fun X C B => ?_)
  have hR := B.1
  rw [F_X11_restore] at h
  refine e_aload_n C 0 (dk dX11_restore 0 rfl) rfl rfl ?_
  refine gf_X11_isKept C K ht fl_X11_37 (dk dX11_restore 1 rfl) ?_
  refine e_if_eq C 18 (dk dX11_restore 2 rfl) (by decide) (fun c1 => ?_) (fun c1 => ?_)
  · rw [if_pos c1] at h
    refine e_aload_n C 0 (dk dX11_restore 8 rfl) rfl rfl ?_
    refine gf_X11_isKept C K ht fl_X11_37 (dk dX11_restore 9 rfl) ?_
    obtain ⟨b2, hb2, h⟩ := ob h
    rw [bgd_some hb2]
    obtain rfl := Option.some.inj h
    exact e_iret (v := bi b2) C B (nar_bi _) (dk dX11_restore 10 rfl)
  · rw [if_neg c1] at h
    refine e_aload_n C 0 (dk dX11_restore 3 rfl) rfl rfl ?_
    refine gf_X11_book C K ht fl_X11_30 (dk dX11_restore 4 rfl) ?_
    refine e_aload_n C 0 (dk dX11_restore 5 rfl) rfl rfl ?_
    refine gf_X11_kept C K ht fl_X11_34 (dk dX11_restore 6 rfl) ?_
    obtain ⟨q3, hq3, h⟩ := ob h
    refine e_callV (ci := 0) C cal_X0_copy im_X0_copy se_X0_copy ml_X11_355 rfl hR (by decide) (dk dX11_restore 7 rfl) (K.1 _ (by rw [(kd_X11_book K ht)]; decide)) (ent_o0 (kd_X11_book K ht)) (c_X0_copy K (kd_X11_book K ht) (kd_X11_kept K ht) hq3) ⟨Nat.zero_le _, Nat.zero_le _⟩ (Nat.le_of_ble_eq_true rfl) rfl ?_
    refine e_aload_n C 0 (dk dX11_restore 8 rfl) rfl rfl ?_
    refine gf_X11_isKept C K ht fl_X11_37 (dk dX11_restore 9 rfl) ?_
    obtain ⟨b4, hb4, h⟩ := ob h
    rw [bgd_some hb4]
    obtain rfl := Option.some.inj h
    exact e_iret (v := bi b4) C B (nar_bi _) (dk dX11_restore 10 rfl)
set_option maxRecDepth 20000 in
theorem l_X11_goAhead_16 {X : FX} {g : WC} {Xo : Nat → va_E} {n : Nat} {kd : Nat → Nat} (C : Cx X g RX11 cX11_goAhead 3) (K : KD n kd) {t : Nat} (ht : kd t = 12) {x1 : Int32} (hR : x_R X = rm 6) {OK : Mem → Prop} (hx : ∀ s, OK s → EW X g (x_s X).heap.size n 3 (ent g Xo kd s) 0 0 56 [] []) : ∀ (N9 : Nat) (x2 : Int32) (M : Mem) (q : Mem), L_X11_goAhead_16 t x1 N9 x2 M = some q → OK q → EW X g (x_s X).heap.size n 3 (ent g Xo kd M) 0 0 16 [(0, .ref (g_N g + t)), (1, .int x1), (2, .int x2)] [] := by
  intro N9
  induction N9 with
  | zero =>
    intro x2 M q h
    rw [L_X11_goAhead_16.eq_1] at h
    cases h
  | succ m9 ih =>
    intro x2 M q h hOK
    rw [L_X11_goAhead_16.eq_2] at h
    refine e_iload_n C 2 (dk dX11_goAhead 8 rfl) rfl rfl ?_
    refine e_iload_n C 1 (dk dX11_goAhead 9 rfl) rfl rfl ?_
    refine e_icmp_ge C 56 (dk dX11_goAhead 10 rfl) (by decide) (fun c2 => ?_) (fun c2 => ?_)
    · rw [if_pos c2] at h
      obtain rfl := Option.some.inj h
      refine e_lv [] rfl ?_
      exact hx _ hOK
    · rw [if_neg c2] at h
      refine e_aload_n C 0 (dk dX11_goAhead 11 rfl) rfl rfl ?_
      refine gf_X11_sale C K ht fl_X11_51 (dk dX11_goAhead 12 rfl) ?_
      refine e_aload_n C 0 (dk dX11_goAhead 13 rfl) rfl rfl ?_
      obtain ⟨w3, hw3, h⟩ := ob h
      have gw3 := grd_some K (Or.inl ht) hw3
      refine gf_X11_plan C K ht fl_X11_19 (dk dX11_goAhead 14 rfl) ?_
      rw [gw3.1]
      refine e_aload_n C 0 (dk dX11_goAhead 15 rfl) rfl rfl ?_
      refine gf_X11_later C K ht fl_X11_44 (dk dX11_goAhead 16 rfl) ?_
      refine e_aload_n C 0 (dk dX11_goAhead 17 rfl) rfl rfl ?_
      obtain ⟨w4, hw4, h⟩ := ob h
      have gw4 := grd_some K (Or.inl ht) hw4
      refine gf_X11_plan C K ht fl_X11_19 (dk dX11_goAhead 18 rfl) ?_
      rw [gw4.1]
      refine e_aload_n C 0 (dk dX11_goAhead 19 rfl) rfl rfl ?_
      refine gf_X11_later C K ht fl_X11_44 (dk dX11_goAhead 20 rfl) ?_
      refine gf_X8_night C K (kd_X11_later K ht) fl_X11_134 (dk dX11_goAhead 21 rfl) ?_
      obtain ⟨q5, hq5, h⟩ := ob h
      refine e_callV (ci := 9) C cal_X9_fogOf im_X9_fogOf se_X9_fogOf ml_X11_137 rfl hR (by decide) (dk dX11_goAhead 22 rfl) (K.1 _ (by rw [gw4.2]; decide)) (ent_o9 gw4.2) (c_X9_fogOf K gw4.2 hq5) ⟨Nat.zero_le _, Nat.zero_le _⟩ (Nat.le_of_ble_eq_true rfl) rfl ?_
      obtain ⟨q6, hq6, h⟩ := ob h
      refine e_callV (ci := 6) C cal_X6_pass im_X6_pass se_X6_pass ml_X11_214 rfl hR (by decide) (dk dX11_goAhead 23 rfl) (K.1 _ (by rw [(kd_X11_sale K ht)]; decide)) (ent_o6 (kd_X11_sale K ht)) (c_X6_pass K (kd_X11_sale K ht) gw3.2 (kd_X11_later K ht) hq6) ⟨Nat.zero_le _, Nat.zero_le _⟩ (Nat.le_of_ble_eq_true rfl) rfl ?_
      refine e_iinc C [(2, .int (x2 + 1)), (0, .ref (g_N g + t)), (1, .int x1)] 2 1 (dk dX11_goAhead 24 rfl) rfl (by decide) (by decide) rfl ?_
      refine e_goto C 16 (dk dX11_goAhead 25 rfl) (by decide) ?_
      refine e_lv [1, 2, 0] rfl ?_
      exact ih _ _ _ h hOK
set_option maxRecDepth 20000 in
theorem lb_X11_goAhead_16 {X : FX} {g : WC} {Xo : Nat → va_E} {n : Nat} {kd : Nat → Nat} (C : Cx X g RX11 cX11_goAhead 3) (K : KD n kd) {t : Nat} (ht : kd t = 12) {x1 : Int32} (hR : x_R X = rm 6) {T9 : Type} {f9 : Mem → Option T9} {b9 : T9} (hx : ∀ s, f9 s = some b9 → EW X g (x_s X).heap.size n 3 (ent g Xo kd s) 0 0 56 [] []) {x2 : Int32} {M : Mem} (h : (L_X11_goAhead_16 t x1 FU x2 M).bind f9 = some b9) : EW X g (x_s X).heap.size n 3 (ent g Xo kd M) 0 0 16 [(0, .ref (g_N g + t)), (1, .int x1), (2, .int x2)] [] := by
  obtain ⟨q, hq, h⟩ := ob h
  exact l_X11_goAhead_16 C K ht hR (OK := fun q => f9 q = some b9) hx FU x2 M q hq h
set_option maxRecDepth 20000 in
theorem c_X11_goAhead {g : WC} {Xo : Nat → va_E} {n : Nat} {kd : Nat → Nat} (K : KD n kd) {t : Nat} {p0 : Int32} (ht : kd t = 12) {M : Mem} {res : Mem} (h : F_X11_goAhead t p0 M = some res) : MC g yX11_goAhead cX11_goAhead 3 none 6 n [.ref (g_N g + t), .int p0] (ent g Xo kd M) none (ent g Xo kd res) := by
  refine MC_of pn_X11 (Nat.le_of_ble_eq_true rfl) (fun X C B => ?_)
  have hR := B.1
  rw [F_X11_goAhead] at h
  refine e_aload_n C 0 (dk dX11_goAhead 0 rfl) rfl rfl ?_
  refine gf_X11_later C K ht fl_X11_44 (dk dX11_goAhead 1 rfl) ?_
  refine e_aload_n C 0 (dk dX11_goAhead 2 rfl) rfl rfl ?_
  refine gf_X11_book C K ht fl_X11_30 (dk dX11_goAhead 3 rfl) ?_
  refine gf_X0_town C K (kd_X11_book K ht) fl_X11_119 (dk dX11_goAhead 4 rfl) ?_
  obtain ⟨q1, hq1, h⟩ := ob h
  refine e_callV (ci := 8) C cal_X8_copy im_X8_copy se_X8_copy ml_X11_276 rfl hR (by decide) (dk dX11_goAhead 5 rfl) (K.1 _ (by rw [(kd_X11_later K ht)]; decide)) (ent_o8 (kd_X11_later K ht)) (c_X8_copy K (kd_X11_later K ht) (kd_X0_town K (kd_X11_book K ht)) hq1) ⟨Nat.zero_le _, Nat.zero_le _⟩ (Nat.le_of_ble_eq_true rfl) rfl ?_
  refine e_iconst C 0 (dk dX11_goAhead 6 rfl) (by decide) ?_
  refine e_istore_n C [(2, .int 0), (0, .ref (g_N g + t)), (1, .int p0)] (dk dX11_goAhead 7 rfl) rfl (by decide) rfl ?_
  refine e_lv [1, 2, 0] rfl ?_
  refine lb_X11_goAhead_16 C K ht hR (fun s8 h => ?_) h
  obtain rfl := Option.some.inj h
  exact e_vret C B (dk dX11_goAhead 26 rfl)
set_option maxRecDepth 20000 in
theorem l_X11_wouldBuy_58 {X : FX} {g : WC} {Xo : Nat → va_E} {n : Nat} {kd : Nat → Nat} (C : Cx X g RX11 cX11_wouldBuy 5) (K : KD n kd) {t : Nat} (ht : kd t = 12) {x1 : Int32} {x2 : Int32} (hR : x_R X = rm 5) {OK : Mem → Prop} (hx : ∀ s, OK s → EW X g (x_s X).heap.size n 5 (ent g Xo kd s) 0 0 87 [(0, .ref (g_N g + t)), (1, .int x1), (2, .int x2)] []) : ∀ (N9 : Nat) (x4 : Int32) (M : Mem) (q : Mem), L_X11_wouldBuy_58 t x1 x2 N9 x4 M = some q → OK q → EW X g (x_s X).heap.size n 5 (ent g Xo kd M) 0 0 58 [(0, .ref (g_N g + t)), (1, .int x1), (2, .int x2), (4, .int x4)] [] := by
  intro N9
  induction N9 with
  | zero =>
    intro x4 M q h
    rw [L_X11_wouldBuy_58.eq_1] at h
    cases h
  | succ m9 ih =>
    intro x4 M q h hOK
    rw [L_X11_wouldBuy_58.eq_2] at h
    refine e_iload C 3 (dk dX11_wouldBuy 27 rfl) rfl ?_
    refine e_iload_n C 2 (dk dX11_wouldBuy 28 rfl) rfl rfl ?_
    refine e_icmp_gt C 87 (dk dX11_wouldBuy 29 rfl) (by decide) (fun c6 => ?_) (fun c6 => ?_)
    · rw [if_pos c6] at h
      obtain rfl := Option.some.inj h
      refine e_lv [0, 1, 2] rfl ?_
      exact hx _ hOK
    · rw [if_neg c6] at h
      refine e_aload_n C 0 (dk dX11_wouldBuy 30 rfl) rfl rfl ?_
      refine gf_X11_sale C K ht fl_X11_51 (dk dX11_wouldBuy 31 rfl) ?_
      refine e_aload_n C 0 (dk dX11_wouldBuy 32 rfl) rfl rfl ?_
      obtain ⟨w7, hw7, h⟩ := ob h
      have gw7 := grd_some K (Or.inl ht) hw7
      refine gf_X11_plan C K ht fl_X11_19 (dk dX11_wouldBuy 33 rfl) ?_
      rw [gw7.1]
      refine e_aload_n C 0 (dk dX11_wouldBuy 34 rfl) rfl rfl ?_
      refine gf_X11_later C K ht fl_X11_44 (dk dX11_wouldBuy 35 rfl) ?_
      refine e_iload C 3 (dk dX11_wouldBuy 36 rfl) rfl ?_
      obtain ⟨q8, hq8, h⟩ := ob h
      refine e_callV (ci := 6) C cal_X6_sell im_X6_sell se_X6_sell ml_X11_378 rfl hR (by decide) (dk dX11_wouldBuy 37 rfl) (K.1 _ (by rw [(kd_X11_sale K ht)]; decide)) (ent_o6 (kd_X11_sale K ht)) (c_X6_sell K (kd_X11_sale K ht) gw7.2 (kd_X11_later K ht) hq8) ⟨Nat.zero_le _, Nat.zero_le _⟩ (Nat.le_of_ble_eq_true rfl) rfl ?_
      refine e_iinc C [(4, .int (x4 + 1)), (0, .ref (g_N g + t)), (1, .int x1), (2, .int x2)] 3 1 (dk dX11_wouldBuy 38 rfl) rfl (by decide) (by decide) rfl ?_
      refine e_goto C 58 (dk dX11_wouldBuy 39 rfl) (by decide) ?_
      refine e_lv [1, 2, 3, 0] rfl ?_
      exact ih _ _ _ h hOK
set_option maxRecDepth 20000 in
theorem lb_X11_wouldBuy_58 {X : FX} {g : WC} {Xo : Nat → va_E} {n : Nat} {kd : Nat → Nat} (C : Cx X g RX11 cX11_wouldBuy 5) (K : KD n kd) {t : Nat} (ht : kd t = 12) {x1 : Int32} {x2 : Int32} (hR : x_R X = rm 5) {T9 : Type} {f9 : Mem → Option T9} {b9 : T9} (hx : ∀ s, f9 s = some b9 → EW X g (x_s X).heap.size n 5 (ent g Xo kd s) 0 0 87 [(0, .ref (g_N g + t)), (1, .int x1), (2, .int x2)] []) {x4 : Int32} {M : Mem} (h : (L_X11_wouldBuy_58 t x1 x2 FU x4 M).bind f9 = some b9) : EW X g (x_s X).heap.size n 5 (ent g Xo kd M) 0 0 58 [(0, .ref (g_N g + t)), (1, .int x1), (2, .int x2), (4, .int x4)] [] := by
  obtain ⟨q, hq, h⟩ := ob h
  exact l_X11_wouldBuy_58 C K ht hR (OK := fun q => f9 q = some b9) hx FU x4 M q hq h
set_option maxRecDepth 20000 in
theorem c_X11_wouldBuy {g : WC} {Xo : Nat → va_E} {n : Nat} {kd : Nat → Nat} (K : KD n kd) {t : Nat} {p0 : Int32} {p1 : Int32} {p2 : Int32} (ht : kd t = 12) {M : Mem} {res : Bool × Mem} (h : F_X11_wouldBuy t p0 p1 p2 M = some res) : MC g yX11_wouldBuy cX11_wouldBuy 5 (some .boolean) 5 n [.ref (g_N g + t), .int p0, .int p1, .int p2] (ent g Xo kd M) (some (.int (bi res.1))) (ent g Xo kd res.2) := by
  refine MC_of pn_X11 (Nat.le_of_ble_eq_true rfl) (fun X C B => ?_)
  have hR := B.1
  rw [F_X11_wouldBuy] at h
  refine e_aload_n C 0 (dk dX11_wouldBuy 0 rfl) rfl rfl ?_
  refine gf_X11_later C K ht fl_X11_44 (dk dX11_wouldBuy 1 rfl) ?_
  refine e_aload_n C 0 (dk dX11_wouldBuy 2 rfl) rfl rfl ?_
  refine gf_X11_book C K ht fl_X11_30 (dk dX11_wouldBuy 3 rfl) ?_
  refine gf_X0_town C K (kd_X11_book K ht) fl_X11_119 (dk dX11_wouldBuy 4 rfl) ?_
  obtain ⟨q1, hq1, h⟩ := ob h
  refine e_callV (ci := 8) C cal_X8_copy im_X8_copy se_X8_copy ml_X11_276 rfl hR (by decide) (dk dX11_wouldBuy 5 rfl) (K.1 _ (by rw [(kd_X11_later K ht)]; decide)) (ent_o8 (kd_X11_later K ht)) (c_X8_copy K (kd_X11_later K ht) (kd_X0_town K (kd_X11_book K ht)) hq1) ⟨Nat.zero_le _, Nat.zero_le _⟩ (Nat.le_of_ble_eq_true rfl) rfl ?_
  refine e_aload_n C 0 (dk dX11_wouldBuy 6 rfl) rfl rfl ?_
  refine gf_X11_later C K ht fl_X11_44 (dk dX11_wouldBuy 7 rfl) ?_
  refine gf_X8_coins C K (kd_X11_later K ht) fl_X11_185 (dk dX11_wouldBuy 8 rfl) ?_
  refine e_iload_n C 1 (dk dX11_wouldBuy 9 rfl) rfl rfl ?_
  refine e_iload_n C 3 (dk dX11_wouldBuy 10 rfl) rfl rfl ?_
  refine e_callS C cal_X11_put sm_X11_put ml_X11_374 hR (by decide) (dk dX11_wouldBuy 11 rfl) (c_X11_put K (kd_X8_coins K (kd_X11_later K ht)) (rfl : F_X11_put ((t + 48) + 1) 7 p0 p2 q1 = _)) ⟨Nat.zero_le _, Nat.zero_le _⟩ (Nat.le_of_ble_eq_true rfl) rfl ?_
  refine e_aload_n C 0 (dk dX11_wouldBuy 12 rfl) rfl rfl ?_
  refine gf_X11_sale C K ht fl_X11_51 (dk dX11_wouldBuy 13 rfl) ?_
  refine e_aload_n C 0 (dk dX11_wouldBuy 14 rfl) rfl rfl ?_
  obtain ⟨w2, hw2, h⟩ := ob h
  have gw2 := grd_some K (Or.inl ht) hw2
  refine gf_X11_plan C K ht fl_X11_19 (dk dX11_wouldBuy 15 rfl) ?_
  rw [gw2.1]
  refine e_aload_n C 0 (dk dX11_wouldBuy 16 rfl) rfl rfl ?_
  refine gf_X11_later C K ht fl_X11_44 (dk dX11_wouldBuy 17 rfl) ?_
  refine e_aload_n C 0 (dk dX11_wouldBuy 18 rfl) rfl rfl ?_
  obtain ⟨w3, hw3, h⟩ := ob h
  have gw3 := grd_some K (Or.inl ht) hw3
  refine gf_X11_plan C K ht fl_X11_19 (dk dX11_wouldBuy 19 rfl) ?_
  rw [gw3.1]
  refine e_aload_n C 0 (dk dX11_wouldBuy 20 rfl) rfl rfl ?_
  refine gf_X11_later C K ht fl_X11_44 (dk dX11_wouldBuy 21 rfl) ?_
  refine gf_X8_night C K (kd_X11_later K ht) fl_X11_134 (dk dX11_wouldBuy 22 rfl) ?_
  obtain ⟨q4, hq4, h⟩ := ob h
  refine e_callV (ci := 9) C cal_X9_fogOf im_X9_fogOf se_X9_fogOf ml_X11_137 rfl hR (by decide) (dk dX11_wouldBuy 23 rfl) (K.1 _ (by rw [gw3.2]; decide)) (ent_o9 gw3.2) (c_X9_fogOf K gw3.2 hq4) ⟨Nat.zero_le _, Nat.zero_le _⟩ (Nat.le_of_ble_eq_true rfl) rfl ?_
  obtain ⟨q5, hq5, h⟩ := ob h
  refine e_callV (ci := 6) C cal_X6_open im_X6_open se_X6_open ml_X11_280 rfl hR (by decide) (dk dX11_wouldBuy 24 rfl) (K.1 _ (by rw [(kd_X11_sale K ht)]; decide)) (ent_o6 (kd_X11_sale K ht)) (c_X6_open K (kd_X11_sale K ht) gw2.2 (kd_X11_later K ht) hq5) ⟨Nat.zero_le _, Nat.zero_le _⟩ (Nat.le_of_ble_eq_true rfl) rfl ?_
  refine e_iconst C 0 (dk dX11_wouldBuy 25 rfl) (by decide) ?_
  refine e_istore C [(4, .int 0), (0, .ref (g_N g + t)), (1, .int p0), (2, .int p1), (3, .int p2)] (dk dX11_wouldBuy 26 rfl) (by decide) rfl ?_
  refine e_lv [1, 2, 3, 0] rfl ?_
  refine lb_X11_wouldBuy_58 C K ht hR (fun s10 h => ?_) h
  refine e_aload_n C 0 (dk dX11_wouldBuy 40 rfl) rfl rfl ?_
  refine gf_X11_sale C K ht fl_X11_51 (dk dX11_wouldBuy 41 rfl) ?_
  refine gf_X6_buyers C K (kd_X11_sale K ht) fl_X11_246 (dk dX11_wouldBuy 42 rfl) ?_
  refine e_iload_n C 2 (dk dX11_wouldBuy 43 rfl) rfl rfl ?_
  refine e_callS C cal_X11_at sm_X11_at ml_X11_172 hR (by decide) (dk dX11_wouldBuy 44 rfl) (c_X11_at K (kd_X6_buyers K (kd_X11_sale K ht)) (rfl : F_X11_at ((t + 52) + 3) 7 p1 s10 = _)) ⟨Nat.zero_le _, Nat.zero_le _⟩ (Nat.le_of_ble_eq_true rfl) rfl ?_
  refine e_iload_n C 1 (dk dX11_wouldBuy 45 rfl) rfl rfl ?_
  refine e_icmp_ne C 106 (dk dX11_wouldBuy 46 rfl) (by decide) (fun c11 => ?_) (fun c11 => ?_)
  · rw [if_neg c11] at h
    refine e_iconst C 0 (dk dX11_wouldBuy 49 rfl) (by decide) ?_
    obtain rfl := Option.some.inj h
    exact e_iret (v := bi false) C B (nar_bi _) (dk dX11_wouldBuy 50 rfl)
  · rw [if_pos c11] at h
    refine e_iconst C 1 (dk dX11_wouldBuy 47 rfl) (by decide) ?_
    refine e_goto C 107 (dk dX11_wouldBuy 48 rfl) (by decide) ?_
    obtain rfl := Option.some.inj h
    exact e_iret (v := bi true) C B (nar_bi _) (dk dX11_wouldBuy 50 rfl)
set_option maxRecDepth 20000 in
theorem j_X11_playCouples_j61 {X : FX} {g : WC} {Xo : Nat → va_E} {n : Nat} {kd : Nat → Nat} (C : Cx X g RX11 cX11_playCouples 7) (K : KD n kd) {t : Nat} (ht : kd t = 12) {x1 : Int32} {x2 : Int32} {x3 : Int32} {x4 : Int32} {x5 : Int32} (hR : x_R X = rm 6) {OK : Mem → Prop} (hx : ∀ s, OK s → EW X g (x_s X).heap.size n 7 (ent g Xo kd s) 0 0 144 [(0, .ref (g_N g + t)), (1, .int x1), (2, .int x2), (3, .int x3), (4, .int x4), (5, .int x5)] []) {rec : Int32 → Mem → Option (Mem)} (hrec : ∀ (x6 : Int32) (M : Mem) (q : Mem), rec x6 M = some q → OK q → EW X g (x_s X).heap.size n 7 (ent g Xo kd M) 0 0 12 [(0, .ref (g_N g + t)), (1, .int x1), (2, .int x2), (3, .int x3), (4, .int x4), (5, .int x5), (6, .int x6)] []) {x6 : Int32} {M : Mem} (q : Mem) (h : J_X11_playCouples_j61 t rec x1 x2 x3 x4 x5 x6 M = some q) (hOK : OK q) : EW X g (x_s X).heap.size n 7 (ent g Xo kd M) 0 0 61 [(0, .ref (g_N g + t)), (1, .int x1), (2, .int x2), (3, .int x3), (4, .int x4), (5, .int x5), (6, .int x6)] [] := by
  rw [J_X11_playCouples_j61] at h
  refine e_aload_n C 0 (dk dX11_playCouples_0 30 rfl) rfl rfl ?_
  refine gf_X11_sale C K ht fl_X11_51 (dk dX11_playCouples_0 31 rfl) ?_
  refine e_aload_n C 0 (dk dX11_playCouples_0 32 rfl) rfl rfl ?_
  obtain ⟨w6, hw6, h⟩ := ob h
  have gw6 := grd_some K (Or.inl ht) hw6
  refine gf_X11_plan C K ht fl_X11_19 (dk dX11_playCouples_0 33 rfl) ?_
  rw [gw6.1]
  refine e_aload_n C 0 (dk dX11_playCouples_0 34 rfl) rfl rfl ?_
  refine gf_X11_later C K ht fl_X11_44 (dk dX11_playCouples_0 35 rfl) ?_
  refine e_aload_n C 0 (dk dX11_playCouples_0 36 rfl) rfl rfl ?_
  obtain ⟨w7, hw7, h⟩ := ob h
  have gw7 := grd_some K (Or.inl ht) hw7
  refine gf_X11_plan C K ht fl_X11_19 (dk dX11_playCouples_0 37 rfl) ?_
  rw [gw7.1]
  refine e_aload_n C 0 (dk dX11_playCouples_0 38 rfl) rfl rfl ?_
  refine gf_X11_later C K ht fl_X11_44 (dk dX11_playCouples_0 39 rfl) ?_
  refine gf_X8_night C K (kd_X11_later K ht) fl_X11_134 (dk dX11_playCouples_0 40 rfl) ?_
  obtain ⟨q8, hq8, h⟩ := ob h
  refine e_callV (ci := 9) C cal_X9_fogOf im_X9_fogOf se_X9_fogOf ml_X11_137 rfl hR (by decide) (dk dX11_playCouples_0 41 rfl) (K.1 _ (by rw [gw7.2]; decide)) (ent_o9 gw7.2) (c_X9_fogOf K gw7.2 hq8) ⟨Nat.zero_le _, Nat.zero_le _⟩ (Nat.le_of_ble_eq_true rfl) rfl ?_
  obtain ⟨q9, hq9, h⟩ := ob h
  refine e_callV (ci := 6) C cal_X6_pass im_X6_pass se_X6_pass ml_X11_214 rfl hR (by decide) (dk dX11_playCouples_0 42 rfl) (K.1 _ (by rw [(kd_X11_sale K ht)]; decide)) (ent_o6 (kd_X11_sale K ht)) (c_X6_pass K (kd_X11_sale K ht) gw6.2 (kd_X11_later K ht) hq9) ⟨Nat.zero_le _, Nat.zero_le _⟩ (Nat.le_of_ble_eq_true rfl) rfl ?_
  refine e_aload_n C 0 (dk dX11_playCouples_0 43 rfl) rfl rfl ?_
  refine gf_X11_losses C K ht fl_X11_76 (dk dX11_playCouples_0 44 rfl) ?_
  refine e_iconst C 2 (dk dX11_playCouples_0 45 rfl) (by decide) ?_
  refine e_iload C 5 (dk dX11_playCouples_0 46 rfl) rfl ?_
  refine e_imul C (dk dX11_playCouples_0 47 rfl) ?_
  refine e_iload C 6 (dk dX11_playCouples_0 48 rfl) rfl ?_
  refine e_iadd C (dk dX11_playCouples_0 49 rfl) ?_
  refine e_iconst C 5 (dk dX11_playCouples_0 50 rfl) (by decide) ?_
  refine e_iload C 5 (dk dX11_playCouples_0 51 rfl) rfl ?_
  refine e_imul C (dk dX11_playCouples_0 52 rfl) ?_
  refine e_aload_n C 0 (dk dX11_playCouples_0 53 rfl) rfl rfl ?_
  refine e_iload_n C 1 (dk dX11_playCouples_0 54 rfl) rfl rfl ?_
  refine e_callV (ci := 11) C cal_X11_lossOf im_X11_lossOf se_X11_lossOf ml_X11_381 rfl hR (by decide) (dk dX11_playCouples_0 55 rfl) (K.1 _ (by rw [ht]; decide)) (ent_o11 ht) (c_X11_lossOf K ht (rfl : F_X11_lossOf t x1 q9 = _)) ⟨Nat.zero_le _, Nat.zero_le _⟩ (Nat.le_of_ble_eq_true rfl) rfl ?_
  refine e_iadd C (dk dX11_playCouples_0 56 rfl) ?_
  refine e_callS C cal_X11_put sm_X11_put ml_X11_374 hR (by decide) (dk dX11_playCouples_0 57 rfl) (c_X11_put K (kd_X11_losses K ht) (rfl : F_X11_put (t + 65) 4 ((2 * x5) + x6) ((5 * x5) + (F_X11_lossOf t x1 q9)) q9 = _)) ⟨Nat.zero_le _, Nat.zero_le _⟩ (Nat.le_of_ble_eq_true rfl) rfl ?_
  refine e_aload_n C 0 (dk dX11_playCouples_0 58 rfl) rfl rfl ?_
  refine gf_X11_otherLosses C K ht fl_X11_80 (dk dX11_playCouples_0 59 rfl) ?_
  refine e_iconst C 2 (dk dX11_playCouples_1 0 rfl) (by decide) ?_
  refine e_iload C 5 (dk dX11_playCouples_1 1 rfl) rfl ?_
  refine e_imul C (dk dX11_playCouples_1 2 rfl) ?_
  refine e_iload C 6 (dk dX11_playCouples_1 3 rfl) rfl ?_
  refine e_iadd C (dk dX11_playCouples_1 4 rfl) ?_
  refine e_iconst C 5 (dk dX11_playCouples_1 5 rfl) (by decide) ?_
  refine e_iload C 6 (dk dX11_playCouples_1 6 rfl) rfl ?_
  refine e_imul C (dk dX11_playCouples_1 7 rfl) ?_
  refine e_aload_n C 0 (dk dX11_playCouples_1 8 rfl) rfl rfl ?_
  refine e_iload_n C 2 (dk dX11_playCouples_1 9 rfl) rfl rfl ?_
  refine e_callV (ci := 11) C cal_X11_lossOf im_X11_lossOf se_X11_lossOf ml_X11_381 rfl hR (by decide) (dk dX11_playCouples_1 10 rfl) (K.1 _ (by rw [ht]; decide)) (ent_o11 ht) (c_X11_lossOf K ht (rfl : F_X11_lossOf t x2 (F_X11_put (t + 65) 4 ((2 * x5) + x6) ((5 * x5) + (F_X11_lossOf t x1 q9)) q9) = _)) ⟨Nat.zero_le _, Nat.zero_le _⟩ (Nat.le_of_ble_eq_true rfl) rfl ?_
  refine e_iadd C (dk dX11_playCouples_1 11 rfl) ?_
  refine e_callS C cal_X11_put sm_X11_put ml_X11_374 hR (by decide) (dk dX11_playCouples_1 12 rfl) (c_X11_put K (kd_X11_otherLosses K ht) (rfl : F_X11_put (t + 66) 4 ((2 * x5) + x6) ((5 * x6) + (F_X11_lossOf t x2 (F_X11_put (t + 65) 4 ((2 * x5) + x6) ((5 * x5) + (F_X11_lossOf t x1 q9)) q9))) (F_X11_put (t + 65) 4 ((2 * x5) + x6) ((5 * x5) + (F_X11_lossOf t x1 q9)) q9) = _)) ⟨Nat.zero_le _, Nat.zero_le _⟩ (Nat.le_of_ble_eq_true rfl) rfl ?_
  refine e_iinc C [(6, .int (x6 + 1)), (0, .ref (g_N g + t)), (1, .int x1), (2, .int x2), (3, .int x3), (4, .int x4), (5, .int x5)] 6 1 (dk dX11_playCouples_1 13 rfl) rfl (by decide) (by decide) rfl ?_
  refine e_goto C 12 (dk dX11_playCouples_1 14 rfl) (by decide) ?_
  refine e_lv [1, 2, 3, 4, 5, 6, 0] rfl ?_
  exact hrec _ _ _ h hOK
set_option maxRecDepth 20000 in
theorem j_X11_playCouples_j47 {X : FX} {g : WC} {Xo : Nat → va_E} {n : Nat} {kd : Nat → Nat} (C : Cx X g RX11 cX11_playCouples 7) (K : KD n kd) {t : Nat} (ht : kd t = 12) {x1 : Int32} {x2 : Int32} {x3 : Int32} {x4 : Int32} {x5 : Int32} (hR : x_R X = rm 6) {OK : Mem → Prop} (hx : ∀ s, OK s → EW X g (x_s X).heap.size n 7 (ent g Xo kd s) 0 0 144 [(0, .ref (g_N g + t)), (1, .int x1), (2, .int x2), (3, .int x3), (4, .int x4), (5, .int x5)] []) {rec : Int32 → Mem → Option (Mem)} (hrec : ∀ (x6 : Int32) (M : Mem) (q : Mem), rec x6 M = some q → OK q → EW X g (x_s X).heap.size n 7 (ent g Xo kd M) 0 0 12 [(0, .ref (g_N g + t)), (1, .int x1), (2, .int x2), (3, .int x3), (4, .int x4), (5, .int x5), (6, .int x6)] []) {x6 : Int32} {M : Mem} (q : Mem) (h : J_X11_playCouples_j47 t rec x1 x2 x3 x4 x5 x6 M = some q) (hOK : OK q) : EW X g (x_s X).heap.size n 7 (ent g Xo kd M) 0 0 47 [(0, .ref (g_N g + t)), (1, .int x1), (2, .int x2), (3, .int x3), (4, .int x4), (5, .int x5), (6, .int x6)] [] := by
  rw [J_X11_playCouples_j47] at h
  refine e_iload C 6 (dk dX11_playCouples_0 23 rfl) rfl ?_
  refine e_iconst C 1 (dk dX11_playCouples_0 24 rfl) (by decide) ?_
  refine e_icmp_ne C 61 (dk dX11_playCouples_0 25 rfl) (by decide) (fun c5 => ?_) (fun c5 => ?_)
  · rw [if_neg c5] at h
    exact j_X11_playCouples_j61 C K ht hR hx hrec _ h hOK
  · rw [if_pos c5] at h
    refine e_aload_n C 0 (dk dX11_playCouples_0 26 rfl) rfl rfl ?_
    refine gf_X11_later C K ht fl_X11_44 (dk dX11_playCouples_0 27 rfl) ?_
    refine e_iload_n C 2 (dk dX11_playCouples_0 28 rfl) rfl rfl ?_
    refine e_callV (ci := 8) C cal_X8_startBribing im_X8_startBribing se_X8_startBribing ml_X11_222 rfl hR (by decide) (dk dX11_playCouples_0 29 rfl) (K.1 _ (by rw [(kd_X11_later K ht)]; decide)) (ent_o8 (kd_X11_later K ht)) (c_X8_startBribing K (kd_X11_later K ht) (rfl : F_X8_startBribing (t + 48) x2 M = _)) ⟨Nat.zero_le _, Nat.zero_le _⟩ (Nat.le_of_ble_eq_true rfl) rfl ?_
    exact j_X11_playCouples_j61 C K ht hR hx hrec _ h hOK
set_option maxRecDepth 20000 in
theorem l_X11_playCouples_12 {X : FX} {g : WC} {Xo : Nat → va_E} {n : Nat} {kd : Nat → Nat} (C : Cx X g RX11 cX11_playCouples 7) (K : KD n kd) {t : Nat} (ht : kd t = 12) {x1 : Int32} {x2 : Int32} {x3 : Int32} {x4 : Int32} {x5 : Int32} (hR : x_R X = rm 6) {OK : Mem → Prop} (hx : ∀ s, OK s → EW X g (x_s X).heap.size n 7 (ent g Xo kd s) 0 0 144 [(0, .ref (g_N g + t)), (1, .int x1), (2, .int x2), (3, .int x3), (4, .int x4), (5, .int x5)] []) : ∀ (N9 : Nat) (x6 : Int32) (M : Mem) (q : Mem), L_X11_playCouples_12 t x1 x2 x3 x4 x5 N9 x6 M = some q → OK q → EW X g (x_s X).heap.size n 7 (ent g Xo kd M) 0 0 12 [(0, .ref (g_N g + t)), (1, .int x1), (2, .int x2), (3, .int x3), (4, .int x4), (5, .int x5), (6, .int x6)] [] := by
  intro N9
  induction N9 with
  | zero =>
    intro x6 M q h
    rw [L_X11_playCouples_12.eq_1] at h
    cases h
  | succ m9 ih =>
    intro x6 M q h hOK
    rw [L_X11_playCouples_12.eq_2] at h
    refine e_iload C 6 (dk dX11_playCouples_0 7 rfl) rfl ?_
    refine e_iload C 4 (dk dX11_playCouples_0 8 rfl) rfl ?_
    refine e_icmp_ge C 144 (dk dX11_playCouples_0 9 rfl) (by decide) (fun c2 => ?_) (fun c2 => ?_)
    · rw [if_pos c2] at h
      obtain rfl := Option.some.inj h
      refine e_lv [0, 1, 2, 3, 4, 5] rfl ?_
      exact hx _ hOK
    · rw [if_neg c2] at h
      refine e_aload_n C 0 (dk dX11_playCouples_0 10 rfl) rfl rfl ?_
      refine gf_X11_later C K ht fl_X11_44 (dk dX11_playCouples_0 11 rfl) ?_
      refine e_aload_n C 0 (dk dX11_playCouples_0 12 rfl) rfl rfl ?_
      refine gf_X11_book C K ht fl_X11_30 (dk dX11_playCouples_0 13 rfl) ?_
      refine gf_X0_town C K (kd_X11_book K ht) fl_X11_119 (dk dX11_playCouples_0 14 rfl) ?_
      obtain ⟨q3, hq3, h⟩ := ob h
      refine e_callV (ci := 8) C cal_X8_copy im_X8_copy se_X8_copy ml_X11_276 rfl hR (by decide) (dk dX11_playCouples_0 15 rfl) (K.1 _ (by rw [(kd_X11_later K ht)]; decide)) (ent_o8 (kd_X11_later K ht)) (c_X8_copy K (kd_X11_later K ht) (kd_X0_town K (kd_X11_book K ht)) hq3) ⟨Nat.zero_le _, Nat.zero_le _⟩ (Nat.le_of_ble_eq_true rfl) rfl ?_
      refine e_iload C 5 (dk dX11_playCouples_0 16 rfl) rfl ?_
      refine e_iconst C 1 (dk dX11_playCouples_0 17 rfl) (by decide) ?_
      refine e_icmp_ne C 47 (dk dX11_playCouples_0 18 rfl) (by decide) (fun c4 => ?_) (fun c4 => ?_)
      · rw [if_neg c4] at h
        exact j_X11_playCouples_j47 C K ht hR hx ih _ h hOK
      · rw [if_pos c4] at h
        refine e_aload_n C 0 (dk dX11_playCouples_0 19 rfl) rfl rfl ?_
        refine gf_X11_later C K ht fl_X11_44 (dk dX11_playCouples_0 20 rfl) ?_
        refine e_iload_n C 1 (dk dX11_playCouples_0 21 rfl) rfl rfl ?_
        refine e_callV (ci := 8) C cal_X8_startBribing im_X8_startBribing se_X8_startBribing ml_X11_222 rfl hR (by decide) (dk dX11_playCouples_0 22 rfl) (K.1 _ (by rw [(kd_X11_later K ht)]; decide)) (ent_o8 (kd_X11_later K ht)) (c_X8_startBribing K (kd_X11_later K ht) (rfl : F_X8_startBribing (t + 48) x1 q3 = _)) ⟨Nat.zero_le _, Nat.zero_le _⟩ (Nat.le_of_ble_eq_true rfl) rfl ?_
        exact j_X11_playCouples_j47 C K ht hR hx ih _ h hOK
set_option maxRecDepth 20000 in
theorem lb_X11_playCouples_12 {X : FX} {g : WC} {Xo : Nat → va_E} {n : Nat} {kd : Nat → Nat} (C : Cx X g RX11 cX11_playCouples 7) (K : KD n kd) {t : Nat} (ht : kd t = 12) {x1 : Int32} {x2 : Int32} {x3 : Int32} {x4 : Int32} {x5 : Int32} (hR : x_R X = rm 6) {T9 : Type} {f9 : Mem → Option T9} {b9 : T9} (hx : ∀ s, f9 s = some b9 → EW X g (x_s X).heap.size n 7 (ent g Xo kd s) 0 0 144 [(0, .ref (g_N g + t)), (1, .int x1), (2, .int x2), (3, .int x3), (4, .int x4), (5, .int x5)] []) {x6 : Int32} {M : Mem} (h : (L_X11_playCouples_12 t x1 x2 x3 x4 x5 FU x6 M).bind f9 = some b9) : EW X g (x_s X).heap.size n 7 (ent g Xo kd M) 0 0 12 [(0, .ref (g_N g + t)), (1, .int x1), (2, .int x2), (3, .int x3), (4, .int x4), (5, .int x5), (6, .int x6)] [] := by
  obtain ⟨q, hq, h⟩ := ob h
  exact l_X11_playCouples_12 C K ht hR (OK := fun q => f9 q = some b9) hx FU x6 M q hq h
set_option maxRecDepth 20000 in
theorem l_X11_playCouples_3 {X : FX} {g : WC} {Xo : Nat → va_E} {n : Nat} {kd : Nat → Nat} (C : Cx X g RX11 cX11_playCouples 7) (K : KD n kd) {t : Nat} (ht : kd t = 12) {x1 : Int32} {x2 : Int32} {x3 : Int32} {x4 : Int32} (hR : x_R X = rm 6) {OK : Mem → Prop} (hx : ∀ s, OK s → EW X g (x_s X).heap.size n 7 (ent g Xo kd s) 0 0 150 [] []) : ∀ (N9 : Nat) (x5 : Int32) (M : Mem) (q : Mem), L_X11_playCouples_3 t x1 x2 x3 x4 N9 x5 M = some q → OK q → EW X g (x_s X).heap.size n 7 (ent g Xo kd M) 0 0 3 [(0, .ref (g_N g + t)), (1, .int x1), (2, .int x2), (3, .int x3), (4, .int x4), (5, .int x5)] [] := by
  intro N9
  induction N9 with
  | zero =>
    intro x5 M q h
    rw [L_X11_playCouples_3.eq_1] at h
    cases h
  | succ m9 ih =>
    intro x5 M q h hOK
    rw [L_X11_playCouples_3.eq_2] at h
    refine e_iload C 5 (dk dX11_playCouples_0 2 rfl) rfl ?_
    refine e_iload_n C 3 (dk dX11_playCouples_0 3 rfl) rfl rfl ?_
    refine e_icmp_ge C 150 (dk dX11_playCouples_0 4 rfl) (by decide) (fun c1 => ?_) (fun c1 => ?_)
    · rw [if_pos c1] at h
      obtain rfl := Option.some.inj h
      refine e_lv [] rfl ?_
      exact hx _ hOK
    · rw [if_neg c1] at h
      refine e_iconst C 0 (dk dX11_playCouples_0 5 rfl) (by decide) ?_
      refine e_istore C [(6, .int 0), (0, .ref (g_N g + t)), (1, .int x1), (2, .int x2), (3, .int x3), (4, .int x4), (5, .int x5)] (dk dX11_playCouples_0 6 rfl) (by decide) rfl ?_
      refine e_lv [1, 2, 3, 4, 5, 6, 0] rfl ?_
      refine lb_X11_playCouples_12 C K ht hR (fun s11 h => ?_) h
      refine e_iinc C [(5, .int (x5 + 1)), (0, .ref (g_N g + t)), (1, .int x1), (2, .int x2), (3, .int x3), (4, .int x4)] 5 1 (dk dX11_playCouples_1 15 rfl) rfl (by decide) (by decide) rfl ?_
      refine e_goto C 3 (dk dX11_playCouples_1 16 rfl) (by decide) ?_
      refine e_lv [1, 2, 3, 4, 5, 0] rfl ?_
      exact ih _ _ _ h hOK
set_option maxRecDepth 20000 in
theorem lb_X11_playCouples_3 {X : FX} {g : WC} {Xo : Nat → va_E} {n : Nat} {kd : Nat → Nat} (C : Cx X g RX11 cX11_playCouples 7) (K : KD n kd) {t : Nat} (ht : kd t = 12) {x1 : Int32} {x2 : Int32} {x3 : Int32} {x4 : Int32} (hR : x_R X = rm 6) {T9 : Type} {f9 : Mem → Option T9} {b9 : T9} (hx : ∀ s, f9 s = some b9 → EW X g (x_s X).heap.size n 7 (ent g Xo kd s) 0 0 150 [] []) {x5 : Int32} {M : Mem} (h : (L_X11_playCouples_3 t x1 x2 x3 x4 FU x5 M).bind f9 = some b9) : EW X g (x_s X).heap.size n 7 (ent g Xo kd M) 0 0 3 [(0, .ref (g_N g + t)), (1, .int x1), (2, .int x2), (3, .int x3), (4, .int x4), (5, .int x5)] [] := by
  obtain ⟨q, hq, h⟩ := ob h
  exact l_X11_playCouples_3 C K ht hR (OK := fun q => f9 q = some b9) hx FU x5 M q hq h
set_option maxRecDepth 20000 in
theorem c_X11_playCouples {g : WC} {Xo : Nat → va_E} {n : Nat} {kd : Nat → Nat} (K : KD n kd) {t : Nat} {p0 : Int32} {p1 : Int32} {p2 : Int32} {p3 : Int32} (ht : kd t = 12) {M : Mem} {res : Mem} (h : F_X11_playCouples t p0 p1 p2 p3 M = some res) : MC g yX11_playCouples cX11_playCouples 7 none 6 n [.ref (g_N g + t), .int p0, .int p1, .int p2, .int p3] (ent g Xo kd M) none (ent g Xo kd res) := by
  refine MC_of pn_X11 (Nat.le_of_ble_eq_true rfl) (fun X C B => ?_)
  have hR := B.1
  rw [F_X11_playCouples] at h
  refine e_iconst C 0 (dk dX11_playCouples_0 0 rfl) (by decide) ?_
  refine e_istore C [(5, .int 0), (0, .ref (g_N g + t)), (1, .int p0), (2, .int p1), (3, .int p2), (4, .int p3)] (dk dX11_playCouples_0 1 rfl) (by decide) rfl ?_
  refine e_lv [1, 2, 3, 4, 5, 0] rfl ?_
  refine lb_X11_playCouples_3 C K ht hR (fun s13 h => ?_) h
  obtain rfl := Option.some.inj h
  exact e_vret C B (dk dX11_playCouples_1 17 rfl)
set_option maxRecDepth 20000 in
theorem j_X3_giveOut_j76 {X : FX} {g : WC} {Xo : Nat → va_E} {n : Nat} {kd : Nat → Nat} (C : Cx X g RX3 cX3_giveOut 7) (K : KD n kd) {t : Nat} {w0 : Nat} {w1 : Nat} {w2 : Nat} (ht : kd t = 4) (hw0 : kd w0 = 10) (hw1 : kd w1 = 9) (hw2 : kd w2 = 7) {x4 : Int32} (hR : x_R X = rm 4) {OK : Mem → Prop} (hx : ∀ s, OK s → EW X g (x_s X).heap.size n 7 (ent g Xo kd s) 0 0 85 [(0, .ref (g_N g + t)), (1, .ref (g_N g + w0)), (2, .ref (g_N g + w1)), (3, .ref (g_N g + w2)), (4, .int x4)] []) {rec : Int32 → Mem → Option (Mem)} (hrec : ∀ (x5 : Int32) (M : Mem) (q : Mem), rec x5 M = some q → OK q → EW X g (x_s X).heap.size n 7 (ent g Xo kd M) 0 0 13 [(0, .ref (g_N g + t)), (1, .ref (g_N g + w0)), (2, .ref (g_N g + w1)), (3, .ref (g_N g + w2)), (4, .int x4), (5, .int x5)] []) {x5 : Int32} {y1 : Int32} {y2 : Int32} {M : Mem} (q : Mem) (h : J_X3_giveOut_j76 t w0 w1 w2 rec x4 x5 y1 y2 M = some q) (hOK : OK q) : EW X g (x_s X).heap.size n 7 (ent g Xo kd M) 0 0 76 [(0, .ref (g_N g + t)), (1, .ref (g_N g + w0)), (2, .ref (g_N g + w1)), (3, .ref (g_N g + w2)), (4, .int x4), (5, .int x5)] [.int y2, .int y1, .ref (g_N g + (t + 1))] := by
  rw [J_X3_giveOut_j76] at h
  refine e_callSN C cal_X11_put sm_X11_put mn_X3_37 hR (by decide) (dk dX3_giveOut_0 39 rfl) (c_X11_put K (kd_X3_bids K ht) (rfl : F_X11_put (t + 1) 49 y1 y2 M = _)) ⟨Nat.zero_le _, Nat.zero_le _⟩ (Nat.le_of_ble_eq_true rfl) rfl ?_
  refine e_iinc C [(5, .int (x5 + 1)), (0, .ref (g_N g + t)), (1, .ref (g_N g + w0)), (2, .ref (g_N g + w1)), (3, .ref (g_N g + w2)), (4, .int x4)] 5 1 (dk dX3_giveOut_0 40 rfl) rfl (by decide) (by decide) rfl ?_
  refine e_goto C 13 (dk dX3_giveOut_0 41 rfl) (by decide) ?_
  refine e_lv [1, 2, 3, 4, 5, 0] rfl ?_
  exact hrec _ _ _ h hOK
set_option maxRecDepth 20000 in
theorem j_X3_giveOut_j43 {X : FX} {g : WC} {Xo : Nat → va_E} {n : Nat} {kd : Nat → Nat} (C : Cx X g RX3 cX3_giveOut 7) (K : KD n kd) {t : Nat} {w0 : Nat} {w1 : Nat} {w2 : Nat} (ht : kd t = 4) (hw0 : kd w0 = 10) (hw1 : kd w1 = 9) (hw2 : kd w2 = 7) {x4 : Int32} (hR : x_R X = rm 4) {OK : Mem → Prop} (hx : ∀ s, OK s → EW X g (x_s X).heap.size n 7 (ent g Xo kd s) 0 0 85 [(0, .ref (g_N g + t)), (1, .ref (g_N g + w0)), (2, .ref (g_N g + w1)), (3, .ref (g_N g + w2)), (4, .int x4)] []) {rec : Int32 → Mem → Option (Mem)} (hrec : ∀ (x5 : Int32) (M : Mem) (q : Mem), rec x5 M = some q → OK q → EW X g (x_s X).heap.size n 7 (ent g Xo kd M) 0 0 13 [(0, .ref (g_N g + t)), (1, .ref (g_N g + w0)), (2, .ref (g_N g + w1)), (3, .ref (g_N g + w2)), (4, .int x4), (5, .int x5)] []) {x5 : Int32} {y0 : Int32} {M : Mem} (q : Mem) (h : J_X3_giveOut_j43 t w0 w1 w2 rec x4 x5 y0 M = some q) (hOK : OK q) : EW X g (x_s X).heap.size n 7 (ent g Xo kd M) 0 0 43 [(0, .ref (g_N g + t)), (1, .ref (g_N g + w0)), (2, .ref (g_N g + w1)), (3, .ref (g_N g + w2)), (4, .int x4), (5, .int x5)] [.int y0] := by
  rw [J_X3_giveOut_j43] at h
  refine e_istore C [(6, .int y0), (0, .ref (g_N g + t)), (1, .ref (g_N g + w0)), (2, .ref (g_N g + w1)), (3, .ref (g_N g + w2)), (4, .int x4), (5, .int x5)] (dk dX3_giveOut_0 21 rfl) (by decide) rfl ?_
  refine e_aload_n C 1 (dk dX3_giveOut_0 22 rfl) rfl rfl ?_
  refine gf_X3_bids C K ht fl_X3_9 (dk dX3_giveOut_0 23 rfl) ?_
  refine e_iload C 5 (dk dX3_giveOut_0 24 rfl) rfl ?_
  refine e_bipush C 7 (dk dX3_giveOut_0 25 rfl) (by decide) ?_
  refine e_imul C (dk dX3_giveOut_0 26 rfl) ?_
  refine e_iload C 6 (dk dX3_giveOut_0 27 rfl) rfl ?_
  refine e_iadd C (dk dX3_giveOut_0 28 rfl) ?_
  refine e_iload C 0 (dk dX3_giveOut_0 29 rfl) rfl ?_
  refine e_if_eq C 75 (dk dX3_giveOut_0 30 rfl) (by decide) (fun c4 => ?_) (fun c4 => ?_)
  · rw [if_pos c4] at h
    refine e_iconst C 0 (dk dX3_giveOut_0 38 rfl) (by decide) ?_
    refine e_lv [1, 2, 3, 4, 5, 6] rfl ?_
    exact j_X3_giveOut_j76 C K ht hw0 hw1 hw2 hR hx hrec _ h hOK
  · rw [if_neg c4] at h
    refine e_aload_n C 4 (dk dX3_giveOut_0 31 rfl) rfl rfl ?_
    refine e_aload_n C 2 (dk dX3_giveOut_0 32 rfl) rfl rfl ?_
    refine e_aload_n C 3 (dk dX3_giveOut_0 33 rfl) rfl rfl ?_
    refine e_iload C 6 (dk dX3_giveOut_0 34 rfl) rfl ?_
    refine e_iload C 5 (dk dX3_giveOut_0 35 rfl) rfl ?_
    obtain ⟨q5, hq5, h⟩ := ob h
    refine e_callV (ci := 6) C cal_X6_bid im_X6_bid se_X6_bid ml_X3_33 rfl hR (by decide) (dk dX3_giveOut_0 36 rfl) (K.1 _ (by rw [hw2]; decide)) (ent_o6 hw2) (c_X6_bid K hw2 hw0 hw1 hq5) ⟨Nat.zero_le _, Nat.zero_le _⟩ (Nat.le_of_ble_eq_true rfl) rfl ?_
    refine e_goto C 76 (dk dX3_giveOut_0 37 rfl) (by decide) ?_
    refine e_lv [1, 2, 3, 4, 5, 6] rfl ?_
    exact j_X3_giveOut_j76 C K ht hw0 hw1 hw2 hR hx hrec _ h hOK
set_option maxRecDepth 20000 in
theorem j_X3_giveOut_j42 {X : FX} {g : WC} {Xo : Nat → va_E} {n : Nat} {kd : Nat → Nat} (C : Cx X g RX3 cX3_giveOut 7) (K : KD n kd) {t : Nat} {w0 : Nat} {w1 : Nat} {w2 : Nat} (ht : kd t = 4) (hw0 : kd w0 = 10) (hw1 : kd w1 = 9) (hw2 : kd w2 = 7) {x4 : Int32} (hR : x_R X = rm 4) {OK : Mem → Prop} (hx : ∀ s, OK s → EW X g (x_s X).heap.size n 7 (ent g Xo kd s) 0 0 85 [(0, .ref (g_N g + t)), (1, .ref (g_N g + w0)), (2, .ref (g_N g + w1)), (3, .ref (g_N g + w2)), (4, .int x4)] []) {rec : Int32 → Mem → Option (Mem)} (hrec : ∀ (x5 : Int32) (M : Mem) (q : Mem), rec x5 M = some q → OK q → EW X g (x_s X).heap.size n 7 (ent g Xo kd M) 0 0 13 [(0, .ref (g_N g + t)), (1, .ref (g_N g + w0)), (2, .ref (g_N g + w1)), (3, .ref (g_N g + w2)), (4, .int x4), (5, .int x5)] []) {x5 : Int32} {M : Mem} (q : Mem) (h : J_X3_giveOut_j42 t w0 w1 w2 rec x4 x5 M = some q) (hOK : OK q) : EW X g (x_s X).heap.size n 7 (ent g Xo kd M) 0 0 42 [(0, .ref (g_N g + t)), (1, .ref (g_N g + w0)), (2, .ref (g_N g + w1)), (3, .ref (g_N g + w2)), (4, .int x4), (5, .int x5)] [] := by
  rw [J_X3_giveOut_j42] at h
  refine e_iconst C 0 (dk dX3_giveOut_0 20 rfl) (by decide) ?_
  exact j_X3_giveOut_j43 C K ht hw0 hw1 hw2 hR hx hrec _ h hOK
set_option maxRecDepth 20000 in
theorem l_X3_giveOut_13 {X : FX} {g : WC} {Xo : Nat → va_E} {n : Nat} {kd : Nat → Nat} (C : Cx X g RX3 cX3_giveOut 7) (K : KD n kd) {t : Nat} {w0 : Nat} {w1 : Nat} {w2 : Nat} (ht : kd t = 4) (hw0 : kd w0 = 10) (hw1 : kd w1 = 9) (hw2 : kd w2 = 7) {x4 : Int32} (hR : x_R X = rm 4) {OK : Mem → Prop} (hx : ∀ s, OK s → EW X g (x_s X).heap.size n 7 (ent g Xo kd s) 0 0 85 [(0, .ref (g_N g + t)), (1, .ref (g_N g + w0)), (2, .ref (g_N g + w1)), (3, .ref (g_N g + w2)), (4, .int x4)] []) : ∀ (N9 : Nat) (x5 : Int32) (M : Mem) (q : Mem), L_X3_giveOut_13 t w0 w1 w2 x4 N9 x5 M = some q → OK q → EW X g (x_s X).heap.size n 7 (ent g Xo kd M) 0 0 13 [(0, .ref (g_N g + t)), (1, .ref (g_N g + w0)), (2, .ref (g_N g + w1)), (3, .ref (g_N g + w2)), (4, .int x4), (5, .int x5)] [] := by
  intro N9
  induction N9 with
  | zero =>
    intro x5 M q h
    rw [L_X3_giveOut_13.eq_1] at h
    cases h
  | succ m9 ih =>
    intro x5 M q h hOK
    rw [L_X3_giveOut_13.eq_2] at h
    refine e_iload C 5 (dk dX3_giveOut_0 7 rfl) rfl ?_
    refine e_bipush C 7 (dk dX3_giveOut_0 8 rfl) (by decide) ?_
    refine e_icmp_ge C 85 (dk dX3_giveOut_0 9 rfl) (by decide) (fun c2 => ?_) (fun c2 => ?_)
    · rw [if_pos c2] at h
      obtain rfl := Option.some.inj h
      refine e_lv [0, 1, 2, 3, 4] rfl ?_
      exact hx _ hOK
    · rw [if_neg c2] at h
      refine e_iload C 5 (dk dX3_giveOut_0 10 rfl) rfl ?_
      refine e_aload_n C 1 (dk dX3_giveOut_0 11 rfl) rfl rfl ?_
      refine gf_X9_people C K hw0 fl_X3_21 (dk dX3_giveOut_0 12 rfl) ?_
      refine e_icmp_ge C 42 (dk dX3_giveOut_0 13 rfl) (by decide) (fun c3 => ?_) (fun c3 => ?_)
      · rw [if_pos c3] at h
        exact j_X3_giveOut_j42 C K ht hw0 hw1 hw2 hR hx ih _ h hOK
      · rw [if_neg c3] at h
        refine e_aload_n C 3 (dk dX3_giveOut_0 14 rfl) rfl rfl ?_
        refine e_iload C 4 (dk dX3_giveOut_0 15 rfl) rfl ?_
        refine e_callV (ci := 6) C cal_X6_hasLot im_X6_hasLot se_X6_hasLot ml_X3_27 rfl hR (by decide) (dk dX3_giveOut_0 16 rfl) (K.1 _ (by rw [hw2]; decide)) (ent_o6 hw2) (c_X6_hasLot K hw2 (rfl : F_X6_hasLot w2 x4 M = _)) ⟨Nat.zero_le _, Nat.zero_le _⟩ (Nat.le_of_ble_eq_true rfl) rfl ?_
        refine e_if_eq C 42 (dk dX3_giveOut_0 17 rfl) (by decide) (fun c6 => ?_) (fun c6 => ?_)
        · rw [if_pos c6] at h
          exact j_X3_giveOut_j42 C K ht hw0 hw1 hw2 hR hx ih _ h hOK
        · rw [if_neg c6] at h
          refine e_iconst C 1 (dk dX3_giveOut_0 18 rfl) (by decide) ?_
          refine e_goto C 43 (dk dX3_giveOut_0 19 rfl) (by decide) ?_
          exact j_X3_giveOut_j43 C K ht hw0 hw1 hw2 hR hx ih _ h hOK
set_option maxRecDepth 20000 in
theorem lb_X3_giveOut_13 {X : FX} {g : WC} {Xo : Nat → va_E} {n : Nat} {kd : Nat → Nat} (C : Cx X g RX3 cX3_giveOut 7) (K : KD n kd) {t : Nat} {w0 : Nat} {w1 : Nat} {w2 : Nat} (ht : kd t = 4) (hw0 : kd w0 = 10) (hw1 : kd w1 = 9) (hw2 : kd w2 = 7) {x4 : Int32} (hR : x_R X = rm 4) {T9 : Type} {f9 : Mem → Option T9} {b9 : T9} (hx : ∀ s, f9 s = some b9 → EW X g (x_s X).heap.size n 7 (ent g Xo kd s) 0 0 85 [(0, .ref (g_N g + t)), (1, .ref (g_N g + w0)), (2, .ref (g_N g + w1)), (3, .ref (g_N g + w2)), (4, .int x4)] []) {x5 : Int32} {M : Mem} (h : (L_X3_giveOut_13 t w0 w1 w2 x4 FU x5 M).bind f9 = some b9) : EW X g (x_s X).heap.size n 7 (ent g Xo kd M) 0 0 13 [(0, .ref (g_N g + t)), (1, .ref (g_N g + w0)), (2, .ref (g_N g + w1)), (3, .ref (g_N g + w2)), (4, .int x4), (5, .int x5)] [] := by
  obtain ⟨q, hq, h⟩ := ob h
  exact l_X3_giveOut_13 C K ht hw0 hw1 hw2 hR (OK := fun q => f9 q = some b9) hx FU x5 M q hq h
set_option maxRecDepth 20000 in
theorem l_X3_giveOut_3 {X : FX} {g : WC} {Xo : Nat → va_E} {n : Nat} {kd : Nat → Nat} (C : Cx X g RX3 cX3_giveOut 7) (K : KD n kd) {t : Nat} {w0 : Nat} {w1 : Nat} {w2 : Nat} (ht : kd t = 4) (hw0 : kd w0 = 10) (hw1 : kd w1 = 9) (hw2 : kd w2 = 7) (hR : x_R X = rm 4) {OK : Mem → Prop} (hx : ∀ s, OK s → EW X g (x_s X).heap.size n 7 (ent g Xo kd s) 0 0 91 [(0, .ref (g_N g + t))] []) : ∀ (N9 : Nat) (x4 : Int32) (M : Mem) (q : Mem), L_X3_giveOut_3 t w0 w1 w2 N9 x4 M = some q → OK q → EW X g (x_s X).heap.size n 7 (ent g Xo kd M) 0 0 3 [(0, .ref (g_N g + t)), (1, .ref (g_N g + w0)), (2, .ref (g_N g + w1)), (3, .ref (g_N g + w2)), (4, .int x4)] [] := by
  intro N9
  induction N9 with
  | zero =>
    intro x4 M q h
    rw [L_X3_giveOut_3.eq_1] at h
    cases h
  | succ m9 ih =>
    intro x4 M q h hOK
    rw [L_X3_giveOut_3.eq_2] at h
    refine e_iload C 4 (dk dX3_giveOut_0 2 rfl) rfl ?_
    refine e_bipush C 7 (dk dX3_giveOut_0 3 rfl) (by decide) ?_
    refine e_icmp_ge C 91 (dk dX3_giveOut_0 4 rfl) (by decide) (fun c1 => ?_) (fun c1 => ?_)
    · rw [if_pos c1] at h
      obtain rfl := Option.some.inj h
      refine e_lv [0] rfl ?_
      exact hx _ hOK
    · rw [if_neg c1] at h
      refine e_iconst C 0 (dk dX3_giveOut_0 5 rfl) (by decide) ?_
      refine e_istore C [(5, .int 0), (0, .ref (g_N g + t)), (1, .ref (g_N g + w0)), (2, .ref (g_N g + w1)), (3, .ref (g_N g + w2)), (4, .int x4)] (dk dX3_giveOut_0 6 rfl) (by decide) rfl ?_
      refine e_lv [1, 2, 3, 4, 5, 0] rfl ?_
      refine lb_X3_giveOut_13 C K ht hw0 hw1 hw2 hR (fun s8 h => ?_) h
      refine e_iinc C [(4, .int (x4 + 1)), (0, .ref (g_N g + t)), (1, .ref (g_N g + w0)), (2, .ref (g_N g + w1)), (3, .ref (g_N g + w2))] 4 1 (dk dX3_giveOut_0 42 rfl) rfl (by decide) (by decide) rfl ?_
      refine e_goto C 3 (dk dX3_giveOut_0 43 rfl) (by decide) ?_
      refine e_lv [1, 2, 3, 4, 0] rfl ?_
      exact ih _ _ _ h hOK
set_option maxRecDepth 20000 in
theorem lb_X3_giveOut_3 {X : FX} {g : WC} {Xo : Nat → va_E} {n : Nat} {kd : Nat → Nat} (C : Cx X g RX3 cX3_giveOut 7) (K : KD n kd) {t : Nat} {w0 : Nat} {w1 : Nat} {w2 : Nat} (ht : kd t = 4) (hw0 : kd w0 = 10) (hw1 : kd w1 = 9) (hw2 : kd w2 = 7) (hR : x_R X = rm 4) {T9 : Type} {f9 : Mem → Option T9} {b9 : T9} (hx : ∀ s, f9 s = some b9 → EW X g (x_s X).heap.size n 7 (ent g Xo kd s) 0 0 91 [(0, .ref (g_N g + t))] []) {x4 : Int32} {M : Mem} (h : (L_X3_giveOut_3 t w0 w1 w2 FU x4 M).bind f9 = some b9) : EW X g (x_s X).heap.size n 7 (ent g Xo kd M) 0 0 3 [(0, .ref (g_N g + t)), (1, .ref (g_N g + w0)), (2, .ref (g_N g + w1)), (3, .ref (g_N g + w2)), (4, .int x4)] [] := by
  obtain ⟨q, hq, h⟩ := ob h
  exact l_X3_giveOut_3 C K ht hw0 hw1 hw2 hR (OK := fun q => f9 q = some b9) hx FU x4 M q hq h
set_option maxRecDepth 20000 in
theorem l_X3_giveOut_103 {X : FX} {g : WC} {Xo : Nat → va_E} {n : Nat} {kd : Nat → Nat} (C : Cx X g RX3 cX3_giveOut 7) (K : KD n kd) {t : Nat} {w0 : Nat} {w1 : Nat} {w2 : Nat} (ht : kd t = 4) (hw0 : kd w0 = 10) (hw1 : kd w1 = 9) (hw2 : kd w2 = 7) {x4 : Int32} (hR : x_R X = rm 4) {OK : Mem → Prop} (hx : ∀ s, OK s → EW X g (x_s X).heap.size n 7 (ent g Xo kd s) 0 0 141 [(0, .ref (g_N g + t)), (4, .int x4)] []) : ∀ (N9 : Nat) (x5 : Int32) (M : Mem) (q : Mem), L_X3_giveOut_103 t w0 w1 w2 x4 N9 x5 M = some q → OK q → EW X g (x_s X).heap.size n 7 (ent g Xo kd M) 0 0 103 [(0, .ref (g_N g + t)), (4, .int x4), (5, .int x5)] [] := by
  intro N9
  induction N9 with
  | zero =>
    intro x5 M q h
    rw [L_X3_giveOut_103.eq_1] at h
    cases h
  | succ m9 ih =>
    intro x5 M q h hOK
    rw [L_X3_giveOut_103.eq_2] at h
    refine e_iload C 2 (dk dX3_giveOut_0 50 rfl) rfl ?_
    refine e_sipush C 128 (dk dX3_giveOut_0 51 rfl) (by decide) ?_
    refine e_icmp_ge C 141 (dk dX3_giveOut_0 52 rfl) (by decide) (fun c12 => ?_) (fun c12 => ?_)
    · rw [if_pos c12] at h
      obtain rfl := Option.some.inj h
      refine e_lv [0, 1] rfl ?_
      exact hx _ hOK
    · rw [if_neg c12] at h
      refine e_aload_n C 0 (dk dX3_giveOut_0 53 rfl) rfl rfl ?_
      refine gf_X3_best C K ht fl_X3_15 (dk dX3_giveOut_0 54 rfl) ?_
      refine e_iload C 1 (dk dX3_giveOut_0 55 rfl) rfl ?_
      refine e_sipush C 128 (dk dX3_giveOut_0 56 rfl) (by decide) ?_
      refine e_imul C (dk dX3_giveOut_0 57 rfl) ?_
      refine e_iload C 2 (dk dX3_giveOut_0 58 rfl) rfl ?_
      refine e_iadd C (dk dX3_giveOut_0 59 rfl) ?_
      refine e_aload_n C 0 (dk dX3_giveOut_1 0 rfl) rfl rfl ?_
      refine e_iload C 1 (dk dX3_giveOut_1 1 rfl) rfl ?_
      refine e_iload C 2 (dk dX3_giveOut_1 2 rfl) rfl ?_
      obtain ⟨q13, hq13, h⟩ := ob h
      refine e_callV (ci := 3) C cal_X3_bestFrom im_X3_bestFrom se_X3_bestFrom ml_X3_41 rfl hR (by decide) (dk dX3_giveOut_1 3 rfl) (K.1 _ (by rw [ht]; decide)) (ent_o3 ht) (c_X3_bestFrom K ht hq13) ⟨Nat.zero_le _, Nat.zero_le _⟩ (Nat.le_of_ble_eq_true rfl) rfl ?_
      refine e_callSN C cal_X11_put sm_X11_put mn_X3_37 hR (by decide) (dk dX3_giveOut_1 4 rfl) (c_X11_put K (kd_X3_best K ht) (rfl : F_X11_put (t + 2) 1024 ((x4 * 128) + x5) q13 M = _)) ⟨Nat.zero_le _, Nat.zero_le _⟩ (Nat.le_of_ble_eq_true rfl) rfl ?_
      refine e_iinc C [(5, .int (x5 + 1)), (0, .ref (g_N g + t)), (4, .int x4)] 2 1 (dk dX3_giveOut_1 5 rfl) rfl (by decide) (by decide) rfl ?_
      refine e_goto C 103 (dk dX3_giveOut_1 6 rfl) (by decide) ?_
      refine e_lv [1, 2, 0] rfl ?_
      exact ih _ _ _ h hOK
set_option maxRecDepth 20000 in
theorem lb_X3_giveOut_103 {X : FX} {g : WC} {Xo : Nat → va_E} {n : Nat} {kd : Nat → Nat} (C : Cx X g RX3 cX3_giveOut 7) (K : KD n kd) {t : Nat} {w0 : Nat} {w1 : Nat} {w2 : Nat} (ht : kd t = 4) (hw0 : kd w0 = 10) (hw1 : kd w1 = 9) (hw2 : kd w2 = 7) {x4 : Int32} (hR : x_R X = rm 4) {T9 : Type} {f9 : Mem → Option T9} {b9 : T9} (hx : ∀ s, f9 s = some b9 → EW X g (x_s X).heap.size n 7 (ent g Xo kd s) 0 0 141 [(0, .ref (g_N g + t)), (4, .int x4)] []) {x5 : Int32} {M : Mem} (h : (L_X3_giveOut_103 t w0 w1 w2 x4 FU x5 M).bind f9 = some b9) : EW X g (x_s X).heap.size n 7 (ent g Xo kd M) 0 0 103 [(0, .ref (g_N g + t)), (4, .int x4), (5, .int x5)] [] := by
  obtain ⟨q, hq, h⟩ := ob h
  exact l_X3_giveOut_103 C K ht hw0 hw1 hw2 hR (OK := fun q => f9 q = some b9) hx FU x5 M q hq h
set_option maxRecDepth 20000 in
theorem l_X3_giveOut_95 {X : FX} {g : WC} {Xo : Nat → va_E} {n : Nat} {kd : Nat → Nat} (C : Cx X g RX3 cX3_giveOut 7) (K : KD n kd) {t : Nat} {w0 : Nat} {w1 : Nat} {w2 : Nat} (ht : kd t = 4) (hw0 : kd w0 = 10) (hw1 : kd w1 = 9) (hw2 : kd w2 = 7) (hR : x_R X = rm 4) {OK : Mem → Prop} (hx : ∀ s, OK s → EW X g (x_s X).heap.size n 7 (ent g Xo kd s) 0 0 147 [(0, .ref (g_N g + t))] []) : ∀ (N9 : Nat) (x4 : Int32) (M : Mem) (q : Mem), L_X3_giveOut_95 t w0 w1 w2 N9 x4 M = some q → OK q → EW X g (x_s X).heap.size n 7 (ent g Xo kd M) 0 0 95 [(0, .ref (g_N g + t)), (4, .int x4)] [] := by
  intro N9
  induction N9 with
  | zero =>
    intro x4 M q h
    rw [L_X3_giveOut_95.eq_1] at h
    cases h
  | succ m9 ih =>
    intro x4 M q h hOK
    rw [L_X3_giveOut_95.eq_2] at h
    refine e_iload C 1 (dk dX3_giveOut_0 46 rfl) rfl ?_
    refine e_if_lt C 147 (dk dX3_giveOut_0 47 rfl) (by decide) (fun c11 => ?_) (fun c11 => ?_)
    · rw [if_pos c11] at h
      obtain rfl := Option.some.inj h
      refine e_lv [0] rfl ?_
      exact hx _ hOK
    · rw [if_neg c11] at h
      refine e_iconst C 0 (dk dX3_giveOut_0 48 rfl) (by decide) ?_
      refine e_istore C [(5, .int 0), (0, .ref (g_N g + t)), (4, .int x4)] (dk dX3_giveOut_0 49 rfl) (by decide) rfl ?_
      refine e_lv [1, 2, 0] rfl ?_
      refine lb_X3_giveOut_103 C K ht hw0 hw1 hw2 hR (fun s15 h => ?_) h
      refine e_iinc C [(4, .int (x4 + (-1))), (0, .ref (g_N g + t))] 1 (-1) (dk dX3_giveOut_1 7 rfl) rfl (by decide) (by decide) rfl ?_
      refine e_goto C 95 (dk dX3_giveOut_1 8 rfl) (by decide) ?_
      refine e_lv [1, 0] rfl ?_
      exact ih _ _ _ h hOK
set_option maxRecDepth 20000 in
theorem lb_X3_giveOut_95 {X : FX} {g : WC} {Xo : Nat → va_E} {n : Nat} {kd : Nat → Nat} (C : Cx X g RX3 cX3_giveOut 7) (K : KD n kd) {t : Nat} {w0 : Nat} {w1 : Nat} {w2 : Nat} (ht : kd t = 4) (hw0 : kd w0 = 10) (hw1 : kd w1 = 9) (hw2 : kd w2 = 7) (hR : x_R X = rm 4) {T9 : Type} {f9 : Mem → Option T9} {b9 : T9} (hx : ∀ s, f9 s = some b9 → EW X g (x_s X).heap.size n 7 (ent g Xo kd s) 0 0 147 [(0, .ref (g_N g + t))] []) {x4 : Int32} {M : Mem} (h : (L_X3_giveOut_95 t w0 w1 w2 FU x4 M).bind f9 = some b9) : EW X g (x_s X).heap.size n 7 (ent g Xo kd M) 0 0 95 [(0, .ref (g_N g + t)), (4, .int x4)] [] := by
  obtain ⟨q, hq, h⟩ := ob h
  exact l_X3_giveOut_95 C K ht hw0 hw1 hw2 hR (OK := fun q => f9 q = some b9) hx FU x4 M q hq h
set_option maxRecDepth 20000 in
theorem c_X3_giveOut {g : WC} {Xo : Nat → va_E} {n : Nat} {kd : Nat → Nat} (K : KD n kd) {t : Nat} {w0 : Nat} {w1 : Nat} {w2 : Nat} (ht : kd t = 4) (hw0 : kd w0 = 10) (hw1 : kd w1 = 9) (hw2 : kd w2 = 7) {M : Mem} {res : Mem} (h : F_X3_giveOut t w0 w1 w2 M = some res) : MC g yX3_giveOut cX3_giveOut 7 none 4 n [.ref (g_N g + t), .ref (g_N g + w0), .ref (g_N g + w1), .ref (g_N g + w2)] (ent g Xo kd M) none (ent g Xo kd res) := by
  refine MC_of pn_X3 (Nat.le_of_ble_eq_true rfl) (fun X C B => ?_)
  have hR := B.1
  rw [F_X3_giveOut] at h
  refine e_iconst C 0 (dk dX3_giveOut_0 0 rfl) (by decide) ?_
  refine e_istore C [(4, .int 0), (0, .ref (g_N g + t)), (1, .ref (g_N g + w0)), (2, .ref (g_N g + w1)), (3, .ref (g_N g + w2))] (dk dX3_giveOut_0 1 rfl) (by decide) rfl ?_
  refine e_lv [1, 2, 3, 4, 0] rfl ?_
  refine lb_X3_giveOut_3 C K ht hw0 hw1 hw2 hR (fun s10 h => ?_) h
  refine e_bipush C 6 (dk dX3_giveOut_0 44 rfl) (by decide) ?_
  refine e_istore C [(4, .int 6), (0, .ref (g_N g + t))] (dk dX3_giveOut_0 45 rfl) (by decide) rfl ?_
  refine e_lv [1, 0] rfl ?_
  refine lb_X3_giveOut_95 C K ht hw0 hw1 hw2 hR (fun s17 h => ?_) h
  refine e_aload_n C 0 (dk dX3_giveOut_1 9 rfl) rfl rfl ?_
  obtain ⟨q18, hq18, h⟩ := ob h
  refine e_callV (ci := 3) C cal_X3_chooseFirstRow im_X3_chooseFirstRow se_X3_chooseFirstRow ml_X3_45 rfl hR (by decide) (dk dX3_giveOut_1 10 rfl) (K.1 _ (by rw [ht]; decide)) (ent_o3 ht) (c_X3_chooseFirstRow K ht hq18) ⟨Nat.zero_le _, Nat.zero_le _⟩ (Nat.le_of_ble_eq_true rfl) rfl ?_
  obtain rfl := Option.some.inj h
  exact e_vret C B (dk dX3_giveOut_1 11 rfl)
set_option maxRecDepth 20000 in
theorem l_X4_tryWalksOf_43 {X : FX} {g : WC} {Xo : Nat → va_E} {n : Nat} {kd : Nat → Nat} (C : Cx X g RX4 cX4_tryWalksOf 10) (K : KD n kd) {t : Nat} {w1 : Nat} {w2 : Nat} {w3 : Nat} (ht : kd t = 5) (hw1 : kd w1 = 10) (hw2 : kd w2 = 9) (hw3 : kd w3 = 8) {x1 : Int32} {x5 : Int32} {x6 : Int32} {x7 : Int32} {x8 : Int32} (hR : x_R X = rm 5) {OK : Mem → Prop} (hx : ∀ s, OK s → EW X g (x_s X).heap.size n 10 (ent g Xo kd s) 0 0 126 [(0, .ref (g_N g + t)), (1, .int x1), (2, .ref (g_N g + w1)), (3, .ref (g_N g + w2)), (4, .ref (g_N g + w3)), (5, .int x5), (6, .int x6), (7, .int x7), (8, .int x8)] []) : ∀ (N9 : Nat) (x9 : Int32) (M : Mem) (q : Mem), L_X4_tryWalksOf_43 t w1 w2 w3 x1 x5 x6 x7 x8 N9 x9 M = some q → OK q → EW X g (x_s X).heap.size n 10 (ent g Xo kd M) 0 0 43 [(0, .ref (g_N g + t)), (1, .int x1), (2, .ref (g_N g + w1)), (3, .ref (g_N g + w2)), (4, .ref (g_N g + w3)), (5, .int x5), (6, .int x6), (7, .int x7), (8, .int x8), (9, .int x9)] [] := by
  intro N9
  induction N9 with
  | zero =>
    intro x9 M q h
    rw [L_X4_tryWalksOf_43.eq_1] at h
    cases h
  | succ m9 ih =>
    intro x9 M q h hOK
    rw [L_X4_tryWalksOf_43.eq_2] at h
    refine e_iload C 9 (dk dX4_tryWalksOf_0 22 rfl) rfl ?_
    refine e_aload_n C 2 (dk dX4_tryWalksOf_0 23 rfl) rfl rfl ?_
    refine gf_X9_streets C K hw1 fl_X4_64 (dk dX4_tryWalksOf_0 24 rfl) ?_
    refine e_icmp_ge C 126 (dk dX4_tryWalksOf_0 25 rfl) (by decide) (fun c2 => ?_) (fun c2 => ?_)
    · rw [if_pos c2] at h
      obtain rfl := Option.some.inj h
      refine e_lv [0, 1, 2, 3, 4, 5, 6, 7, 8] rfl ?_
      exact hx _ hOK
    · rw [if_neg c2] at h
      refine e_iload C 9 (dk dX4_tryWalksOf_0 26 rfl) rfl ?_
      refine e_iload C 5 (dk dX4_tryWalksOf_0 27 rfl) rfl ?_
      refine e_iload C 8 (dk dX4_tryWalksOf_0 28 rfl) rfl ?_
      refine e_callSN C cal_X11_streetIn sm_X11_streetIn mn_X4_67 hR (by decide) (dk dX4_tryWalksOf_0 29 rfl) (c_X11_streetIn K (rfl : F_X11_streetIn x5 x8 = _)) ⟨Nat.zero_le _, Nat.zero_le _⟩ (Nat.le_of_ble_eq_true rfl) rfl ?_
      refine e_icmp_eq C 120 (dk dX4_tryWalksOf_0 30 rfl) (by decide) (fun c3 => ?_) (fun c3 => ?_)
      · rw [if_pos c3] at h
        refine e_iinc C [(9, .int (x9 + 1)), (0, .ref (g_N g + t)), (1, .int x1), (2, .ref (g_N g + w1)), (3, .ref (g_N g + w2)), (4, .ref (g_N g + w3)), (5, .int x5), (6, .int x6), (7, .int x7), (8, .int x8)] 9 1 (dk dX4_tryWalksOf_1 1 rfl) rfl (by decide) (by decide) rfl ?_
        refine e_goto C 43 (dk dX4_tryWalksOf_1 2 rfl) (by decide) ?_
        refine e_lv [1, 2, 3, 4, 5, 6, 7, 8, 9, 0] rfl ?_
        exact ih _ _ _ h hOK
      · rw [if_neg c3] at h
        refine e_aload_n C 0 (dk dX4_tryWalksOf_0 31 rfl) rfl rfl ?_
        refine gf_X4_nightsSeen C K ht fl_X4_9 (dk dX4_tryWalksOf_0 32 rfl) ?_
        refine e_iload_n C 1 (dk dX4_tryWalksOf_0 33 rfl) rfl rfl ?_
        refine e_aload_n C 2 (dk dX4_tryWalksOf_0 34 rfl) rfl rfl ?_
        refine e_aload_n C 3 (dk dX4_tryWalksOf_0 35 rfl) rfl rfl ?_
        refine e_iload_n C 1 (dk dX4_tryWalksOf_0 36 rfl) rfl rfl ?_
        refine e_iload C 5 (dk dX4_tryWalksOf_0 37 rfl) rfl ?_
        refine e_iload C 8 (dk dX4_tryWalksOf_0 38 rfl) rfl ?_
        refine e_iload C 9 (dk dX4_tryWalksOf_0 39 rfl) rfl ?_
        refine e_callSN C cal_X11_walkWith sm_X11_walkWith mn_X4_71 hR (by decide) (dk dX4_tryWalksOf_0 40 rfl) (c_X11_walkWith K (rfl : F_X11_walkWith x5 x8 x9 = _)) ⟨Nat.zero_le _, Nat.zero_le _⟩ (Nat.le_of_ble_eq_true rfl) rfl ?_
        obtain ⟨q4, hq4, h⟩ := ob h
        refine e_callS C cal_X4_nightsOf sm_X4_nightsOf ml_X4_43 hR (by decide) (dk dX4_tryWalksOf_0 41 rfl) (c_X4_nightsOf K hw1 hw2 hq4) ⟨Nat.zero_le _, Nat.zero_le _⟩ (Nat.le_of_ble_eq_true rfl) rfl ?_
        refine e_callSN C cal_X11_put sm_X11_put mn_X4_47 hR (by decide) (dk dX4_tryWalksOf_0 42 rfl) (c_X11_put K (kd_X4_nightsSeen K ht) (rfl : F_X11_put (t + 1) 7 x1 q4 M = _)) ⟨Nat.zero_le _, Nat.zero_le _⟩ (Nat.le_of_ble_eq_true rfl) rfl ?_
        refine e_aload C 4 (dk dX4_tryWalksOf_0 43 rfl) rfl ?_
        refine e_aload_n C 0 (dk dX4_tryWalksOf_0 44 rfl) rfl rfl ?_
        refine gf_X4_nightsSeen C K ht fl_X4_9 (dk dX4_tryWalksOf_0 45 rfl) ?_
        obtain ⟨q5, hq5, h⟩ := ob h
        refine e_callV (ci := 7) C cal_X7_holds im_X7_holds se_X7_holds ml_X4_51 rfl hR (by decide) (dk dX4_tryWalksOf_0 46 rfl) (K.1 _ (by rw [hw3]; decide)) (ent_o7 hw3) (c_X7_holds K hw3 (kd_X4_nightsSeen K ht) hq5) ⟨Nat.zero_le _, Nat.zero_le _⟩ (Nat.le_of_ble_eq_true rfl) rfl ?_
        refine e_if_eq C 120 (dk dX4_tryWalksOf_0 47 rfl) (by decide) (fun c6 => ?_) (fun c6 => ?_)
        · rw [if_pos c6] at h
          refine e_iinc C [(9, .int (x9 + 1)), (0, .ref (g_N g + t)), (1, .int x1), (2, .ref (g_N g + w1)), (3, .ref (g_N g + w2)), (4, .ref (g_N g + w3)), (5, .int x5), (6, .int x6), (7, .int x7), (8, .int x8)] 9 1 (dk dX4_tryWalksOf_1 1 rfl) rfl (by decide) (by decide) rfl ?_
          refine e_goto C 43 (dk dX4_tryWalksOf_1 2 rfl) (by decide) ?_
          refine e_lv [1, 2, 3, 4, 5, 6, 7, 8, 9, 0] rfl ?_
          exact ih _ _ _ h hOK
        · rw [if_neg c6] at h
          refine e_aload_n C 0 (dk dX4_tryWalksOf_0 48 rfl) rfl rfl ?_
          refine e_bipush C 100 (dk dX4_tryWalksOf_0 49 rfl) (by decide) ?_
          refine e_iload_n C 1 (dk dX4_tryWalksOf_0 50 rfl) rfl rfl ?_
          refine e_imul C (dk dX4_tryWalksOf_0 51 rfl) ?_
          refine e_bipush C 10 (dk dX4_tryWalksOf_0 52 rfl) (by decide) ?_
          refine e_iload C 8 (dk dX4_tryWalksOf_0 53 rfl) rfl ?_
          refine e_imul C (dk dX4_tryWalksOf_0 54 rfl) ?_
          refine e_iadd C (dk dX4_tryWalksOf_0 55 rfl) ?_
          refine e_iload C 9 (dk dX4_tryWalksOf_0 56 rfl) rfl ?_
          refine e_iadd C (dk dX4_tryWalksOf_0 57 rfl) ?_
          refine e_aload_n C 2 (dk dX4_tryWalksOf_0 58 rfl) rfl rfl ?_
          refine gf_X9_people C K hw1 fl_X4_29 (dk dX4_tryWalksOf_0 59 rfl) ?_
          obtain ⟨q7, hq7, h⟩ := ob h
          refine e_callV (ci := 4) C cal_X4_note im_X4_note se_X4_note ml_X4_75 rfl hR (by decide) (dk dX4_tryWalksOf_1 0 rfl) (K.1 _ (by rw [ht]; decide)) (ent_o4 ht) (c_X4_note K ht hq7) ⟨Nat.zero_le _, Nat.zero_le _⟩ (Nat.le_of_ble_eq_true rfl) rfl ?_
          refine e_iinc C [(9, .int (x9 + 1)), (0, .ref (g_N g + t)), (1, .int x1), (2, .ref (g_N g + w1)), (3, .ref (g_N g + w2)), (4, .ref (g_N g + w3)), (5, .int x5), (6, .int x6), (7, .int x7), (8, .int x8)] 9 1 (dk dX4_tryWalksOf_1 1 rfl) rfl (by decide) (by decide) rfl ?_
          refine e_goto C 43 (dk dX4_tryWalksOf_1 2 rfl) (by decide) ?_
          refine e_lv [1, 2, 3, 4, 5, 6, 7, 8, 9, 0] rfl ?_
          exact ih _ _ _ h hOK
set_option maxRecDepth 20000 in
theorem lb_X4_tryWalksOf_43 {X : FX} {g : WC} {Xo : Nat → va_E} {n : Nat} {kd : Nat → Nat} (C : Cx X g RX4 cX4_tryWalksOf 10) (K : KD n kd) {t : Nat} {w1 : Nat} {w2 : Nat} {w3 : Nat} (ht : kd t = 5) (hw1 : kd w1 = 10) (hw2 : kd w2 = 9) (hw3 : kd w3 = 8) {x1 : Int32} {x5 : Int32} {x6 : Int32} {x7 : Int32} {x8 : Int32} (hR : x_R X = rm 5) {T9 : Type} {f9 : Mem → Option T9} {b9 : T9} (hx : ∀ s, f9 s = some b9 → EW X g (x_s X).heap.size n 10 (ent g Xo kd s) 0 0 126 [(0, .ref (g_N g + t)), (1, .int x1), (2, .ref (g_N g + w1)), (3, .ref (g_N g + w2)), (4, .ref (g_N g + w3)), (5, .int x5), (6, .int x6), (7, .int x7), (8, .int x8)] []) {x9 : Int32} {M : Mem} (h : (L_X4_tryWalksOf_43 t w1 w2 w3 x1 x5 x6 x7 x8 FU x9 M).bind f9 = some b9) : EW X g (x_s X).heap.size n 10 (ent g Xo kd M) 0 0 43 [(0, .ref (g_N g + t)), (1, .int x1), (2, .ref (g_N g + w1)), (3, .ref (g_N g + w2)), (4, .ref (g_N g + w3)), (5, .int x5), (6, .int x6), (7, .int x7), (8, .int x8), (9, .int x9)] [] := by
  obtain ⟨q, hq, h⟩ := ob h
  exact l_X4_tryWalksOf_43 C K ht hw1 hw2 hw3 hR (OK := fun q => f9 q = some b9) hx FU x9 M q hq h
set_option maxRecDepth 20000 in
theorem l_X4_tryWalksOf_33 {X : FX} {g : WC} {Xo : Nat → va_E} {n : Nat} {kd : Nat → Nat} (C : Cx X g RX4 cX4_tryWalksOf 10) (K : KD n kd) {t : Nat} {w1 : Nat} {w2 : Nat} {w3 : Nat} (ht : kd t = 5) (hw1 : kd w1 = 10) (hw2 : kd w2 = 9) (hw3 : kd w3 = 8) {x1 : Int32} {x5 : Int32} {x6 : Int32} {x7 : Int32} (hR : x_R X = rm 5) {OK : Mem → Prop} (hx : ∀ s, OK s → EW X g (x_s X).heap.size n 10 (ent g Xo kd s) 0 0 132 [(0, .ref (g_N g + t)), (1, .int x1), (6, .int x6)] []) : ∀ (N9 : Nat) (x8 : Int32) (M : Mem) (q : Mem), L_X4_tryWalksOf_33 t w1 w2 w3 x1 x5 x6 x7 N9 x8 M = some q → OK q → EW X g (x_s X).heap.size n 10 (ent g Xo kd M) 0 0 33 [(0, .ref (g_N g + t)), (1, .int x1), (2, .ref (g_N g + w1)), (3, .ref (g_N g + w2)), (4, .ref (g_N g + w3)), (5, .int x5), (6, .int x6), (7, .int x7), (8, .int x8)] [] := by
  intro N9
  induction N9 with
  | zero =>
    intro x8 M q h
    rw [L_X4_tryWalksOf_33.eq_1] at h
    cases h
  | succ m9 ih =>
    intro x8 M q h hOK
    rw [L_X4_tryWalksOf_33.eq_2] at h
    refine e_iload C 8 (dk dX4_tryWalksOf_0 17 rfl) rfl ?_
    refine e_iload C 7 (dk dX4_tryWalksOf_0 18 rfl) rfl ?_
    refine e_icmp_ge C 132 (dk dX4_tryWalksOf_0 19 rfl) (by decide) (fun c1 => ?_) (fun c1 => ?_)
    · rw [if_pos c1] at h
      obtain rfl := Option.some.inj h
      refine e_lv [0, 1, 6] rfl ?_
      exact hx _ hOK
    · rw [if_neg c1] at h
      refine e_iconst C 0 (dk dX4_tryWalksOf_0 20 rfl) (by decide) ?_
      refine e_istore C [(9, .int 0), (0, .ref (g_N g + t)), (1, .int x1), (2, .ref (g_N g + w1)), (3, .ref (g_N g + w2)), (4, .ref (g_N g + w3)), (5, .int x5), (6, .int x6), (7, .int x7), (8, .int x8)] (dk dX4_tryWalksOf_0 21 rfl) (by decide) rfl ?_
      refine e_lv [1, 2, 3, 4, 5, 6, 7, 8, 9, 0] rfl ?_
      refine lb_X4_tryWalksOf_43 C K ht hw1 hw2 hw3 hR (fun s9 h => ?_) h
      refine e_iinc C [(8, .int (x8 + 1)), (0, .ref (g_N g + t)), (1, .int x1), (2, .ref (g_N g + w1)), (3, .ref (g_N g + w2)), (4, .ref (g_N g + w3)), (5, .int x5), (6, .int x6), (7, .int x7)] 8 1 (dk dX4_tryWalksOf_1 3 rfl) rfl (by decide) (by decide) rfl ?_
      refine e_goto C 33 (dk dX4_tryWalksOf_1 4 rfl) (by decide) ?_
      refine e_lv [1, 2, 3, 4, 5, 6, 7, 8, 0] rfl ?_
      exact ih _ _ _ h hOK
set_option maxRecDepth 20000 in
theorem lb_X4_tryWalksOf_33 {X : FX} {g : WC} {Xo : Nat → va_E} {n : Nat} {kd : Nat → Nat} (C : Cx X g RX4 cX4_tryWalksOf 10) (K : KD n kd) {t : Nat} {w1 : Nat} {w2 : Nat} {w3 : Nat} (ht : kd t = 5) (hw1 : kd w1 = 10) (hw2 : kd w2 = 9) (hw3 : kd w3 = 8) {x1 : Int32} {x5 : Int32} {x6 : Int32} {x7 : Int32} (hR : x_R X = rm 5) {T9 : Type} {f9 : Mem → Option T9} {b9 : T9} (hx : ∀ s, f9 s = some b9 → EW X g (x_s X).heap.size n 10 (ent g Xo kd s) 0 0 132 [(0, .ref (g_N g + t)), (1, .int x1), (6, .int x6)] []) {x8 : Int32} {M : Mem} (h : (L_X4_tryWalksOf_33 t w1 w2 w3 x1 x5 x6 x7 FU x8 M).bind f9 = some b9) : EW X g (x_s X).heap.size n 10 (ent g Xo kd M) 0 0 33 [(0, .ref (g_N g + t)), (1, .int x1), (2, .ref (g_N g + w1)), (3, .ref (g_N g + w2)), (4, .ref (g_N g + w3)), (5, .int x5), (6, .int x6), (7, .int x7), (8, .int x8)] [] := by
  obtain ⟨q, hq, h⟩ := ob h
  exact l_X4_tryWalksOf_33 C K ht hw1 hw2 hw3 hR (OK := fun q => f9 q = some b9) hx FU x8 M q hq h
set_option maxRecDepth 20000 in
theorem c_X4_tryWalksOf {g : WC} {Xo : Nat → va_E} {n : Nat} {kd : Nat → Nat} (K : KD n kd) {t : Nat} {p0 : Int32} {w1 : Nat} {w2 : Nat} {w3 : Nat} (ht : kd t = 5) (hw1 : kd w1 = 10) (hw2 : kd w2 = 9) (hw3 : kd w3 = 8) {M : Mem} {res : Mem} (h : F_X4_tryWalksOf t p0 w1 w2 w3 M = some res) : MC g yX4_tryWalksOf cX4_tryWalksOf 10 none 5 n [.ref (g_N g + t), .int p0, .ref (g_N g + w1), .ref (g_N g + w2), .ref (g_N g + w3)] (ent g Xo kd M) none (ent g Xo kd res) := by
  refine MC_of pn_X4 (Nat.le_of_ble_eq_true rfl) (fun X C B => ?_)
  have hR := B.1
  rw [F_X4_tryWalksOf] at h
  refine e_aload_n C 3 (dk dX4_tryWalksOf_0 0 rfl) rfl rfl ?_
  refine gf_X8_walks C K hw2 fl_X4_34 (dk dX4_tryWalksOf_0 1 rfl) ?_
  refine e_iload_n C 1 (dk dX4_tryWalksOf_0 2 rfl) rfl rfl ?_
  refine e_callSN C cal_X11_at sm_X11_at mn_X4_39 hR (by decide) (dk dX4_tryWalksOf_0 3 rfl) (c_X11_at K (kd_X8_walks K hw2) (rfl : F_X11_at (w2 + 3) 7 p0 M = _)) ⟨Nat.zero_le _, Nat.zero_le _⟩ (Nat.le_of_ble_eq_true rfl) rfl ?_
  refine e_istore C [(5, .int (F_X11_at (w2 + 3) 7 p0 M)), (0, .ref (g_N g + t)), (1, .int p0), (2, .ref (g_N g + w1)), (3, .ref (g_N g + w2)), (4, .ref (g_N g + w3))] (dk dX4_tryWalksOf_0 4 rfl) (by decide) rfl ?_
  refine e_aload_n C 1 (dk dX4_tryWalksOf_0 5 rfl) rfl rfl ?_
  refine gf_X4_nightsSeen C K ht fl_X4_9 (dk dX4_tryWalksOf_0 6 rfl) ?_
  refine e_iload_n C 2 (dk dX4_tryWalksOf_0 7 rfl) rfl rfl ?_
  refine e_callSN C cal_X11_at sm_X11_at mn_X4_39 hR (by decide) (dk dX4_tryWalksOf_0 8 rfl) (c_X11_at K (kd_X4_nightsSeen K ht) (rfl : F_X11_at (t + 1) 7 p0 M = _)) ⟨Nat.zero_le _, Nat.zero_le _⟩ (Nat.le_of_ble_eq_true rfl) rfl ?_
  refine e_istore C [(6, .int (F_X11_at (t + 1) 7 p0 M)), (5, .int (F_X11_at (w2 + 3) 7 p0 M)), (0, .ref (g_N g + t)), (1, .int p0), (2, .ref (g_N g + w1)), (3, .ref (g_N g + w2)), (4, .ref (g_N g + w3))] (dk dX4_tryWalksOf_0 9 rfl) (by decide) rfl ?_
  refine e_aload_n C 4 (dk dX4_tryWalksOf_0 10 rfl) rfl rfl ?_
  refine gf_X9_lengths C K hw1 fl_X4_61 (dk dX4_tryWalksOf_0 11 rfl) ?_
  refine e_iload_n C 3 (dk dX4_tryWalksOf_0 12 rfl) rfl rfl ?_
  refine e_callSN C cal_X11_at sm_X11_at mn_X4_39 hR (by decide) (dk dX4_tryWalksOf_0 13 rfl) (c_X11_at K (kd_X9_lengths K hw1) (rfl : F_X11_at (w1 + 4) 7 p0 M = _)) ⟨Nat.zero_le _, Nat.zero_le _⟩ (Nat.le_of_ble_eq_true rfl) rfl ?_
  refine e_istore C [(7, .int (F_X11_at (w1 + 4) 7 p0 M)), (6, .int (F_X11_at (t + 1) 7 p0 M)), (5, .int (F_X11_at (w2 + 3) 7 p0 M)), (0, .ref (g_N g + t)), (1, .int p0), (2, .ref (g_N g + w1)), (3, .ref (g_N g + w2)), (4, .ref (g_N g + w3))] (dk dX4_tryWalksOf_0 14 rfl) (by decide) rfl ?_
  refine e_iconst C 0 (dk dX4_tryWalksOf_0 15 rfl) (by decide) ?_
  refine e_istore C [(8, .int 0), (7, .int (F_X11_at (w1 + 4) 7 p0 M)), (6, .int (F_X11_at (t + 1) 7 p0 M)), (5, .int (F_X11_at (w2 + 3) 7 p0 M)), (0, .ref (g_N g + t)), (1, .int p0), (2, .ref (g_N g + w1)), (3, .ref (g_N g + w2)), (4, .ref (g_N g + w3))] (dk dX4_tryWalksOf_0 16 rfl) (by decide) rfl ?_
  refine e_lv [4, 5, 6, 7, 8, 3, 2, 1, 0] rfl ?_
  refine lb_X4_tryWalksOf_33 C K ht hw1 hw2 hw3 hR (fun s11 h => ?_) h
  refine e_aload_n C 0 (dk dX4_tryWalksOf_1 5 rfl) rfl rfl ?_
  refine gf_X4_nightsSeen C K ht fl_X4_9 (dk dX4_tryWalksOf_1 6 rfl) ?_
  refine e_iload_n C 1 (dk dX4_tryWalksOf_1 7 rfl) rfl rfl ?_
  refine e_iload C 2 (dk dX4_tryWalksOf_1 8 rfl) rfl ?_
  refine e_callSN C cal_X11_put sm_X11_put mn_X4_47 hR (by decide) (dk dX4_tryWalksOf_1 9 rfl) (c_X11_put K (kd_X4_nightsSeen K ht) (rfl : F_X11_put (t + 1) 7 p0 (F_X11_at (t + 1) 7 p0 M) s11 = _)) ⟨Nat.zero_le _, Nat.zero_le _⟩ (Nat.le_of_ble_eq_true rfl) rfl ?_
  obtain rfl := Option.some.inj h
  exact e_vret C B (dk dX4_tryWalksOf_1 10 rfl)
set_option maxRecDepth 20000 in
theorem l_X4_scan_13 {X : FX} {g : WC} {Xo : Nat → va_E} {n : Nat} {kd : Nat → Nat} (C : Cx X g RX4 cX4_scan 5) (K : KD n kd) {t : Nat} {w0 : Nat} {w1 : Nat} {w2 : Nat} (ht : kd t = 5) (hw0 : kd w0 = 10) (hw1 : kd w1 = 9) (hw2 : kd w2 = 8) (hR : x_R X = rm 6) {OK : Mem → Prop} (hx : ∀ s, OK s → EW X g (x_s X).heap.size n 5 (ent g Xo kd s) 0 0 37 [(0, .ref (g_N g + t)), (1, .ref (g_N g + w0)), (2, .ref (g_N g + w1)), (3, .ref (g_N g + w2))] []) : ∀ (N9 : Nat) (x4 : Int32) (M : Mem) (q : Mem), L_X4_scan_13 t w0 w1 w2 N9 x4 M = some q → OK q → EW X g (x_s X).heap.size n 5 (ent g Xo kd M) 0 0 13 [(0, .ref (g_N g + t)), (1, .ref (g_N g + w0)), (2, .ref (g_N g + w1)), (3, .ref (g_N g + w2)), (4, .int x4)] [] := by
  intro N9
  induction N9 with
  | zero =>
    intro x4 M q h
    rw [L_X4_scan_13.eq_1] at h
    cases h
  | succ m9 ih =>
    intro x4 M q h hOK
    rw [L_X4_scan_13.eq_2] at h
    refine e_iload C 4 (dk dX4_scan_0 8 rfl) rfl ?_
    refine e_aload_n C 0 (dk dX4_scan_0 9 rfl) rfl rfl ?_
    refine gf_X4_marks C K ht fl_X4_15 (dk dX4_scan_0 10 rfl) ?_
    refine m_alen C K (kd_X4_marks K ht) 48 (by decide) (dk dX4_scan_0 11 rfl) ?_
    refine e_icmp_ge C 37 (dk dX4_scan_0 12 rfl) (by decide) (fun c1 => ?_) (fun c1 => ?_)
    · rw [if_pos c1] at h
      obtain rfl := Option.some.inj h
      refine e_lv [0, 1, 2, 3] rfl ?_
      exact hx _ hOK
    · rw [if_neg c1] at h
      refine e_aload_n C 0 (dk dX4_scan_0 13 rfl) rfl rfl ?_
      refine gf_X4_marks C K ht fl_X4_15 (dk dX4_scan_0 14 rfl) ?_
      refine e_iload C 4 (dk dX4_scan_0 15 rfl) rfl ?_
      refine e_iconst C 0 (dk dX4_scan_0 16 rfl) (by decide) ?_
      obtain ⟨M2, hM2, h⟩ := ob h
      refine m_ast C K (kd_X4_marks K ht) (dk dX4_scan_0 17 rfl) hM2 ?_
      refine e_iinc C [(4, .int (x4 + 1)), (0, .ref (g_N g + t)), (1, .ref (g_N g + w0)), (2, .ref (g_N g + w1)), (3, .ref (g_N g + w2))] 4 1 (dk dX4_scan_0 18 rfl) rfl (by decide) (by decide) rfl ?_
      refine e_goto C 13 (dk dX4_scan_0 19 rfl) (by decide) ?_
      refine e_lv [1, 2, 3, 4, 0] rfl ?_
      exact ih _ _ _ h hOK
set_option maxRecDepth 20000 in
theorem lb_X4_scan_13 {X : FX} {g : WC} {Xo : Nat → va_E} {n : Nat} {kd : Nat → Nat} (C : Cx X g RX4 cX4_scan 5) (K : KD n kd) {t : Nat} {w0 : Nat} {w1 : Nat} {w2 : Nat} (ht : kd t = 5) (hw0 : kd w0 = 10) (hw1 : kd w1 = 9) (hw2 : kd w2 = 8) (hR : x_R X = rm 6) {T9 : Type} {f9 : Mem → Option T9} {b9 : T9} (hx : ∀ s, f9 s = some b9 → EW X g (x_s X).heap.size n 5 (ent g Xo kd s) 0 0 37 [(0, .ref (g_N g + t)), (1, .ref (g_N g + w0)), (2, .ref (g_N g + w1)), (3, .ref (g_N g + w2))] []) {x4 : Int32} {M : Mem} (h : (L_X4_scan_13 t w0 w1 w2 FU x4 M).bind f9 = some b9) : EW X g (x_s X).heap.size n 5 (ent g Xo kd M) 0 0 13 [(0, .ref (g_N g + t)), (1, .ref (g_N g + w0)), (2, .ref (g_N g + w1)), (3, .ref (g_N g + w2)), (4, .int x4)] [] := by
  obtain ⟨q, hq, h⟩ := ob h
  exact l_X4_scan_13 C K ht hw0 hw1 hw2 hR (OK := fun q => f9 q = some b9) hx FU x4 M q hq h
set_option maxRecDepth 20000 in
theorem l_X4_scan_40 {X : FX} {g : WC} {Xo : Nat → va_E} {n : Nat} {kd : Nat → Nat} (C : Cx X g RX4 cX4_scan 5) (K : KD n kd) {t : Nat} {w0 : Nat} {w1 : Nat} {w2 : Nat} (ht : kd t = 5) (hw0 : kd w0 = 10) (hw1 : kd w1 = 9) (hw2 : kd w2 = 8) (hR : x_R X = rm 6) {OK : Mem → Prop} (hx : ∀ s, OK s → EW X g (x_s X).heap.size n 5 (ent g Xo kd s) 0 0 80 [(0, .ref (g_N g + t)), (1, .ref (g_N g + w0)), (2, .ref (g_N g + w1)), (3, .ref (g_N g + w2))] []) : ∀ (N9 : Nat) (x4 : Int32) (M : Mem) (q : Mem), L_X4_scan_40 t w0 w1 w2 N9 x4 M = some q → OK q → EW X g (x_s X).heap.size n 5 (ent g Xo kd M) 0 0 40 [(0, .ref (g_N g + t)), (1, .ref (g_N g + w0)), (2, .ref (g_N g + w1)), (3, .ref (g_N g + w2)), (4, .int x4)] [] := by
  intro N9
  induction N9 with
  | zero =>
    intro x4 M q h
    rw [L_X4_scan_40.eq_1] at h
    cases h
  | succ m9 ih =>
    intro x4 M q h hOK
    rw [L_X4_scan_40.eq_2] at h
    refine e_iload C 4 (dk dX4_scan_0 22 rfl) rfl ?_
    refine e_aload_n C 1 (dk dX4_scan_0 23 rfl) rfl rfl ?_
    refine gf_X9_people C K hw0 fl_X4_29 (dk dX4_scan_0 24 rfl) ?_
    refine e_icmp_ge C 80 (dk dX4_scan_0 25 rfl) (by decide) (fun c5 => ?_) (fun c5 => ?_)
    · rw [if_pos c5] at h
      obtain rfl := Option.some.inj h
      refine e_lv [0, 1, 2, 3] rfl ?_
      exact hx _ hOK
    · rw [if_neg c5] at h
      refine e_aload_n C 0 (dk dX4_scan_0 26 rfl) rfl rfl ?_
      refine gf_X4_nightsSeen C K ht fl_X4_9 (dk dX4_scan_0 27 rfl) ?_
      refine e_iload C 4 (dk dX4_scan_0 28 rfl) rfl ?_
      refine e_aload_n C 1 (dk dX4_scan_0 29 rfl) rfl rfl ?_
      refine e_aload_n C 2 (dk dX4_scan_0 30 rfl) rfl rfl ?_
      refine e_iload C 4 (dk dX4_scan_0 31 rfl) rfl ?_
      refine e_aload_n C 2 (dk dX4_scan_0 32 rfl) rfl rfl ?_
      refine gf_X8_walks C K hw1 fl_X4_34 (dk dX4_scan_0 33 rfl) ?_
      refine e_iload C 4 (dk dX4_scan_0 34 rfl) rfl ?_
      refine e_callSN C cal_X11_at sm_X11_at mn_X4_39 hR (by decide) (dk dX4_scan_0 35 rfl) (c_X11_at K (kd_X8_walks K hw1) (rfl : F_X11_at (w1 + 3) 7 x4 M = _)) ⟨Nat.zero_le _, Nat.zero_le _⟩ (Nat.le_of_ble_eq_true rfl) rfl ?_
      obtain ⟨q6, hq6, h⟩ := ob h
      refine e_callS C cal_X4_nightsOf sm_X4_nightsOf ml_X4_43 hR (by decide) (dk dX4_scan_0 36 rfl) (c_X4_nightsOf K hw0 hw1 hq6) ⟨Nat.zero_le _, Nat.zero_le _⟩ (Nat.le_of_ble_eq_true rfl) rfl ?_
      refine e_callSN C cal_X11_put sm_X11_put mn_X4_47 hR (by decide) (dk dX4_scan_0 37 rfl) (c_X11_put K (kd_X4_nightsSeen K ht) (rfl : F_X11_put (t + 1) 7 x4 q6 M = _)) ⟨Nat.zero_le _, Nat.zero_le _⟩ (Nat.le_of_ble_eq_true rfl) rfl ?_
      refine e_iinc C [(4, .int (x4 + 1)), (0, .ref (g_N g + t)), (1, .ref (g_N g + w0)), (2, .ref (g_N g + w1)), (3, .ref (g_N g + w2))] 4 1 (dk dX4_scan_0 38 rfl) rfl (by decide) (by decide) rfl ?_
      refine e_goto C 40 (dk dX4_scan_0 39 rfl) (by decide) ?_
      refine e_lv [1, 2, 3, 4, 0] rfl ?_
      exact ih _ _ _ h hOK
set_option maxRecDepth 20000 in
theorem lb_X4_scan_40 {X : FX} {g : WC} {Xo : Nat → va_E} {n : Nat} {kd : Nat → Nat} (C : Cx X g RX4 cX4_scan 5) (K : KD n kd) {t : Nat} {w0 : Nat} {w1 : Nat} {w2 : Nat} (ht : kd t = 5) (hw0 : kd w0 = 10) (hw1 : kd w1 = 9) (hw2 : kd w2 = 8) (hR : x_R X = rm 6) {T9 : Type} {f9 : Mem → Option T9} {b9 : T9} (hx : ∀ s, f9 s = some b9 → EW X g (x_s X).heap.size n 5 (ent g Xo kd s) 0 0 80 [(0, .ref (g_N g + t)), (1, .ref (g_N g + w0)), (2, .ref (g_N g + w1)), (3, .ref (g_N g + w2))] []) {x4 : Int32} {M : Mem} (h : (L_X4_scan_40 t w0 w1 w2 FU x4 M).bind f9 = some b9) : EW X g (x_s X).heap.size n 5 (ent g Xo kd M) 0 0 40 [(0, .ref (g_N g + t)), (1, .ref (g_N g + w0)), (2, .ref (g_N g + w1)), (3, .ref (g_N g + w2)), (4, .int x4)] [] := by
  obtain ⟨q, hq, h⟩ := ob h
  exact l_X4_scan_40 C K ht hw0 hw1 hw2 hR (OK := fun q => f9 q = some b9) hx FU x4 M q hq h
set_option maxRecDepth 20000 in
theorem l_X4_scan_95 {X : FX} {g : WC} {Xo : Nat → va_E} {n : Nat} {kd : Nat → Nat} (C : Cx X g RX4 cX4_scan 5) (K : KD n kd) {t : Nat} {w0 : Nat} {w1 : Nat} {w2 : Nat} (ht : kd t = 5) (hw0 : kd w0 = 10) (hw1 : kd w1 = 9) (hw2 : kd w2 = 8) (hR : x_R X = rm 6) {OK : Mem → Prop} (hx : ∀ s, OK s → EW X g (x_s X).heap.size n 5 (ent g Xo kd s) 0 0 119 [] []) : ∀ (N9 : Nat) (x4 : Int32) (M : Mem) (q : Mem), L_X4_scan_95 t w0 w1 w2 N9 x4 M = some q → OK q → EW X g (x_s X).heap.size n 5 (ent g Xo kd M) 0 0 95 [(0, .ref (g_N g + t)), (1, .ref (g_N g + w0)), (2, .ref (g_N g + w1)), (3, .ref (g_N g + w2)), (4, .int x4)] [] := by
  intro N9
  induction N9 with
  | zero =>
    intro x4 M q h
    rw [L_X4_scan_95.eq_1] at h
    cases h
  | succ m9 ih =>
    intro x4 M q h hOK
    rw [L_X4_scan_95.eq_2] at h
    refine e_iload C 4 (dk dX4_scan_0 48 rfl) rfl ?_
    refine e_aload_n C 1 (dk dX4_scan_0 49 rfl) rfl rfl ?_
    refine gf_X9_people C K hw0 fl_X4_29 (dk dX4_scan_0 50 rfl) ?_
    refine e_icmp_ge C 119 (dk dX4_scan_0 51 rfl) (by decide) (fun c10 => ?_) (fun c10 => ?_)
    · rw [if_pos c10] at h
      obtain rfl := Option.some.inj h
      refine e_lv [] rfl ?_
      exact hx _ hOK
    · rw [if_neg c10] at h
      refine e_aload_n C 0 (dk dX4_scan_0 52 rfl) rfl rfl ?_
      refine e_iload C 4 (dk dX4_scan_0 53 rfl) rfl ?_
      refine e_aload_n C 1 (dk dX4_scan_0 54 rfl) rfl rfl ?_
      refine e_aload_n C 2 (dk dX4_scan_0 55 rfl) rfl rfl ?_
      refine e_aload_n C 3 (dk dX4_scan_0 56 rfl) rfl rfl ?_
      obtain ⟨q11, hq11, h⟩ := ob h
      refine e_callV (ci := 4) C cal_X4_tryWalksOf im_X4_tryWalksOf se_X4_tryWalksOf ml_X4_57 rfl hR (by decide) (dk dX4_scan_0 57 rfl) (K.1 _ (by rw [ht]; decide)) (ent_o4 ht) (c_X4_tryWalksOf K ht hw0 hw1 hw2 hq11) ⟨Nat.zero_le _, Nat.zero_le _⟩ (Nat.le_of_ble_eq_true rfl) rfl ?_
      refine e_iinc C [(4, .int (x4 + 1)), (0, .ref (g_N g + t)), (1, .ref (g_N g + w0)), (2, .ref (g_N g + w1)), (3, .ref (g_N g + w2))] 4 1 (dk dX4_scan_0 58 rfl) rfl (by decide) (by decide) rfl ?_
      refine e_goto C 95 (dk dX4_scan_0 59 rfl) (by decide) ?_
      refine e_lv [1, 2, 3, 4, 0] rfl ?_
      exact ih _ _ _ h hOK
set_option maxRecDepth 20000 in
theorem lb_X4_scan_95 {X : FX} {g : WC} {Xo : Nat → va_E} {n : Nat} {kd : Nat → Nat} (C : Cx X g RX4 cX4_scan 5) (K : KD n kd) {t : Nat} {w0 : Nat} {w1 : Nat} {w2 : Nat} (ht : kd t = 5) (hw0 : kd w0 = 10) (hw1 : kd w1 = 9) (hw2 : kd w2 = 8) (hR : x_R X = rm 6) {T9 : Type} {f9 : Mem → Option T9} {b9 : T9} (hx : ∀ s, f9 s = some b9 → EW X g (x_s X).heap.size n 5 (ent g Xo kd s) 0 0 119 [] []) {x4 : Int32} {M : Mem} (h : (L_X4_scan_95 t w0 w1 w2 FU x4 M).bind f9 = some b9) : EW X g (x_s X).heap.size n 5 (ent g Xo kd M) 0 0 95 [(0, .ref (g_N g + t)), (1, .ref (g_N g + w0)), (2, .ref (g_N g + w1)), (3, .ref (g_N g + w2)), (4, .int x4)] [] := by
  obtain ⟨q, hq, h⟩ := ob h
  exact l_X4_scan_95 C K ht hw0 hw1 hw2 hR (OK := fun q => f9 q = some b9) hx FU x4 M q hq h
set_option maxRecDepth 20000 in
theorem c_X4_scan {g : WC} {Xo : Nat → va_E} {n : Nat} {kd : Nat → Nat} (K : KD n kd) {t : Nat} {w0 : Nat} {w1 : Nat} {w2 : Nat} (ht : kd t = 5) (hw0 : kd w0 = 10) (hw1 : kd w1 = 9) (hw2 : kd w2 = 8) {M : Mem} {res : Mem} (h : F_X4_scan t w0 w1 w2 M = some res) : MC g yX4_scan cX4_scan 5 none 6 n [.ref (g_N g + t), .ref (g_N g + w0), .ref (g_N g + w1), .ref (g_N g + w2)] (ent g Xo kd M) none (ent g Xo kd res) := by
  refine MC_of pn_X4 (Nat.le_of_ble_eq_true rfl) (fun X C B => ?_)
  have hR := B.1
  rw [F_X4_scan] at h
  refine e_aload_n C 0 (dk dX4_scan_0 0 rfl) rfl rfl ?_
  refine e_iconst C 0 (dk dX4_scan_0 1 rfl) (by decide) ?_
  refine pf_X4_count C K ht fl_X4_18 (dk dX4_scan_0 2 rfl) ?_
  refine e_aload_n C 0 (dk dX4_scan_0 3 rfl) rfl rfl ?_
  refine e_iconst C (-1) (dk dX4_scan_0 4 rfl) (by decide) ?_
  refine pf_X4_first C K ht fl_X4_22 (dk dX4_scan_0 5 rfl) ?_
  refine e_iconst C 0 (dk dX4_scan_0 6 rfl) (by decide) ?_
  refine e_istore C [(4, .int 0), (0, .ref (g_N g + t)), (1, .ref (g_N g + w0)), (2, .ref (g_N g + w1)), (3, .ref (g_N g + w2))] (dk dX4_scan_0 7 rfl) (by decide) rfl ?_
  refine e_lv [1, 2, 3, 4, 0] rfl ?_
  refine lb_X4_scan_13 C K ht hw0 hw1 hw2 hR (fun s4 h => ?_) h
  refine e_iconst C 0 (dk dX4_scan_0 20 rfl) (by decide) ?_
  refine e_istore C [(4, .int 0), (0, .ref (g_N g + t)), (1, .ref (g_N g + w0)), (2, .ref (g_N g + w1)), (3, .ref (g_N g + w2))] (dk dX4_scan_0 21 rfl) (by decide) rfl ?_
  refine e_lv [1, 2, 3, 4, 0] rfl ?_
  refine lb_X4_scan_40 C K ht hw0 hw1 hw2 hR (fun s8 h => ?_) h
  refine e_aload_n C 0 (dk dX4_scan_0 40 rfl) rfl rfl ?_
  refine e_aload_n C 3 (dk dX4_scan_0 41 rfl) rfl rfl ?_
  refine e_aload_n C 0 (dk dX4_scan_0 42 rfl) rfl rfl ?_
  refine gf_X4_nightsSeen C K ht fl_X4_9 (dk dX4_scan_0 43 rfl) ?_
  obtain ⟨q9, hq9, h⟩ := ob h
  refine e_callV (ci := 7) C cal_X7_holds im_X7_holds se_X7_holds ml_X4_51 rfl hR (by decide) (dk dX4_scan_0 44 rfl) (K.1 _ (by rw [hw2]; decide)) (ent_o7 hw2) (c_X7_holds K hw2 (kd_X4_nightsSeen K ht) hq9) ⟨Nat.zero_le _, Nat.zero_le _⟩ (Nat.le_of_ble_eq_true rfl) rfl ?_
  refine pf_X4_without (b := q9) C K ht fl_X4_25 (dk dX4_scan_0 45 rfl) ?_
  refine e_iconst C 0 (dk dX4_scan_0 46 rfl) (by decide) ?_
  refine e_istore C [(4, .int 0), (0, .ref (g_N g + t)), (1, .ref (g_N g + w0)), (2, .ref (g_N g + w1)), (3, .ref (g_N g + w2))] (dk dX4_scan_0 47 rfl) (by decide) rfl ?_
  refine e_lv [1, 2, 3, 4, 0] rfl ?_
  refine lb_X4_scan_95 C K ht hw0 hw1 hw2 hR (fun s13 h => ?_) h
  obtain rfl := Option.some.inj h
  exact e_vret C B (dk dX4_scan_1 0 rfl)
set_option maxRecDepth 20000 in
theorem j_X5_part_j103 {X : FX} {g : WC} {Xo : Nat → va_E} {n : Nat} {kd : Nat → Nat} {dx : Nat} (C : Cx X g RX5 cX5_part 3) (K : KD n kd) {ex : (Nat → Int32 → Mem → Option (Bool × Mem))} {t : Nat} (hdx : 10 ≤ dx) (hex : ∀ {t : Nat} {p0 : Int32} {M : Mem} {res : Bool × Mem}, kd t = 6 → ex t p0 M = some res → MC g yX5_expr cX5_expr 3 (some .boolean) dx n [.ref (g_N g + t), .int p0] (ent g Xo kd M) (some (.int (bi res.1))) (ent g Xo kd res.2)) (ht : kd t = 6) (hR : x_R X = rm (dx + 1)) {M : Mem} {res : Bool × Mem} (h : J_X5_part_j103 ex t M = some res) (B : Bx X g (some .boolean) (dx + 1) n (some (.int (bi res.1))) (ent g Xo kd res.2)) : EW X g (x_s X).heap.size n 3 (ent g Xo kd M) 0 0 103 [(0, .ref (g_N g + t))] [] := by
  rw [J_X5_part_j103] at h
  refine e_aload_n C 0 (dk dX5_part 53 rfl) rfl rfl ?_
  obtain ⟨q5, hq5, h⟩ := ob h
  refine e_callV (ci := 5) C cal_X5_advance im_X5_advance se_X5_advance ml_X5_61 rfl hR (by omega) (dk dX5_part 54 rfl) (K.1 _ (by rw [ht]; decide)) (ent_o5 ht) (c_X5_advance K ht hq5) ⟨Nat.zero_le _, Nat.zero_le _⟩ (Nat.le_of_ble_eq_true rfl) rfl ?_
  refine e_iconst C 1 (dk dX5_part 55 rfl) (by decide) ?_
  obtain rfl := Option.some.inj h
  exact e_iret (v := bi true) C B (nar_bi _) (dk dX5_part 56 rfl)
set_option maxRecDepth 20000 in
theorem c_X5_part {g : WC} {Xo : Nat → va_E} {n : Nat} {kd : Nat → Nat} {dx : Nat} (K : KD n kd) {ex : (Nat → Int32 → Mem → Option (Bool × Mem))} {t : Nat} {p0 : Int32} (hdx : 10 ≤ dx) (hex : ∀ {t : Nat} {p0 : Int32} {M : Mem} {res : Bool × Mem}, kd t = 6 → ex t p0 M = some res → MC g yX5_expr cX5_expr 3 (some .boolean) dx n [.ref (g_N g + t), .int p0] (ent g Xo kd M) (some (.int (bi res.1))) (ent g Xo kd res.2)) (ht : kd t = 6) {M : Mem} {res : Bool × Mem} (h : F_X5_part ex t p0 M = some res) : MC g yX5_part cX5_part 3 (some .boolean) (dx + 1) n [.ref (g_N g + t), .int p0] (ent g Xo kd M) (some (.int (bi res.1))) (ent g Xo kd res.2) := by
  refine MC_of pn_X5 (Nat.le_of_ble_eq_true rfl) (fun X C B => ?_)
  have hR := B.1
  rw [F_X5_part] at h
  refine e_aload_n C 0 (dk dX5_part 0 rfl) rfl rfl ?_
  refine gf_X5_kind C K ht fl_X5_35 (dk dX5_part 1 rfl) ?_
  refine e_bipush C 40 (dk dX5_part 2 rfl) (by decide) ?_
  refine e_icmp_ne C 38 (dk dX5_part 3 rfl) (by decide) (fun c1 => ?_) (fun c1 => ?_)
  · rw [if_neg c1] at h
    refine e_aload_n C 0 (dk dX5_part 20 rfl) rfl rfl ?_
    refine gf_X5_kind C K ht fl_X5_35 (dk dX5_part 21 rfl) ?_
    refine e_iconst C 1 (dk dX5_part 22 rfl) (by decide) ?_
    refine e_icmp_ne C 76 (dk dX5_part 23 rfl) (by decide) (fun c2 => ?_) (fun c2 => ?_)
    · rw [if_neg c2] at h
      refine e_aload_n C 0 (dk dX5_part 40 rfl) rfl rfl ?_
      refine e_iconst C 0 (dk dX5_part 41 rfl) (by decide) ?_
      refine e_sipush C 9999 (dk dX5_part 42 rfl) (by decide) ?_
      refine e_callV (ci := 5) C cal_X5_number im_X5_number se_X5_number ml_X5_101 rfl hR (by omega) (dk dX5_part 43 rfl) (K.1 _ (by rw [ht]; decide)) (ent_o5 ht) (c_X5_number K ht (rfl : F_X5_number t 0 9999 M = _)) ⟨Nat.zero_le _, Nat.zero_le _⟩ (Nat.le_of_ble_eq_true rfl) rfl ?_
      refine e_if_ne C 89 (dk dX5_part 44 rfl) (by decide) (fun c3 => ?_) (fun c3 => ?_)
      · rw [if_neg c3] at h
        refine e_aload_n C 0 (dk dX5_part 47 rfl) rfl rfl ?_
        obtain ⟨w4, hw4, h⟩ := ob h
        have gw4 := grd_some K (Or.inr ht) hw4
        refine gf_X5_draft C K ht fl_X5_22 (dk dX5_part 48 rfl) ?_
        rw [gw4.1]
        refine gf_X9_worth C K gw4.2 fl_X5_201 (dk dX5_part 49 rfl) ?_
        refine e_aload_n C 0 (dk dX5_part 50 rfl) rfl rfl ?_
        refine gf_X5_value C K ht fl_X5_38 (dk dX5_part 51 rfl) ?_
        refine e_callV (ci := 10) C cal_X10_add im_X10_add se_X10_add ml_X5_206 rfl hR (by omega) (dk dX5_part 52 rfl) (K.1 _ (by rw [(kd_X9_worth K gw4.2)]; decide)) (ent_o10 (kd_X9_worth K gw4.2)) (c_X10_add K (kd_X9_worth K gw4.2) (rfl : F_X10_add (w4 + 7) ((F_X5_number t 0 9999 M).2 t 7) (F_X5_number t 0 9999 M).2 = _)) ⟨Nat.zero_le _, Nat.zero_le _⟩ (Nat.le_of_ble_eq_true rfl) rfl ?_
        refine e_lv [0] rfl ?_
        exact j_X5_part_j103 C K hdx hex ht hR h B
      · rw [if_pos c3] at h
        refine e_iconst C 0 (dk dX5_part 45 rfl) (by decide) ?_
        obtain rfl := Option.some.inj h
        exact e_iret (v := bi false) C B (nar_bi _) (dk dX5_part 46 rfl)
    · rw [if_pos c2] at h
      refine e_aload_n C 0 (dk dX5_part 24 rfl) rfl rfl ?_
      obtain ⟨q6, hq6, h⟩ := ob h
      refine e_callV (ci := 5) C cal_X5_valueHere im_X5_valueHere se_X5_valueHere ml_X5_229 rfl hR (by omega) (dk dX5_part 25 rfl) (K.1 _ (by rw [ht]; decide)) (ent_o5 ht) (c_X5_valueHere K ht hq6) ⟨Nat.zero_le _, Nat.zero_le _⟩ (Nat.le_of_ble_eq_true rfl) rfl ?_
      refine e_istore_n C [(2, .int q6), (0, .ref (g_N g + t)), (1, .int p0)] (dk dX5_part 26 rfl) rfl (by decide) rfl ?_
      refine e_iload_n C 0 (dk dX5_part 27 rfl) rfl rfl ?_
      refine e_iconst C (-1) (dk dX5_part 28 rfl) (by decide) ?_
      refine e_icmp_ne C 62 (dk dX5_part 29 rfl) (by decide) (fun c7 => ?_) (fun c7 => ?_)
      · rw [if_neg c7] at h
        refine e_aload_n C 1 (dk dX5_part 34 rfl) rfl rfl ?_
        obtain ⟨w8, hw8, h⟩ := ob h
        have gw8 := grd_some K (Or.inr ht) hw8
        refine gf_X5_draft C K ht fl_X5_22 (dk dX5_part 35 rfl) ?_
        rw [gw8.1]
        refine gf_X9_worth C K gw8.2 fl_X5_201 (dk dX5_part 36 rfl) ?_
        refine e_iload_n C 0 (dk dX5_part 37 rfl) rfl rfl ?_
        refine e_callV (ci := 10) C cal_X10_addValue im_X10_addValue se_X10_addValue ml_X5_232 rfl hR (by omega) (dk dX5_part 38 rfl) (K.1 _ (by rw [(kd_X9_worth K gw8.2)]; decide)) (ent_o10 (kd_X9_worth K gw8.2)) (c_X10_addValue K (kd_X9_worth K gw8.2) (rfl : F_X10_addValue (w8 + 7) q6 M = _)) ⟨Nat.zero_le _, Nat.zero_le _⟩ (Nat.le_of_ble_eq_true rfl) rfl ?_
        refine e_goto C 103 (dk dX5_part 39 rfl) (by decide) ?_
        refine e_lv [1] rfl ?_
        exact j_X5_part_j103 C K hdx hex ht hR h B
      · rw [if_pos c7] at h
        refine e_aload_n C 1 (dk dX5_part 30 rfl) rfl rfl ?_
        refine e_iconst C 3 (dk dX5_part 31 rfl) (by decide) ?_
        refine e_callV (ci := 5) C cal_X5_refuse im_X5_refuse se_X5_refuse ml_X5_98 rfl hR (by omega) (dk dX5_part 32 rfl) (K.1 _ (by rw [ht]; decide)) (ent_o5 ht) (c_X5_refuse K ht (rfl : F_X5_refuse t 3 M = _)) ⟨Nat.zero_le _, Nat.zero_le _⟩ (Nat.le_of_ble_eq_true rfl) rfl ?_
        obtain rfl := Option.some.inj h
        exact e_iret (v := bi ((F_X5_refuse t 3 M).1)) C B (nar_bi _) (dk dX5_part 33 rfl)
  · rw [if_pos c1] at h
    refine e_aload_n C 0 (dk dX5_part 4 rfl) rfl rfl ?_
    obtain ⟨q9, hq9, h⟩ := ob h
    refine e_callV (ci := 5) C cal_X5_advance im_X5_advance se_X5_advance ml_X5_61 rfl hR (by omega) (dk dX5_part 5 rfl) (K.1 _ (by rw [ht]; decide)) (ent_o5 ht) (c_X5_advance K ht hq9) ⟨Nat.zero_le _, Nat.zero_le _⟩ (Nat.le_of_ble_eq_true rfl) rfl ?_
    refine e_aload_n C 0 (dk dX5_part 6 rfl) rfl rfl ?_
    refine e_iload_n C 1 (dk dX5_part 7 rfl) rfl rfl ?_
    refine e_iconst C 1 (dk dX5_part 8 rfl) (by decide) ?_
    refine e_iadd C (dk dX5_part 9 rfl) ?_
    obtain ⟨q10, hq10, h⟩ := ob h
    refine e_callV (ci := 5) C cal_X5_expr im_X5_expr se_X5_expr ml_X5_152 rfl hR (by omega) (dk dX5_part 10 rfl) (K.1 _ (by rw [ht]; decide)) (ent_o5 ht) (hex ht hq10) ⟨Nat.zero_le _, Nat.zero_le _⟩ (Nat.le_of_ble_eq_true rfl) rfl ?_
    refine e_if_eq C 36 (dk dX5_part 11 rfl) (by decide) (fun c11 => ?_) (fun c11 => ?_)
    · rw [if_pos c11] at h
      refine e_iconst C 0 (dk dX5_part 18 rfl) (by decide) ?_
      obtain rfl := Option.some.inj h
      exact e_iret (v := bi false) C B (nar_bi _) (dk dX5_part 19 rfl)
    · rw [if_neg c11] at h
      refine e_aload_n C 0 (dk dX5_part 12 rfl) rfl rfl ?_
      refine e_bipush C 41 (dk dX5_part 13 rfl) (by decide) ?_
      obtain ⟨q12, hq12, h⟩ := ob h
      refine e_callV (ci := 5) C cal_X5_sign im_X5_sign se_X5_sign ml_X5_155 rfl hR (by omega) (dk dX5_part 14 rfl) (K.1 _ (by rw [ht]; decide)) (ent_o5 ht) (c_X5_sign K ht hq12) ⟨Nat.zero_le _, Nat.zero_le _⟩ (Nat.le_of_ble_eq_true rfl) rfl ?_
      refine e_if_eq C 36 (dk dX5_part 15 rfl) (by decide) (fun c13 => ?_) (fun c13 => ?_)
      · rw [if_pos c13] at h
        refine e_iconst C 0 (dk dX5_part 18 rfl) (by decide) ?_
        obtain rfl := Option.some.inj h
        exact e_iret (v := bi false) C B (nar_bi _) (dk dX5_part 19 rfl)
      · rw [if_neg c13] at h
        refine e_iconst C 1 (dk dX5_part 16 rfl) (by decide) ?_
        refine e_goto C 37 (dk dX5_part 17 rfl) (by decide) ?_
        obtain rfl := Option.some.inj h
        exact e_iret (v := bi true) C B (nar_bi _) (dk dX5_part 19 rfl)
set_option maxRecDepth 20000 in
theorem j_X5_product_j37 {X : FX} {g : WC} {Xo : Nat → va_E} {n : Nat} {kd : Nat → Nat} {dx : Nat} (C : Cx X g RX5 cX5_product 4) (K : KD n kd) {ex : (Nat → Int32 → Mem → Option (Bool × Mem))} {t : Nat} (hdx : 10 ≤ dx) (hex : ∀ {t : Nat} {p0 : Int32} {M : Mem} {res : Bool × Mem}, kd t = 6 → ex t p0 M = some res → MC g yX5_expr cX5_expr 3 (some .boolean) dx n [.ref (g_N g + t), .int p0] (ent g Xo kd M) (some (.int (bi res.1))) (ent g Xo kd res.2)) (ht : kd t = 6) {x1 : Int32} (hR : x_R X = rm (dx + 2)) {OK : Sum (Bool × Mem) (Mem) → Prop} (hB : ∀ v, OK (Sum.inl v) → Bx X g (some .boolean) (dx + 2) n (some (.int (bi v.1))) (ent g Xo kd v.2)) (hx : ∀ s, OK (Sum.inr s) → EW X g (x_s X).heap.size n 4 (ent g Xo kd s) 0 0 85 [] []) {rec : Int32 → Mem → Option (Sum (Bool × Mem) (Mem))} (hrec : ∀ (x2 : Int32) (M : Mem) (q : Sum (Bool × Mem) (Mem)), rec x2 M = some q → OK q → EW X g (x_s X).heap.size n 4 (ent g Xo kd M) 0 0 12 [(0, .ref (g_N g + t)), (1, .int x1), (2, .int x2)] []) {x2 : Int32} {M : Mem} (q : Sum (Bool × Mem) (Mem)) (h : J_X5_product_j37 ex t rec x1 x2 M = some q) (hOK : OK q) : EW X g (x_s X).heap.size n 4 (ent g Xo kd M) 0 0 37 [(0, .ref (g_N g + t)), (1, .int x1), (2, .int x2)] [] := by
  rw [J_X5_product_j37] at h
  refine e_aload_n C 0 (dk dX5_product 19 rfl) rfl rfl ?_
  refine gf_X5_kind C K ht fl_X5_35 (dk dX5_product 20 rfl) ?_
  refine e_bipush C 42 (dk dX5_product 21 rfl) (by decide) ?_
  suffices hm6 : EW X g (x_s X).heap.size n 4 (ent g Xo kd M) 0 0 53 [(0, .ref (g_N g + t)), (1, .int x1), (2, .int x2)] [.int (if (M t 6) = 42 then (-18 : Int32) else (-19 : Int32))] from (by
    refine e_icmp_ne C 51 (dk dX5_product 22 rfl) (by decide) (fun c5 => ?_) (fun c5 => ?_)
    · rw [show (if (M t 6) = 42 then (-18 : Int32) else (-19 : Int32)) = (-19 : Int32) from if_neg c5] at hm6
      refine e_bipush C (-19) (dk dX5_product 25 rfl) (by decide) ?_
      exact hm6
    · rw [show (if (M t 6) = 42 then (-18 : Int32) else (-19 : Int32)) = (-18 : Int32) from if_pos c5] at hm6
      refine e_bipush C (-18) (dk dX5_product 23 rfl) (by decide) ?_
      refine e_goto C 53 (dk dX5_product 24 rfl) (by decide) ?_
      exact hm6)
  refine e_istore_n C [(3, .int (if (M t 6) = 42 then (-18 : Int32) else (-19 : Int32))), (0, .ref (g_N g + t)), (1, .int x1), (2, .int x2)] (dk dX5_product 26 rfl) rfl (by decide) rfl ?_
  refine e_aload_n C 1 (dk dX5_product 27 rfl) rfl rfl ?_
  obtain ⟨q7, hq7, h⟩ := ob h
  refine e_callV (ci := 5) C cal_X5_advance im_X5_advance se_X5_advance ml_X5_61 rfl hR (by omega) (dk dX5_product 28 rfl) (K.1 _ (by rw [ht]; decide)) (ent_o5 ht) (c_X5_advance K ht hq7) ⟨Nat.zero_le _, Nat.zero_le _⟩ (Nat.le_of_ble_eq_true rfl) rfl ?_
  refine e_aload_n C 1 (dk dX5_product 29 rfl) rfl rfl ?_
  refine e_iload_n C 2 (dk dX5_product 30 rfl) rfl rfl ?_
  obtain ⟨q8, hq8, h⟩ := ob h
  refine e_callV (ci := 5) C cal_X5_part im_X5_part se_X5_part ml_X5_226 rfl hR (by omega) (dk dX5_product 31 rfl) (K.1 _ (by rw [ht]; decide)) (ent_o5 ht) (c_X5_part K hdx hex ht hq8) ⟨Nat.zero_le _, Nat.zero_le _⟩ (Nat.le_of_ble_eq_true rfl) rfl ?_
  refine e_if_ne C 68 (dk dX5_product 32 rfl) (by decide) (fun c9 => ?_) (fun c9 => ?_)
  · rw [if_neg c9] at h
    refine e_aload_n C 1 (dk dX5_product 35 rfl) rfl rfl ?_
    obtain ⟨w10, hw10, h⟩ := ob h
    have gw10 := grd_some K (Or.inr ht) hw10
    refine gf_X5_draft C K ht fl_X5_22 (dk dX5_product 36 rfl) ?_
    rw [gw10.1]
    refine gf_X9_worth C K gw10.2 fl_X5_201 (dk dX5_product 37 rfl) ?_
    refine e_iload_n C 0 (dk dX5_product 38 rfl) rfl rfl ?_
    refine e_callV (ci := 10) C cal_X10_add im_X10_add se_X10_add ml_X5_206 rfl hR (by omega) (dk dX5_product 39 rfl) (K.1 _ (by rw [(kd_X9_worth K gw10.2)]; decide)) (ent_o10 (kd_X9_worth K gw10.2)) (c_X10_add K (kd_X9_worth K gw10.2) (rfl : F_X10_add (w10 + 7) (if (M t 6) = 42 then (-18 : Int32) else (-19 : Int32)) q8.2 = _)) ⟨Nat.zero_le _, Nat.zero_le _⟩ (Nat.le_of_ble_eq_true rfl) rfl ?_
    refine e_iinc C [(2, .int (x2 + 1)), (3, .int (if (M t 6) = 42 then (-18 : Int32) else (-19 : Int32))), (0, .ref (g_N g + t)), (1, .int x1)] 3 1 (dk dX5_product 40 rfl) rfl (by decide) (by decide) rfl ?_
    refine e_goto C 12 (dk dX5_product 41 rfl) (by decide) ?_
    refine e_lv [2, 3, 0] rfl ?_
    exact hrec _ _ _ h hOK
  · rw [if_pos c9] at h
    refine e_iconst C 0 (dk dX5_product 33 rfl) (by decide) ?_
    obtain rfl := Option.some.inj h
    exact e_iret (v := bi false) C (hB _ hOK) (nar_bi _) (dk dX5_product 34 rfl)
set_option maxRecDepth 20000 in
theorem l_X5_product_12 {X : FX} {g : WC} {Xo : Nat → va_E} {n : Nat} {kd : Nat → Nat} {dx : Nat} (C : Cx X g RX5 cX5_product 4) (K : KD n kd) {ex : (Nat → Int32 → Mem → Option (Bool × Mem))} {t : Nat} (hdx : 10 ≤ dx) (hex : ∀ {t : Nat} {p0 : Int32} {M : Mem} {res : Bool × Mem}, kd t = 6 → ex t p0 M = some res → MC g yX5_expr cX5_expr 3 (some .boolean) dx n [.ref (g_N g + t), .int p0] (ent g Xo kd M) (some (.int (bi res.1))) (ent g Xo kd res.2)) (ht : kd t = 6) {x1 : Int32} (hR : x_R X = rm (dx + 2)) {OK : Sum (Bool × Mem) (Mem) → Prop} (hB : ∀ v, OK (Sum.inl v) → Bx X g (some .boolean) (dx + 2) n (some (.int (bi v.1))) (ent g Xo kd v.2)) (hx : ∀ s, OK (Sum.inr s) → EW X g (x_s X).heap.size n 4 (ent g Xo kd s) 0 0 85 [] []) : ∀ (N9 : Nat) (x2 : Int32) (M : Mem) (q : Sum (Bool × Mem) (Mem)), L_X5_product_12 ex t x1 N9 x2 M = some q → OK q → EW X g (x_s X).heap.size n 4 (ent g Xo kd M) 0 0 12 [(0, .ref (g_N g + t)), (1, .int x1), (2, .int x2)] [] := by
  intro N9
  induction N9 with
  | zero =>
    intro x2 M q h
    rw [L_X5_product_12.eq_1] at h
    cases h
  | succ m9 ih =>
    intro x2 M q h hOK
    rw [L_X5_product_12.eq_2] at h
    refine e_iload_n C 2 (dk dX5_product 8 rfl) rfl rfl ?_
    refine e_sipush C 700 (dk dX5_product 9 rfl) (by decide) ?_
    refine e_icmp_ge C 85 (dk dX5_product 10 rfl) (by decide) (fun c3 => ?_) (fun c3 => ?_)
    · rw [if_pos c3] at h
      obtain rfl := Option.some.inj h
      refine e_lv [] rfl ?_
      exact hx _ hOK
    · rw [if_neg c3] at h
      refine e_aload_n C 0 (dk dX5_product 11 rfl) rfl rfl ?_
      refine gf_X5_kind C K ht fl_X5_35 (dk dX5_product 12 rfl) ?_
      refine e_bipush C 42 (dk dX5_product 13 rfl) (by decide) ?_
      refine e_icmp_eq C 37 (dk dX5_product 14 rfl) (by decide) (fun c4 => ?_) (fun c4 => ?_)
      · rw [if_pos c4] at h
        exact j_X5_product_j37 C K hdx hex ht hR hB hx ih _ h hOK
      · rw [if_neg c4] at h
        refine e_aload_n C 0 (dk dX5_product 15 rfl) rfl rfl ?_
        refine gf_X5_kind C K ht fl_X5_35 (dk dX5_product 16 rfl) ?_
        refine e_bipush C 47 (dk dX5_product 17 rfl) (by decide) ?_
        refine e_icmp_ne C 85 (dk dX5_product 18 rfl) (by decide) (fun c11 => ?_) (fun c11 => ?_)
        · rw [if_neg c11] at h
          obtain rfl := Option.some.inj h
          refine e_lv [] rfl ?_
          exact hx _ hOK
        · rw [if_pos c11] at h
          exact j_X5_product_j37 C K hdx hex ht hR hB hx ih _ h hOK
set_option maxRecDepth 20000 in
theorem lb_X5_product_12 {X : FX} {g : WC} {Xo : Nat → va_E} {n : Nat} {kd : Nat → Nat} {dx : Nat} (C : Cx X g RX5 cX5_product 4) (K : KD n kd) {ex : (Nat → Int32 → Mem → Option (Bool × Mem))} {t : Nat} (hdx : 10 ≤ dx) (hex : ∀ {t : Nat} {p0 : Int32} {M : Mem} {res : Bool × Mem}, kd t = 6 → ex t p0 M = some res → MC g yX5_expr cX5_expr 3 (some .boolean) dx n [.ref (g_N g + t), .int p0] (ent g Xo kd M) (some (.int (bi res.1))) (ent g Xo kd res.2)) (ht : kd t = 6) {x1 : Int32} (hR : x_R X = rm (dx + 2)) {T9 : Type} {f9 : Sum (Bool × Mem) (Mem) → Option T9} {b9 : T9} (hB : ∀ v, f9 (Sum.inl v) = some b9 → Bx X g (some .boolean) (dx + 2) n (some (.int (bi v.1))) (ent g Xo kd v.2)) (hx : ∀ s, f9 (Sum.inr s) = some b9 → EW X g (x_s X).heap.size n 4 (ent g Xo kd s) 0 0 85 [] []) {x2 : Int32} {M : Mem} (h : (L_X5_product_12 ex t x1 FU x2 M).bind f9 = some b9) : EW X g (x_s X).heap.size n 4 (ent g Xo kd M) 0 0 12 [(0, .ref (g_N g + t)), (1, .int x1), (2, .int x2)] [] := by
  obtain ⟨q, hq, h⟩ := ob h
  exact l_X5_product_12 C K hdx hex ht hR (OK := fun q => f9 q = some b9) hB hx FU x2 M q hq h
set_option maxRecDepth 20000 in
theorem c_X5_product {g : WC} {Xo : Nat → va_E} {n : Nat} {kd : Nat → Nat} {dx : Nat} (K : KD n kd) {ex : (Nat → Int32 → Mem → Option (Bool × Mem))} {t : Nat} {p0 : Int32} (hdx : 10 ≤ dx) (hex : ∀ {t : Nat} {p0 : Int32} {M : Mem} {res : Bool × Mem}, kd t = 6 → ex t p0 M = some res → MC g yX5_expr cX5_expr 3 (some .boolean) dx n [.ref (g_N g + t), .int p0] (ent g Xo kd M) (some (.int (bi res.1))) (ent g Xo kd res.2)) (ht : kd t = 6) {M : Mem} {res : Bool × Mem} (h : F_X5_product ex t p0 M = some res) : MC g yX5_product cX5_product 4 (some .boolean) (dx + 2) n [.ref (g_N g + t), .int p0] (ent g Xo kd M) (some (.int (bi res.1))) (ent g Xo kd res.2) := by
  refine MC_of pn_X5 (Nat.le_of_ble_eq_true rfl) (fun X C B => ?_)
  have hR := B.1
  rw [F_X5_product] at h
  refine e_aload_n C 0 (dk dX5_product 0 rfl) rfl rfl ?_
  refine e_iload_n C 1 (dk dX5_product 1 rfl) rfl rfl ?_
  obtain ⟨q1, hq1, h⟩ := ob h
  refine e_callV (ci := 5) C cal_X5_part im_X5_part se_X5_part ml_X5_226 rfl hR (by omega) (dk dX5_product 2 rfl) (K.1 _ (by rw [ht]; decide)) (ent_o5 ht) (c_X5_part K hdx hex ht hq1) ⟨Nat.zero_le _, Nat.zero_le _⟩ (Nat.le_of_ble_eq_true rfl) rfl ?_
  refine e_if_ne C 10 (dk dX5_product 3 rfl) (by decide) (fun c2 => ?_) (fun c2 => ?_)
  · rw [if_neg c2] at h
    refine e_iconst C 0 (dk dX5_product 6 rfl) (by decide) ?_
    refine e_istore_n C [(2, .int 0), (0, .ref (g_N g + t)), (1, .int p0)] (dk dX5_product 7 rfl) rfl (by decide) rfl ?_
    refine e_lv [1, 2, 0] rfl ?_
    refine lb_X5_product_12 C K hdx hex ht hR (fun v h => ?_) (fun s13 h => ?_) h
    · obtain rfl := Option.some.inj (show some v = some _ from h)
      exact B
    dsimp only [Sum.elim_inr] at h
    refine e_iconst C 1 (dk dX5_product 42 rfl) (by decide) ?_
    obtain rfl := Option.some.inj h
    exact e_iret (v := bi true) C B (nar_bi _) (dk dX5_product 43 rfl)
  · rw [if_pos c2] at h
    refine e_iconst C 0 (dk dX5_product 4 rfl) (by decide) ?_
    obtain rfl := Option.some.inj h
    exact e_iret (v := bi false) C B (nar_bi _) (dk dX5_product 5 rfl)
set_option maxRecDepth 20000 in
theorem j_X5_sum_j37 {X : FX} {g : WC} {Xo : Nat → va_E} {n : Nat} {kd : Nat → Nat} {dx : Nat} (C : Cx X g RX5 cX5_sum 4) (K : KD n kd) {ex : (Nat → Int32 → Mem → Option (Bool × Mem))} {t : Nat} (hdx : 10 ≤ dx) (hex : ∀ {t : Nat} {p0 : Int32} {M : Mem} {res : Bool × Mem}, kd t = 6 → ex t p0 M = some res → MC g yX5_expr cX5_expr 3 (some .boolean) dx n [.ref (g_N g + t), .int p0] (ent g Xo kd M) (some (.int (bi res.1))) (ent g Xo kd res.2)) (ht : kd t = 6) {x1 : Int32} (hR : x_R X = rm (dx + 3)) {OK : Sum (Bool × Mem) (Mem) → Prop} (hB : ∀ v, OK (Sum.inl v) → Bx X g (some .boolean) (dx + 3) n (some (.int (bi v.1))) (ent g Xo kd v.2)) (hx : ∀ s, OK (Sum.inr s) → EW X g (x_s X).heap.size n 4 (ent g Xo kd s) 0 0 85 [] []) {rec : Int32 → Mem → Option (Sum (Bool × Mem) (Mem))} (hrec : ∀ (x2 : Int32) (M : Mem) (q : Sum (Bool × Mem) (Mem)), rec x2 M = some q → OK q → EW X g (x_s X).heap.size n 4 (ent g Xo kd M) 0 0 12 [(0, .ref (g_N g + t)), (1, .int x1), (2, .int x2)] []) {x2 : Int32} {M : Mem} (q : Sum (Bool × Mem) (Mem)) (h : J_X5_sum_j37 ex t rec x1 x2 M = some q) (hOK : OK q) : EW X g (x_s X).heap.size n 4 (ent g Xo kd M) 0 0 37 [(0, .ref (g_N g + t)), (1, .int x1), (2, .int x2)] [] := by
  rw [J_X5_sum_j37] at h
  refine e_aload_n C 0 (dk dX5_sum 19 rfl) rfl rfl ?_
  refine gf_X5_kind C K ht fl_X5_35 (dk dX5_sum 20 rfl) ?_
  refine e_bipush C 43 (dk dX5_sum 21 rfl) (by decide) ?_
  suffices hm6 : EW X g (x_s X).heap.size n 4 (ent g Xo kd M) 0 0 53 [(0, .ref (g_N g + t)), (1, .int x1), (2, .int x2)] [.int (if (M t 6) = 43 then (-16 : Int32) else (-17 : Int32))] from (by
    refine e_icmp_ne C 51 (dk dX5_sum 22 rfl) (by decide) (fun c5 => ?_) (fun c5 => ?_)
    · rw [show (if (M t 6) = 43 then (-16 : Int32) else (-17 : Int32)) = (-17 : Int32) from if_neg c5] at hm6
      refine e_bipush C (-17) (dk dX5_sum 25 rfl) (by decide) ?_
      exact hm6
    · rw [show (if (M t 6) = 43 then (-16 : Int32) else (-17 : Int32)) = (-16 : Int32) from if_pos c5] at hm6
      refine e_bipush C (-16) (dk dX5_sum 23 rfl) (by decide) ?_
      refine e_goto C 53 (dk dX5_sum 24 rfl) (by decide) ?_
      exact hm6)
  refine e_istore_n C [(3, .int (if (M t 6) = 43 then (-16 : Int32) else (-17 : Int32))), (0, .ref (g_N g + t)), (1, .int x1), (2, .int x2)] (dk dX5_sum 26 rfl) rfl (by decide) rfl ?_
  refine e_aload_n C 1 (dk dX5_sum 27 rfl) rfl rfl ?_
  obtain ⟨q7, hq7, h⟩ := ob h
  refine e_callV (ci := 5) C cal_X5_advance im_X5_advance se_X5_advance ml_X5_61 rfl hR (by omega) (dk dX5_sum 28 rfl) (K.1 _ (by rw [ht]; decide)) (ent_o5 ht) (c_X5_advance K ht hq7) ⟨Nat.zero_le _, Nat.zero_le _⟩ (Nat.le_of_ble_eq_true rfl) rfl ?_
  refine e_aload_n C 1 (dk dX5_sum 29 rfl) rfl rfl ?_
  refine e_iload_n C 2 (dk dX5_sum 30 rfl) rfl rfl ?_
  obtain ⟨q8, hq8, h⟩ := ob h
  refine e_callV (ci := 5) C cal_X5_product im_X5_product se_X5_product ml_X5_223 rfl hR (by omega) (dk dX5_sum 31 rfl) (K.1 _ (by rw [ht]; decide)) (ent_o5 ht) (c_X5_product K hdx hex ht hq8) ⟨Nat.zero_le _, Nat.zero_le _⟩ (Nat.le_of_ble_eq_true rfl) rfl ?_
  refine e_if_ne C 68 (dk dX5_sum 32 rfl) (by decide) (fun c9 => ?_) (fun c9 => ?_)
  · rw [if_neg c9] at h
    refine e_aload_n C 1 (dk dX5_sum 35 rfl) rfl rfl ?_
    obtain ⟨w10, hw10, h⟩ := ob h
    have gw10 := grd_some K (Or.inr ht) hw10
    refine gf_X5_draft C K ht fl_X5_22 (dk dX5_sum 36 rfl) ?_
    rw [gw10.1]
    refine gf_X9_worth C K gw10.2 fl_X5_201 (dk dX5_sum 37 rfl) ?_
    refine e_iload_n C 0 (dk dX5_sum 38 rfl) rfl rfl ?_
    refine e_callV (ci := 10) C cal_X10_add im_X10_add se_X10_add ml_X5_206 rfl hR (by omega) (dk dX5_sum 39 rfl) (K.1 _ (by rw [(kd_X9_worth K gw10.2)]; decide)) (ent_o10 (kd_X9_worth K gw10.2)) (c_X10_add K (kd_X9_worth K gw10.2) (rfl : F_X10_add (w10 + 7) (if (M t 6) = 43 then (-16 : Int32) else (-17 : Int32)) q8.2 = _)) ⟨Nat.zero_le _, Nat.zero_le _⟩ (Nat.le_of_ble_eq_true rfl) rfl ?_
    refine e_iinc C [(2, .int (x2 + 1)), (3, .int (if (M t 6) = 43 then (-16 : Int32) else (-17 : Int32))), (0, .ref (g_N g + t)), (1, .int x1)] 3 1 (dk dX5_sum 40 rfl) rfl (by decide) (by decide) rfl ?_
    refine e_goto C 12 (dk dX5_sum 41 rfl) (by decide) ?_
    refine e_lv [2, 3, 0] rfl ?_
    exact hrec _ _ _ h hOK
  · rw [if_pos c9] at h
    refine e_iconst C 0 (dk dX5_sum 33 rfl) (by decide) ?_
    obtain rfl := Option.some.inj h
    exact e_iret (v := bi false) C (hB _ hOK) (nar_bi _) (dk dX5_sum 34 rfl)
set_option maxRecDepth 20000 in
theorem l_X5_sum_12 {X : FX} {g : WC} {Xo : Nat → va_E} {n : Nat} {kd : Nat → Nat} {dx : Nat} (C : Cx X g RX5 cX5_sum 4) (K : KD n kd) {ex : (Nat → Int32 → Mem → Option (Bool × Mem))} {t : Nat} (hdx : 10 ≤ dx) (hex : ∀ {t : Nat} {p0 : Int32} {M : Mem} {res : Bool × Mem}, kd t = 6 → ex t p0 M = some res → MC g yX5_expr cX5_expr 3 (some .boolean) dx n [.ref (g_N g + t), .int p0] (ent g Xo kd M) (some (.int (bi res.1))) (ent g Xo kd res.2)) (ht : kd t = 6) {x1 : Int32} (hR : x_R X = rm (dx + 3)) {OK : Sum (Bool × Mem) (Mem) → Prop} (hB : ∀ v, OK (Sum.inl v) → Bx X g (some .boolean) (dx + 3) n (some (.int (bi v.1))) (ent g Xo kd v.2)) (hx : ∀ s, OK (Sum.inr s) → EW X g (x_s X).heap.size n 4 (ent g Xo kd s) 0 0 85 [] []) : ∀ (N9 : Nat) (x2 : Int32) (M : Mem) (q : Sum (Bool × Mem) (Mem)), L_X5_sum_12 ex t x1 N9 x2 M = some q → OK q → EW X g (x_s X).heap.size n 4 (ent g Xo kd M) 0 0 12 [(0, .ref (g_N g + t)), (1, .int x1), (2, .int x2)] [] := by
  intro N9
  induction N9 with
  | zero =>
    intro x2 M q h
    rw [L_X5_sum_12.eq_1] at h
    cases h
  | succ m9 ih =>
    intro x2 M q h hOK
    rw [L_X5_sum_12.eq_2] at h
    refine e_iload_n C 2 (dk dX5_sum 8 rfl) rfl rfl ?_
    refine e_sipush C 700 (dk dX5_sum 9 rfl) (by decide) ?_
    refine e_icmp_ge C 85 (dk dX5_sum 10 rfl) (by decide) (fun c3 => ?_) (fun c3 => ?_)
    · rw [if_pos c3] at h
      obtain rfl := Option.some.inj h
      refine e_lv [] rfl ?_
      exact hx _ hOK
    · rw [if_neg c3] at h
      refine e_aload_n C 0 (dk dX5_sum 11 rfl) rfl rfl ?_
      refine gf_X5_kind C K ht fl_X5_35 (dk dX5_sum 12 rfl) ?_
      refine e_bipush C 43 (dk dX5_sum 13 rfl) (by decide) ?_
      refine e_icmp_eq C 37 (dk dX5_sum 14 rfl) (by decide) (fun c4 => ?_) (fun c4 => ?_)
      · rw [if_pos c4] at h
        exact j_X5_sum_j37 C K hdx hex ht hR hB hx ih _ h hOK
      · rw [if_neg c4] at h
        refine e_aload_n C 0 (dk dX5_sum 15 rfl) rfl rfl ?_
        refine gf_X5_kind C K ht fl_X5_35 (dk dX5_sum 16 rfl) ?_
        refine e_bipush C 45 (dk dX5_sum 17 rfl) (by decide) ?_
        refine e_icmp_ne C 85 (dk dX5_sum 18 rfl) (by decide) (fun c11 => ?_) (fun c11 => ?_)
        · rw [if_neg c11] at h
          obtain rfl := Option.some.inj h
          refine e_lv [] rfl ?_
          exact hx _ hOK
        · rw [if_pos c11] at h
          exact j_X5_sum_j37 C K hdx hex ht hR hB hx ih _ h hOK
set_option maxRecDepth 20000 in
theorem lb_X5_sum_12 {X : FX} {g : WC} {Xo : Nat → va_E} {n : Nat} {kd : Nat → Nat} {dx : Nat} (C : Cx X g RX5 cX5_sum 4) (K : KD n kd) {ex : (Nat → Int32 → Mem → Option (Bool × Mem))} {t : Nat} (hdx : 10 ≤ dx) (hex : ∀ {t : Nat} {p0 : Int32} {M : Mem} {res : Bool × Mem}, kd t = 6 → ex t p0 M = some res → MC g yX5_expr cX5_expr 3 (some .boolean) dx n [.ref (g_N g + t), .int p0] (ent g Xo kd M) (some (.int (bi res.1))) (ent g Xo kd res.2)) (ht : kd t = 6) {x1 : Int32} (hR : x_R X = rm (dx + 3)) {T9 : Type} {f9 : Sum (Bool × Mem) (Mem) → Option T9} {b9 : T9} (hB : ∀ v, f9 (Sum.inl v) = some b9 → Bx X g (some .boolean) (dx + 3) n (some (.int (bi v.1))) (ent g Xo kd v.2)) (hx : ∀ s, f9 (Sum.inr s) = some b9 → EW X g (x_s X).heap.size n 4 (ent g Xo kd s) 0 0 85 [] []) {x2 : Int32} {M : Mem} (h : (L_X5_sum_12 ex t x1 FU x2 M).bind f9 = some b9) : EW X g (x_s X).heap.size n 4 (ent g Xo kd M) 0 0 12 [(0, .ref (g_N g + t)), (1, .int x1), (2, .int x2)] [] := by
  obtain ⟨q, hq, h⟩ := ob h
  exact l_X5_sum_12 C K hdx hex ht hR (OK := fun q => f9 q = some b9) hB hx FU x2 M q hq h
set_option maxRecDepth 20000 in
theorem c_X5_sum {g : WC} {Xo : Nat → va_E} {n : Nat} {kd : Nat → Nat} {dx : Nat} (K : KD n kd) {ex : (Nat → Int32 → Mem → Option (Bool × Mem))} {t : Nat} {p0 : Int32} (hdx : 10 ≤ dx) (hex : ∀ {t : Nat} {p0 : Int32} {M : Mem} {res : Bool × Mem}, kd t = 6 → ex t p0 M = some res → MC g yX5_expr cX5_expr 3 (some .boolean) dx n [.ref (g_N g + t), .int p0] (ent g Xo kd M) (some (.int (bi res.1))) (ent g Xo kd res.2)) (ht : kd t = 6) {M : Mem} {res : Bool × Mem} (h : F_X5_sum ex t p0 M = some res) : MC g yX5_sum cX5_sum 4 (some .boolean) (dx + 3) n [.ref (g_N g + t), .int p0] (ent g Xo kd M) (some (.int (bi res.1))) (ent g Xo kd res.2) := by
  refine MC_of pn_X5 (Nat.le_of_ble_eq_true rfl) (fun X C B => ?_)
  have hR := B.1
  rw [F_X5_sum] at h
  refine e_aload_n C 0 (dk dX5_sum 0 rfl) rfl rfl ?_
  refine e_iload_n C 1 (dk dX5_sum 1 rfl) rfl rfl ?_
  obtain ⟨q1, hq1, h⟩ := ob h
  refine e_callV (ci := 5) C cal_X5_product im_X5_product se_X5_product ml_X5_223 rfl hR (by omega) (dk dX5_sum 2 rfl) (K.1 _ (by rw [ht]; decide)) (ent_o5 ht) (c_X5_product K hdx hex ht hq1) ⟨Nat.zero_le _, Nat.zero_le _⟩ (Nat.le_of_ble_eq_true rfl) rfl ?_
  refine e_if_ne C 10 (dk dX5_sum 3 rfl) (by decide) (fun c2 => ?_) (fun c2 => ?_)
  · rw [if_neg c2] at h
    refine e_iconst C 0 (dk dX5_sum 6 rfl) (by decide) ?_
    refine e_istore_n C [(2, .int 0), (0, .ref (g_N g + t)), (1, .int p0)] (dk dX5_sum 7 rfl) rfl (by decide) rfl ?_
    refine e_lv [1, 2, 0] rfl ?_
    refine lb_X5_sum_12 C K hdx hex ht hR (fun v h => ?_) (fun s13 h => ?_) h
    · obtain rfl := Option.some.inj (show some v = some _ from h)
      exact B
    dsimp only [Sum.elim_inr] at h
    refine e_iconst C 1 (dk dX5_sum 42 rfl) (by decide) ?_
    obtain rfl := Option.some.inj h
    exact e_iret (v := bi true) C B (nar_bi _) (dk dX5_sum 43 rfl)
  · rw [if_pos c2] at h
    refine e_iconst C 0 (dk dX5_sum 4 rfl) (by decide) ?_
    obtain rfl := Option.some.inj h
    exact e_iret (v := bi false) C B (nar_bi _) (dk dX5_sum 5 rfl)
set_option maxRecDepth 20000 in
theorem j_X5_test_j30 {X : FX} {g : WC} {Xo : Nat → va_E} {n : Nat} {kd : Nat → Nat} {dx : Nat} (C : Cx X g RX5 cX5_test 3) (K : KD n kd) {ex : (Nat → Int32 → Mem → Option (Bool × Mem))} {t : Nat} (hdx : 10 ≤ dx) (hex : ∀ {t : Nat} {p0 : Int32} {M : Mem} {res : Bool × Mem}, kd t = 6 → ex t p0 M = some res → MC g yX5_expr cX5_expr 3 (some .boolean) dx n [.ref (g_N g + t), .int p0] (ent g Xo kd M) (some (.int (bi res.1))) (ent g Xo kd res.2)) (ht : kd t = 6) (hR : x_R X = rm (dx + 4)) {x1 : Int32} {M : Mem} {res : Bool × Mem} (h : J_X5_test_j30 ex t x1 M = some res) (B : Bx X g (some .boolean) (dx + 4) n (some (.int (bi res.1))) (ent g Xo kd res.2)) : EW X g (x_s X).heap.size n 3 (ent g Xo kd M) 0 0 30 [(0, .ref (g_N g + t)), (1, .int x1)] [] := by
  rw [J_X5_test_j30] at h
  refine e_aload_n C 0 (dk dX5_test 16 rfl) rfl rfl ?_
  refine gf_X5_kind C K ht fl_X5_35 (dk dX5_test 17 rfl) ?_
  refine e_bipush C 60 (dk dX5_test 18 rfl) (by decide) ?_
  suffices hm5 : EW X g (x_s X).heap.size n 3 (ent g Xo kd M) 0 0 46 [(0, .ref (g_N g + t)), (1, .int x1)] [.int (if (M t 6) = 60 then (-14 : Int32) else (-15 : Int32))] from (by
    refine e_icmp_ne C 44 (dk dX5_test 19 rfl) (by decide) (fun c4 => ?_) (fun c4 => ?_)
    · rw [show (if (M t 6) = 60 then (-14 : Int32) else (-15 : Int32)) = (-15 : Int32) from if_neg c4] at hm5
      refine e_bipush C (-15) (dk dX5_test 22 rfl) (by decide) ?_
      exact hm5
    · rw [show (if (M t 6) = 60 then (-14 : Int32) else (-15 : Int32)) = (-14 : Int32) from if_pos c4] at hm5
      refine e_bipush C (-14) (dk dX5_test 20 rfl) (by decide) ?_
      refine e_goto C 46 (dk dX5_test 21 rfl) (by decide) ?_
      exact hm5)
  refine e_istore_n C [(2, .int (if (M t 6) = 60 then (-14 : Int32) else (-15 : Int32))), (0, .ref (g_N g + t)), (1, .int x1)] (dk dX5_test 23 rfl) rfl (by decide) rfl ?_
  refine e_aload_n C 1 (dk dX5_test 24 rfl) rfl rfl ?_
  obtain ⟨q6, hq6, h⟩ := ob h
  refine e_callV (ci := 5) C cal_X5_advance im_X5_advance se_X5_advance ml_X5_61 rfl hR (by omega) (dk dX5_test 25 rfl) (K.1 _ (by rw [ht]; decide)) (ent_o5 ht) (c_X5_advance K ht hq6) ⟨Nat.zero_le _, Nat.zero_le _⟩ (Nat.le_of_ble_eq_true rfl) rfl ?_
  refine e_aload_n C 1 (dk dX5_test 26 rfl) rfl rfl ?_
  refine e_iload_n C 2 (dk dX5_test 27 rfl) rfl rfl ?_
  obtain ⟨q7, hq7, h⟩ := ob h
  refine e_callV (ci := 5) C cal_X5_sum im_X5_sum se_X5_sum ml_X5_220 rfl hR (by omega) (dk dX5_test 28 rfl) (K.1 _ (by rw [ht]; decide)) (ent_o5 ht) (c_X5_sum K hdx hex ht hq7) ⟨Nat.zero_le _, Nat.zero_le _⟩ (Nat.le_of_ble_eq_true rfl) rfl ?_
  refine e_if_ne C 61 (dk dX5_test 29 rfl) (by decide) (fun c8 => ?_) (fun c8 => ?_)
  · rw [if_neg c8] at h
    refine e_aload_n C 1 (dk dX5_test 32 rfl) rfl rfl ?_
    obtain ⟨w9, hw9, h⟩ := ob h
    have gw9 := grd_some K (Or.inr ht) hw9
    refine gf_X5_draft C K ht fl_X5_22 (dk dX5_test 33 rfl) ?_
    rw [gw9.1]
    refine gf_X9_worth C K gw9.2 fl_X5_201 (dk dX5_test 34 rfl) ?_
    refine e_iload_n C 0 (dk dX5_test 35 rfl) rfl rfl ?_
    refine e_callV (ci := 10) C cal_X10_add im_X10_add se_X10_add ml_X5_206 rfl hR (by omega) (dk dX5_test 36 rfl) (K.1 _ (by rw [(kd_X9_worth K gw9.2)]; decide)) (ent_o10 (kd_X9_worth K gw9.2)) (c_X10_add K (kd_X9_worth K gw9.2) (rfl : F_X10_add (w9 + 7) (if (M t 6) = 60 then (-14 : Int32) else (-15 : Int32)) q7.2 = _)) ⟨Nat.zero_le _, Nat.zero_le _⟩ (Nat.le_of_ble_eq_true rfl) rfl ?_
    refine e_iconst C 1 (dk dX5_test 37 rfl) (by decide) ?_
    obtain rfl := Option.some.inj h
    exact e_iret (v := bi true) C B (nar_bi _) (dk dX5_test 38 rfl)
  · rw [if_pos c8] at h
    refine e_iconst C 0 (dk dX5_test 30 rfl) (by decide) ?_
    obtain rfl := Option.some.inj h
    exact e_iret (v := bi false) C B (nar_bi _) (dk dX5_test 31 rfl)
set_option maxRecDepth 20000 in
theorem c_X5_test {g : WC} {Xo : Nat → va_E} {n : Nat} {kd : Nat → Nat} {dx : Nat} (K : KD n kd) {ex : (Nat → Int32 → Mem → Option (Bool × Mem))} {t : Nat} {p0 : Int32} (hdx : 10 ≤ dx) (hex : ∀ {t : Nat} {p0 : Int32} {M : Mem} {res : Bool × Mem}, kd t = 6 → ex t p0 M = some res → MC g yX5_expr cX5_expr 3 (some .boolean) dx n [.ref (g_N g + t), .int p0] (ent g Xo kd M) (some (.int (bi res.1))) (ent g Xo kd res.2)) (ht : kd t = 6) {M : Mem} {res : Bool × Mem} (h : F_X5_test ex t p0 M = some res) : MC g yX5_test cX5_test 3 (some .boolean) (dx + 4) n [.ref (g_N g + t), .int p0] (ent g Xo kd M) (some (.int (bi res.1))) (ent g Xo kd res.2) := by
  refine MC_of pn_X5 (Nat.le_of_ble_eq_true rfl) (fun X C B => ?_)
  have hR := B.1
  rw [F_X5_test] at h
  refine e_aload_n C 0 (dk dX5_test 0 rfl) rfl rfl ?_
  refine e_iload_n C 1 (dk dX5_test 1 rfl) rfl rfl ?_
  obtain ⟨q1, hq1, h⟩ := ob h
  refine e_callV (ci := 5) C cal_X5_sum im_X5_sum se_X5_sum ml_X5_220 rfl hR (by omega) (dk dX5_test 2 rfl) (K.1 _ (by rw [ht]; decide)) (ent_o5 ht) (c_X5_sum K hdx hex ht hq1) ⟨Nat.zero_le _, Nat.zero_le _⟩ (Nat.le_of_ble_eq_true rfl) rfl ?_
  refine e_if_ne C 10 (dk dX5_test 3 rfl) (by decide) (fun c2 => ?_) (fun c2 => ?_)
  · rw [if_neg c2] at h
    refine e_aload_n C 0 (dk dX5_test 6 rfl) rfl rfl ?_
    refine gf_X5_kind C K ht fl_X5_35 (dk dX5_test 7 rfl) ?_
    refine e_bipush C 60 (dk dX5_test 8 rfl) (by decide) ?_
    refine e_icmp_eq C 30 (dk dX5_test 9 rfl) (by decide) (fun c3 => ?_) (fun c3 => ?_)
    · rw [if_pos c3] at h
      exact j_X5_test_j30 C K hdx hex ht hR h B
    · rw [if_neg c3] at h
      refine e_aload_n C 0 (dk dX5_test 10 rfl) rfl rfl ?_
      refine gf_X5_kind C K ht fl_X5_35 (dk dX5_test 11 rfl) ?_
      refine e_bipush C 61 (dk dX5_test 12 rfl) (by decide) ?_
      refine e_icmp_eq C 30 (dk dX5_test 13 rfl) (by decide) (fun c10 => ?_) (fun c10 => ?_)
      · rw [if_pos c10] at h
        exact j_X5_test_j30 C K hdx hex ht hR h B
      · rw [if_neg c10] at h
        refine e_iconst C 1 (dk dX5_test 14 rfl) (by decide) ?_
        obtain rfl := Option.some.inj h
        exact e_iret (v := bi true) C B (nar_bi _) (dk dX5_test 15 rfl)
  · rw [if_pos c2] at h
    refine e_iconst C 0 (dk dX5_test 4 rfl) (by decide) ?_
    obtain rfl := Option.some.inj h
    exact e_iret (v := bi false) C B (nar_bi _) (dk dX5_test 5 rfl)
set_option maxRecDepth 20000 in
theorem l_X5_denied_2 {X : FX} {g : WC} {Xo : Nat → va_E} {n : Nat} {kd : Nat → Nat} {dx : Nat} (C : Cx X g RX5 cX5_denied 4) (K : KD n kd) {ex : (Nat → Int32 → Mem → Option (Bool × Mem))} {t : Nat} (hdx : 10 ≤ dx) (hex : ∀ {t : Nat} {p0 : Int32} {M : Mem} {res : Bool × Mem}, kd t = 6 → ex t p0 M = some res → MC g yX5_expr cX5_expr 3 (some .boolean) dx n [.ref (g_N g + t), .int p0] (ent g Xo kd M) (some (.int (bi res.1))) (ent g Xo kd res.2)) (ht : kd t = 6) {x1 : Int32} (hR : x_R X = rm (dx + 5)) {OK : Int32 × Mem → Prop} (hx : ∀ s, OK s → EW X g (x_s X).heap.size n 4 (ent g Xo kd s.2) 0 0 27 [(0, .ref (g_N g + t)), (1, .int x1), (2, .int s.1)] []) : ∀ (N9 : Nat) (x2 : Int32) (M : Mem) (q : Int32 × Mem), L_X5_denied_2 ex t x1 N9 x2 M = some q → OK q → EW X g (x_s X).heap.size n 4 (ent g Xo kd M) 0 0 2 [(0, .ref (g_N g + t)), (1, .int x1), (2, .int x2)] [] := by
  intro N9
  induction N9 with
  | zero =>
    intro x2 M q h
    rw [L_X5_denied_2.eq_1] at h
    cases h
  | succ m9 ih =>
    intro x2 M q h hOK
    rw [L_X5_denied_2.eq_2] at h
    refine e_iload_n C 2 (dk dX5_denied 2 rfl) rfl rfl ?_
    refine e_bipush C 6 (dk dX5_denied 3 rfl) (by decide) ?_
    refine e_icmp_ge C 27 (dk dX5_denied 4 rfl) (by decide) (fun c1 => ?_) (fun c1 => ?_)
    · rw [if_pos c1] at h
      obtain rfl := Option.some.inj h
      exact hx _ hOK
    · rw [if_neg c1] at h
      refine e_aload_n C 0 (dk dX5_denied 5 rfl) rfl rfl ?_
      refine e_ldcS C sr_X5_215 (dk dX5_denied 6 rfl) ?_
      obtain ⟨q2, hq2, h⟩ := ob h
      refine e_callV (ci := 5) C cal_X5_isWord im_X5_isWord se_X5_isWord ml_X5_112 rfl hR (by omega) (dk dX5_denied 7 rfl) (K.1 _ (by rw [ht]; decide)) (ent_o5 ht) (c_X5_isWord K ht (by decide) hq2) ⟨Nat.zero_le _, Nat.zero_le _⟩ (Nat.le_of_ble_eq_true rfl) rfl ?_
      refine e_if_eq C 27 (dk dX5_denied 8 rfl) (by decide) (fun c3 => ?_) (fun c3 => ?_)
      · rw [if_pos c3] at h
        obtain rfl := Option.some.inj h
        exact hx _ hOK
      · rw [if_neg c3] at h
        refine e_iinc C [(2, .int (x2 + 1)), (0, .ref (g_N g + t)), (1, .int x1)] 2 1 (dk dX5_denied 9 rfl) rfl (by decide) (by decide) rfl ?_
        refine e_aload_n C 1 (dk dX5_denied 10 rfl) rfl rfl ?_
        obtain ⟨q4, hq4, h⟩ := ob h
        refine e_callV (ci := 5) C cal_X5_advance im_X5_advance se_X5_advance ml_X5_61 rfl hR (by omega) (dk dX5_denied 11 rfl) (K.1 _ (by rw [ht]; decide)) (ent_o5 ht) (c_X5_advance K ht hq4) ⟨Nat.zero_le _, Nat.zero_le _⟩ (Nat.le_of_ble_eq_true rfl) rfl ?_
        refine e_goto C 2 (dk dX5_denied 12 rfl) (by decide) ?_
        refine e_lv [1, 2, 0] rfl ?_
        exact ih _ _ _ h hOK
set_option maxRecDepth 20000 in
theorem lb_X5_denied_2 {X : FX} {g : WC} {Xo : Nat → va_E} {n : Nat} {kd : Nat → Nat} {dx : Nat} (C : Cx X g RX5 cX5_denied 4) (K : KD n kd) {ex : (Nat → Int32 → Mem → Option (Bool × Mem))} {t : Nat} (hdx : 10 ≤ dx) (hex : ∀ {t : Nat} {p0 : Int32} {M : Mem} {res : Bool × Mem}, kd t = 6 → ex t p0 M = some res → MC g yX5_expr cX5_expr 3 (some .boolean) dx n [.ref (g_N g + t), .int p0] (ent g Xo kd M) (some (.int (bi res.1))) (ent g Xo kd res.2)) (ht : kd t = 6) {x1 : Int32} (hR : x_R X = rm (dx + 5)) {T9 : Type} {f9 : Int32 × Mem → Option T9} {b9 : T9} (hx : ∀ s, f9 s = some b9 → EW X g (x_s X).heap.size n 4 (ent g Xo kd s.2) 0 0 27 [(0, .ref (g_N g + t)), (1, .int x1), (2, .int s.1)] []) {x2 : Int32} {M : Mem} (h : (L_X5_denied_2 ex t x1 FU x2 M).bind f9 = some b9) : EW X g (x_s X).heap.size n 4 (ent g Xo kd M) 0 0 2 [(0, .ref (g_N g + t)), (1, .int x1), (2, .int x2)] [] := by
  obtain ⟨q, hq, h⟩ := ob h
  exact l_X5_denied_2 C K hdx hex ht hR (OK := fun q => f9 q = some b9) hx FU x2 M q hq h
set_option maxRecDepth 20000 in
theorem l_X5_denied_60 {X : FX} {g : WC} {Xo : Nat → va_E} {n : Nat} {kd : Nat → Nat} {dx : Nat} (C : Cx X g RX5 cX5_denied 4) (K : KD n kd) {ex : (Nat → Int32 → Mem → Option (Bool × Mem))} {t : Nat} (hdx : 10 ≤ dx) (hex : ∀ {t : Nat} {p0 : Int32} {M : Mem} {res : Bool × Mem}, kd t = 6 → ex t p0 M = some res → MC g yX5_expr cX5_expr 3 (some .boolean) dx n [.ref (g_N g + t), .int p0] (ent g Xo kd M) (some (.int (bi res.1))) (ent g Xo kd res.2)) (ht : kd t = 6) {x2 : Int32} (hR : x_R X = rm (dx + 5)) {OK : Mem → Prop} (hx : ∀ s, OK s → EW X g (x_s X).heap.size n 4 (ent g Xo kd s) 0 0 83 [] []) : ∀ (N9 : Nat) (x3 : Int32) (M : Mem) (q : Mem), L_X5_denied_60 ex t x2 N9 x3 M = some q → OK q → EW X g (x_s X).heap.size n 4 (ent g Xo kd M) 0 0 60 [(0, .ref (g_N g + t)), (2, .int x2), (3, .int x3)] [] := by
  intro N9
  induction N9 with
  | zero =>
    intro x3 M q h
    rw [L_X5_denied_60.eq_1] at h
    cases h
  | succ m9 ih =>
    intro x3 M q h hOK
    rw [L_X5_denied_60.eq_2] at h
    refine e_iload_n C 2 (dk dX5_denied 32 rfl) rfl rfl ?_
    refine e_iload_n C 1 (dk dX5_denied 33 rfl) rfl rfl ?_
    refine e_icmp_ge C 83 (dk dX5_denied 34 rfl) (by decide) (fun c11 => ?_) (fun c11 => ?_)
    · rw [if_pos c11] at h
      obtain rfl := Option.some.inj h
      refine e_lv [] rfl ?_
      exact hx _ hOK
    · rw [if_neg c11] at h
      refine e_aload_n C 0 (dk dX5_denied 35 rfl) rfl rfl ?_
      obtain ⟨w12, hw12, h⟩ := ob h
      have gw12 := grd_some K (Or.inr ht) hw12
      refine gf_X5_draft C K ht fl_X5_22 (dk dX5_denied 36 rfl) ?_
      rw [gw12.1]
      refine gf_X9_worth C K gw12.2 fl_X5_201 (dk dX5_denied 37 rfl) ?_
      refine e_bipush C (-11) (dk dX5_denied 38 rfl) (by decide) ?_
      refine e_callV (ci := 10) C cal_X10_add im_X10_add se_X10_add ml_X5_206 rfl hR (by omega) (dk dX5_denied 39 rfl) (K.1 _ (by rw [(kd_X9_worth K gw12.2)]; decide)) (ent_o10 (kd_X9_worth K gw12.2)) (c_X10_add K (kd_X9_worth K gw12.2) (rfl : F_X10_add (w12 + 7) (-11) M = _)) ⟨Nat.zero_le _, Nat.zero_le _⟩ (Nat.le_of_ble_eq_true rfl) rfl ?_
      refine e_iinc C [(3, .int (x3 + 1)), (0, .ref (g_N g + t)), (2, .int x2)] 2 1 (dk dX5_denied 40 rfl) rfl (by decide) (by decide) rfl ?_
      refine e_goto C 60 (dk dX5_denied 41 rfl) (by decide) ?_
      refine e_lv [1, 2, 0] rfl ?_
      exact ih _ _ _ h hOK
set_option maxRecDepth 20000 in
theorem lb_X5_denied_60 {X : FX} {g : WC} {Xo : Nat → va_E} {n : Nat} {kd : Nat → Nat} {dx : Nat} (C : Cx X g RX5 cX5_denied 4) (K : KD n kd) {ex : (Nat → Int32 → Mem → Option (Bool × Mem))} {t : Nat} (hdx : 10 ≤ dx) (hex : ∀ {t : Nat} {p0 : Int32} {M : Mem} {res : Bool × Mem}, kd t = 6 → ex t p0 M = some res → MC g yX5_expr cX5_expr 3 (some .boolean) dx n [.ref (g_N g + t), .int p0] (ent g Xo kd M) (some (.int (bi res.1))) (ent g Xo kd res.2)) (ht : kd t = 6) {x2 : Int32} (hR : x_R X = rm (dx + 5)) {T9 : Type} {f9 : Mem → Option T9} {b9 : T9} (hx : ∀ s, f9 s = some b9 → EW X g (x_s X).heap.size n 4 (ent g Xo kd s) 0 0 83 [] []) {x3 : Int32} {M : Mem} (h : (L_X5_denied_60 ex t x2 FU x3 M).bind f9 = some b9) : EW X g (x_s X).heap.size n 4 (ent g Xo kd M) 0 0 60 [(0, .ref (g_N g + t)), (2, .int x2), (3, .int x3)] [] := by
  obtain ⟨q, hq, h⟩ := ob h
  exact l_X5_denied_60 C K hdx hex ht hR (OK := fun q => f9 q = some b9) hx FU x3 M q hq h
set_option maxRecDepth 20000 in
theorem j_X5_denied_j48 {X : FX} {g : WC} {Xo : Nat → va_E} {n : Nat} {kd : Nat → Nat} {dx : Nat} (C : Cx X g RX5 cX5_denied 4) (K : KD n kd) {ex : (Nat → Int32 → Mem → Option (Bool × Mem))} {t : Nat} (hdx : 10 ≤ dx) (hex : ∀ {t : Nat} {p0 : Int32} {M : Mem} {res : Bool × Mem}, kd t = 6 → ex t p0 M = some res → MC g yX5_expr cX5_expr 3 (some .boolean) dx n [.ref (g_N g + t), .int p0] (ent g Xo kd M) (some (.int (bi res.1))) (ent g Xo kd res.2)) (ht : kd t = 6) (hR : x_R X = rm (dx + 5)) {x1 : Int32} {x2 : Int32} {M : Mem} {res : Bool × Mem} (h : J_X5_denied_j48 ex t x1 x2 M = some res) (B : Bx X g (some .boolean) (dx + 5) n (some (.int (bi res.1))) (ent g Xo kd res.2)) : EW X g (x_s X).heap.size n 4 (ent g Xo kd M) 0 0 48 [(0, .ref (g_N g + t)), (1, .int x1), (2, .int x2)] [] := by
  rw [J_X5_denied_j48] at h
  refine e_aload_n C 0 (dk dX5_denied 24 rfl) rfl rfl ?_
  refine e_iload_n C 1 (dk dX5_denied 25 rfl) rfl rfl ?_
  obtain ⟨q9, hq9, h⟩ := ob h
  refine e_callV (ci := 5) C cal_X5_test im_X5_test se_X5_test ml_X5_217 rfl hR (by omega) (dk dX5_denied 26 rfl) (K.1 _ (by rw [ht]; decide)) (ent_o5 ht) (c_X5_test K hdx hex ht hq9) ⟨Nat.zero_le _, Nat.zero_le _⟩ (Nat.le_of_ble_eq_true rfl) rfl ?_
  refine e_if_ne C 58 (dk dX5_denied 27 rfl) (by decide) (fun c10 => ?_) (fun c10 => ?_)
  · rw [if_neg c10] at h
    refine e_iconst C 0 (dk dX5_denied 30 rfl) (by decide) ?_
    refine e_istore_n C [(3, .int 0), (0, .ref (g_N g + t)), (1, .int x1), (2, .int x2)] (dk dX5_denied 31 rfl) rfl (by decide) rfl ?_
    refine e_lv [1, 3, 0] rfl ?_
    refine lb_X5_denied_60 C K hdx hex ht hR (fun s14 h => ?_) h
    refine e_iconst C 1 (dk dX5_denied 42 rfl) (by decide) ?_
    obtain rfl := Option.some.inj h
    exact e_iret (v := bi true) C B (nar_bi _) (dk dX5_denied 43 rfl)
  · rw [if_pos c10] at h
    refine e_iconst C 0 (dk dX5_denied 28 rfl) (by decide) ?_
    obtain rfl := Option.some.inj h
    exact e_iret (v := bi false) C B (nar_bi _) (dk dX5_denied 29 rfl)
set_option maxRecDepth 20000 in
theorem j_X5_denied_j27 {X : FX} {g : WC} {Xo : Nat → va_E} {n : Nat} {kd : Nat → Nat} {dx : Nat} (C : Cx X g RX5 cX5_denied 4) (K : KD n kd) {ex : (Nat → Int32 → Mem → Option (Bool × Mem))} {t : Nat} (hdx : 10 ≤ dx) (hex : ∀ {t : Nat} {p0 : Int32} {M : Mem} {res : Bool × Mem}, kd t = 6 → ex t p0 M = some res → MC g yX5_expr cX5_expr 3 (some .boolean) dx n [.ref (g_N g + t), .int p0] (ent g Xo kd M) (some (.int (bi res.1))) (ent g Xo kd res.2)) (ht : kd t = 6) (hR : x_R X = rm (dx + 5)) {x1 : Int32} {x2 : Int32} {M : Mem} {res : Bool × Mem} (h : J_X5_denied_j27 ex t x1 x2 M = some res) (B : Bx X g (some .boolean) (dx + 5) n (some (.int (bi res.1))) (ent g Xo kd res.2)) : EW X g (x_s X).heap.size n 4 (ent g Xo kd M) 0 0 27 [(0, .ref (g_N g + t)), (1, .int x1), (2, .int x2)] [] := by
  rw [J_X5_denied_j27] at h
  refine e_aload_n C 0 (dk dX5_denied 13 rfl) rfl rfl ?_
  refine e_ldcS C sr_X5_215 (dk dX5_denied 14 rfl) ?_
  obtain ⟨q7, hq7, h⟩ := ob h
  refine e_callV (ci := 5) C cal_X5_isWord im_X5_isWord se_X5_isWord ml_X5_112 rfl hR (by omega) (dk dX5_denied 15 rfl) (K.1 _ (by rw [ht]; decide)) (ent_o5 ht) (c_X5_isWord K ht (by decide) hq7) ⟨Nat.zero_le _, Nat.zero_le _⟩ (Nat.le_of_ble_eq_true rfl) rfl ?_
  refine e_if_eq C 48 (dk dX5_denied 16 rfl) (by decide) (fun c8 => ?_) (fun c8 => ?_)
  · rw [if_pos c8] at h
    exact j_X5_denied_j48 C K hdx hex ht hR h B
  · rw [if_neg c8] at h
    refine e_iload_n C 2 (dk dX5_denied 17 rfl) rfl rfl ?_
    refine e_bipush C 6 (dk dX5_denied 18 rfl) (by decide) ?_
    refine e_icmp_ne C 48 (dk dX5_denied 19 rfl) (by decide) (fun c15 => ?_) (fun c15 => ?_)
    · rw [if_neg c15] at h
      exact j_X5_denied_j48 C K hdx hex ht hR h B
    · rw [if_pos c15] at h
      refine e_aload_n C 0 (dk dX5_denied 20 rfl) rfl rfl ?_
      refine e_iconst C 2 (dk dX5_denied 21 rfl) (by decide) ?_
      refine e_callV (ci := 5) C cal_X5_refuse im_X5_refuse se_X5_refuse ml_X5_98 rfl hR (by omega) (dk dX5_denied 22 rfl) (K.1 _ (by rw [ht]; decide)) (ent_o5 ht) (c_X5_refuse K ht (rfl : F_X5_refuse t 2 M = _)) ⟨Nat.zero_le _, Nat.zero_le _⟩ (Nat.le_of_ble_eq_true rfl) rfl ?_
      obtain rfl := Option.some.inj h
      exact e_iret (v := bi ((F_X5_refuse t 2 M).1)) C B (nar_bi _) (dk dX5_denied 23 rfl)
set_option maxRecDepth 20000 in
theorem c_X5_denied {g : WC} {Xo : Nat → va_E} {n : Nat} {kd : Nat → Nat} {dx : Nat} (K : KD n kd) {ex : (Nat → Int32 → Mem → Option (Bool × Mem))} {t : Nat} {p0 : Int32} (hdx : 10 ≤ dx) (hex : ∀ {t : Nat} {p0 : Int32} {M : Mem} {res : Bool × Mem}, kd t = 6 → ex t p0 M = some res → MC g yX5_expr cX5_expr 3 (some .boolean) dx n [.ref (g_N g + t), .int p0] (ent g Xo kd M) (some (.int (bi res.1))) (ent g Xo kd res.2)) (ht : kd t = 6) {M : Mem} {res : Bool × Mem} (h : F_X5_denied ex t p0 M = some res) : MC g yX5_denied cX5_denied 4 (some .boolean) (dx + 5) n [.ref (g_N g + t), .int p0] (ent g Xo kd M) (some (.int (bi res.1))) (ent g Xo kd res.2) := by
  refine MC_of pn_X5 (Nat.le_of_ble_eq_true rfl) (fun X C B => ?_)
  have hR := B.1
  rw [F_X5_denied] at h
  refine e_iconst C 0 (dk dX5_denied 0 rfl) (by decide) ?_
  refine e_istore_n C [(2, .int 0), (0, .ref (g_N g + t)), (1, .int p0)] (dk dX5_denied 1 rfl) rfl (by decide) rfl ?_
  refine e_lv [1, 2, 0] rfl ?_
  refine lb_X5_denied_2 C K hdx hex ht hR (fun s6 h => ?_) h
  exact j_X5_denied_j27 C K hdx hex ht hR h B
set_option maxRecDepth 20000 in
theorem l_X5_both_12 {X : FX} {g : WC} {Xo : Nat → va_E} {n : Nat} {kd : Nat → Nat} {dx : Nat} (C : Cx X g RX5 cX5_both 3) (K : KD n kd) {ex : (Nat → Int32 → Mem → Option (Bool × Mem))} {t : Nat} (hdx : 10 ≤ dx) (hex : ∀ {t : Nat} {p0 : Int32} {M : Mem} {res : Bool × Mem}, kd t = 6 → ex t p0 M = some res → MC g yX5_expr cX5_expr 3 (some .boolean) dx n [.ref (g_N g + t), .int p0] (ent g Xo kd M) (some (.int (bi res.1))) (ent g Xo kd res.2)) (ht : kd t = 6) {x1 : Int32} (hR : x_R X = rm (dx + 6)) {OK : Sum (Bool × Mem) (Mem) → Prop} (hB : ∀ v, OK (Sum.inl v) → Bx X g (some .boolean) (dx + 6) n (some (.int (bi v.1))) (ent g Xo kd v.2)) (hx : ∀ s, OK (Sum.inr s) → EW X g (x_s X).heap.size n 3 (ent g Xo kd s) 0 0 60 [] []) : ∀ (N9 : Nat) (x2 : Int32) (M : Mem) (q : Sum (Bool × Mem) (Mem)), L_X5_both_12 ex t x1 N9 x2 M = some q → OK q → EW X g (x_s X).heap.size n 3 (ent g Xo kd M) 0 0 12 [(0, .ref (g_N g + t)), (1, .int x1), (2, .int x2)] [] := by
  intro N9
  induction N9 with
  | zero =>
    intro x2 M q h
    rw [L_X5_both_12.eq_1] at h
    cases h
  | succ m9 ih =>
    intro x2 M q h hOK
    rw [L_X5_both_12.eq_2] at h
    refine e_iload_n C 2 (dk dX5_both 8 rfl) rfl rfl ?_
    refine e_sipush C 700 (dk dX5_both 9 rfl) (by decide) ?_
    refine e_icmp_ge C 60 (dk dX5_both 10 rfl) (by decide) (fun c3 => ?_) (fun c3 => ?_)
    · rw [if_pos c3] at h
      obtain rfl := Option.some.inj h
      refine e_lv [] rfl ?_
      exact hx _ hOK
    · rw [if_neg c3] at h
      refine e_aload_n C 0 (dk dX5_both 11 rfl) rfl rfl ?_
      refine e_ldcS C sr_X5_213 (dk dX5_both 12 rfl) ?_
      obtain ⟨q4, hq4, h⟩ := ob h
      refine e_callV (ci := 5) C cal_X5_isWord im_X5_isWord se_X5_isWord ml_X5_112 rfl hR (by omega) (dk dX5_both 13 rfl) (K.1 _ (by rw [ht]; decide)) (ent_o5 ht) (c_X5_isWord K ht (by decide) hq4) ⟨Nat.zero_le _, Nat.zero_le _⟩ (Nat.le_of_ble_eq_true rfl) rfl ?_
      refine e_if_eq C 60 (dk dX5_both 14 rfl) (by decide) (fun c5 => ?_) (fun c5 => ?_)
      · rw [if_pos c5] at h
        obtain rfl := Option.some.inj h
        refine e_lv [] rfl ?_
        exact hx _ hOK
      · rw [if_neg c5] at h
        refine e_aload_n C 0 (dk dX5_both 15 rfl) rfl rfl ?_
        obtain ⟨q6, hq6, h⟩ := ob h
        refine e_callV (ci := 5) C cal_X5_advance im_X5_advance se_X5_advance ml_X5_61 rfl hR (by omega) (dk dX5_both 16 rfl) (K.1 _ (by rw [ht]; decide)) (ent_o5 ht) (c_X5_advance K ht hq6) ⟨Nat.zero_le _, Nat.zero_le _⟩ (Nat.le_of_ble_eq_true rfl) rfl ?_
        refine e_aload_n C 0 (dk dX5_both 17 rfl) rfl rfl ?_
        refine e_iload_n C 1 (dk dX5_both 18 rfl) rfl rfl ?_
        obtain ⟨q7, hq7, h⟩ := ob h
        refine e_callV (ci := 5) C cal_X5_denied im_X5_denied se_X5_denied ml_X5_210 rfl hR (by omega) (dk dX5_both 19 rfl) (K.1 _ (by rw [ht]; decide)) (ent_o5 ht) (c_X5_denied K hdx hex ht hq7) ⟨Nat.zero_le _, Nat.zero_le _⟩ (Nat.le_of_ble_eq_true rfl) rfl ?_
        refine e_if_ne C 42 (dk dX5_both 20 rfl) (by decide) (fun c8 => ?_) (fun c8 => ?_)
        · rw [if_neg c8] at h
          refine e_aload_n C 0 (dk dX5_both 23 rfl) rfl rfl ?_
          obtain ⟨w9, hw9, h⟩ := ob h
          have gw9 := grd_some K (Or.inr ht) hw9
          refine gf_X5_draft C K ht fl_X5_22 (dk dX5_both 24 rfl) ?_
          rw [gw9.1]
          refine gf_X9_worth C K gw9.2 fl_X5_201 (dk dX5_both 25 rfl) ?_
          refine e_bipush C (-13) (dk dX5_both 26 rfl) (by decide) ?_
          refine e_callV (ci := 10) C cal_X10_add im_X10_add se_X10_add ml_X5_206 rfl hR (by omega) (dk dX5_both 27 rfl) (K.1 _ (by rw [(kd_X9_worth K gw9.2)]; decide)) (ent_o10 (kd_X9_worth K gw9.2)) (c_X10_add K (kd_X9_worth K gw9.2) (rfl : F_X10_add (w9 + 7) (-13) q7.2 = _)) ⟨Nat.zero_le _, Nat.zero_le _⟩ (Nat.le_of_ble_eq_true rfl) rfl ?_
          refine e_iinc C [(2, .int (x2 + 1)), (0, .ref (g_N g + t)), (1, .int x1)] 2 1 (dk dX5_both 28 rfl) rfl (by decide) (by decide) rfl ?_
          refine e_goto C 12 (dk dX5_both 29 rfl) (by decide) ?_
          refine e_lv [1, 2, 0] rfl ?_
          exact ih _ _ _ h hOK
        · rw [if_pos c8] at h
          refine e_iconst C 0 (dk dX5_both 21 rfl) (by decide) ?_
          obtain rfl := Option.some.inj h
          exact e_iret (v := bi false) C (hB _ hOK) (nar_bi _) (dk dX5_both 22 rfl)
set_option maxRecDepth 20000 in
theorem lb_X5_both_12 {X : FX} {g : WC} {Xo : Nat → va_E} {n : Nat} {kd : Nat → Nat} {dx : Nat} (C : Cx X g RX5 cX5_both 3) (K : KD n kd) {ex : (Nat → Int32 → Mem → Option (Bool × Mem))} {t : Nat} (hdx : 10 ≤ dx) (hex : ∀ {t : Nat} {p0 : Int32} {M : Mem} {res : Bool × Mem}, kd t = 6 → ex t p0 M = some res → MC g yX5_expr cX5_expr 3 (some .boolean) dx n [.ref (g_N g + t), .int p0] (ent g Xo kd M) (some (.int (bi res.1))) (ent g Xo kd res.2)) (ht : kd t = 6) {x1 : Int32} (hR : x_R X = rm (dx + 6)) {T9 : Type} {f9 : Sum (Bool × Mem) (Mem) → Option T9} {b9 : T9} (hB : ∀ v, f9 (Sum.inl v) = some b9 → Bx X g (some .boolean) (dx + 6) n (some (.int (bi v.1))) (ent g Xo kd v.2)) (hx : ∀ s, f9 (Sum.inr s) = some b9 → EW X g (x_s X).heap.size n 3 (ent g Xo kd s) 0 0 60 [] []) {x2 : Int32} {M : Mem} (h : (L_X5_both_12 ex t x1 FU x2 M).bind f9 = some b9) : EW X g (x_s X).heap.size n 3 (ent g Xo kd M) 0 0 12 [(0, .ref (g_N g + t)), (1, .int x1), (2, .int x2)] [] := by
  obtain ⟨q, hq, h⟩ := ob h
  exact l_X5_both_12 C K hdx hex ht hR (OK := fun q => f9 q = some b9) hB hx FU x2 M q hq h
set_option maxRecDepth 20000 in
theorem c_X5_both {g : WC} {Xo : Nat → va_E} {n : Nat} {kd : Nat → Nat} {dx : Nat} (K : KD n kd) {ex : (Nat → Int32 → Mem → Option (Bool × Mem))} {t : Nat} {p0 : Int32} (hdx : 10 ≤ dx) (hex : ∀ {t : Nat} {p0 : Int32} {M : Mem} {res : Bool × Mem}, kd t = 6 → ex t p0 M = some res → MC g yX5_expr cX5_expr 3 (some .boolean) dx n [.ref (g_N g + t), .int p0] (ent g Xo kd M) (some (.int (bi res.1))) (ent g Xo kd res.2)) (ht : kd t = 6) {M : Mem} {res : Bool × Mem} (h : F_X5_both ex t p0 M = some res) : MC g yX5_both cX5_both 3 (some .boolean) (dx + 6) n [.ref (g_N g + t), .int p0] (ent g Xo kd M) (some (.int (bi res.1))) (ent g Xo kd res.2) := by
  refine MC_of pn_X5 (Nat.le_of_ble_eq_true rfl) (fun X C B => ?_)
  have hR := B.1
  rw [F_X5_both] at h
  refine e_aload_n C 0 (dk dX5_both 0 rfl) rfl rfl ?_
  refine e_iload_n C 1 (dk dX5_both 1 rfl) rfl rfl ?_
  obtain ⟨q1, hq1, h⟩ := ob h
  refine e_callV (ci := 5) C cal_X5_denied im_X5_denied se_X5_denied ml_X5_210 rfl hR (by omega) (dk dX5_both 2 rfl) (K.1 _ (by rw [ht]; decide)) (ent_o5 ht) (c_X5_denied K hdx hex ht hq1) ⟨Nat.zero_le _, Nat.zero_le _⟩ (Nat.le_of_ble_eq_true rfl) rfl ?_
  refine e_if_ne C 10 (dk dX5_both 3 rfl) (by decide) (fun c2 => ?_) (fun c2 => ?_)
  · rw [if_neg c2] at h
    refine e_iconst C 0 (dk dX5_both 6 rfl) (by decide) ?_
    refine e_istore_n C [(2, .int 0), (0, .ref (g_N g + t)), (1, .int p0)] (dk dX5_both 7 rfl) rfl (by decide) rfl ?_
    refine e_lv [1, 2, 0] rfl ?_
    refine lb_X5_both_12 C K hdx hex ht hR (fun v h => ?_) (fun s11 h => ?_) h
    · obtain rfl := Option.some.inj (show some v = some _ from h)
      exact B
    dsimp only [Sum.elim_inr] at h
    refine e_iconst C 1 (dk dX5_both 30 rfl) (by decide) ?_
    obtain rfl := Option.some.inj h
    exact e_iret (v := bi true) C B (nar_bi _) (dk dX5_both 31 rfl)
  · rw [if_pos c2] at h
    refine e_iconst C 0 (dk dX5_both 4 rfl) (by decide) ?_
    obtain rfl := Option.some.inj h
    exact e_iret (v := bi false) C B (nar_bi _) (dk dX5_both 5 rfl)
set_option maxRecDepth 20000 in
theorem l_X5_expr_53 {X : FX} {g : WC} {Xo : Nat → va_E} {n : Nat} {kd : Nat → Nat} {dx : Nat} (C : Cx X g RX5 cX5_expr 3) (K : KD n kd) {ex : (Nat → Int32 → Mem → Option (Bool × Mem))} {t : Nat} (hdx : 10 ≤ dx) (hex : ∀ {t : Nat} {p0 : Int32} {M : Mem} {res : Bool × Mem}, kd t = 6 → ex t p0 M = some res → MC g yX5_expr cX5_expr 3 (some .boolean) dx n [.ref (g_N g + t), .int p0] (ent g Xo kd M) (some (.int (bi res.1))) (ent g Xo kd res.2)) (ht : kd t = 6) {x1 : Int32} (hR : x_R X = rm (dx + 7)) {OK : Sum (Bool × Mem) (Mem) → Prop} (hB : ∀ v, OK (Sum.inl v) → Bx X g (some .boolean) (dx + 7) n (some (.int (bi v.1))) (ent g Xo kd v.2)) (hx : ∀ s, OK (Sum.inr s) → EW X g (x_s X).heap.size n 3 (ent g Xo kd s) 0 0 101 [] []) : ∀ (N9 : Nat) (x2 : Int32) (M : Mem) (q : Sum (Bool × Mem) (Mem)), L_X5_expr_53 ex t x1 N9 x2 M = some q → OK q → EW X g (x_s X).heap.size n 3 (ent g Xo kd M) 0 0 53 [(0, .ref (g_N g + t)), (1, .int x1), (2, .int x2)] [] := by
  intro N9
  induction N9 with
  | zero =>
    intro x2 M q h
    rw [L_X5_expr_53.eq_1] at h
    cases h
  | succ m9 ih =>
    intro x2 M q h hOK
    rw [L_X5_expr_53.eq_2] at h
    refine e_iload_n C 2 (dk dX5_expr 29 rfl) rfl rfl ?_
    refine e_sipush C 700 (dk dX5_expr 30 rfl) (by decide) ?_
    refine e_icmp_ge C 101 (dk dX5_expr 31 rfl) (by decide) (fun c4 => ?_) (fun c4 => ?_)
    · rw [if_pos c4] at h
      obtain rfl := Option.some.inj h
      refine e_lv [] rfl ?_
      exact hx _ hOK
    · rw [if_neg c4] at h
      refine e_aload_n C 0 (dk dX5_expr 32 rfl) rfl rfl ?_
      refine e_ldcS C sr_X5_199 (dk dX5_expr 33 rfl) ?_
      obtain ⟨q5, hq5, h⟩ := ob h
      refine e_callV (ci := 5) C cal_X5_isWord im_X5_isWord se_X5_isWord ml_X5_112 rfl hR (by omega) (dk dX5_expr 34 rfl) (K.1 _ (by rw [ht]; decide)) (ent_o5 ht) (c_X5_isWord K ht (by decide) hq5) ⟨Nat.zero_le _, Nat.zero_le _⟩ (Nat.le_of_ble_eq_true rfl) rfl ?_
      refine e_if_eq C 101 (dk dX5_expr 35 rfl) (by decide) (fun c6 => ?_) (fun c6 => ?_)
      · rw [if_pos c6] at h
        obtain rfl := Option.some.inj h
        refine e_lv [] rfl ?_
        exact hx _ hOK
      · rw [if_neg c6] at h
        refine e_aload_n C 0 (dk dX5_expr 36 rfl) rfl rfl ?_
        obtain ⟨q7, hq7, h⟩ := ob h
        refine e_callV (ci := 5) C cal_X5_advance im_X5_advance se_X5_advance ml_X5_61 rfl hR (by omega) (dk dX5_expr 37 rfl) (K.1 _ (by rw [ht]; decide)) (ent_o5 ht) (c_X5_advance K ht hq7) ⟨Nat.zero_le _, Nat.zero_le _⟩ (Nat.le_of_ble_eq_true rfl) rfl ?_
        refine e_aload_n C 0 (dk dX5_expr 38 rfl) rfl rfl ?_
        refine e_iload_n C 1 (dk dX5_expr 39 rfl) rfl rfl ?_
        obtain ⟨q8, hq8, h⟩ := ob h
        refine e_callV (ci := 5) C cal_X5_both im_X5_both se_X5_both ml_X5_196 rfl hR (by omega) (dk dX5_expr 40 rfl) (K.1 _ (by rw [ht]; decide)) (ent_o5 ht) (c_X5_both K hdx hex ht hq8) ⟨Nat.zero_le _, Nat.zero_le _⟩ (Nat.le_of_ble_eq_true rfl) rfl ?_
        refine e_if_ne C 83 (dk dX5_expr 41 rfl) (by decide) (fun c9 => ?_) (fun c9 => ?_)
        · rw [if_neg c9] at h
          refine e_aload_n C 0 (dk dX5_expr 44 rfl) rfl rfl ?_
          obtain ⟨w10, hw10, h⟩ := ob h
          have gw10 := grd_some K (Or.inr ht) hw10
          refine gf_X5_draft C K ht fl_X5_22 (dk dX5_expr 45 rfl) ?_
          rw [gw10.1]
          refine gf_X9_worth C K gw10.2 fl_X5_201 (dk dX5_expr 46 rfl) ?_
          refine e_bipush C (-12) (dk dX5_expr 47 rfl) (by decide) ?_
          refine e_callV (ci := 10) C cal_X10_add im_X10_add se_X10_add ml_X5_206 rfl hR (by omega) (dk dX5_expr 48 rfl) (K.1 _ (by rw [(kd_X9_worth K gw10.2)]; decide)) (ent_o10 (kd_X9_worth K gw10.2)) (c_X10_add K (kd_X9_worth K gw10.2) (rfl : F_X10_add (w10 + 7) (-12) q8.2 = _)) ⟨Nat.zero_le _, Nat.zero_le _⟩ (Nat.le_of_ble_eq_true rfl) rfl ?_
          refine e_iinc C [(2, .int (x2 + 1)), (0, .ref (g_N g + t)), (1, .int x1)] 2 1 (dk dX5_expr 49 rfl) rfl (by decide) (by decide) rfl ?_
          refine e_goto C 53 (dk dX5_expr 50 rfl) (by decide) ?_
          refine e_lv [1, 2, 0] rfl ?_
          exact ih _ _ _ h hOK
        · rw [if_pos c9] at h
          refine e_iconst C 0 (dk dX5_expr 42 rfl) (by decide) ?_
          obtain rfl := Option.some.inj h
          exact e_iret (v := bi false) C (hB _ hOK) (nar_bi _) (dk dX5_expr 43 rfl)
set_option maxRecDepth 20000 in
theorem lb_X5_expr_53 {X : FX} {g : WC} {Xo : Nat → va_E} {n : Nat} {kd : Nat → Nat} {dx : Nat} (C : Cx X g RX5 cX5_expr 3) (K : KD n kd) {ex : (Nat → Int32 → Mem → Option (Bool × Mem))} {t : Nat} (hdx : 10 ≤ dx) (hex : ∀ {t : Nat} {p0 : Int32} {M : Mem} {res : Bool × Mem}, kd t = 6 → ex t p0 M = some res → MC g yX5_expr cX5_expr 3 (some .boolean) dx n [.ref (g_N g + t), .int p0] (ent g Xo kd M) (some (.int (bi res.1))) (ent g Xo kd res.2)) (ht : kd t = 6) {x1 : Int32} (hR : x_R X = rm (dx + 7)) {T9 : Type} {f9 : Sum (Bool × Mem) (Mem) → Option T9} {b9 : T9} (hB : ∀ v, f9 (Sum.inl v) = some b9 → Bx X g (some .boolean) (dx + 7) n (some (.int (bi v.1))) (ent g Xo kd v.2)) (hx : ∀ s, f9 (Sum.inr s) = some b9 → EW X g (x_s X).heap.size n 3 (ent g Xo kd s) 0 0 101 [] []) {x2 : Int32} {M : Mem} (h : (L_X5_expr_53 ex t x1 FU x2 M).bind f9 = some b9) : EW X g (x_s X).heap.size n 3 (ent g Xo kd M) 0 0 53 [(0, .ref (g_N g + t)), (1, .int x1), (2, .int x2)] [] := by
  obtain ⟨q, hq, h⟩ := ob h
  exact l_X5_expr_53 C K hdx hex ht hR (OK := fun q => f9 q = some b9) hB hx FU x2 M q hq h
set_option maxRecDepth 20000 in
theorem j_X5_expr_j37 {X : FX} {g : WC} {Xo : Nat → va_E} {n : Nat} {kd : Nat → Nat} {dx : Nat} (C : Cx X g RX5 cX5_expr 3) (K : KD n kd) {ex : (Nat → Int32 → Mem → Option (Bool × Mem))} {t : Nat} (hdx : 10 ≤ dx) (hex : ∀ {t : Nat} {p0 : Int32} {M : Mem} {res : Bool × Mem}, kd t = 6 → ex t p0 M = some res → MC g yX5_expr cX5_expr 3 (some .boolean) dx n [.ref (g_N g + t), .int p0] (ent g Xo kd M) (some (.int (bi res.1))) (ent g Xo kd res.2)) (ht : kd t = 6) (hR : x_R X = rm (dx + 7)) {y1 : Int32} {M : Mem} {res : Bool × Mem} (h : J_X5_expr_j37 ex t y1 M = some res) (B : Bx X g (some .boolean) (dx + 7) n (some (.int (bi res.1))) (ent g Xo kd res.2)) : EW X g (x_s X).heap.size n 3 (ent g Xo kd M) 0 0 37 [] [.int y1, .ref (g_N g + t)] := by
  rw [J_X5_expr_j37] at h
  refine e_callV (ci := 5) C cal_X5_refuse im_X5_refuse se_X5_refuse ml_X5_98 rfl hR (by omega) (dk dX5_expr 19 rfl) (K.1 _ (by rw [ht]; decide)) (ent_o5 ht) (c_X5_refuse K ht (rfl : F_X5_refuse t y1 M = _)) ⟨Nat.zero_le _, Nat.zero_le _⟩ (Nat.le_of_ble_eq_true rfl) rfl ?_
  obtain rfl := Option.some.inj h
  exact e_iret (v := bi ((F_X5_refuse t y1 M).1)) C B (nar_bi _) (dk dX5_expr 20 rfl)
set_option maxRecDepth 20000 in
theorem j_X5_expr_j32 {X : FX} {g : WC} {Xo : Nat → va_E} {n : Nat} {kd : Nat → Nat} {dx : Nat} (C : Cx X g RX5 cX5_expr 3) (K : KD n kd) {ex : (Nat → Int32 → Mem → Option (Bool × Mem))} {t : Nat} (hdx : 10 ≤ dx) (hex : ∀ {t : Nat} {p0 : Int32} {M : Mem} {res : Bool × Mem}, kd t = 6 → ex t p0 M = some res → MC g yX5_expr cX5_expr 3 (some .boolean) dx n [.ref (g_N g + t), .int p0] (ent g Xo kd M) (some (.int (bi res.1))) (ent g Xo kd res.2)) (ht : kd t = 6) (hR : x_R X = rm (dx + 7)) {M : Mem} {res : Bool × Mem} (h : J_X5_expr_j32 ex t M = some res) (B : Bx X g (some .boolean) (dx + 7) n (some (.int (bi res.1))) (ent g Xo kd res.2)) : EW X g (x_s X).heap.size n 3 (ent g Xo kd M) 0 0 32 [] [.ref (g_N g + t)] := by
  rw [J_X5_expr_j32] at h
  refine e_iconst C 2 (dk dX5_expr 16 rfl) (by decide) ?_
  refine e_goto C 37 (dk dX5_expr 17 rfl) (by decide) ?_
  exact j_X5_expr_j37 C K hdx hex ht hR h B
set_option maxRecDepth 20000 in
theorem c_X5_exprB {g : WC} {Xo : Nat → va_E} {n : Nat} {kd : Nat → Nat} {dx : Nat} (K : KD n kd) {ex : (Nat → Int32 → Mem → Option (Bool × Mem))} {t : Nat} {p0 : Int32} (hdx : 10 ≤ dx) (hex : ∀ {t : Nat} {p0 : Int32} {M : Mem} {res : Bool × Mem}, kd t = 6 → ex t p0 M = some res → MC g yX5_expr cX5_expr 3 (some .boolean) dx n [.ref (g_N g + t), .int p0] (ent g Xo kd M) (some (.int (bi res.1))) (ent g Xo kd res.2)) (ht : kd t = 6) {M : Mem} {res : Bool × Mem} (h : F_X5_exprB ex t p0 M = some res) : MC g yX5_expr cX5_expr 3 (some .boolean) (dx + 7) n [.ref (g_N g + t), .int p0] (ent g Xo kd M) (some (.int (bi res.1))) (ent g Xo kd res.2) := by
  refine MC_of pn_X5 (Nat.le_of_ble_eq_true rfl) (fun X C B => ?_)
  have hR := B.1
  rw [F_X5_exprB] at h
  refine e_iload_n C 1 (dk dX5_expr 0 rfl) rfl rfl ?_
  refine e_bipush C 6 (dk dX5_expr 1 rfl) (by decide) ?_
  refine e_icmp_le C 41 (dk dX5_expr 2 rfl) (by decide) (fun c1 => ?_) (fun c1 => ?_)
  · rw [if_pos c1] at h
    refine e_aload_n C 0 (dk dX5_expr 21 rfl) rfl rfl ?_
    refine e_iload_n C 1 (dk dX5_expr 22 rfl) rfl rfl ?_
    obtain ⟨q2, hq2, h⟩ := ob h
    refine e_callV (ci := 5) C cal_X5_both im_X5_both se_X5_both ml_X5_196 rfl hR (by omega) (dk dX5_expr 23 rfl) (K.1 _ (by rw [ht]; decide)) (ent_o5 ht) (c_X5_both K hdx hex ht hq2) ⟨Nat.zero_le _, Nat.zero_le _⟩ (Nat.le_of_ble_eq_true rfl) rfl ?_
    refine e_if_ne C 51 (dk dX5_expr 24 rfl) (by decide) (fun c3 => ?_) (fun c3 => ?_)
    · rw [if_neg c3] at h
      refine e_iconst C 0 (dk dX5_expr 27 rfl) (by decide) ?_
      refine e_istore_n C [(2, .int 0), (0, .ref (g_N g + t)), (1, .int p0)] (dk dX5_expr 28 rfl) rfl (by decide) rfl ?_
      refine e_lv [1, 2, 0] rfl ?_
      refine lb_X5_expr_53 C K hdx hex ht hR (fun v h => ?_) (fun s12 h => ?_) h
      · obtain rfl := Option.some.inj (show some v = some _ from h)
        exact B
      dsimp only [Sum.elim_inr] at h
      refine e_iconst C 1 (dk dX5_expr 51 rfl) (by decide) ?_
      obtain rfl := Option.some.inj h
      exact e_iret (v := bi true) C B (nar_bi _) (dk dX5_expr 52 rfl)
    · rw [if_pos c3] at h
      refine e_iconst C 0 (dk dX5_expr 25 rfl) (by decide) ?_
      obtain rfl := Option.some.inj h
      exact e_iret (v := bi false) C B (nar_bi _) (dk dX5_expr 26 rfl)
  · rw [if_neg c1] at h
    refine e_aload_n C 0 (dk dX5_expr 3 rfl) rfl rfl ?_
    refine e_aload_n C 0 (dk dX5_expr 4 rfl) rfl rfl ?_
    refine gf_X5_kind C K ht fl_X5_35 (dk dX5_expr 5 rfl) ?_
    refine e_iconst C 2 (dk dX5_expr 6 rfl) (by decide) ?_
    refine e_icmp_eq C 32 (dk dX5_expr 7 rfl) (by decide) (fun c13 => ?_) (fun c13 => ?_)
    · rw [if_pos c13] at h
      refine e_lv [] rfl ?_
      exact j_X5_expr_j32 C K hdx hex ht hR h B
    · rw [if_neg c13] at h
      refine e_aload_n C 0 (dk dX5_expr 8 rfl) rfl rfl ?_
      refine gf_X5_kind C K ht fl_X5_35 (dk dX5_expr 9 rfl) ?_
      refine e_iconst C 1 (dk dX5_expr 10 rfl) (by decide) ?_
      refine e_icmp_eq C 32 (dk dX5_expr 11 rfl) (by decide) (fun c14 => ?_) (fun c14 => ?_)
      · rw [if_pos c14] at h
        refine e_lv [] rfl ?_
        exact j_X5_expr_j32 C K hdx hex ht hR h B
      · rw [if_neg c14] at h
        refine e_aload_n C 0 (dk dX5_expr 12 rfl) rfl rfl ?_
        refine gf_X5_kind C K ht fl_X5_35 (dk dX5_expr 13 rfl) ?_
        refine e_bipush C 40 (dk dX5_expr 14 rfl) (by decide) ?_
        refine e_icmp_ne C 36 (dk dX5_expr 15 rfl) (by decide) (fun c15 => ?_) (fun c15 => ?_)
        · rw [if_neg c15] at h
          refine e_iconst C 1 (dk dX5_expr 18 rfl) (by decide) ?_
          refine e_lv [] rfl ?_
          exact j_X5_expr_j37 C K hdx hex ht hR h B
        · rw [if_pos c15] at h
          refine e_lv [] rfl ?_
          exact j_X5_expr_j32 C K hdx hex ht hR h B
set_option maxRecDepth 20000 in
theorem c_X5_exprD {g : WC} {Xo : Nat → va_E} {n : Nat} {kd : Nat → Nat} (K : KD n kd) : ∀ (D9 : Nat) {t : Nat} {p0 : Int32} {M : Mem} {res : Bool × Mem}, kd t = 6 → F_X5_expr D9 t p0 M = some res → MC g yX5_expr cX5_expr 3 (some .boolean) (10 + 7 * D9) n [.ref (g_N g + t), .int p0] (ent g Xo kd M) (some (.int (bi res.1))) (ent g Xo kd res.2) := by
  intro D9
  induction D9 with
  | zero =>
    intro t p0 M res ht h
    cases h
  | succ D9 ih =>
    intro t p0 M res ht h
    have e : 10 + 7 * (D9 + 1) = 10 + 7 * D9 + 7 := by omega
    rw [e]
    exact c_X5_exprB K (by omega) (fun h1 h2 => ih h1 h2) ht h
set_option maxRecDepth 20000 in
theorem c_X5_expr {g : WC} {Xo : Nat → va_E} {n : Nat} {kd : Nat → Nat} (K : KD n kd) {t : Nat} {p0 : Int32} {M : Mem} {res : Bool × Mem} (ht : kd t = 6) (h : F_X5_expr 8 t p0 M = some res) : MC g yX5_expr cX5_expr 3 (some .boolean) 66 n [.ref (g_N g + t), .int p0] (ent g Xo kd M) (some (.int (bi res.1))) (ent g Xo kd res.2) := c_X5_exprD K 8 ht h
set_option maxRecDepth 20000 in
theorem j_X12_readPart_j56 {X : FX} {g : WC} {Xo : Nat → va_E} {n : Nat} {kd : Nat → Nat} {dx : Nat} (C : Cx X g RX12 cX12_readPart 3) (K : KD n kd) {ex : (Nat → Int32 → Mem → Option Mem)} {t : Nat} (hdx : 10 ≤ dx) (hex : ∀ {t : Nat} {p0 : Int32} {M : Mem} {res : Mem}, kd t = 13 → ex t p0 M = some res → MC g yX12_readExpression cX12_readExpression 3 none dx n [.ref (g_N g + t), .int p0] (ent g Xo kd M) none (ent g Xo kd res)) (ht : kd t = 13) (hR : x_R X = rm (dx + 1)) {x2 : Int32} {M : Mem} {res : Mem} (h : J_X12_readPart_j56 ex t x2 M = some res) (B : Bx X g none (dx + 1) n none (ent g Xo kd res)) : EW X g (x_s X).heap.size n 3 (ent g Xo kd M) 0 0 56 [(0, .ref (g_N g + t)), (2, .int x2)] [] := by
  rw [J_X12_readPart_j56] at h
  refine e_aload_n C 0 (dk dX12_readPart 30 rfl) rfl rfl ?_
  refine e_iconst C (-1) (dk dX12_readPart 31 rfl) (by decide) ?_
  refine e_iload_n C 1 (dk dX12_readPart 32 rfl) rfl rfl ?_
  refine e_isub C (dk dX12_readPart 33 rfl) ?_
  obtain ⟨q9, hq9, h⟩ := ob h
  refine e_callV (ci := 12) C cal_X12_lay im_X12_lay se_X12_lay ml_X12_246 rfl hR (by omega) (dk dX12_readPart 34 rfl) (K.1 _ (by rw [ht]; decide)) (ent_o12 ht) (c_X12_lay K ht hq9) ⟨Nat.zero_le _, Nat.zero_le _⟩ (Nat.le_of_ble_eq_true rfl) rfl ?_
  refine e_aload_n C 0 (dk dX12_readPart 35 rfl) rfl rfl ?_
  refine gf_X12_bad C K ht fl_X12_205 (dk dX12_readPart 36 rfl) ?_
  refine e_if_ne C 74 (dk dX12_readPart 37 rfl) (by decide) (fun c10 => ?_) (fun c10 => ?_)
  · rw [if_neg c10] at h
    obtain rfl := Option.some.inj h
    exact e_vret C B (dk dX12_readPart 40 rfl)
  · rw [if_pos c10] at h
    refine e_aload_n C 0 (dk dX12_readPart 38 rfl) rfl rfl ?_
    obtain ⟨q11, hq11, h⟩ := ob h
    refine e_callV (ci := 12) C cal_X12_stepOn im_X12_stepOn se_X12_stepOn ml_X12_230 rfl hR (by omega) (dk dX12_readPart 39 rfl) (K.1 _ (by rw [ht]; decide)) (ent_o12 ht) (c_X12_stepOn K ht hq11) ⟨Nat.zero_le _, Nat.zero_le _⟩ (Nat.le_of_ble_eq_true rfl) rfl ?_
    obtain rfl := Option.some.inj h
    exact e_vret C B (dk dX12_readPart 40 rfl)
set_option maxRecDepth 20000 in
theorem c_X12_readPart {g : WC} {Xo : Nat → va_E} {n : Nat} {kd : Nat → Nat} {dx : Nat} (K : KD n kd) {ex : (Nat → Int32 → Mem → Option Mem)} {t : Nat} {p0 : Int32} (hdx : 10 ≤ dx) (hex : ∀ {t : Nat} {p0 : Int32} {M : Mem} {res : Mem}, kd t = 13 → ex t p0 M = some res → MC g yX12_readExpression cX12_readExpression 3 none dx n [.ref (g_N g + t), .int p0] (ent g Xo kd M) none (ent g Xo kd res)) (ht : kd t = 13) {M : Mem} {res : Mem} (h : F_X12_readPart ex t p0 M = some res) : MC g yX12_readPart cX12_readPart 3 none (dx + 1) n [.ref (g_N g + t), .int p0] (ent g Xo kd M) none (ent g Xo kd res) := by
  refine MC_of pn_X12 (Nat.le_of_ble_eq_true rfl) (fun X C B => ?_)
  have hR := B.1
  rw [F_X12_readPart] at h
  refine e_aload_n C 0 (dk dX12_readPart 0 rfl) rfl rfl ?_
  refine gf_X12_bad C K ht fl_X12_205 (dk dX12_readPart 1 rfl) ?_
  refine e_if_eq C 8 (dk dX12_readPart 2 rfl) (by decide) (fun c1 => ?_) (fun c1 => ?_)
  · rw [if_pos c1] at h
    refine e_aload_n C 0 (dk dX12_readPart 4 rfl) rfl rfl ?_
    refine gf_X12_token C K ht fl_X12_179 (dk dX12_readPart 5 rfl) ?_
    refine e_iconst C 2 (dk dX12_readPart 6 rfl) (by decide) ?_
    refine e_icmp_ne C 29 (dk dX12_readPart 7 rfl) (by decide) (fun c2 => ?_) (fun c2 => ?_)
    · rw [if_neg c2] at h
      refine e_aload_n C 0 (dk dX12_readPart 15 rfl) rfl rfl ?_
      refine gf_X12_token C K ht fl_X12_179 (dk dX12_readPart 16 rfl) ?_
      refine e_iconst C 1 (dk dX12_readPart 17 rfl) (by decide) ?_
      refine e_icmp_ne C 75 (dk dX12_readPart 18 rfl) (by decide) (fun c3 => ?_) (fun c3 => ?_)
      · rw [if_neg c3] at h
        refine e_aload_n C 0 (dk dX12_readPart 41 rfl) rfl rfl ?_
        refine e_bipush C 40 (dk dX12_readPart 42 rfl) (by decide) ?_
        obtain ⟨q4, hq4, h⟩ := ob h
        refine e_callV (ci := 12) C cal_X12_mark im_X12_mark se_X12_mark ml_X12_253 rfl hR (by omega) (dk dX12_readPart 43 rfl) (K.1 _ (by rw [ht]; decide)) (ent_o12 ht) (c_X12_mark K ht hq4) ⟨Nat.zero_le _, Nat.zero_le _⟩ (Nat.le_of_ble_eq_true rfl) rfl ?_
        refine e_aload_n C 0 (dk dX12_readPart 44 rfl) rfl rfl ?_
        refine e_iload_n C 1 (dk dX12_readPart 45 rfl) rfl rfl ?_
        refine e_iconst C 1 (dk dX12_readPart 46 rfl) (by decide) ?_
        refine e_iadd C (dk dX12_readPart 47 rfl) ?_
        obtain ⟨q5, hq5, h⟩ := ob h
        refine e_callV (ci := 12) C cal_X12_readExpression im_X12_readExpression se_X12_readExpression ml_X12_256 rfl hR (by omega) (dk dX12_readPart 48 rfl) (K.1 _ (by rw [ht]; decide)) (ent_o12 ht) (hex ht hq5) ⟨Nat.zero_le _, Nat.zero_le _⟩ (Nat.le_of_ble_eq_true rfl) rfl ?_
        refine e_aload_n C 0 (dk dX12_readPart 49 rfl) rfl rfl ?_
        refine e_bipush C 41 (dk dX12_readPart 50 rfl) (by decide) ?_
        obtain ⟨q6, hq6, h⟩ := ob h
        refine e_callV (ci := 12) C cal_X12_mark im_X12_mark se_X12_mark ml_X12_253 rfl hR (by omega) (dk dX12_readPart 51 rfl) (K.1 _ (by rw [ht]; decide)) (ent_o12 ht) (c_X12_mark K ht hq6) ⟨Nat.zero_le _, Nat.zero_le _⟩ (Nat.le_of_ble_eq_true rfl) rfl ?_
        obtain rfl := Option.some.inj h
        exact e_vret C B (dk dX12_readPart 52 rfl)
      · rw [if_pos c3] at h
        refine e_aload_n C 0 (dk dX12_readPart 19 rfl) rfl rfl ?_
        refine e_aload_n C 0 (dk dX12_readPart 20 rfl) rfl rfl ?_
        refine gf_X12_values C K ht fl_X12_35 (dk dX12_readPart 21 rfl) ?_
        obtain ⟨q7, hq7, h⟩ := ob h
        refine e_callV (ci := 12) C cal_X12_which im_X12_which se_X12_which ml_X12_249 rfl hR (by omega) (dk dX12_readPart 22 rfl) (K.1 _ (by rw [ht]; decide)) (ent_o12 ht) (c_X12_which K ht (kd_X12_values K ht) hq7) ⟨Nat.zero_le _, Nat.zero_le _⟩ (Nat.le_of_ble_eq_true rfl) rfl ?_
        refine e_istore_n C [(2, .int q7), (0, .ref (g_N g + t)), (1, .int p0)] (dk dX12_readPart 23 rfl) rfl (by decide) rfl ?_
        refine e_iload_n C 0 (dk dX12_readPart 24 rfl) rfl rfl ?_
        refine e_iconst C (-1) (dk dX12_readPart 25 rfl) (by decide) ?_
        refine e_icmp_ne C 56 (dk dX12_readPart 26 rfl) (by decide) (fun c8 => ?_) (fun c8 => ?_)
        · rw [if_neg c8] at h
          refine e_lv [1, 0] rfl ?_
          exact j_X12_readPart_j56 C K hdx hex ht hR h B
        · rw [if_pos c8] at h
          refine e_aload_n C 1 (dk dX12_readPart 27 rfl) rfl rfl ?_
          refine e_iconst C 3 (dk dX12_readPart 28 rfl) (by decide) ?_
          refine e_callV (ci := 12) C cal_X12_wrong im_X12_wrong se_X12_wrong ml_X12_226 rfl hR (by omega) (dk dX12_readPart 29 rfl) (K.1 _ (by rw [ht]; decide)) (ent_o12 ht) (c_X12_wrong K ht (rfl : F_X12_wrong t 3 M = _)) ⟨Nat.zero_le _, Nat.zero_le _⟩ (Nat.le_of_ble_eq_true rfl) rfl ?_
          refine e_lv [1, 0] rfl ?_
          exact j_X12_readPart_j56 C K hdx hex ht hR h B
    · rw [if_pos c2] at h
      refine e_aload_n C 0 (dk dX12_readPart 8 rfl) rfl rfl ?_
      refine e_aload_n C 0 (dk dX12_readPart 9 rfl) rfl rfl ?_
      refine e_iconst C 0 (dk dX12_readPart 10 rfl) (by decide) ?_
      refine e_sipush C 9999 (dk dX12_readPart 11 rfl) (by decide) ?_
      obtain ⟨q12, hq12, h⟩ := ob h
      refine e_callV (ci := 12) C cal_X12_readNumber im_X12_readNumber se_X12_readNumber ml_X12_243 rfl hR (by omega) (dk dX12_readPart 12 rfl) (K.1 _ (by rw [ht]; decide)) (ent_o12 ht) (c_X12_readNumber K ht hq12) ⟨Nat.zero_le _, Nat.zero_le _⟩ (Nat.le_of_ble_eq_true rfl) rfl ?_
      obtain ⟨q13, hq13, h⟩ := ob h
      refine e_callV (ci := 12) C cal_X12_lay im_X12_lay se_X12_lay ml_X12_246 rfl hR (by omega) (dk dX12_readPart 13 rfl) (K.1 _ (by rw [ht]; decide)) (ent_o12 ht) (c_X12_lay K ht hq13) ⟨Nat.zero_le _, Nat.zero_le _⟩ (Nat.le_of_ble_eq_true rfl) rfl ?_
      obtain rfl := Option.some.inj h
      exact e_vret C B (dk dX12_readPart 14 rfl)
  · rw [if_neg c1] at h
    obtain rfl := Option.some.inj h
    exact e_vret C B (dk dX12_readPart 3 rfl)
set_option maxRecDepth 20000 in
theorem j_X12_readProduct_j23 {X : FX} {g : WC} {Xo : Nat → va_E} {n : Nat} {kd : Nat → Nat} {dx : Nat} (C : Cx X g RX12 cX12_readProduct 3) (K : KD n kd) {ex : (Nat → Int32 → Mem → Option Mem)} {t : Nat} (hdx : 10 ≤ dx) (hex : ∀ {t : Nat} {p0 : Int32} {M : Mem} {res : Mem}, kd t = 13 → ex t p0 M = some res → MC g yX12_readExpression cX12_readExpression 3 none dx n [.ref (g_N g + t), .int p0] (ent g Xo kd M) none (ent g Xo kd res)) (ht : kd t = 13) {x1 : Int32} (hR : x_R X = rm (dx + 2)) {OK : Mem → Prop} (hx : ∀ s, OK s → EW X g (x_s X).heap.size n 3 (ent g Xo kd s) 0 0 57 [] []) {rec : Mem → Option (Mem)} (hrec : ∀ (M : Mem) (q : Mem), rec M = some q → OK q → EW X g (x_s X).heap.size n 3 (ent g Xo kd M) 0 0 5 [(0, .ref (g_N g + t)), (1, .int x1)] []) {M : Mem} (q : Mem) (h : J_X12_readProduct_j23 ex t rec x1 M = some q) (hOK : OK q) : EW X g (x_s X).heap.size n 3 (ent g Xo kd M) 0 0 23 [(0, .ref (g_N g + t)), (1, .int x1)] [] := by
  rw [J_X12_readProduct_j23] at h
  refine e_aload_n C 0 (dk dX12_readProduct 11 rfl) rfl rfl ?_
  refine e_bipush C 42 (dk dX12_readProduct 12 rfl) (by decide) ?_
  obtain ⟨q4, hq4, h⟩ := ob h
  refine e_callV (ci := 12) C cal_X12_isMarked im_X12_isMarked se_X12_isMarked ml_X12_223 rfl hR (by omega) (dk dX12_readProduct 13 rfl) (K.1 _ (by rw [ht]; decide)) (ent_o12 ht) (c_X12_isMarked K ht hq4) ⟨Nat.zero_le _, Nat.zero_le _⟩ (Nat.le_of_ble_eq_true rfl) rfl ?_
  suffices hm6 : EW X g (x_s X).heap.size n 3 (ent g Xo kd M) 0 0 39 [(0, .ref (g_N g + t)), (1, .int x1)] [.int (if (bi q4) = 0 then (-23 : Int32) else (-22 : Int32))] from (by
    refine e_if_eq C 37 (dk dX12_readProduct 14 rfl) (by decide) (fun c5 => ?_) (fun c5 => ?_)
    · rw [show (if (bi q4) = 0 then (-23 : Int32) else (-22 : Int32)) = (-23 : Int32) from if_pos c5] at hm6
      refine e_bipush C (-23) (dk dX12_readProduct 17 rfl) (by decide) ?_
      exact hm6
    · rw [show (if (bi q4) = 0 then (-23 : Int32) else (-22 : Int32)) = (-22 : Int32) from if_neg c5] at hm6
      refine e_bipush C (-22) (dk dX12_readProduct 15 rfl) (by decide) ?_
      refine e_goto C 39 (dk dX12_readProduct 16 rfl) (by decide) ?_
      exact hm6)
  refine e_istore_n C [(2, .int (if (bi q4) = 0 then (-23 : Int32) else (-22 : Int32))), (0, .ref (g_N g + t)), (1, .int x1)] (dk dX12_readProduct 18 rfl) rfl (by decide) rfl ?_
  refine e_aload_n C 1 (dk dX12_readProduct 19 rfl) rfl rfl ?_
  obtain ⟨q7, hq7, h⟩ := ob h
  refine e_callV (ci := 12) C cal_X12_stepOn im_X12_stepOn se_X12_stepOn ml_X12_230 rfl hR (by omega) (dk dX12_readProduct 20 rfl) (K.1 _ (by rw [ht]; decide)) (ent_o12 ht) (c_X12_stepOn K ht hq7) ⟨Nat.zero_le _, Nat.zero_le _⟩ (Nat.le_of_ble_eq_true rfl) rfl ?_
  refine e_aload_n C 1 (dk dX12_readProduct 21 rfl) rfl rfl ?_
  refine e_iload_n C 2 (dk dX12_readProduct 22 rfl) rfl rfl ?_
  obtain ⟨q8, hq8, h⟩ := ob h
  refine e_callV (ci := 12) C cal_X12_readPart im_X12_readPart se_X12_readPart ml_X12_259 rfl hR (by omega) (dk dX12_readProduct 23 rfl) (K.1 _ (by rw [ht]; decide)) (ent_o12 ht) (c_X12_readPart K hdx hex ht hq8) ⟨Nat.zero_le _, Nat.zero_le _⟩ (Nat.le_of_ble_eq_true rfl) rfl ?_
  refine e_aload_n C 1 (dk dX12_readProduct 24 rfl) rfl rfl ?_
  refine e_iload_n C 0 (dk dX12_readProduct 25 rfl) rfl rfl ?_
  obtain ⟨q9, hq9, h⟩ := ob h
  refine e_callV (ci := 12) C cal_X12_lay im_X12_lay se_X12_lay ml_X12_246 rfl hR (by omega) (dk dX12_readProduct 26 rfl) (K.1 _ (by rw [ht]; decide)) (ent_o12 ht) (c_X12_lay K ht hq9) ⟨Nat.zero_le _, Nat.zero_le _⟩ (Nat.le_of_ble_eq_true rfl) rfl ?_
  refine e_goto C 5 (dk dX12_readProduct 27 rfl) (by decide) ?_
  refine e_lv [1, 2] rfl ?_
  exact hrec _ _ h hOK
set_option maxRecDepth 20000 in
theorem l_X12_readProduct_5 {X : FX} {g : WC} {Xo : Nat → va_E} {n : Nat} {kd : Nat → Nat} {dx : Nat} (C : Cx X g RX12 cX12_readProduct 3) (K : KD n kd) {ex : (Nat → Int32 → Mem → Option Mem)} {t : Nat} (hdx : 10 ≤ dx) (hex : ∀ {t : Nat} {p0 : Int32} {M : Mem} {res : Mem}, kd t = 13 → ex t p0 M = some res → MC g yX12_readExpression cX12_readExpression 3 none dx n [.ref (g_N g + t), .int p0] (ent g Xo kd M) none (ent g Xo kd res)) (ht : kd t = 13) {x1 : Int32} (hR : x_R X = rm (dx + 2)) {OK : Mem → Prop} (hx : ∀ s, OK s → EW X g (x_s X).heap.size n 3 (ent g Xo kd s) 0 0 57 [] []) : ∀ (N9 : Nat) (M : Mem) (q : Mem), L_X12_readProduct_5 ex t x1 N9 M = some q → OK q → EW X g (x_s X).heap.size n 3 (ent g Xo kd M) 0 0 5 [(0, .ref (g_N g + t)), (1, .int x1)] [] := by
  intro N9
  induction N9 with
  | zero =>
    intro M q h
    rw [L_X12_readProduct_5.eq_1] at h
    cases h
  | succ m9 ih =>
    intro M q h hOK
    rw [L_X12_readProduct_5.eq_2] at h
    refine e_aload_n C 0 (dk dX12_readProduct 3 rfl) rfl rfl ?_
    refine e_bipush C 42 (dk dX12_readProduct 4 rfl) (by decide) ?_
    obtain ⟨q2, hq2, h⟩ := ob h
    refine e_callV (ci := 12) C cal_X12_isMarked im_X12_isMarked se_X12_isMarked ml_X12_223 rfl hR (by omega) (dk dX12_readProduct 5 rfl) (K.1 _ (by rw [ht]; decide)) (ent_o12 ht) (c_X12_isMarked K ht hq2) ⟨Nat.zero_le _, Nat.zero_le _⟩ (Nat.le_of_ble_eq_true rfl) rfl ?_
    refine e_if_ne C 23 (dk dX12_readProduct 6 rfl) (by decide) (fun c3 => ?_) (fun c3 => ?_)
    · rw [if_neg c3] at h
      exact j_X12_readProduct_j23 C K hdx hex ht hR hx ih _ h hOK
    · rw [if_pos c3] at h
      refine e_aload_n C 0 (dk dX12_readProduct 7 rfl) rfl rfl ?_
      refine e_bipush C 47 (dk dX12_readProduct 8 rfl) (by decide) ?_
      obtain ⟨q10, hq10, h⟩ := ob h
      refine e_callV (ci := 12) C cal_X12_isMarked im_X12_isMarked se_X12_isMarked ml_X12_223 rfl hR (by omega) (dk dX12_readProduct 9 rfl) (K.1 _ (by rw [ht]; decide)) (ent_o12 ht) (c_X12_isMarked K ht hq10) ⟨Nat.zero_le _, Nat.zero_le _⟩ (Nat.le_of_ble_eq_true rfl) rfl ?_
      refine e_if_eq C 57 (dk dX12_readProduct 10 rfl) (by decide) (fun c11 => ?_) (fun c11 => ?_)
      · rw [if_pos c11] at h
        obtain rfl := Option.some.inj h
        refine e_lv [] rfl ?_
        exact hx _ hOK
      · rw [if_neg c11] at h
        exact j_X12_readProduct_j23 C K hdx hex ht hR hx ih _ h hOK
set_option maxRecDepth 20000 in
theorem lb_X12_readProduct_5 {X : FX} {g : WC} {Xo : Nat → va_E} {n : Nat} {kd : Nat → Nat} {dx : Nat} (C : Cx X g RX12 cX12_readProduct 3) (K : KD n kd) {ex : (Nat → Int32 → Mem → Option Mem)} {t : Nat} (hdx : 10 ≤ dx) (hex : ∀ {t : Nat} {p0 : Int32} {M : Mem} {res : Mem}, kd t = 13 → ex t p0 M = some res → MC g yX12_readExpression cX12_readExpression 3 none dx n [.ref (g_N g + t), .int p0] (ent g Xo kd M) none (ent g Xo kd res)) (ht : kd t = 13) {x1 : Int32} (hR : x_R X = rm (dx + 2)) {T9 : Type} {f9 : Mem → Option T9} {b9 : T9} (hx : ∀ s, f9 s = some b9 → EW X g (x_s X).heap.size n 3 (ent g Xo kd s) 0 0 57 [] []) {M : Mem} (h : (L_X12_readProduct_5 ex t x1 FU M).bind f9 = some b9) : EW X g (x_s X).heap.size n 3 (ent g Xo kd M) 0 0 5 [(0, .ref (g_N g + t)), (1, .int x1)] [] := by
  obtain ⟨q, hq, h⟩ := ob h
  exact l_X12_readProduct_5 C K hdx hex ht hR (OK := fun q => f9 q = some b9) hx FU M q hq h
set_option maxRecDepth 20000 in
theorem c_X12_readProduct {g : WC} {Xo : Nat → va_E} {n : Nat} {kd : Nat → Nat} {dx : Nat} (K : KD n kd) {ex : (Nat → Int32 → Mem → Option Mem)} {t : Nat} {p0 : Int32} (hdx : 10 ≤ dx) (hex : ∀ {t : Nat} {p0 : Int32} {M : Mem} {res : Mem}, kd t = 13 → ex t p0 M = some res → MC g yX12_readExpression cX12_readExpression 3 none dx n [.ref (g_N g + t), .int p0] (ent g Xo kd M) none (ent g Xo kd res)) (ht : kd t = 13) {M : Mem} {res : Mem} (h : F_X12_readProduct ex t p0 M = some res) : MC g yX12_readProduct cX12_readProduct 3 none (dx + 2) n [.ref (g_N g + t), .int p0] (ent g Xo kd M) none (ent g Xo kd res) := by
  refine MC_of pn_X12 (Nat.le_of_ble_eq_true rfl) (fun X C B => ?_)
  have hR := B.1
  rw [F_X12_readProduct] at h
  refine e_aload_n C 0 (dk dX12_readProduct 0 rfl) rfl rfl ?_
  refine e_iload_n C 1 (dk dX12_readProduct 1 rfl) rfl rfl ?_
  obtain ⟨q1, hq1, h⟩ := ob h
  refine e_callV (ci := 12) C cal_X12_readPart im_X12_readPart se_X12_readPart ml_X12_259 rfl hR (by omega) (dk dX12_readProduct 2 rfl) (K.1 _ (by rw [ht]; decide)) (ent_o12 ht) (c_X12_readPart K hdx hex ht hq1) ⟨Nat.zero_le _, Nat.zero_le _⟩ (Nat.le_of_ble_eq_true rfl) rfl ?_
  refine lb_X12_readProduct_5 C K hdx hex ht hR (fun s13 h => ?_) h
  obtain rfl := Option.some.inj h
  exact e_vret C B (dk dX12_readProduct 28 rfl)
set_option maxRecDepth 20000 in
theorem j_X12_readSum_j23 {X : FX} {g : WC} {Xo : Nat → va_E} {n : Nat} {kd : Nat → Nat} {dx : Nat} (C : Cx X g RX12 cX12_readSum 3) (K : KD n kd) {ex : (Nat → Int32 → Mem → Option Mem)} {t : Nat} (hdx : 10 ≤ dx) (hex : ∀ {t : Nat} {p0 : Int32} {M : Mem} {res : Mem}, kd t = 13 → ex t p0 M = some res → MC g yX12_readExpression cX12_readExpression 3 none dx n [.ref (g_N g + t), .int p0] (ent g Xo kd M) none (ent g Xo kd res)) (ht : kd t = 13) {x1 : Int32} (hR : x_R X = rm (dx + 3)) {OK : Mem → Prop} (hx : ∀ s, OK s → EW X g (x_s X).heap.size n 3 (ent g Xo kd s) 0 0 57 [] []) {rec : Mem → Option (Mem)} (hrec : ∀ (M : Mem) (q : Mem), rec M = some q → OK q → EW X g (x_s X).heap.size n 3 (ent g Xo kd M) 0 0 5 [(0, .ref (g_N g + t)), (1, .int x1)] []) {M : Mem} (q : Mem) (h : J_X12_readSum_j23 ex t rec x1 M = some q) (hOK : OK q) : EW X g (x_s X).heap.size n 3 (ent g Xo kd M) 0 0 23 [(0, .ref (g_N g + t)), (1, .int x1)] [] := by
  rw [J_X12_readSum_j23] at h
  refine e_aload_n C 0 (dk dX12_readSum 11 rfl) rfl rfl ?_
  refine e_bipush C 43 (dk dX12_readSum 12 rfl) (by decide) ?_
  obtain ⟨q4, hq4, h⟩ := ob h
  refine e_callV (ci := 12) C cal_X12_isMarked im_X12_isMarked se_X12_isMarked ml_X12_223 rfl hR (by omega) (dk dX12_readSum 13 rfl) (K.1 _ (by rw [ht]; decide)) (ent_o12 ht) (c_X12_isMarked K ht hq4) ⟨Nat.zero_le _, Nat.zero_le _⟩ (Nat.le_of_ble_eq_true rfl) rfl ?_
  suffices hm6 : EW X g (x_s X).heap.size n 3 (ent g Xo kd M) 0 0 39 [(0, .ref (g_N g + t)), (1, .int x1)] [.int (if (bi q4) = 0 then (-21 : Int32) else (-20 : Int32))] from (by
    refine e_if_eq C 37 (dk dX12_readSum 14 rfl) (by decide) (fun c5 => ?_) (fun c5 => ?_)
    · rw [show (if (bi q4) = 0 then (-21 : Int32) else (-20 : Int32)) = (-21 : Int32) from if_pos c5] at hm6
      refine e_bipush C (-21) (dk dX12_readSum 17 rfl) (by decide) ?_
      exact hm6
    · rw [show (if (bi q4) = 0 then (-21 : Int32) else (-20 : Int32)) = (-20 : Int32) from if_neg c5] at hm6
      refine e_bipush C (-20) (dk dX12_readSum 15 rfl) (by decide) ?_
      refine e_goto C 39 (dk dX12_readSum 16 rfl) (by decide) ?_
      exact hm6)
  refine e_istore_n C [(2, .int (if (bi q4) = 0 then (-21 : Int32) else (-20 : Int32))), (0, .ref (g_N g + t)), (1, .int x1)] (dk dX12_readSum 18 rfl) rfl (by decide) rfl ?_
  refine e_aload_n C 1 (dk dX12_readSum 19 rfl) rfl rfl ?_
  obtain ⟨q7, hq7, h⟩ := ob h
  refine e_callV (ci := 12) C cal_X12_stepOn im_X12_stepOn se_X12_stepOn ml_X12_230 rfl hR (by omega) (dk dX12_readSum 20 rfl) (K.1 _ (by rw [ht]; decide)) (ent_o12 ht) (c_X12_stepOn K ht hq7) ⟨Nat.zero_le _, Nat.zero_le _⟩ (Nat.le_of_ble_eq_true rfl) rfl ?_
  refine e_aload_n C 1 (dk dX12_readSum 21 rfl) rfl rfl ?_
  refine e_iload_n C 2 (dk dX12_readSum 22 rfl) rfl rfl ?_
  obtain ⟨q8, hq8, h⟩ := ob h
  refine e_callV (ci := 12) C cal_X12_readProduct im_X12_readProduct se_X12_readProduct ml_X12_262 rfl hR (by omega) (dk dX12_readSum 23 rfl) (K.1 _ (by rw [ht]; decide)) (ent_o12 ht) (c_X12_readProduct K hdx hex ht hq8) ⟨Nat.zero_le _, Nat.zero_le _⟩ (Nat.le_of_ble_eq_true rfl) rfl ?_
  refine e_aload_n C 1 (dk dX12_readSum 24 rfl) rfl rfl ?_
  refine e_iload_n C 0 (dk dX12_readSum 25 rfl) rfl rfl ?_
  obtain ⟨q9, hq9, h⟩ := ob h
  refine e_callV (ci := 12) C cal_X12_lay im_X12_lay se_X12_lay ml_X12_246 rfl hR (by omega) (dk dX12_readSum 26 rfl) (K.1 _ (by rw [ht]; decide)) (ent_o12 ht) (c_X12_lay K ht hq9) ⟨Nat.zero_le _, Nat.zero_le _⟩ (Nat.le_of_ble_eq_true rfl) rfl ?_
  refine e_goto C 5 (dk dX12_readSum 27 rfl) (by decide) ?_
  refine e_lv [1, 2] rfl ?_
  exact hrec _ _ h hOK
set_option maxRecDepth 20000 in
theorem l_X12_readSum_5 {X : FX} {g : WC} {Xo : Nat → va_E} {n : Nat} {kd : Nat → Nat} {dx : Nat} (C : Cx X g RX12 cX12_readSum 3) (K : KD n kd) {ex : (Nat → Int32 → Mem → Option Mem)} {t : Nat} (hdx : 10 ≤ dx) (hex : ∀ {t : Nat} {p0 : Int32} {M : Mem} {res : Mem}, kd t = 13 → ex t p0 M = some res → MC g yX12_readExpression cX12_readExpression 3 none dx n [.ref (g_N g + t), .int p0] (ent g Xo kd M) none (ent g Xo kd res)) (ht : kd t = 13) {x1 : Int32} (hR : x_R X = rm (dx + 3)) {OK : Mem → Prop} (hx : ∀ s, OK s → EW X g (x_s X).heap.size n 3 (ent g Xo kd s) 0 0 57 [] []) : ∀ (N9 : Nat) (M : Mem) (q : Mem), L_X12_readSum_5 ex t x1 N9 M = some q → OK q → EW X g (x_s X).heap.size n 3 (ent g Xo kd M) 0 0 5 [(0, .ref (g_N g + t)), (1, .int x1)] [] := by
  intro N9
  induction N9 with
  | zero =>
    intro M q h
    rw [L_X12_readSum_5.eq_1] at h
    cases h
  | succ m9 ih =>
    intro M q h hOK
    rw [L_X12_readSum_5.eq_2] at h
    refine e_aload_n C 0 (dk dX12_readSum 3 rfl) rfl rfl ?_
    refine e_bipush C 43 (dk dX12_readSum 4 rfl) (by decide) ?_
    obtain ⟨q2, hq2, h⟩ := ob h
    refine e_callV (ci := 12) C cal_X12_isMarked im_X12_isMarked se_X12_isMarked ml_X12_223 rfl hR (by omega) (dk dX12_readSum 5 rfl) (K.1 _ (by rw [ht]; decide)) (ent_o12 ht) (c_X12_isMarked K ht hq2) ⟨Nat.zero_le _, Nat.zero_le _⟩ (Nat.le_of_ble_eq_true rfl) rfl ?_
    refine e_if_ne C 23 (dk dX12_readSum 6 rfl) (by decide) (fun c3 => ?_) (fun c3 => ?_)
    · rw [if_neg c3] at h
      exact j_X12_readSum_j23 C K hdx hex ht hR hx ih _ h hOK
    · rw [if_pos c3] at h
      refine e_aload_n C 0 (dk dX12_readSum 7 rfl) rfl rfl ?_
      refine e_bipush C 45 (dk dX12_readSum 8 rfl) (by decide) ?_
      obtain ⟨q10, hq10, h⟩ := ob h
      refine e_callV (ci := 12) C cal_X12_isMarked im_X12_isMarked se_X12_isMarked ml_X12_223 rfl hR (by omega) (dk dX12_readSum 9 rfl) (K.1 _ (by rw [ht]; decide)) (ent_o12 ht) (c_X12_isMarked K ht hq10) ⟨Nat.zero_le _, Nat.zero_le _⟩ (Nat.le_of_ble_eq_true rfl) rfl ?_
      refine e_if_eq C 57 (dk dX12_readSum 10 rfl) (by decide) (fun c11 => ?_) (fun c11 => ?_)
      · rw [if_pos c11] at h
        obtain rfl := Option.some.inj h
        refine e_lv [] rfl ?_
        exact hx _ hOK
      · rw [if_neg c11] at h
        exact j_X12_readSum_j23 C K hdx hex ht hR hx ih _ h hOK
set_option maxRecDepth 20000 in
theorem lb_X12_readSum_5 {X : FX} {g : WC} {Xo : Nat → va_E} {n : Nat} {kd : Nat → Nat} {dx : Nat} (C : Cx X g RX12 cX12_readSum 3) (K : KD n kd) {ex : (Nat → Int32 → Mem → Option Mem)} {t : Nat} (hdx : 10 ≤ dx) (hex : ∀ {t : Nat} {p0 : Int32} {M : Mem} {res : Mem}, kd t = 13 → ex t p0 M = some res → MC g yX12_readExpression cX12_readExpression 3 none dx n [.ref (g_N g + t), .int p0] (ent g Xo kd M) none (ent g Xo kd res)) (ht : kd t = 13) {x1 : Int32} (hR : x_R X = rm (dx + 3)) {T9 : Type} {f9 : Mem → Option T9} {b9 : T9} (hx : ∀ s, f9 s = some b9 → EW X g (x_s X).heap.size n 3 (ent g Xo kd s) 0 0 57 [] []) {M : Mem} (h : (L_X12_readSum_5 ex t x1 FU M).bind f9 = some b9) : EW X g (x_s X).heap.size n 3 (ent g Xo kd M) 0 0 5 [(0, .ref (g_N g + t)), (1, .int x1)] [] := by
  obtain ⟨q, hq, h⟩ := ob h
  exact l_X12_readSum_5 C K hdx hex ht hR (OK := fun q => f9 q = some b9) hx FU M q hq h
set_option maxRecDepth 20000 in
theorem c_X12_readSum {g : WC} {Xo : Nat → va_E} {n : Nat} {kd : Nat → Nat} {dx : Nat} (K : KD n kd) {ex : (Nat → Int32 → Mem → Option Mem)} {t : Nat} {p0 : Int32} (hdx : 10 ≤ dx) (hex : ∀ {t : Nat} {p0 : Int32} {M : Mem} {res : Mem}, kd t = 13 → ex t p0 M = some res → MC g yX12_readExpression cX12_readExpression 3 none dx n [.ref (g_N g + t), .int p0] (ent g Xo kd M) none (ent g Xo kd res)) (ht : kd t = 13) {M : Mem} {res : Mem} (h : F_X12_readSum ex t p0 M = some res) : MC g yX12_readSum cX12_readSum 3 none (dx + 3) n [.ref (g_N g + t), .int p0] (ent g Xo kd M) none (ent g Xo kd res) := by
  refine MC_of pn_X12 (Nat.le_of_ble_eq_true rfl) (fun X C B => ?_)
  have hR := B.1
  rw [F_X12_readSum] at h
  refine e_aload_n C 0 (dk dX12_readSum 0 rfl) rfl rfl ?_
  refine e_iload_n C 1 (dk dX12_readSum 1 rfl) rfl rfl ?_
  obtain ⟨q1, hq1, h⟩ := ob h
  refine e_callV (ci := 12) C cal_X12_readProduct im_X12_readProduct se_X12_readProduct ml_X12_262 rfl hR (by omega) (dk dX12_readSum 2 rfl) (K.1 _ (by rw [ht]; decide)) (ent_o12 ht) (c_X12_readProduct K hdx hex ht hq1) ⟨Nat.zero_le _, Nat.zero_le _⟩ (Nat.le_of_ble_eq_true rfl) rfl ?_
  refine lb_X12_readSum_5 C K hdx hex ht hR (fun s13 h => ?_) h
  obtain rfl := Option.some.inj h
  exact e_vret C B (dk dX12_readSum 28 rfl)
set_option maxRecDepth 20000 in
theorem j_X12_readNot_j23 {X : FX} {g : WC} {Xo : Nat → va_E} {n : Nat} {kd : Nat → Nat} {dx : Nat} (C : Cx X g RX12 cX12_readNot 4) (K : KD n kd) {ex : (Nat → Int32 → Mem → Option Mem)} {t : Nat} (hdx : 10 ≤ dx) (hex : ∀ {t : Nat} {p0 : Int32} {M : Mem} {res : Mem}, kd t = 13 → ex t p0 M = some res → MC g yX12_readExpression cX12_readExpression 3 none dx n [.ref (g_N g + t), .int p0] (ent g Xo kd M) none (ent g Xo kd res)) (ht : kd t = 13) {x1 : Int32} (hR : x_R X = rm (dx + 4)) {OK : Int32 × Mem → Prop} (hx : ∀ s, OK s → EW X g (x_s X).heap.size n 4 (ent g Xo kd s.2) 0 0 40 [(0, .ref (g_N g + t)), (1, .int x1), (2, .int s.1)] []) {rec : Int32 → Mem → Option (Int32 × Mem)} (hrec : ∀ (x2 : Int32) (M : Mem) (q : Int32 × Mem), rec x2 M = some q → OK q → EW X g (x_s X).heap.size n 4 (ent g Xo kd M) 0 0 2 [(0, .ref (g_N g + t)), (1, .int x1), (2, .int x2)] []) {x2 : Int32} {M : Mem} (q : Int32 × Mem) (h : J_X12_readNot_j23 ex t rec x1 x2 M = some q) (hOK : OK q) : EW X g (x_s X).heap.size n 4 (ent g Xo kd M) 0 0 23 [(0, .ref (g_N g + t)), (1, .int x1), (2, .int x2)] [] := by
  rw [J_X12_readNot_j23] at h
  refine e_iinc C [(2, .int (x2 + 1)), (0, .ref (g_N g + t)), (1, .int x1)] 2 1 (dk dX12_readNot 12 rfl) rfl (by decide) (by decide) rfl ?_
  refine e_aload_n C 1 (dk dX12_readNot 13 rfl) rfl rfl ?_
  refine gf_X12_bad C K ht fl_X12_205 (dk dX12_readNot 14 rfl) ?_
  refine e_if_ne C 2 (dk dX12_readNot 15 rfl) (by decide) (fun c4 => ?_) (fun c4 => ?_)
  · rw [if_neg c4] at h
    refine e_lv [1, 2, 0] rfl ?_
    exact hrec _ _ _ h hOK
  · rw [if_pos c4] at h
    refine e_aload_n C 1 (dk dX12_readNot 16 rfl) rfl rfl ?_
    obtain ⟨q5, hq5, h⟩ := ob h
    refine e_callV (ci := 12) C cal_X12_stepOn im_X12_stepOn se_X12_stepOn ml_X12_230 rfl hR (by omega) (dk dX12_readNot 17 rfl) (K.1 _ (by rw [ht]; decide)) (ent_o12 ht) (c_X12_stepOn K ht hq5) ⟨Nat.zero_le _, Nat.zero_le _⟩ (Nat.le_of_ble_eq_true rfl) rfl ?_
    refine e_goto C 2 (dk dX12_readNot 18 rfl) (by decide) ?_
    refine e_lv [1, 2, 0] rfl ?_
    exact hrec _ _ _ h hOK
set_option maxRecDepth 20000 in
theorem l_X12_readNot_2 {X : FX} {g : WC} {Xo : Nat → va_E} {n : Nat} {kd : Nat → Nat} {dx : Nat} (C : Cx X g RX12 cX12_readNot 4) (K : KD n kd) {ex : (Nat → Int32 → Mem → Option Mem)} {t : Nat} (hdx : 10 ≤ dx) (hex : ∀ {t : Nat} {p0 : Int32} {M : Mem} {res : Mem}, kd t = 13 → ex t p0 M = some res → MC g yX12_readExpression cX12_readExpression 3 none dx n [.ref (g_N g + t), .int p0] (ent g Xo kd M) none (ent g Xo kd res)) (ht : kd t = 13) {x1 : Int32} (hR : x_R X = rm (dx + 4)) {OK : Int32 × Mem → Prop} (hx : ∀ s, OK s → EW X g (x_s X).heap.size n 4 (ent g Xo kd s.2) 0 0 40 [(0, .ref (g_N g + t)), (1, .int x1), (2, .int s.1)] []) : ∀ (N9 : Nat) (x2 : Int32) (M : Mem) (q : Int32 × Mem), L_X12_readNot_2 ex t x1 N9 x2 M = some q → OK q → EW X g (x_s X).heap.size n 4 (ent g Xo kd M) 0 0 2 [(0, .ref (g_N g + t)), (1, .int x1), (2, .int x2)] [] := by
  intro N9
  induction N9 with
  | zero =>
    intro x2 M q h
    rw [L_X12_readNot_2.eq_1] at h
    cases h
  | succ m9 ih =>
    intro x2 M q h hOK
    rw [L_X12_readNot_2.eq_2] at h
    refine e_aload_n C 0 (dk dX12_readNot 2 rfl) rfl rfl ?_
    refine e_ldcSW C sr_X12_265 (dk dX12_readNot 3 rfl) ?_
    obtain ⟨q1, hq1, h⟩ := ob h
    refine e_callV (ci := 12) C cal_X12_is im_X12_is se_X12_is ml_X12_219 rfl hR (by omega) (dk dX12_readNot 4 rfl) (K.1 _ (by rw [ht]; decide)) (ent_o12 ht) (c_X12_is K ht (by decide) hq1) ⟨Nat.zero_le _, Nat.zero_le _⟩ (Nat.le_of_ble_eq_true rfl) rfl ?_
    refine e_if_eq C 40 (dk dX12_readNot 5 rfl) (by decide) (fun c2 => ?_) (fun c2 => ?_)
    · rw [if_pos c2] at h
      obtain rfl := Option.some.inj h
      exact hx _ hOK
    · rw [if_neg c2] at h
      refine e_iload_n C 2 (dk dX12_readNot 6 rfl) rfl rfl ?_
      refine e_bipush C 6 (dk dX12_readNot 7 rfl) (by decide) ?_
      refine e_icmp_ne C 23 (dk dX12_readNot 8 rfl) (by decide) (fun c3 => ?_) (fun c3 => ?_)
      · rw [if_neg c3] at h
        exact j_X12_readNot_j23 C K hdx hex ht hR hx ih _ h hOK
      · rw [if_pos c3] at h
        refine e_aload_n C 0 (dk dX12_readNot 9 rfl) rfl rfl ?_
        refine e_iconst C 2 (dk dX12_readNot 10 rfl) (by decide) ?_
        refine e_callV (ci := 12) C cal_X12_wrong im_X12_wrong se_X12_wrong ml_X12_226 rfl hR (by omega) (dk dX12_readNot 11 rfl) (K.1 _ (by rw [ht]; decide)) (ent_o12 ht) (c_X12_wrong K ht (rfl : F_X12_wrong t 2 M = _)) ⟨Nat.zero_le _, Nat.zero_le _⟩ (Nat.le_of_ble_eq_true rfl) rfl ?_
        exact j_X12_readNot_j23 C K hdx hex ht hR hx ih _ h hOK
set_option maxRecDepth 20000 in
theorem lb_X12_readNot_2 {X : FX} {g : WC} {Xo : Nat → va_E} {n : Nat} {kd : Nat → Nat} {dx : Nat} (C : Cx X g RX12 cX12_readNot 4) (K : KD n kd) {ex : (Nat → Int32 → Mem → Option Mem)} {t : Nat} (hdx : 10 ≤ dx) (hex : ∀ {t : Nat} {p0 : Int32} {M : Mem} {res : Mem}, kd t = 13 → ex t p0 M = some res → MC g yX12_readExpression cX12_readExpression 3 none dx n [.ref (g_N g + t), .int p0] (ent g Xo kd M) none (ent g Xo kd res)) (ht : kd t = 13) {x1 : Int32} (hR : x_R X = rm (dx + 4)) {T9 : Type} {f9 : Int32 × Mem → Option T9} {b9 : T9} (hx : ∀ s, f9 s = some b9 → EW X g (x_s X).heap.size n 4 (ent g Xo kd s.2) 0 0 40 [(0, .ref (g_N g + t)), (1, .int x1), (2, .int s.1)] []) {x2 : Int32} {M : Mem} (h : (L_X12_readNot_2 ex t x1 FU x2 M).bind f9 = some b9) : EW X g (x_s X).heap.size n 4 (ent g Xo kd M) 0 0 2 [(0, .ref (g_N g + t)), (1, .int x1), (2, .int x2)] [] := by
  obtain ⟨q, hq, h⟩ := ob h
  exact l_X12_readNot_2 C K hdx hex ht hR (OK := fun q => f9 q = some b9) hx FU x2 M q hq h
set_option maxRecDepth 20000 in
theorem l_X12_readNot_96 {X : FX} {g : WC} {Xo : Nat → va_E} {n : Nat} {kd : Nat → Nat} {dx : Nat} (C : Cx X g RX12 cX12_readNot 4) (K : KD n kd) {ex : (Nat → Int32 → Mem → Option Mem)} {t : Nat} (hdx : 10 ≤ dx) (hex : ∀ {t : Nat} {p0 : Int32} {M : Mem} {res : Mem}, kd t = 13 → ex t p0 M = some res → MC g yX12_readExpression cX12_readExpression 3 none dx n [.ref (g_N g + t), .int p0] (ent g Xo kd M) none (ent g Xo kd res)) (ht : kd t = 13) {x2 : Int32} (hR : x_R X = rm (dx + 4)) {OK : Mem → Prop} (hx : ∀ s, OK s → EW X g (x_s X).heap.size n 4 (ent g Xo kd s) 0 0 113 [] []) : ∀ (N9 : Nat) (x3 : Int32) (M : Mem) (q : Mem), L_X12_readNot_96 ex t x2 N9 x3 M = some q → OK q → EW X g (x_s X).heap.size n 4 (ent g Xo kd M) 0 0 96 [(0, .ref (g_N g + t)), (2, .int x2), (3, .int x3)] [] := by
  intro N9
  induction N9 with
  | zero =>
    intro x3 M q h
    rw [L_X12_readNot_96.eq_1] at h
    cases h
  | succ m9 ih =>
    intro x3 M q h hOK
    rw [L_X12_readNot_96.eq_2] at h
    refine e_iload_n C 2 (dk dX12_readNot 48 rfl) rfl rfl ?_
    refine e_iload_n C 1 (dk dX12_readNot 49 rfl) rfl rfl ?_
    refine e_icmp_ge C 113 (dk dX12_readNot 50 rfl) (by decide) (fun c17 => ?_) (fun c17 => ?_)
    · rw [if_pos c17] at h
      obtain rfl := Option.some.inj h
      refine e_lv [] rfl ?_
      exact hx _ hOK
    · rw [if_neg c17] at h
      refine e_aload_n C 0 (dk dX12_readNot 51 rfl) rfl rfl ?_
      refine e_bipush C (-28) (dk dX12_readNot 52 rfl) (by decide) ?_
      obtain ⟨q18, hq18, h⟩ := ob h
      refine e_callV (ci := 12) C cal_X12_lay im_X12_lay se_X12_lay ml_X12_246 rfl hR (by omega) (dk dX12_readNot 53 rfl) (K.1 _ (by rw [ht]; decide)) (ent_o12 ht) (c_X12_lay K ht hq18) ⟨Nat.zero_le _, Nat.zero_le _⟩ (Nat.le_of_ble_eq_true rfl) rfl ?_
      refine e_iinc C [(3, .int (x3 + 1)), (0, .ref (g_N g + t)), (2, .int x2)] 2 1 (dk dX12_readNot 54 rfl) rfl (by decide) (by decide) rfl ?_
      refine e_goto C 96 (dk dX12_readNot 55 rfl) (by decide) ?_
      refine e_lv [1, 2, 0] rfl ?_
      exact ih _ _ _ h hOK
set_option maxRecDepth 20000 in
theorem lb_X12_readNot_96 {X : FX} {g : WC} {Xo : Nat → va_E} {n : Nat} {kd : Nat → Nat} {dx : Nat} (C : Cx X g RX12 cX12_readNot 4) (K : KD n kd) {ex : (Nat → Int32 → Mem → Option Mem)} {t : Nat} (hdx : 10 ≤ dx) (hex : ∀ {t : Nat} {p0 : Int32} {M : Mem} {res : Mem}, kd t = 13 → ex t p0 M = some res → MC g yX12_readExpression cX12_readExpression 3 none dx n [.ref (g_N g + t), .int p0] (ent g Xo kd M) none (ent g Xo kd res)) (ht : kd t = 13) {x2 : Int32} (hR : x_R X = rm (dx + 4)) {T9 : Type} {f9 : Mem → Option T9} {b9 : T9} (hx : ∀ s, f9 s = some b9 → EW X g (x_s X).heap.size n 4 (ent g Xo kd s) 0 0 113 [] []) {x3 : Int32} {M : Mem} (h : (L_X12_readNot_96 ex t x2 FU x3 M).bind f9 = some b9) : EW X g (x_s X).heap.size n 4 (ent g Xo kd M) 0 0 96 [(0, .ref (g_N g + t)), (2, .int x2), (3, .int x3)] [] := by
  obtain ⟨q, hq, h⟩ := ob h
  exact l_X12_readNot_96 C K hdx hex ht hR (OK := fun q => f9 q = some b9) hx FU x3 M q hq h
set_option maxRecDepth 20000 in
theorem j_X12_readNot_j94 {X : FX} {g : WC} {Xo : Nat → va_E} {n : Nat} {kd : Nat → Nat} {dx : Nat} (C : Cx X g RX12 cX12_readNot 4) (K : KD n kd) {ex : (Nat → Int32 → Mem → Option Mem)} {t : Nat} (hdx : 10 ≤ dx) (hex : ∀ {t : Nat} {p0 : Int32} {M : Mem} {res : Mem}, kd t = 13 → ex t p0 M = some res → MC g yX12_readExpression cX12_readExpression 3 none dx n [.ref (g_N g + t), .int p0] (ent g Xo kd M) none (ent g Xo kd res)) (ht : kd t = 13) (hR : x_R X = rm (dx + 4)) {x2 : Int32} {M : Mem} {res : Mem} (h : J_X12_readNot_j94 ex t x2 M = some res) (B : Bx X g none (dx + 4) n none (ent g Xo kd res)) : EW X g (x_s X).heap.size n 4 (ent g Xo kd M) 0 0 94 [(0, .ref (g_N g + t)), (2, .int x2)] [] := by
  rw [J_X12_readNot_j94] at h
  refine e_iconst C 0 (dk dX12_readNot 46 rfl) (by decide) ?_
  refine e_istore_n C [(3, .int 0), (0, .ref (g_N g + t)), (2, .int x2)] (dk dX12_readNot 47 rfl) rfl (by decide) rfl ?_
  refine e_lv [1, 2, 0] rfl ?_
  refine lb_X12_readNot_96 C K hdx hex ht hR (fun s20 h => ?_) h
  obtain rfl := Option.some.inj h
  exact e_vret C B (dk dX12_readNot 56 rfl)
set_option maxRecDepth 20000 in
theorem j_X12_readNot_j63 {X : FX} {g : WC} {Xo : Nat → va_E} {n : Nat} {kd : Nat → Nat} {dx : Nat} (C : Cx X g RX12 cX12_readNot 4) (K : KD n kd) {ex : (Nat → Int32 → Mem → Option Mem)} {t : Nat} (hdx : 10 ≤ dx) (hex : ∀ {t : Nat} {p0 : Int32} {M : Mem} {res : Mem}, kd t = 13 → ex t p0 M = some res → MC g yX12_readExpression cX12_readExpression 3 none dx n [.ref (g_N g + t), .int p0] (ent g Xo kd M) none (ent g Xo kd res)) (ht : kd t = 13) (hR : x_R X = rm (dx + 4)) {x1 : Int32} {x2 : Int32} {M : Mem} {res : Mem} (h : J_X12_readNot_j63 ex t x1 x2 M = some res) (B : Bx X g none (dx + 4) n none (ent g Xo kd res)) : EW X g (x_s X).heap.size n 4 (ent g Xo kd M) 0 0 63 [(0, .ref (g_N g + t)), (1, .int x1), (2, .int x2)] [] := by
  rw [J_X12_readNot_j63] at h
  refine e_aload_n C 0 (dk dX12_readNot 30 rfl) rfl rfl ?_
  refine e_bipush C 60 (dk dX12_readNot 31 rfl) (by decide) ?_
  obtain ⟨q11, hq11, h⟩ := ob h
  refine e_callV (ci := 12) C cal_X12_isMarked im_X12_isMarked se_X12_isMarked ml_X12_223 rfl hR (by omega) (dk dX12_readNot 32 rfl) (K.1 _ (by rw [ht]; decide)) (ent_o12 ht) (c_X12_isMarked K ht hq11) ⟨Nat.zero_le _, Nat.zero_le _⟩ (Nat.le_of_ble_eq_true rfl) rfl ?_
  suffices hm13 : EW X g (x_s X).heap.size n 4 (ent g Xo kd M) 0 0 79 [(0, .ref (g_N g + t)), (1, .int x1), (2, .int x2)] [.int (if (bi q11) = 0 then (-25 : Int32) else (-24 : Int32))] from (by
    refine e_if_eq C 77 (dk dX12_readNot 33 rfl) (by decide) (fun c12 => ?_) (fun c12 => ?_)
    · rw [show (if (bi q11) = 0 then (-25 : Int32) else (-24 : Int32)) = (-25 : Int32) from if_pos c12] at hm13
      refine e_bipush C (-25) (dk dX12_readNot 36 rfl) (by decide) ?_
      exact hm13
    · rw [show (if (bi q11) = 0 then (-25 : Int32) else (-24 : Int32)) = (-24 : Int32) from if_neg c12] at hm13
      refine e_bipush C (-24) (dk dX12_readNot 34 rfl) (by decide) ?_
      refine e_goto C 79 (dk dX12_readNot 35 rfl) (by decide) ?_
      exact hm13)
  refine e_istore_n C [(3, .int (if (bi q11) = 0 then (-25 : Int32) else (-24 : Int32))), (0, .ref (g_N g + t)), (1, .int x1), (2, .int x2)] (dk dX12_readNot 37 rfl) rfl (by decide) rfl ?_
  refine e_aload_n C 1 (dk dX12_readNot 38 rfl) rfl rfl ?_
  obtain ⟨q14, hq14, h⟩ := ob h
  refine e_callV (ci := 12) C cal_X12_stepOn im_X12_stepOn se_X12_stepOn ml_X12_230 rfl hR (by omega) (dk dX12_readNot 39 rfl) (K.1 _ (by rw [ht]; decide)) (ent_o12 ht) (c_X12_stepOn K ht hq14) ⟨Nat.zero_le _, Nat.zero_le _⟩ (Nat.le_of_ble_eq_true rfl) rfl ?_
  refine e_aload_n C 1 (dk dX12_readNot 40 rfl) rfl rfl ?_
  refine e_iload_n C 2 (dk dX12_readNot 41 rfl) rfl rfl ?_
  obtain ⟨q15, hq15, h⟩ := ob h
  refine e_callV (ci := 12) C cal_X12_readSum im_X12_readSum se_X12_readSum ml_X12_267 rfl hR (by omega) (dk dX12_readNot 42 rfl) (K.1 _ (by rw [ht]; decide)) (ent_o12 ht) (c_X12_readSum K hdx hex ht hq15) ⟨Nat.zero_le _, Nat.zero_le _⟩ (Nat.le_of_ble_eq_true rfl) rfl ?_
  refine e_aload_n C 1 (dk dX12_readNot 43 rfl) rfl rfl ?_
  refine e_iload_n C 0 (dk dX12_readNot 44 rfl) rfl rfl ?_
  obtain ⟨q16, hq16, h⟩ := ob h
  refine e_callV (ci := 12) C cal_X12_lay im_X12_lay se_X12_lay ml_X12_246 rfl hR (by omega) (dk dX12_readNot 45 rfl) (K.1 _ (by rw [ht]; decide)) (ent_o12 ht) (c_X12_lay K ht hq16) ⟨Nat.zero_le _, Nat.zero_le _⟩ (Nat.le_of_ble_eq_true rfl) rfl ?_
  refine e_lv [1, 3] rfl ?_
  exact j_X12_readNot_j94 C K hdx hex ht hR h B
set_option maxRecDepth 20000 in
theorem c_X12_readNot {g : WC} {Xo : Nat → va_E} {n : Nat} {kd : Nat → Nat} {dx : Nat} (K : KD n kd) {ex : (Nat → Int32 → Mem → Option Mem)} {t : Nat} {p0 : Int32} (hdx : 10 ≤ dx) (hex : ∀ {t : Nat} {p0 : Int32} {M : Mem} {res : Mem}, kd t = 13 → ex t p0 M = some res → MC g yX12_readExpression cX12_readExpression 3 none dx n [.ref (g_N g + t), .int p0] (ent g Xo kd M) none (ent g Xo kd res)) (ht : kd t = 13) {M : Mem} {res : Mem} (h : F_X12_readNot ex t p0 M = some res) : MC g yX12_readNot cX12_readNot 4 none (dx + 4) n [.ref (g_N g + t), .int p0] (ent g Xo kd M) none (ent g Xo kd res) := by
  refine MC_of pn_X12 (Nat.le_of_ble_eq_true rfl) (fun X C B => ?_)
  have hR := B.1
  rw [F_X12_readNot] at h
  refine e_iconst C 0 (dk dX12_readNot 0 rfl) (by decide) ?_
  refine e_istore_n C [(2, .int 0), (0, .ref (g_N g + t)), (1, .int p0)] (dk dX12_readNot 1 rfl) rfl (by decide) rfl ?_
  refine e_lv [1, 2, 0] rfl ?_
  refine lb_X12_readNot_2 C K hdx hex ht hR (fun s7 h => ?_) h
  refine e_aload_n C 0 (dk dX12_readNot 19 rfl) rfl rfl ?_
  refine e_iload_n C 1 (dk dX12_readNot 20 rfl) rfl rfl ?_
  obtain ⟨q8, hq8, h⟩ := ob h
  refine e_callV (ci := 12) C cal_X12_readSum im_X12_readSum se_X12_readSum ml_X12_267 rfl hR (by omega) (dk dX12_readNot 21 rfl) (K.1 _ (by rw [ht]; decide)) (ent_o12 ht) (c_X12_readSum K hdx hex ht hq8) ⟨Nat.zero_le _, Nat.zero_le _⟩ (Nat.le_of_ble_eq_true rfl) rfl ?_
  refine e_aload_n C 0 (dk dX12_readNot 22 rfl) rfl rfl ?_
  refine e_bipush C 60 (dk dX12_readNot 23 rfl) (by decide) ?_
  obtain ⟨q9, hq9, h⟩ := ob h
  refine e_callV (ci := 12) C cal_X12_isMarked im_X12_isMarked se_X12_isMarked ml_X12_223 rfl hR (by omega) (dk dX12_readNot 24 rfl) (K.1 _ (by rw [ht]; decide)) (ent_o12 ht) (c_X12_isMarked K ht hq9) ⟨Nat.zero_le _, Nat.zero_le _⟩ (Nat.le_of_ble_eq_true rfl) rfl ?_
  refine e_if_ne C 63 (dk dX12_readNot 25 rfl) (by decide) (fun c10 => ?_) (fun c10 => ?_)
  · rw [if_neg c10] at h
    exact j_X12_readNot_j63 C K hdx hex ht hR h B
  · rw [if_pos c10] at h
    refine e_aload_n C 0 (dk dX12_readNot 26 rfl) rfl rfl ?_
    refine e_bipush C 61 (dk dX12_readNot 27 rfl) (by decide) ?_
    obtain ⟨q21, hq21, h⟩ := ob h
    refine e_callV (ci := 12) C cal_X12_isMarked im_X12_isMarked se_X12_isMarked ml_X12_223 rfl hR (by omega) (dk dX12_readNot 28 rfl) (K.1 _ (by rw [ht]; decide)) (ent_o12 ht) (c_X12_isMarked K ht hq21) ⟨Nat.zero_le _, Nat.zero_le _⟩ (Nat.le_of_ble_eq_true rfl) rfl ?_
    refine e_if_eq C 94 (dk dX12_readNot 29 rfl) (by decide) (fun c22 => ?_) (fun c22 => ?_)
    · rw [if_pos c22] at h
      refine e_lv [0, 2] rfl ?_
      exact j_X12_readNot_j94 C K hdx hex ht hR h B
    · rw [if_neg c22] at h
      exact j_X12_readNot_j63 C K hdx hex ht hR h B
set_option maxRecDepth 20000 in
theorem l_X12_readAnd_5 {X : FX} {g : WC} {Xo : Nat → va_E} {n : Nat} {kd : Nat → Nat} {dx : Nat} (C : Cx X g RX12 cX12_readAnd 2) (K : KD n kd) {ex : (Nat → Int32 → Mem → Option Mem)} {t : Nat} (hdx : 10 ≤ dx) (hex : ∀ {t : Nat} {p0 : Int32} {M : Mem} {res : Mem}, kd t = 13 → ex t p0 M = some res → MC g yX12_readExpression cX12_readExpression 3 none dx n [.ref (g_N g + t), .int p0] (ent g Xo kd M) none (ent g Xo kd res)) (ht : kd t = 13) {x1 : Int32} (hR : x_R X = rm (dx + 5)) {OK : Mem → Prop} (hx : ∀ s, OK s → EW X g (x_s X).heap.size n 2 (ent g Xo kd s) 0 0 33 [] []) : ∀ (N9 : Nat) (M : Mem) (q : Mem), L_X12_readAnd_5 ex t x1 N9 M = some q → OK q → EW X g (x_s X).heap.size n 2 (ent g Xo kd M) 0 0 5 [(0, .ref (g_N g + t)), (1, .int x1)] [] := by
  intro N9
  induction N9 with
  | zero =>
    intro M q h
    rw [L_X12_readAnd_5.eq_1] at h
    cases h
  | succ m9 ih =>
    intro M q h hOK
    rw [L_X12_readAnd_5.eq_2] at h
    refine e_aload_n C 0 (dk dX12_readAnd 3 rfl) rfl rfl ?_
    refine e_ldcSW C sr_X12_273 (dk dX12_readAnd 4 rfl) ?_
    obtain ⟨q2, hq2, h⟩ := ob h
    refine e_callV (ci := 12) C cal_X12_is im_X12_is se_X12_is ml_X12_219 rfl hR (by omega) (dk dX12_readAnd 5 rfl) (K.1 _ (by rw [ht]; decide)) (ent_o12 ht) (c_X12_is K ht (by decide) hq2) ⟨Nat.zero_le _, Nat.zero_le _⟩ (Nat.le_of_ble_eq_true rfl) rfl ?_
    refine e_if_eq C 33 (dk dX12_readAnd 6 rfl) (by decide) (fun c3 => ?_) (fun c3 => ?_)
    · rw [if_pos c3] at h
      obtain rfl := Option.some.inj h
      refine e_lv [] rfl ?_
      exact hx _ hOK
    · rw [if_neg c3] at h
      refine e_aload_n C 0 (dk dX12_readAnd 7 rfl) rfl rfl ?_
      obtain ⟨q4, hq4, h⟩ := ob h
      refine e_callV (ci := 12) C cal_X12_stepOn im_X12_stepOn se_X12_stepOn ml_X12_230 rfl hR (by omega) (dk dX12_readAnd 8 rfl) (K.1 _ (by rw [ht]; decide)) (ent_o12 ht) (c_X12_stepOn K ht hq4) ⟨Nat.zero_le _, Nat.zero_le _⟩ (Nat.le_of_ble_eq_true rfl) rfl ?_
      refine e_aload_n C 0 (dk dX12_readAnd 9 rfl) rfl rfl ?_
      refine e_iload_n C 1 (dk dX12_readAnd 10 rfl) rfl rfl ?_
      obtain ⟨q5, hq5, h⟩ := ob h
      refine e_callV (ci := 12) C cal_X12_readNot im_X12_readNot se_X12_readNot ml_X12_270 rfl hR (by omega) (dk dX12_readAnd 11 rfl) (K.1 _ (by rw [ht]; decide)) (ent_o12 ht) (c_X12_readNot K hdx hex ht hq5) ⟨Nat.zero_le _, Nat.zero_le _⟩ (Nat.le_of_ble_eq_true rfl) rfl ?_
      refine e_aload_n C 0 (dk dX12_readAnd 12 rfl) rfl rfl ?_
      refine e_bipush C (-26) (dk dX12_readAnd 13 rfl) (by decide) ?_
      obtain ⟨q6, hq6, h⟩ := ob h
      refine e_callV (ci := 12) C cal_X12_lay im_X12_lay se_X12_lay ml_X12_246 rfl hR (by omega) (dk dX12_readAnd 14 rfl) (K.1 _ (by rw [ht]; decide)) (ent_o12 ht) (c_X12_lay K ht hq6) ⟨Nat.zero_le _, Nat.zero_le _⟩ (Nat.le_of_ble_eq_true rfl) rfl ?_
      refine e_goto C 5 (dk dX12_readAnd 15 rfl) (by decide) ?_
      exact ih _ _ h hOK
set_option maxRecDepth 20000 in
theorem lb_X12_readAnd_5 {X : FX} {g : WC} {Xo : Nat → va_E} {n : Nat} {kd : Nat → Nat} {dx : Nat} (C : Cx X g RX12 cX12_readAnd 2) (K : KD n kd) {ex : (Nat → Int32 → Mem → Option Mem)} {t : Nat} (hdx : 10 ≤ dx) (hex : ∀ {t : Nat} {p0 : Int32} {M : Mem} {res : Mem}, kd t = 13 → ex t p0 M = some res → MC g yX12_readExpression cX12_readExpression 3 none dx n [.ref (g_N g + t), .int p0] (ent g Xo kd M) none (ent g Xo kd res)) (ht : kd t = 13) {x1 : Int32} (hR : x_R X = rm (dx + 5)) {T9 : Type} {f9 : Mem → Option T9} {b9 : T9} (hx : ∀ s, f9 s = some b9 → EW X g (x_s X).heap.size n 2 (ent g Xo kd s) 0 0 33 [] []) {M : Mem} (h : (L_X12_readAnd_5 ex t x1 FU M).bind f9 = some b9) : EW X g (x_s X).heap.size n 2 (ent g Xo kd M) 0 0 5 [(0, .ref (g_N g + t)), (1, .int x1)] [] := by
  obtain ⟨q, hq, h⟩ := ob h
  exact l_X12_readAnd_5 C K hdx hex ht hR (OK := fun q => f9 q = some b9) hx FU M q hq h
set_option maxRecDepth 20000 in
theorem c_X12_readAnd {g : WC} {Xo : Nat → va_E} {n : Nat} {kd : Nat → Nat} {dx : Nat} (K : KD n kd) {ex : (Nat → Int32 → Mem → Option Mem)} {t : Nat} {p0 : Int32} (hdx : 10 ≤ dx) (hex : ∀ {t : Nat} {p0 : Int32} {M : Mem} {res : Mem}, kd t = 13 → ex t p0 M = some res → MC g yX12_readExpression cX12_readExpression 3 none dx n [.ref (g_N g + t), .int p0] (ent g Xo kd M) none (ent g Xo kd res)) (ht : kd t = 13) {M : Mem} {res : Mem} (h : F_X12_readAnd ex t p0 M = some res) : MC g yX12_readAnd cX12_readAnd 2 none (dx + 5) n [.ref (g_N g + t), .int p0] (ent g Xo kd M) none (ent g Xo kd res) := by
  refine MC_of pn_X12 (Nat.le_of_ble_eq_true rfl) (fun X C B => ?_)
  have hR := B.1
  rw [F_X12_readAnd] at h
  refine e_aload_n C 0 (dk dX12_readAnd 0 rfl) rfl rfl ?_
  refine e_iload_n C 1 (dk dX12_readAnd 1 rfl) rfl rfl ?_
  obtain ⟨q1, hq1, h⟩ := ob h
  refine e_callV (ci := 12) C cal_X12_readNot im_X12_readNot se_X12_readNot ml_X12_270 rfl hR (by omega) (dk dX12_readAnd 2 rfl) (K.1 _ (by rw [ht]; decide)) (ent_o12 ht) (c_X12_readNot K hdx hex ht hq1) ⟨Nat.zero_le _, Nat.zero_le _⟩ (Nat.le_of_ble_eq_true rfl) rfl ?_
  refine lb_X12_readAnd_5 C K hdx hex ht hR (fun s8 h => ?_) h
  obtain rfl := Option.some.inj h
  exact e_vret C B (dk dX12_readAnd 16 rfl)
set_option maxRecDepth 20000 in
theorem l_X12_readExpression_67 {X : FX} {g : WC} {Xo : Nat → va_E} {n : Nat} {kd : Nat → Nat} {dx : Nat} (C : Cx X g RX12 cX12_readExpression 3) (K : KD n kd) {ex : (Nat → Int32 → Mem → Option Mem)} {t : Nat} (hdx : 10 ≤ dx) (hex : ∀ {t : Nat} {p0 : Int32} {M : Mem} {res : Mem}, kd t = 13 → ex t p0 M = some res → MC g yX12_readExpression cX12_readExpression 3 none dx n [.ref (g_N g + t), .int p0] (ent g Xo kd M) none (ent g Xo kd res)) (ht : kd t = 13) {x1 : Int32} (hR : x_R X = rm (dx + 6)) {OK : Mem → Prop} (hx : ∀ s, OK s → EW X g (x_s X).heap.size n 3 (ent g Xo kd s) 0 0 95 [] []) : ∀ (N9 : Nat) (M : Mem) (q : Mem), L_X12_readExpression_67 ex t x1 N9 M = some q → OK q → EW X g (x_s X).heap.size n 3 (ent g Xo kd M) 0 0 67 [(0, .ref (g_N g + t)), (1, .int x1)] [] := by
  intro N9
  induction N9 with
  | zero =>
    intro M q h
    rw [L_X12_readExpression_67.eq_1] at h
    cases h
  | succ m9 ih =>
    intro M q h hOK
    rw [L_X12_readExpression_67.eq_2] at h
    refine e_aload_n C 0 (dk dX12_readExpression 35 rfl) rfl rfl ?_
    refine e_ldcSW C sr_X12_278 (dk dX12_readExpression 36 rfl) ?_
    obtain ⟨q6, hq6, h⟩ := ob h
    refine e_callV (ci := 12) C cal_X12_is im_X12_is se_X12_is ml_X12_219 rfl hR (by omega) (dk dX12_readExpression 37 rfl) (K.1 _ (by rw [ht]; decide)) (ent_o12 ht) (c_X12_is K ht (by decide) hq6) ⟨Nat.zero_le _, Nat.zero_le _⟩ (Nat.le_of_ble_eq_true rfl) rfl ?_
    refine e_if_eq C 95 (dk dX12_readExpression 38 rfl) (by decide) (fun c7 => ?_) (fun c7 => ?_)
    · rw [if_pos c7] at h
      obtain rfl := Option.some.inj h
      refine e_lv [] rfl ?_
      exact hx _ hOK
    · rw [if_neg c7] at h
      refine e_aload_n C 0 (dk dX12_readExpression 39 rfl) rfl rfl ?_
      obtain ⟨q8, hq8, h⟩ := ob h
      refine e_callV (ci := 12) C cal_X12_stepOn im_X12_stepOn se_X12_stepOn ml_X12_230 rfl hR (by omega) (dk dX12_readExpression 40 rfl) (K.1 _ (by rw [ht]; decide)) (ent_o12 ht) (c_X12_stepOn K ht hq8) ⟨Nat.zero_le _, Nat.zero_le _⟩ (Nat.le_of_ble_eq_true rfl) rfl ?_
      refine e_aload_n C 0 (dk dX12_readExpression 41 rfl) rfl rfl ?_
      refine e_iload_n C 1 (dk dX12_readExpression 42 rfl) rfl rfl ?_
      obtain ⟨q9, hq9, h⟩ := ob h
      refine e_callV (ci := 12) C cal_X12_readAnd im_X12_readAnd se_X12_readAnd ml_X12_275 rfl hR (by omega) (dk dX12_readExpression 43 rfl) (K.1 _ (by rw [ht]; decide)) (ent_o12 ht) (c_X12_readAnd K hdx hex ht hq9) ⟨Nat.zero_le _, Nat.zero_le _⟩ (Nat.le_of_ble_eq_true rfl) rfl ?_
      refine e_aload_n C 0 (dk dX12_readExpression 44 rfl) rfl rfl ?_
      refine e_bipush C (-27) (dk dX12_readExpression 45 rfl) (by decide) ?_
      obtain ⟨q10, hq10, h⟩ := ob h
      refine e_callV (ci := 12) C cal_X12_lay im_X12_lay se_X12_lay ml_X12_246 rfl hR (by omega) (dk dX12_readExpression 46 rfl) (K.1 _ (by rw [ht]; decide)) (ent_o12 ht) (c_X12_lay K ht hq10) ⟨Nat.zero_le _, Nat.zero_le _⟩ (Nat.le_of_ble_eq_true rfl) rfl ?_
      refine e_goto C 67 (dk dX12_readExpression 47 rfl) (by decide) ?_
      exact ih _ _ h hOK
set_option maxRecDepth 20000 in
theorem lb_X12_readExpression_67 {X : FX} {g : WC} {Xo : Nat → va_E} {n : Nat} {kd : Nat → Nat} {dx : Nat} (C : Cx X g RX12 cX12_readExpression 3) (K : KD n kd) {ex : (Nat → Int32 → Mem → Option Mem)} {t : Nat} (hdx : 10 ≤ dx) (hex : ∀ {t : Nat} {p0 : Int32} {M : Mem} {res : Mem}, kd t = 13 → ex t p0 M = some res → MC g yX12_readExpression cX12_readExpression 3 none dx n [.ref (g_N g + t), .int p0] (ent g Xo kd M) none (ent g Xo kd res)) (ht : kd t = 13) {x1 : Int32} (hR : x_R X = rm (dx + 6)) {T9 : Type} {f9 : Mem → Option T9} {b9 : T9} (hx : ∀ s, f9 s = some b9 → EW X g (x_s X).heap.size n 3 (ent g Xo kd s) 0 0 95 [] []) {M : Mem} (h : (L_X12_readExpression_67 ex t x1 FU M).bind f9 = some b9) : EW X g (x_s X).heap.size n 3 (ent g Xo kd M) 0 0 67 [(0, .ref (g_N g + t)), (1, .int x1)] [] := by
  obtain ⟨q, hq, h⟩ := ob h
  exact l_X12_readExpression_67 C K hdx hex ht hR (OK := fun q => f9 q = some b9) hx FU M q hq h
set_option maxRecDepth 20000 in
theorem j_X12_readExpression_j62 {X : FX} {g : WC} {Xo : Nat → va_E} {n : Nat} {kd : Nat → Nat} {dx : Nat} (C : Cx X g RX12 cX12_readExpression 3) (K : KD n kd) {ex : (Nat → Int32 → Mem → Option Mem)} {t : Nat} (hdx : 10 ≤ dx) (hex : ∀ {t : Nat} {p0 : Int32} {M : Mem} {res : Mem}, kd t = 13 → ex t p0 M = some res → MC g yX12_readExpression cX12_readExpression 3 none dx n [.ref (g_N g + t), .int p0] (ent g Xo kd M) none (ent g Xo kd res)) (ht : kd t = 13) (hR : x_R X = rm (dx + 6)) {x1 : Int32} {M : Mem} {res : Mem} (h : J_X12_readExpression_j62 ex t x1 M = some res) (B : Bx X g none (dx + 6) n none (ent g Xo kd res)) : EW X g (x_s X).heap.size n 3 (ent g Xo kd M) 0 0 62 [(0, .ref (g_N g + t)), (1, .int x1)] [] := by
  rw [J_X12_readExpression_j62] at h
  refine e_aload_n C 0 (dk dX12_readExpression 32 rfl) rfl rfl ?_
  refine e_iload_n C 1 (dk dX12_readExpression 33 rfl) rfl rfl ?_
  obtain ⟨q5, hq5, h⟩ := ob h
  refine e_callV (ci := 12) C cal_X12_readAnd im_X12_readAnd se_X12_readAnd ml_X12_275 rfl hR (by omega) (dk dX12_readExpression 34 rfl) (K.1 _ (by rw [ht]; decide)) (ent_o12 ht) (c_X12_readAnd K hdx hex ht hq5) ⟨Nat.zero_le _, Nat.zero_le _⟩ (Nat.le_of_ble_eq_true rfl) rfl ?_
  refine lb_X12_readExpression_67 C K hdx hex ht hR (fun s12 h => ?_) h
  obtain rfl := Option.some.inj h
  exact e_vret C B (dk dX12_readExpression 48 rfl)
set_option maxRecDepth 20000 in
theorem j_X12_readExpression_j38 {X : FX} {g : WC} {Xo : Nat → va_E} {n : Nat} {kd : Nat → Nat} {dx : Nat} (C : Cx X g RX12 cX12_readExpression 3) (K : KD n kd) {ex : (Nat → Int32 → Mem → Option Mem)} {t : Nat} (hdx : 10 ≤ dx) (hex : ∀ {t : Nat} {p0 : Int32} {M : Mem} {res : Mem}, kd t = 13 → ex t p0 M = some res → MC g yX12_readExpression cX12_readExpression 3 none dx n [.ref (g_N g + t), .int p0] (ent g Xo kd M) none (ent g Xo kd res)) (ht : kd t = 13) (hR : x_R X = rm (dx + 6)) {x1 : Int32} {y0 : Int32} {M : Mem} {res : Mem} (h : J_X12_readExpression_j38 ex t x1 y0 M = some res) (B : Bx X g none (dx + 6) n none (ent g Xo kd res)) : EW X g (x_s X).heap.size n 3 (ent g Xo kd M) 0 0 38 [(0, .ref (g_N g + t)), (1, .int x1)] [.int y0] := by
  rw [J_X12_readExpression_j38] at h
  refine e_istore_n C [(2, .int y0), (0, .ref (g_N g + t)), (1, .int x1)] (dk dX12_readExpression 19 rfl) rfl (by decide) rfl ?_
  refine e_iload_n C 0 (dk dX12_readExpression 20 rfl) rfl rfl ?_
  refine e_if_ne C 51 (dk dX12_readExpression 21 rfl) (by decide) (fun c3 => ?_) (fun c3 => ?_)
  · rw [if_neg c3] at h
    refine e_iload_n C 2 (dk dX12_readExpression 26 rfl) rfl rfl ?_
    refine e_bipush C 6 (dk dX12_readExpression 27 rfl) (by decide) ?_
    refine e_icmp_ne C 62 (dk dX12_readExpression 28 rfl) (by decide) (fun c4 => ?_) (fun c4 => ?_)
    · rw [if_neg c4] at h
      refine e_lv [1, 2] rfl ?_
      exact j_X12_readExpression_j62 C K hdx hex ht hR h B
    · rw [if_pos c4] at h
      refine e_aload_n C 1 (dk dX12_readExpression 29 rfl) rfl rfl ?_
      refine e_iconst C 2 (dk dX12_readExpression 30 rfl) (by decide) ?_
      refine e_callV (ci := 12) C cal_X12_wrong im_X12_wrong se_X12_wrong ml_X12_226 rfl hR (by omega) (dk dX12_readExpression 31 rfl) (K.1 _ (by rw [ht]; decide)) (ent_o12 ht) (c_X12_wrong K ht (rfl : F_X12_wrong t 2 M = _)) ⟨Nat.zero_le _, Nat.zero_le _⟩ (Nat.le_of_ble_eq_true rfl) rfl ?_
      refine e_lv [1, 2] rfl ?_
      exact j_X12_readExpression_j62 C K hdx hex ht hR h B
  · rw [if_pos c3] at h
    refine e_aload_n C 1 (dk dX12_readExpression 22 rfl) rfl rfl ?_
    refine e_iconst C 1 (dk dX12_readExpression 23 rfl) (by decide) ?_
    refine e_callV (ci := 12) C cal_X12_wrong im_X12_wrong se_X12_wrong ml_X12_226 rfl hR (by omega) (dk dX12_readExpression 24 rfl) (K.1 _ (by rw [ht]; decide)) (ent_o12 ht) (c_X12_wrong K ht (rfl : F_X12_wrong t 1 M = _)) ⟨Nat.zero_le _, Nat.zero_le _⟩ (Nat.le_of_ble_eq_true rfl) rfl ?_
    refine e_goto C 62 (dk dX12_readExpression 25 rfl) (by decide) ?_
    refine e_lv [1, 2] rfl ?_
    exact j_X12_readExpression_j62 C K hdx hex ht hR h B
set_option maxRecDepth 20000 in
theorem j_X12_readExpression_j33 {X : FX} {g : WC} {Xo : Nat → va_E} {n : Nat} {kd : Nat → Nat} {dx : Nat} (C : Cx X g RX12 cX12_readExpression 3) (K : KD n kd) {ex : (Nat → Int32 → Mem → Option Mem)} {t : Nat} (hdx : 10 ≤ dx) (hex : ∀ {t : Nat} {p0 : Int32} {M : Mem} {res : Mem}, kd t = 13 → ex t p0 M = some res → MC g yX12_readExpression cX12_readExpression 3 none dx n [.ref (g_N g + t), .int p0] (ent g Xo kd M) none (ent g Xo kd res)) (ht : kd t = 13) (hR : x_R X = rm (dx + 6)) {x1 : Int32} {M : Mem} {res : Mem} (h : J_X12_readExpression_j33 ex t x1 M = some res) (B : Bx X g none (dx + 6) n none (ent g Xo kd res)) : EW X g (x_s X).heap.size n 3 (ent g Xo kd M) 0 0 33 [(0, .ref (g_N g + t)), (1, .int x1)] [] := by
  rw [J_X12_readExpression_j33] at h
  refine e_iconst C 1 (dk dX12_readExpression 16 rfl) (by decide) ?_
  refine e_goto C 38 (dk dX12_readExpression 17 rfl) (by decide) ?_
  exact j_X12_readExpression_j38 C K hdx hex ht hR h B
set_option maxRecDepth 20000 in
theorem c_X12_readExpressionB {g : WC} {Xo : Nat → va_E} {n : Nat} {kd : Nat → Nat} {dx : Nat} (K : KD n kd) {ex : (Nat → Int32 → Mem → Option Mem)} {t : Nat} {p0 : Int32} (hdx : 10 ≤ dx) (hex : ∀ {t : Nat} {p0 : Int32} {M : Mem} {res : Mem}, kd t = 13 → ex t p0 M = some res → MC g yX12_readExpression cX12_readExpression 3 none dx n [.ref (g_N g + t), .int p0] (ent g Xo kd M) none (ent g Xo kd res)) (ht : kd t = 13) {M : Mem} {res : Mem} (h : F_X12_readExpressionB ex t p0 M = some res) : MC g yX12_readExpression cX12_readExpression 3 none (dx + 6) n [.ref (g_N g + t), .int p0] (ent g Xo kd M) none (ent g Xo kd res) := by
  refine MC_of pn_X12 (Nat.le_of_ble_eq_true rfl) (fun X C B => ?_)
  have hR := B.1
  rw [F_X12_readExpressionB] at h
  refine e_aload_n C 0 (dk dX12_readExpression 0 rfl) rfl rfl ?_
  refine gf_X12_bad C K ht fl_X12_205 (dk dX12_readExpression 1 rfl) ?_
  refine e_if_eq C 8 (dk dX12_readExpression 2 rfl) (by decide) (fun c1 => ?_) (fun c1 => ?_)
  · rw [if_pos c1] at h
    refine e_aload_n C 0 (dk dX12_readExpression 4 rfl) rfl rfl ?_
    refine gf_X12_token C K ht fl_X12_179 (dk dX12_readExpression 5 rfl) ?_
    refine e_iconst C 2 (dk dX12_readExpression 6 rfl) (by decide) ?_
    refine e_icmp_eq C 33 (dk dX12_readExpression 7 rfl) (by decide) (fun c2 => ?_) (fun c2 => ?_)
    · rw [if_pos c2] at h
      exact j_X12_readExpression_j33 C K hdx hex ht hR h B
    · rw [if_neg c2] at h
      refine e_aload_n C 0 (dk dX12_readExpression 8 rfl) rfl rfl ?_
      refine gf_X12_token C K ht fl_X12_179 (dk dX12_readExpression 9 rfl) ?_
      refine e_iconst C 1 (dk dX12_readExpression 10 rfl) (by decide) ?_
      refine e_icmp_eq C 33 (dk dX12_readExpression 11 rfl) (by decide) (fun c13 => ?_) (fun c13 => ?_)
      · rw [if_pos c13] at h
        exact j_X12_readExpression_j33 C K hdx hex ht hR h B
      · rw [if_neg c13] at h
        refine e_aload_n C 0 (dk dX12_readExpression 12 rfl) rfl rfl ?_
        refine e_bipush C 40 (dk dX12_readExpression 13 rfl) (by decide) ?_
        obtain ⟨q14, hq14, h⟩ := ob h
        refine e_callV (ci := 12) C cal_X12_isMarked im_X12_isMarked se_X12_isMarked ml_X12_223 rfl hR (by omega) (dk dX12_readExpression 14 rfl) (K.1 _ (by rw [ht]; decide)) (ent_o12 ht) (c_X12_isMarked K ht hq14) ⟨Nat.zero_le _, Nat.zero_le _⟩ (Nat.le_of_ble_eq_true rfl) rfl ?_
        refine e_if_eq C 37 (dk dX12_readExpression 15 rfl) (by decide) (fun c15 => ?_) (fun c15 => ?_)
        · rw [if_pos c15] at h
          refine e_iconst C 0 (dk dX12_readExpression 18 rfl) (by decide) ?_
          exact j_X12_readExpression_j38 C K hdx hex ht hR h B
        · rw [if_neg c15] at h
          exact j_X12_readExpression_j33 C K hdx hex ht hR h B
  · rw [if_neg c1] at h
    obtain rfl := Option.some.inj h
    exact e_vret C B (dk dX12_readExpression 3 rfl)
set_option maxRecDepth 20000 in
theorem c_X12_readExpressionD {g : WC} {Xo : Nat → va_E} {n : Nat} {kd : Nat → Nat} (K : KD n kd) : ∀ (D9 : Nat) {t : Nat} {p0 : Int32} {M : Mem} {res : Mem}, kd t = 13 → F_X12_readExpression D9 t p0 M = some res → MC g yX12_readExpression cX12_readExpression 3 none (10 + 6 * D9) n [.ref (g_N g + t), .int p0] (ent g Xo kd M) none (ent g Xo kd res) := by
  intro D9
  induction D9 with
  | zero =>
    intro t p0 M res ht h
    cases h
  | succ D9 ih =>
    intro t p0 M res ht h
    have e : 10 + 6 * (D9 + 1) = 10 + 6 * D9 + 6 := by omega
    rw [e]
    exact c_X12_readExpressionB K (by omega) (fun h1 h2 => ih h1 h2) ht h
set_option maxRecDepth 20000 in
theorem c_X12_readExpression {g : WC} {Xo : Nat → va_E} {n : Nat} {kd : Nat → Nat} (K : KD n kd) {t : Nat} {p0 : Int32} {M : Mem} {res : Mem} (ht : kd t = 13) (h : F_X12_readExpression 10 t p0 M = some res) : MC g yX12_readExpression cX12_readExpression 3 none 70 n [.ref (g_N g + t), .int p0] (ent g Xo kd M) none (ent g Xo kd res) := c_X12_readExpressionD K 10 ht h
set_option maxRecDepth 20000 in
theorem c_X5_line {g : WC} {Xo : Nat → va_E} {n : Nat} {kd : Nat → Nat} (K : KD n kd) {t : Nat} (ht : kd t = 6) {M : Mem} {res : Bool × Mem} (h : F_X5_line t M = some res) : MC g yX5_line cX5_line 1 (some .boolean) 67 n [.ref (g_N g + t)] (ent g Xo kd M) (some (.int (bi res.1))) (ent g Xo kd res.2) := by
  refine MC_of pn_X5 (Nat.le_of_ble_eq_true rfl) (fun X C B => ?_)
  have hR := B.1
  rw [F_X5_line] at h
  refine e_aload_n C 0 (dk dX5_line_0 0 rfl) rfl rfl ?_
  refine e_ldcS C sr_X5_111 (dk dX5_line_0 1 rfl) ?_
  obtain ⟨q1, hq1, h⟩ := ob h
  refine e_callV (ci := 5) C cal_X5_isWord im_X5_isWord se_X5_isWord ml_X5_112 rfl hR (by decide) (dk dX5_line_0 2 rfl) (K.1 _ (by rw [ht]; decide)) (ent_o5 ht) (c_X5_isWord K ht (by decide) hq1) ⟨Nat.zero_le _, Nat.zero_le _⟩ (Nat.le_of_ble_eq_true rfl) rfl ?_
  refine e_if_eq C 14 (dk dX5_line_0 3 rfl) (by decide) (fun c2 => ?_) (fun c2 => ?_)
  · rw [if_pos c2] at h
    refine e_aload_n C 0 (dk dX5_line_0 7 rfl) rfl rfl ?_
    refine e_ldcS C sr_X5_119 (dk dX5_line_0 8 rfl) ?_
    obtain ⟨q3, hq3, h⟩ := ob h
    refine e_callV (ci := 5) C cal_X5_isWord im_X5_isWord se_X5_isWord ml_X5_112 rfl hR (by decide) (dk dX5_line_0 9 rfl) (K.1 _ (by rw [ht]; decide)) (ent_o5 ht) (c_X5_isWord K ht (by decide) hq3) ⟨Nat.zero_le _, Nat.zero_le _⟩ (Nat.le_of_ble_eq_true rfl) rfl ?_
    refine e_if_eq C 28 (dk dX5_line_0 10 rfl) (by decide) (fun c4 => ?_) (fun c4 => ?_)
    · rw [if_pos c4] at h
      refine e_aload_n C 0 (dk dX5_line_0 14 rfl) rfl rfl ?_
      refine e_ldcS C sr_X5_124 (dk dX5_line_0 15 rfl) ?_
      obtain ⟨q5, hq5, h⟩ := ob h
      refine e_callV (ci := 5) C cal_X5_isWord im_X5_isWord se_X5_isWord ml_X5_112 rfl hR (by decide) (dk dX5_line_0 16 rfl) (K.1 _ (by rw [ht]; decide)) (ent_o5 ht) (c_X5_isWord K ht (by decide) hq5) ⟨Nat.zero_le _, Nat.zero_le _⟩ (Nat.le_of_ble_eq_true rfl) rfl ?_
      refine e_if_eq C 42 (dk dX5_line_0 17 rfl) (by decide) (fun c6 => ?_) (fun c6 => ?_)
      · rw [if_pos c6] at h
        refine e_aload_n C 0 (dk dX5_line_0 21 rfl) rfl rfl ?_
        refine e_ldcS C sr_X5_129 (dk dX5_line_0 22 rfl) ?_
        obtain ⟨q7, hq7, h⟩ := ob h
        refine e_callV (ci := 5) C cal_X5_isWord im_X5_isWord se_X5_isWord ml_X5_112 rfl hR (by decide) (dk dX5_line_0 23 rfl) (K.1 _ (by rw [ht]; decide)) (ent_o5 ht) (c_X5_isWord K ht (by decide) hq7) ⟨Nat.zero_le _, Nat.zero_le _⟩ (Nat.le_of_ble_eq_true rfl) rfl ?_
        refine e_if_eq C 57 (dk dX5_line_0 24 rfl) (by decide) (fun c8 => ?_) (fun c8 => ?_)
        · rw [if_pos c8] at h
          refine e_aload_n C 0 (dk dX5_line_0 29 rfl) rfl rfl ?_
          refine e_ldcS C sr_X5_135 (dk dX5_line_0 30 rfl) ?_
          obtain ⟨q9, hq9, h⟩ := ob h
          refine e_callV (ci := 5) C cal_X5_isWord im_X5_isWord se_X5_isWord ml_X5_112 rfl hR (by decide) (dk dX5_line_0 31 rfl) (K.1 _ (by rw [ht]; decide)) (ent_o5 ht) (c_X5_isWord K ht (by decide) hq9) ⟨Nat.zero_le _, Nat.zero_le _⟩ (Nat.le_of_ble_eq_true rfl) rfl ?_
          refine e_if_eq C 72 (dk dX5_line_0 32 rfl) (by decide) (fun c10 => ?_) (fun c10 => ?_)
          · rw [if_pos c10] at h
            refine e_aload_n C 0 (dk dX5_line_0 37 rfl) rfl rfl ?_
            refine e_ldcS C sr_X5_137 (dk dX5_line_0 38 rfl) ?_
            obtain ⟨q11, hq11, h⟩ := ob h
            refine e_callV (ci := 5) C cal_X5_isWord im_X5_isWord se_X5_isWord ml_X5_112 rfl hR (by decide) (dk dX5_line_0 39 rfl) (K.1 _ (by rw [ht]; decide)) (ent_o5 ht) (c_X5_isWord K ht (by decide) hq11) ⟨Nat.zero_le _, Nat.zero_le _⟩ (Nat.le_of_ble_eq_true rfl) rfl ?_
            refine e_if_eq C 86 (dk dX5_line_0 40 rfl) (by decide) (fun c12 => ?_) (fun c12 => ?_)
            · rw [if_pos c12] at h
              refine e_aload_n C 0 (dk dX5_line_0 44 rfl) rfl rfl ?_
              refine e_ldcS C sr_X5_142 (dk dX5_line_0 45 rfl) ?_
              obtain ⟨q13, hq13, h⟩ := ob h
              refine e_callV (ci := 5) C cal_X5_isWord im_X5_isWord se_X5_isWord ml_X5_112 rfl hR (by decide) (dk dX5_line_0 46 rfl) (K.1 _ (by rw [ht]; decide)) (ent_o5 ht) (c_X5_isWord K ht (by decide) hq13) ⟨Nat.zero_le _, Nat.zero_le _⟩ (Nat.le_of_ble_eq_true rfl) rfl ?_
              refine e_if_eq C 100 (dk dX5_line_0 47 rfl) (by decide) (fun c14 => ?_) (fun c14 => ?_)
              · rw [if_pos c14] at h
                refine e_aload_n C 0 (dk dX5_line_0 51 rfl) rfl rfl ?_
                refine e_ldcS C sr_X5_147 (dk dX5_line_0 52 rfl) ?_
                obtain ⟨q15, hq15, h⟩ := ob h
                refine e_callV (ci := 5) C cal_X5_isWord im_X5_isWord se_X5_isWord ml_X5_112 rfl hR (by decide) (dk dX5_line_0 53 rfl) (K.1 _ (by rw [ht]; decide)) (ent_o5 ht) (c_X5_isWord K ht (by decide) hq15) ⟨Nat.zero_le _, Nat.zero_le _⟩ (Nat.le_of_ble_eq_true rfl) rfl ?_
                refine e_if_eq C 141 (dk dX5_line_0 54 rfl) (by decide) (fun c16 => ?_) (fun c16 => ?_)
                · rw [if_pos c16] at h
                  refine e_aload_n C 0 (dk dX5_line_1 11 rfl) rfl rfl ?_
                  refine e_iconst C 1 (dk dX5_line_1 12 rfl) (by decide) ?_
                  refine e_callV (ci := 5) C cal_X5_refuse im_X5_refuse se_X5_refuse ml_X5_98 rfl hR (by decide) (dk dX5_line_1 13 rfl) (K.1 _ (by rw [ht]; decide)) (ent_o5 ht) (c_X5_refuse K ht (rfl : F_X5_refuse t 1 M = _)) ⟨Nat.zero_le _, Nat.zero_le _⟩ (Nat.le_of_ble_eq_true rfl) rfl ?_
                  obtain rfl := Option.some.inj h
                  exact e_iret (v := bi ((F_X5_refuse t 1 M).1)) C B (nar_bi _) (dk dX5_line_1 14 rfl)
                · rw [if_neg c16] at h
                  refine e_aload_n C 0 (dk dX5_line_0 55 rfl) rfl rfl ?_
                  refine e_bipush C 16 (dk dX5_line_0 56 rfl) (by decide) ?_
                  obtain ⟨q17, hq17, h⟩ := ob h
                  refine e_callV (ci := 5) C cal_X5_once im_X5_once se_X5_once ml_X5_149 rfl hR (by decide) (dk dX5_line_0 57 rfl) (K.1 _ (by rw [ht]; decide)) (ent_o5 ht) (c_X5_once K ht hq17) ⟨Nat.zero_le _, Nat.zero_le _⟩ (Nat.le_of_ble_eq_true rfl) rfl ?_
                  refine e_if_eq C 139 (dk dX5_line_0 58 rfl) (by decide) (fun c18 => ?_) (fun c18 => ?_)
                  · rw [if_pos c18] at h
                    refine e_iconst C 0 (dk dX5_line_1 9 rfl) (by decide) ?_
                    obtain rfl := Option.some.inj h
                    exact e_iret (v := bi false) C B (nar_bi _) (dk dX5_line_1 10 rfl)
                  · rw [if_neg c18] at h
                    refine e_aload_n C 0 (dk dX5_line_0 59 rfl) rfl rfl ?_
                    refine e_iconst C 1 (dk dX5_line_1 0 rfl) (by decide) ?_
                    obtain ⟨q19, hq19, h⟩ := ob h
                    refine e_callV (ci := 5) C cal_X5_expr im_X5_expr se_X5_expr ml_X5_152 rfl hR (by decide) (dk dX5_line_1 1 rfl) (K.1 _ (by rw [ht]; decide)) (ent_o5 ht) (c_X5_expr K ht hq19) ⟨Nat.zero_le _, Nat.zero_le _⟩ (Nat.le_of_ble_eq_true rfl) rfl ?_
                    refine e_if_eq C 139 (dk dX5_line_1 2 rfl) (by decide) (fun c20 => ?_) (fun c20 => ?_)
                    · rw [if_pos c20] at h
                      refine e_iconst C 0 (dk dX5_line_1 9 rfl) (by decide) ?_
                      obtain rfl := Option.some.inj h
                      exact e_iret (v := bi false) C B (nar_bi _) (dk dX5_line_1 10 rfl)
                    · rw [if_neg c20] at h
                      refine e_aload_n C 0 (dk dX5_line_1 3 rfl) rfl rfl ?_
                      refine e_bipush C 59 (dk dX5_line_1 4 rfl) (by decide) ?_
                      obtain ⟨q21, hq21, h⟩ := ob h
                      refine e_callV (ci := 5) C cal_X5_sign im_X5_sign se_X5_sign ml_X5_155 rfl hR (by decide) (dk dX5_line_1 5 rfl) (K.1 _ (by rw [ht]; decide)) (ent_o5 ht) (c_X5_sign K ht hq21) ⟨Nat.zero_le _, Nat.zero_le _⟩ (Nat.le_of_ble_eq_true rfl) rfl ?_
                      refine e_if_eq C 139 (dk dX5_line_1 6 rfl) (by decide) (fun c22 => ?_) (fun c22 => ?_)
                      · rw [if_pos c22] at h
                        refine e_iconst C 0 (dk dX5_line_1 9 rfl) (by decide) ?_
                        obtain rfl := Option.some.inj h
                        exact e_iret (v := bi false) C B (nar_bi _) (dk dX5_line_1 10 rfl)
                      · rw [if_neg c22] at h
                        refine e_iconst C 1 (dk dX5_line_1 7 rfl) (by decide) ?_
                        refine e_goto C 140 (dk dX5_line_1 8 rfl) (by decide) ?_
                        obtain rfl := Option.some.inj h
                        exact e_iret (v := bi true) C B (nar_bi _) (dk dX5_line_1 10 rfl)
              · rw [if_neg c14] at h
                refine e_aload_n C 0 (dk dX5_line_0 48 rfl) rfl rfl ?_
                obtain ⟨q23, hq23, h⟩ := ob h
                refine e_callV (ci := 5) C cal_X5_reserveLine im_X5_reserveLine se_X5_reserveLine ml_X5_144 rfl hR (by decide) (dk dX5_line_0 49 rfl) (K.1 _ (by rw [ht]; decide)) (ent_o5 ht) (c_X5_reserveLine K ht hq23) ⟨Nat.zero_le _, Nat.zero_le _⟩ (Nat.le_of_ble_eq_true rfl) rfl ?_
                obtain rfl := Option.some.inj h
                exact e_iret (v := bi q23.1) C B (nar_bi _) (dk dX5_line_0 50 rfl)
            · rw [if_neg c12] at h
              refine e_aload_n C 0 (dk dX5_line_0 41 rfl) rfl rfl ?_
              obtain ⟨q24, hq24, h⟩ := ob h
              refine e_callV (ci := 5) C cal_X5_fogLine im_X5_fogLine se_X5_fogLine ml_X5_139 rfl hR (by decide) (dk dX5_line_0 42 rfl) (K.1 _ (by rw [ht]; decide)) (ent_o5 ht) (c_X5_fogLine K ht hq24) ⟨Nat.zero_le _, Nat.zero_le _⟩ (Nat.le_of_ble_eq_true rfl) rfl ?_
              obtain rfl := Option.some.inj h
              exact e_iret (v := bi q24.1) C B (nar_bi _) (dk dX5_line_0 43 rfl)
          · rw [if_neg c10] at h
            refine e_aload_n C 0 (dk dX5_line_0 33 rfl) rfl rfl ?_
            refine e_iconst C 1 (dk dX5_line_0 34 rfl) (by decide) ?_
            obtain ⟨q25, hq25, h⟩ := ob h
            refine e_callV (ci := 5) C cal_X5_personLine im_X5_personLine se_X5_personLine ml_X5_131 rfl hR (by decide) (dk dX5_line_0 35 rfl) (K.1 _ (by rw [ht]; decide)) (ent_o5 ht) (c_X5_personLine K ht hq25) ⟨Nat.zero_le _, Nat.zero_le _⟩ (Nat.le_of_ble_eq_true rfl) rfl ?_
            obtain rfl := Option.some.inj h
            exact e_iret (v := bi q25.1) C B (nar_bi _) (dk dX5_line_0 36 rfl)
        · rw [if_neg c8] at h
          refine e_aload_n C 0 (dk dX5_line_0 25 rfl) rfl rfl ?_
          refine e_iconst C 0 (dk dX5_line_0 26 rfl) (by decide) ?_
          obtain ⟨q26, hq26, h⟩ := ob h
          refine e_callV (ci := 5) C cal_X5_personLine im_X5_personLine se_X5_personLine ml_X5_131 rfl hR (by decide) (dk dX5_line_0 27 rfl) (K.1 _ (by rw [ht]; decide)) (ent_o5 ht) (c_X5_personLine K ht hq26) ⟨Nat.zero_le _, Nat.zero_le _⟩ (Nat.le_of_ble_eq_true rfl) rfl ?_
          obtain rfl := Option.some.inj h
          exact e_iret (v := bi q26.1) C B (nar_bi _) (dk dX5_line_0 28 rfl)
      · rw [if_neg c6] at h
        refine e_aload_n C 0 (dk dX5_line_0 18 rfl) rfl rfl ?_
        obtain ⟨q27, hq27, h⟩ := ob h
        refine e_callV (ci := 5) C cal_X5_roundLine im_X5_roundLine se_X5_roundLine ml_X5_126 rfl hR (by decide) (dk dX5_line_0 19 rfl) (K.1 _ (by rw [ht]; decide)) (ent_o5 ht) (c_X5_roundLine K ht hq27) ⟨Nat.zero_le _, Nat.zero_le _⟩ (Nat.le_of_ble_eq_true rfl) rfl ?_
        obtain rfl := Option.some.inj h
        exact e_iret (v := bi q27.1) C B (nar_bi _) (dk dX5_line_0 20 rfl)
    · rw [if_neg c4] at h
      refine e_aload_n C 0 (dk dX5_line_0 11 rfl) rfl rfl ?_
      obtain ⟨q28, hq28, h⟩ := ob h
      refine e_callV (ci := 5) C cal_X5_pathLine im_X5_pathLine se_X5_pathLine ml_X5_121 rfl hR (by decide) (dk dX5_line_0 12 rfl) (K.1 _ (by rw [ht]; decide)) (ent_o5 ht) (c_X5_pathLine K ht hq28) ⟨Nat.zero_le _, Nat.zero_le _⟩ (Nat.le_of_ble_eq_true rfl) rfl ?_
      obtain rfl := Option.some.inj h
      exact e_iret (v := bi q28.1) C B (nar_bi _) (dk dX5_line_0 13 rfl)
  · rw [if_neg c2] at h
    refine e_aload_n C 0 (dk dX5_line_0 4 rfl) rfl rfl ?_
    obtain ⟨q29, hq29, h⟩ := ob h
    refine e_callV (ci := 5) C cal_X5_streetsLine im_X5_streetsLine se_X5_streetsLine ml_X5_116 rfl hR (by decide) (dk dX5_line_0 5 rfl) (K.1 _ (by rw [ht]; decide)) (ent_o5 ht) (c_X5_streetsLine K ht hq29) ⟨Nat.zero_le _, Nat.zero_le _⟩ (Nat.le_of_ble_eq_true rfl) rfl ?_
    obtain rfl := Option.some.inj h
    exact e_iret (v := bi q29.1) C B (nar_bi _) (dk dX5_line_0 6 rfl)
set_option maxRecDepth 20000 in
theorem j_X12_sayOnce_j76 {X : FX} {g : WC} {Xo : Nat → va_E} {n : Nat} {kd : Nat → Nat} (C : Cx X g RX12 cX12_sayOnce 2) (K : KD n kd) {t : Nat} (ht : kd t = 13) (hR : x_R X = rm 71) {x1 : Int32} {M : Mem} {res : Mem} (h : J_X12_sayOnce_j76 t x1 M = some res) (B : Bx X g none 71 n none (ent g Xo kd res)) : EW X g (x_s X).heap.size n 2 (ent g Xo kd M) 0 0 76 [(0, .ref (g_N g + t)), (1, .int x1)] [] := by
  rw [J_X12_sayOnce_j76] at h
  refine e_iload_n C 1 (dk dX12_sayOnce 42 rfl) rfl rfl ?_
  refine e_bipush C 16 (dk dX12_sayOnce 43 rfl) (by decide) ?_
  refine e_icmp_ne C 87 (dk dX12_sayOnce 44 rfl) (by decide) (fun c6 => ?_) (fun c6 => ?_)
  · rw [if_neg c6] at h
    obtain rfl := Option.some.inj h
    exact e_vret C B (dk dX12_sayOnce 48 rfl)
  · rw [if_pos c6] at h
    refine e_aload_n C 0 (dk dX12_sayOnce 45 rfl) rfl rfl ?_
    refine e_iconst C 0 (dk dX12_sayOnce 46 rfl) (by decide) ?_
    obtain ⟨q7, hq7, h⟩ := ob h
    refine e_callV (ci := 12) C cal_X12_readExpression im_X12_readExpression se_X12_readExpression ml_X12_256 rfl hR (by decide) (dk dX12_sayOnce 47 rfl) (K.1 _ (by rw [ht]; decide)) (ent_o12 ht) (c_X12_readExpression K ht hq7) ⟨Nat.zero_le _, Nat.zero_le _⟩ (Nat.le_of_ble_eq_true rfl) rfl ?_
    obtain rfl := Option.some.inj h
    exact e_vret C B (dk dX12_sayOnce 48 rfl)
set_option maxRecDepth 20000 in
theorem j_X12_sayOnce_j56 {X : FX} {g : WC} {Xo : Nat → va_E} {n : Nat} {kd : Nat → Nat} (C : Cx X g RX12 cX12_sayOnce 2) (K : KD n kd) {t : Nat} (ht : kd t = 13) (hR : x_R X = rm 71) {x1 : Int32} {M : Mem} {res : Mem} (h : J_X12_sayOnce_j56 t x1 M = some res) (B : Bx X g none 71 n none (ent g Xo kd res)) : EW X g (x_s X).heap.size n 2 (ent g Xo kd M) 0 0 56 [(0, .ref (g_N g + t)), (1, .int x1)] [] := by
  rw [J_X12_sayOnce_j56] at h
  refine e_iload_n C 1 (dk dX12_sayOnce 31 rfl) rfl rfl ?_
  refine e_bipush C 8 (dk dX12_sayOnce 32 rfl) (by decide) ?_
  refine e_icmp_ne C 76 (dk dX12_sayOnce 33 rfl) (by decide) (fun c5 => ?_) (fun c5 => ?_)
  · rw [if_neg c5] at h
    exact j_X12_sayOnce_j76 C K ht hR h B
  · rw [if_pos c5] at h
    refine e_aload_n C 0 (dk dX12_sayOnce 34 rfl) rfl rfl ?_
    refine gf_X12_told C K ht fl_X12_38 (dk dX12_sayOnce 35 rfl) ?_
    refine e_bipush C 12 (dk dX12_sayOnce 36 rfl) (by decide) ?_
    refine e_aload_n C 0 (dk dX12_sayOnce 37 rfl) rfl rfl ?_
    refine e_iconst C 0 (dk dX12_sayOnce 38 rfl) (by decide) ?_
    refine e_bipush C 99 (dk dX12_sayOnce 39 rfl) (by decide) ?_
    obtain ⟨q8, hq8, h⟩ := ob h
    refine e_callV (ci := 12) C cal_X12_readNumber im_X12_readNumber se_X12_readNumber ml_X12_243 rfl hR (by decide) (dk dX12_sayOnce 40 rfl) (K.1 _ (by rw [ht]; decide)) (ent_o12 ht) (c_X12_readNumber K ht hq8) ⟨Nat.zero_le _, Nat.zero_le _⟩ (Nat.le_of_ble_eq_true rfl) rfl ?_
    obtain ⟨M9, hM9, h⟩ := ob h
    refine m_ast C K (kd_X12_told K ht) (dk dX12_sayOnce 41 rfl) hM9 ?_
    exact j_X12_sayOnce_j76 C K ht hR h B
set_option maxRecDepth 20000 in
theorem j_X12_sayOnce_j47 {X : FX} {g : WC} {Xo : Nat → va_E} {n : Nat} {kd : Nat → Nat} (C : Cx X g RX12 cX12_sayOnce 2) (K : KD n kd) {t : Nat} (ht : kd t = 13) (hR : x_R X = rm 71) {x1 : Int32} {M : Mem} {res : Mem} (h : J_X12_sayOnce_j47 t x1 M = some res) (B : Bx X g none 71 n none (ent g Xo kd res)) : EW X g (x_s X).heap.size n 2 (ent g Xo kd M) 0 0 47 [(0, .ref (g_N g + t)), (1, .int x1)] [] := by
  rw [J_X12_sayOnce_j47] at h
  refine e_iload_n C 1 (dk dX12_sayOnce 26 rfl) rfl rfl ?_
  refine e_iconst C 4 (dk dX12_sayOnce 27 rfl) (by decide) ?_
  refine e_icmp_ne C 56 (dk dX12_sayOnce 28 rfl) (by decide) (fun c4 => ?_) (fun c4 => ?_)
  · rw [if_neg c4] at h
    exact j_X12_sayOnce_j56 C K ht hR h B
  · rw [if_pos c4] at h
    refine e_aload_n C 0 (dk dX12_sayOnce 29 rfl) rfl rfl ?_
    obtain ⟨q10, hq10, h⟩ := ob h
    refine e_callV (ci := 12) C cal_X12_sayFogs im_X12_sayFogs se_X12_sayFogs ml_X12_294 rfl hR (by decide) (dk dX12_sayOnce 30 rfl) (K.1 _ (by rw [ht]; decide)) (ent_o12 ht) (c_X12_sayFogs K ht hq10) ⟨Nat.zero_le _, Nat.zero_le _⟩ (Nat.le_of_ble_eq_true rfl) rfl ?_
    exact j_X12_sayOnce_j56 C K ht hR h B
set_option maxRecDepth 20000 in
theorem j_X12_sayOnce_j23 {X : FX} {g : WC} {Xo : Nat → va_E} {n : Nat} {kd : Nat → Nat} (C : Cx X g RX12 cX12_sayOnce 2) (K : KD n kd) {t : Nat} (ht : kd t = 13) (hR : x_R X = rm 71) {x1 : Int32} {M : Mem} {res : Mem} (h : J_X12_sayOnce_j23 t x1 M = some res) (B : Bx X g none 71 n none (ent g Xo kd res)) : EW X g (x_s X).heap.size n 2 (ent g Xo kd M) 0 0 23 [(0, .ref (g_N g + t)), (1, .int x1)] [] := by
  rw [J_X12_sayOnce_j23] at h
  refine e_iload_n C 1 (dk dX12_sayOnce 13 rfl) rfl rfl ?_
  refine e_iconst C 2 (dk dX12_sayOnce 14 rfl) (by decide) ?_
  refine e_icmp_ne C 47 (dk dX12_sayOnce 15 rfl) (by decide) (fun c3 => ?_) (fun c3 => ?_)
  · rw [if_neg c3] at h
    exact j_X12_sayOnce_j47 C K ht hR h B
  · rw [if_pos c3] at h
    refine e_aload_n C 0 (dk dX12_sayOnce 16 rfl) rfl rfl ?_
    refine gf_X12_told C K ht fl_X12_38 (dk dX12_sayOnce 17 rfl) ?_
    refine e_bipush C 9 (dk dX12_sayOnce 18 rfl) (by decide) ?_
    refine e_aload_n C 0 (dk dX12_sayOnce 19 rfl) rfl rfl ?_
    refine e_aload_n C 0 (dk dX12_sayOnce 20 rfl) rfl rfl ?_
    refine gf_X12_roundTold C K ht fl_X12_45 (dk dX12_sayOnce 21 rfl) ?_
    refine e_bipush C 8 (dk dX12_sayOnce 22 rfl) (by decide) ?_
    refine e_bipush C 8 (dk dX12_sayOnce 23 rfl) (by decide) ?_
    obtain ⟨q11, hq11, h⟩ := ob h
    refine e_callV (ci := 12) C cal_X12_readStreets im_X12_readStreets se_X12_readStreets ml_X12_290 rfl hR (by decide) (dk dX12_sayOnce 24 rfl) (K.1 _ (by rw [ht]; decide)) (ent_o12 ht) (c_X12_readStreets K ht (kd_X12_roundTold K ht) hq11) ⟨Nat.zero_le _, Nat.zero_le _⟩ (Nat.le_of_ble_eq_true rfl) rfl ?_
    obtain ⟨M12, hM12, h⟩ := ob h
    refine m_ast C K (kd_X12_told K ht) (dk dX12_sayOnce 25 rfl) hM12 ?_
    exact j_X12_sayOnce_j47 C K ht hR h B
set_option maxRecDepth 20000 in
theorem c_X12_sayOnce {g : WC} {Xo : Nat → va_E} {n : Nat} {kd : Nat → Nat} (K : KD n kd) {t : Nat} {p0 : Int32} (ht : kd t = 13) {M : Mem} {res : Mem} (h : F_X12_sayOnce t p0 M = some res) : MC g yX12_sayOnce cX12_sayOnce 2 none 71 n [.ref (g_N g + t), .int p0] (ent g Xo kd M) none (ent g Xo kd res) := by
  refine MC_of pn_X12 (Nat.le_of_ble_eq_true rfl) (fun X C B => ?_)
  have hR := B.1
  rw [F_X12_sayOnce] at h
  refine e_aload_n C 0 (dk dX12_sayOnce 0 rfl) rfl rfl ?_
  obtain ⟨q1, hq1, h⟩ := ob h
  refine e_callV (ci := 12) C cal_X12_stepOn im_X12_stepOn se_X12_stepOn ml_X12_230 rfl hR (by decide) (dk dX12_sayOnce 1 rfl) (K.1 _ (by rw [ht]; decide)) (ent_o12 ht) (c_X12_stepOn K ht hq1) ⟨Nat.zero_le _, Nat.zero_le _⟩ (Nat.le_of_ble_eq_true rfl) rfl ?_
  refine e_iload_n C 1 (dk dX12_sayOnce 2 rfl) rfl rfl ?_
  refine e_iconst C 1 (dk dX12_sayOnce 3 rfl) (by decide) ?_
  refine e_icmp_ne C 23 (dk dX12_sayOnce 4 rfl) (by decide) (fun c2 => ?_) (fun c2 => ?_)
  · rw [if_neg c2] at h
    exact j_X12_sayOnce_j23 C K ht hR h B
  · rw [if_pos c2] at h
    refine e_aload_n C 0 (dk dX12_sayOnce 5 rfl) rfl rfl ?_
    refine gf_X12_told C K ht fl_X12_38 (dk dX12_sayOnce 6 rfl) ?_
    refine e_bipush C 7 (dk dX12_sayOnce 7 rfl) (by decide) ?_
    refine e_aload_n C 0 (dk dX12_sayOnce 8 rfl) rfl rfl ?_
    refine e_iconst C 2 (dk dX12_sayOnce 9 rfl) (by decide) ?_
    refine e_bipush C 8 (dk dX12_sayOnce 10 rfl) (by decide) ?_
    obtain ⟨q13, hq13, h⟩ := ob h
    refine e_callV (ci := 12) C cal_X12_readNumber im_X12_readNumber se_X12_readNumber ml_X12_243 rfl hR (by decide) (dk dX12_sayOnce 11 rfl) (K.1 _ (by rw [ht]; decide)) (ent_o12 ht) (c_X12_readNumber K ht hq13) ⟨Nat.zero_le _, Nat.zero_le _⟩ (Nat.le_of_ble_eq_true rfl) rfl ?_
    obtain ⟨M14, hM14, h⟩ := ob h
    refine m_ast C K (kd_X12_told K ht) (dk dX12_sayOnce 12 rfl) hM14 ?_
    exact j_X12_sayOnce_j23 C K ht hR h B
