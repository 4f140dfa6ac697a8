set_option maxRecDepth 20000 in
theorem c_X12_isMark {g : WC} {Xo : Nat → va_E} {n : Nat} {kd : Nat → Nat} (K : KD n kd) {p0 : Int32} {M : Mem} {res : Bool} (h : F_X12_isMark p0 = res) : MC g yX12_isMark cX12_isMark 1 (some .boolean) 0 n [.int p0] (ent g Xo kd M) (some (.int (bi res))) (ent g Xo kd M) := by
  refine MC_of pn_X12 (Nat.le_of_ble_eq_true rfl) (fun X C B => ?_)
  have hR := B.1
  rw [F_X12_isMark] at h
  refine e_iload_n C 0 (dk dX12_isMark 0 rfl) rfl rfl ?_
  refine e_bipush C 59 (dk dX12_isMark 1 rfl) (by decide) ?_
  refine e_icmp_eq C 54 (dk dX12_isMark 2 rfl) (by decide) (fun c1 => ?_) (fun c1 => ?_)
  · rw [if_pos c1] at h
    refine e_iconst C 1 (dk dX12_isMark 27 rfl) (by decide) ?_
    refine e_goto C 59 (dk dX12_isMark 28 rfl) (by decide) ?_
    subst h
    exact e_iret (v := bi true) C B (nar_bi _) (dk dX12_isMark 30 rfl)
  · rw [if_neg c1] at h
    refine e_iload_n C 0 (dk dX12_isMark 3 rfl) rfl rfl ?_
    refine e_bipush C 40 (dk dX12_isMark 4 rfl) (by decide) ?_
    refine e_icmp_eq C 54 (dk dX12_isMark 5 rfl) (by decide) (fun c2 => ?_) (fun c2 => ?_)
    · rw [if_pos c2] at h
      refine e_iconst C 1 (dk dX12_isMark 27 rfl) (by decide) ?_
      refine e_goto C 59 (dk dX12_isMark 28 rfl) (by decide) ?_
      subst h
      exact e_iret (v := bi true) C B (nar_bi _) (dk dX12_isMark 30 rfl)
    · rw [if_neg c2] at h
      refine e_iload_n C 0 (dk dX12_isMark 6 rfl) rfl rfl ?_
      refine e_bipush C 41 (dk dX12_isMark 7 rfl) (by decide) ?_
      refine e_icmp_eq C 54 (dk dX12_isMark 8 rfl) (by decide) (fun c3 => ?_) (fun c3 => ?_)
      · rw [if_pos c3] at h
        refine e_iconst C 1 (dk dX12_isMark 27 rfl) (by decide) ?_
        refine e_goto C 59 (dk dX12_isMark 28 rfl) (by decide) ?_
        subst h
        exact e_iret (v := bi true) C B (nar_bi _) (dk dX12_isMark 30 rfl)
      · rw [if_neg c3] at h
        refine e_iload_n C 0 (dk dX12_isMark 9 rfl) rfl rfl ?_
        refine e_bipush C 43 (dk dX12_isMark 10 rfl) (by decide) ?_
        refine e_icmp_eq C 54 (dk dX12_isMark 11 rfl) (by decide) (fun c4 => ?_) (fun c4 => ?_)
        · rw [if_pos c4] at h
          refine e_iconst C 1 (dk dX12_isMark 27 rfl) (by decide) ?_
          refine e_goto C 59 (dk dX12_isMark 28 rfl) (by decide) ?_
          subst h
          exact e_iret (v := bi true) C B (nar_bi _) (dk dX12_isMark 30 rfl)
        · rw [if_neg c4] at h
          refine e_iload_n C 0 (dk dX12_isMark 12 rfl) rfl rfl ?_
          refine e_bipush C 45 (dk dX12_isMark 13 rfl) (by decide) ?_
          refine e_icmp_eq C 54 (dk dX12_isMark 14 rfl) (by decide) (fun c5 => ?_) (fun c5 => ?_)
          · rw [if_pos c5] at h
            refine e_iconst C 1 (dk dX12_isMark 27 rfl) (by decide) ?_
            refine e_goto C 59 (dk dX12_isMark 28 rfl) (by decide) ?_
            subst h
            exact e_iret (v := bi true) C B (nar_bi _) (dk dX12_isMark 30 rfl)
          · rw [if_neg c5] at h
            refine e_iload_n C 0 (dk dX12_isMark 15 rfl) rfl rfl ?_
            refine e_bipush C 42 (dk dX12_isMark 16 rfl) (by decide) ?_
            refine e_icmp_eq C 54 (dk dX12_isMark 17 rfl) (by decide) (fun c6 => ?_) (fun c6 => ?_)
            · rw [if_pos c6] at h
              refine e_iconst C 1 (dk dX12_isMark 27 rfl) (by decide) ?_
              refine e_goto C 59 (dk dX12_isMark 28 rfl) (by decide) ?_
              subst h
              exact e_iret (v := bi true) C B (nar_bi _) (dk dX12_isMark 30 rfl)
            · rw [if_neg c6] at h
              refine e_iload_n C 0 (dk dX12_isMark 18 rfl) rfl rfl ?_
              refine e_bipush C 47 (dk dX12_isMark 19 rfl) (by decide) ?_
              refine e_icmp_eq C 54 (dk dX12_isMark 20 rfl) (by decide) (fun c7 => ?_) (fun c7 => ?_)
              · rw [if_pos c7] at h
                refine e_iconst C 1 (dk dX12_isMark 27 rfl) (by decide) ?_
                refine e_goto C 59 (dk dX12_isMark 28 rfl) (by decide) ?_
                subst h
                exact e_iret (v := bi true) C B (nar_bi _) (dk dX12_isMark 30 rfl)
              · rw [if_neg c7] at h
                refine e_iload_n C 0 (dk dX12_isMark 21 rfl) rfl rfl ?_
                refine e_bipush C 60 (dk dX12_isMark 22 rfl) (by decide) ?_
                refine e_icmp_eq C 54 (dk dX12_isMark 23 rfl) (by decide) (fun c8 => ?_) (fun c8 => ?_)
                · rw [if_pos c8] at h
                  refine e_iconst C 1 (dk dX12_isMark 27 rfl) (by decide) ?_
                  refine e_goto C 59 (dk dX12_isMark 28 rfl) (by decide) ?_
                  subst h
                  exact e_iret (v := bi true) C B (nar_bi _) (dk dX12_isMark 30 rfl)
                · rw [if_neg c8] at h
                  refine e_iload_n C 0 (dk dX12_isMark 24 rfl) rfl rfl ?_
                  refine e_bipush C 61 (dk dX12_isMark 25 rfl) (by decide) ?_
                  refine e_icmp_ne C 58 (dk dX12_isMark 26 rfl) (by decide) (fun c9 => ?_) (fun c9 => ?_)
                  · rw [if_neg c9] at h
                    refine e_iconst C 0 (dk dX12_isMark 29 rfl) (by decide) ?_
                    subst h
                    exact e_iret (v := bi false) C B (nar_bi _) (dk dX12_isMark 30 rfl)
                  · rw [if_pos c9] at h
                    refine e_iconst C 1 (dk dX12_isMark 27 rfl) (by decide) ?_
                    refine e_goto C 59 (dk dX12_isMark 28 rfl) (by decide) ?_
                    subst h
                    exact e_iret (v := bi true) C B (nar_bi _) (dk dX12_isMark 30 rfl)
set_option maxRecDepth 20000 in
theorem j_X12_stepOn_j26 {X : FX} {g : WC} {Xo : Nat → va_E} {n : Nat} {kd : Nat → Nat} (C : Cx X g RX12 cX12_stepOn 2) (K : KD n kd) {t : Nat} (ht : kd t = 13) (hR : x_R X = rm 1) {OK : Mem → Prop} (hx : ∀ s, OK s → EW X g (x_s X).heap.size n 2 (ent g Xo kd s) 0 0 39 [(0, .ref (g_N g + t))] []) {rec : Mem → Option (Mem)} (hrec : ∀ (M : Mem) (q : Mem), rec M = some q → OK q → EW X g (x_s X).heap.size n 2 (ent g Xo kd M) 0 0 0 [(0, .ref (g_N g + t))] []) {M : Mem} (q : Mem) (h : J_X12_stepOn_j26 t rec M = some q) (hOK : OK q) : EW X g (x_s X).heap.size n 2 (ent g Xo kd M) 0 0 26 [(0, .ref (g_N g + t))] [] := by
  rw [J_X12_stepOn_j26] at h
  refine e_aload_n C 0 (dk dX12_stepOn_0 12 rfl) rfl rfl ?_
  refine e_dup C (dk dX12_stepOn_0 13 rfl) rfl ?_
  refine gf_X12_at C K ht fl_X12_169 (dk dX12_stepOn_0 14 rfl) ?_
  refine e_iconst C 1 (dk dX12_stepOn_0 15 rfl) (by decide) ?_
  refine e_iadd C (dk dX12_stepOn_0 16 rfl) ?_
  refine pf_X12_at C K ht fl_X12_169 (dk dX12_stepOn_0 17 rfl) ?_
  refine e_goto C 0 (dk dX12_stepOn_0 18 rfl) (by decide) ?_
  exact hrec _ _ h hOK
set_option maxRecDepth 20000 in
theorem l_X12_stepOn_0 {X : FX} {g : WC} {Xo : Nat → va_E} {n : Nat} {kd : Nat → Nat} (C : Cx X g RX12 cX12_stepOn 2) (K : KD n kd) {t : Nat} (ht : kd t = 13) (hR : x_R X = rm 1) {OK : Mem → Prop} (hx : ∀ s, OK s → EW X g (x_s X).heap.size n 2 (ent g Xo kd s) 0 0 39 [(0, .ref (g_N g + t))] []) : ∀ (N9 : Nat) (M : Mem) (q : Mem), L_X12_stepOn_0 t N9 M = some q → OK q → EW X g (x_s X).heap.size n 2 (ent g Xo kd M) 0 0 0 [(0, .ref (g_N g + t))] [] := by
  intro N9
  induction N9 with
  | zero =>
    intro M q h
    rw [L_X12_stepOn_0.eq_1] at h
    cases h
  | succ m9 ih =>
    intro M q h hOK
    rw [L_X12_stepOn_0.eq_2] at h
    refine e_aload_n C 0 (dk dX12_stepOn_0 0 rfl) rfl rfl ?_
    refine e_aload_n C 0 (dk dX12_stepOn_0 1 rfl) rfl rfl ?_
    refine gf_X12_at C K ht fl_X12_169 (dk dX12_stepOn_0 2 rfl) ?_
    obtain ⟨q1, hq1, h⟩ := ob h
    refine e_callV (ci := 12) C cal_X12_byteAt im_X12_byteAt se_X12_byteAt ml_X12_172 rfl hR (by decide) (dk dX12_stepOn_0 3 rfl) (K.1 _ (by rw [ht]; decide)) (ent_o12 ht) (c_X12_byteAt K ht hq1) ⟨Nat.zero_le _, Nat.zero_le _⟩ (Nat.le_of_ble_eq_true rfl) rfl ?_
    refine e_bipush C 32 (dk dX12_stepOn_0 4 rfl) (by decide) ?_
    refine e_icmp_eq C 26 (dk dX12_stepOn_0 5 rfl) (by decide) (fun c2 => ?_) (fun c2 => ?_)
    · rw [if_pos c2] at h
      exact j_X12_stepOn_j26 C K ht hR hx ih _ h hOK
    · rw [if_neg c2] at h
      refine e_aload_n C 0 (dk dX12_stepOn_0 6 rfl) rfl rfl ?_
      refine e_aload_n C 0 (dk dX12_stepOn_0 7 rfl) rfl rfl ?_
      refine gf_X12_at C K ht fl_X12_169 (dk dX12_stepOn_0 8 rfl) ?_
      obtain ⟨q3, hq3, h⟩ := ob h
      refine e_callV (ci := 12) C cal_X12_byteAt im_X12_byteAt se_X12_byteAt ml_X12_172 rfl hR (by decide) (dk dX12_stepOn_0 9 rfl) (K.1 _ (by rw [ht]; decide)) (ent_o12 ht) (c_X12_byteAt K ht hq3) ⟨Nat.zero_le _, Nat.zero_le _⟩ (Nat.le_of_ble_eq_true rfl) rfl ?_
      refine e_bipush C 10 (dk dX12_stepOn_0 10 rfl) (by decide) ?_
      refine e_icmp_ne C 39 (dk dX12_stepOn_0 11 rfl) (by decide) (fun c4 => ?_) (fun c4 => ?_)
      · rw [if_neg c4] at h
        obtain rfl := Option.some.inj h
        exact hx _ hOK
      · rw [if_pos c4] at h
        exact j_X12_stepOn_j26 C K ht hR hx ih _ h hOK
set_option maxRecDepth 20000 in
theorem lb_X12_stepOn_0 {X : FX} {g : WC} {Xo : Nat → va_E} {n : Nat} {kd : Nat → Nat} (C : Cx X g RX12 cX12_stepOn 2) (K : KD n kd) {t : Nat} (ht : kd t = 13) (hR : x_R X = rm 1) {T9 : Type} {f9 : Mem → Option T9} {b9 : T9} (hx : ∀ s, f9 s = some b9 → EW X g (x_s X).heap.size n 2 (ent g Xo kd s) 0 0 39 [(0, .ref (g_N g + t))] []) {M : Mem} (h : (L_X12_stepOn_0 t FU M).bind f9 = some b9) : EW X g (x_s X).heap.size n 2 (ent g Xo kd M) 0 0 0 [(0, .ref (g_N g + t))] [] := by
  obtain ⟨q, hq, h⟩ := ob h
  exact l_X12_stepOn_0 C K ht hR (OK := fun q => f9 q = some b9) hx FU M q hq h
set_option maxRecDepth 20000 in
theorem j_X12_stepOn_j212 {X : FX} {g : WC} {Xo : Nat → va_E} {n : Nat} {kd : Nat → Nat} (C : Cx X g RX12 cX12_stepOn 2) (K : KD n kd) {t : Nat} (ht : kd t = 13) (hR : x_R X = rm 1) {M : Mem} {res : Mem} (h : J_X12_stepOn_j212 t M = some res) (B : Bx X g none 1 n none (ent g Xo kd res)) : EW X g (x_s X).heap.size n 2 (ent g Xo kd M) 0 0 212 [(0, .ref (g_N g + t))] [] := by
  rw [J_X12_stepOn_j212] at h
  refine e_aload_n C 0 (dk dX12_stepOn_1 47 rfl) rfl rfl ?_
  refine e_aload_n C 0 (dk dX12_stepOn_1 48 rfl) rfl rfl ?_
  refine gf_X12_at C K ht fl_X12_169 (dk dX12_stepOn_1 49 rfl) ?_
  refine pf_X12_stops C K ht fl_X12_202 (dk dX12_stepOn_1 50 rfl) ?_
  obtain rfl := Option.some.inj h
  exact e_vret C B (dk dX12_stepOn_1 51 rfl)
set_option maxRecDepth 20000 in
theorem l_X12_stepOn_123 {X : FX} {g : WC} {Xo : Nat → va_E} {n : Nat} {kd : Nat → Nat} (C : Cx X g RX12 cX12_stepOn 2) (K : KD n kd) {t : Nat} (ht : kd t = 13) (hR : x_R X = rm 1) {OK : Mem → Prop} (hx : ∀ s, OK s → EW X g (x_s X).heap.size n 2 (ent g Xo kd s) 0 0 178 [(0, .ref (g_N g + t))] []) : ∀ (N9 : Nat) (M : Mem) (q : Mem), L_X12_stepOn_123 t N9 M = some q → OK q → EW X g (x_s X).heap.size n 2 (ent g Xo kd M) 0 0 123 [(0, .ref (g_N g + t))] [] := by
  intro N9
  induction N9 with
  | zero =>
    intro M q h
    rw [L_X12_stepOn_123.eq_1] at h
    cases h
  | succ m9 ih =>
    intro M q h hOK
    rw [L_X12_stepOn_123.eq_2] at h
    refine e_aload_n C 0 (dk dX12_stepOn_1 1 rfl) rfl rfl ?_
    refine e_aload_n C 0 (dk dX12_stepOn_1 2 rfl) rfl rfl ?_
    refine gf_X12_at C K ht fl_X12_169 (dk dX12_stepOn_1 3 rfl) ?_
    obtain ⟨q13, hq13, h⟩ := ob h
    refine e_callV (ci := 12) C cal_X12_byteAt im_X12_byteAt se_X12_byteAt ml_X12_172 rfl hR (by decide) (dk dX12_stepOn_1 4 rfl) (K.1 _ (by rw [ht]; decide)) (ent_o12 ht) (c_X12_byteAt K ht hq13) ⟨Nat.zero_le _, Nat.zero_le _⟩ (Nat.le_of_ble_eq_true rfl) rfl ?_
    refine e_callS C cal_X12_isDigit sm_X12_isDigit ml_X12_186 hR (by decide) (dk dX12_stepOn_1 5 rfl) (c_X12_isDigit K (rfl : F_X12_isDigit q13 = _)) ⟨Nat.zero_le _, Nat.zero_le _⟩ (Nat.le_of_ble_eq_true rfl) rfl ?_
    refine e_if_eq C 178 (dk dX12_stepOn_1 6 rfl) (by decide) (fun c14 => ?_) (fun c14 => ?_)
    · rw [if_pos c14] at h
      obtain rfl := Option.some.inj h
      exact hx _ hOK
    · rw [if_neg c14] at h
      refine e_aload_n C 0 (dk dX12_stepOn_1 7 rfl) rfl rfl ?_
      refine e_ldc C kc_X12_192 (dk dX12_stepOn_1 8 rfl) ?_
      refine e_bipush C 10 (dk dX12_stepOn_1 9 rfl) (by decide) ?_
      refine e_aload_n C 0 (dk dX12_stepOn_1 10 rfl) rfl rfl ?_
      refine gf_X12_number C K ht fl_X12_189 (dk dX12_stepOn_1 11 rfl) ?_
      refine e_imul C (dk dX12_stepOn_1 12 rfl) ?_
      refine e_aload_n C 0 (dk dX12_stepOn_1 13 rfl) rfl rfl ?_
      refine e_aload_n C 0 (dk dX12_stepOn_1 14 rfl) rfl rfl ?_
      refine gf_X12_at C K ht fl_X12_169 (dk dX12_stepOn_1 15 rfl) ?_
      obtain ⟨q15, hq15, h⟩ := ob h
      refine e_callV (ci := 12) C cal_X12_byteAt im_X12_byteAt se_X12_byteAt ml_X12_172 rfl hR (by decide) (dk dX12_stepOn_1 16 rfl) (K.1 _ (by rw [ht]; decide)) (ent_o12 ht) (c_X12_byteAt K ht hq15) ⟨Nat.zero_le _, Nat.zero_le _⟩ (Nat.le_of_ble_eq_true rfl) rfl ?_
      refine e_iadd C (dk dX12_stepOn_1 17 rfl) ?_
      refine e_bipush C 48 (dk dX12_stepOn_1 18 rfl) (by decide) ?_
      refine e_isub C (dk dX12_stepOn_1 19 rfl) ?_
      refine e_mmin C hR ml_X12_193 (dk dX12_stepOn_1 20 rfl) (Nat.le_of_ble_eq_true rfl) ?_
      refine pf_X12_number C K ht fl_X12_189 (dk dX12_stepOn_1 21 rfl) ?_
      refine e_aload_n C 0 (dk dX12_stepOn_1 22 rfl) rfl rfl ?_
      refine e_dup C (dk dX12_stepOn_1 23 rfl) rfl ?_
      refine gf_X12_at C K ht fl_X12_169 (dk dX12_stepOn_1 24 rfl) ?_
      refine e_iconst C 1 (dk dX12_stepOn_1 25 rfl) (by decide) ?_
      refine e_iadd C (dk dX12_stepOn_1 26 rfl) ?_
      refine pf_X12_at C K ht fl_X12_169 (dk dX12_stepOn_1 27 rfl) ?_
      refine e_goto C 123 (dk dX12_stepOn_1 28 rfl) (by decide) ?_
      exact ih _ _ h hOK
set_option maxRecDepth 20000 in
theorem lb_X12_stepOn_123 {X : FX} {g : WC} {Xo : Nat → va_E} {n : Nat} {kd : Nat → Nat} (C : Cx X g RX12 cX12_stepOn 2) (K : KD n kd) {t : Nat} (ht : kd t = 13) (hR : x_R X = rm 1) {T9 : Type} {f9 : Mem → Option T9} {b9 : T9} (hx : ∀ s, f9 s = some b9 → EW X g (x_s X).heap.size n 2 (ent g Xo kd s) 0 0 178 [(0, .ref (g_N g + t))] []) {M : Mem} (h : (L_X12_stepOn_123 t FU M).bind f9 = some b9) : EW X g (x_s X).heap.size n 2 (ent g Xo kd M) 0 0 123 [(0, .ref (g_N g + t))] [] := by
  obtain ⟨q, hq, h⟩ := ob h
  exact l_X12_stepOn_123 C K ht hR (OK := fun q => f9 q = some b9) hx FU M q hq h
set_option maxRecDepth 20000 in
theorem l_X12_stepOn_76 {X : FX} {g : WC} {Xo : Nat → va_E} {n : Nat} {kd : Nat → Nat} (C : Cx X g RX12 cX12_stepOn 2) (K : KD n kd) {t : Nat} (ht : kd t = 13) (hR : x_R X = rm 1) {OK : Mem → Prop} (hx : ∀ s, OK s → EW X g (x_s X).heap.size n 2 (ent g Xo kd s) 0 0 103 [(0, .ref (g_N g + t))] []) : ∀ (N9 : Nat) (M : Mem) (q : Mem), L_X12_stepOn_76 t N9 M = some q → OK q → EW X g (x_s X).heap.size n 2 (ent g Xo kd M) 0 0 76 [(0, .ref (g_N g + t))] [] := by
  intro N9
  induction N9 with
  | zero =>
    intro M q h
    rw [L_X12_stepOn_76.eq_1] at h
    cases h
  | succ m9 ih =>
    intro M q h hOK
    rw [L_X12_stepOn_76.eq_2] at h
    refine e_aload_n C 0 (dk dX12_stepOn_0 38 rfl) rfl rfl ?_
    refine e_aload_n C 0 (dk dX12_stepOn_0 39 rfl) rfl rfl ?_
    refine gf_X12_at C K ht fl_X12_169 (dk dX12_stepOn_0 40 rfl) ?_
    obtain ⟨q18, hq18, h⟩ := ob h
    refine e_callV (ci := 12) C cal_X12_byteAt im_X12_byteAt se_X12_byteAt ml_X12_172 rfl hR (by decide) (dk dX12_stepOn_0 41 rfl) (K.1 _ (by rw [ht]; decide)) (ent_o12 ht) (c_X12_byteAt K ht hq18) ⟨Nat.zero_le _, Nat.zero_le _⟩ (Nat.le_of_ble_eq_true rfl) rfl ?_
    refine e_callS C cal_X12_isLetter sm_X12_isLetter ml_X12_182 hR (by decide) (dk dX12_stepOn_0 42 rfl) (c_X12_isLetter K (rfl : F_X12_isLetter q18 = _)) ⟨Nat.zero_le _, Nat.zero_le _⟩ (Nat.le_of_ble_eq_true rfl) rfl ?_
    refine e_if_eq C 103 (dk dX12_stepOn_0 43 rfl) (by decide) (fun c19 => ?_) (fun c19 => ?_)
    · rw [if_pos c19] at h
      obtain rfl := Option.some.inj h
      exact hx _ hOK
    · rw [if_neg c19] at h
      refine e_aload_n C 0 (dk dX12_stepOn_0 44 rfl) rfl rfl ?_
      refine e_dup C (dk dX12_stepOn_0 45 rfl) rfl ?_
      refine gf_X12_at C K ht fl_X12_169 (dk dX12_stepOn_0 46 rfl) ?_
      refine e_iconst C 1 (dk dX12_stepOn_0 47 rfl) (by decide) ?_
      refine e_iadd C (dk dX12_stepOn_0 48 rfl) ?_
      refine pf_X12_at C K ht fl_X12_169 (dk dX12_stepOn_0 49 rfl) ?_
      refine e_goto C 76 (dk dX12_stepOn_0 50 rfl) (by decide) ?_
      exact ih _ _ h hOK
set_option maxRecDepth 20000 in
theorem lb_X12_stepOn_76 {X : FX} {g : WC} {Xo : Nat → va_E} {n : Nat} {kd : Nat → Nat} (C : Cx X g RX12 cX12_stepOn 2) (K : KD n kd) {t : Nat} (ht : kd t = 13) (hR : x_R X = rm 1) {T9 : Type} {f9 : Mem → Option T9} {b9 : T9} (hx : ∀ s, f9 s = some b9 → EW X g (x_s X).heap.size n 2 (ent g Xo kd s) 0 0 103 [(0, .ref (g_N g + t))] []) {M : Mem} (h : (L_X12_stepOn_76 t FU M).bind f9 = some b9) : EW X g (x_s X).heap.size n 2 (ent g Xo kd M) 0 0 76 [(0, .ref (g_N g + t))] [] := by
  obtain ⟨q, hq, h⟩ := ob h
  exact l_X12_stepOn_76 C K ht hR (OK := fun q => f9 q = some b9) hx FU M q hq h
set_option maxRecDepth 20000 in
theorem c_X12_stepOn {g : WC} {Xo : Nat → va_E} {n : Nat} {kd : Nat → Nat} (K : KD n kd) {t : Nat} (ht : kd t = 13) {M : Mem} {res : Mem} (h : F_X12_stepOn t M = some res) : MC g yX12_stepOn cX12_stepOn 2 none 1 n [.ref (g_N g + t)] (ent g Xo kd M) none (ent g Xo kd res) := by
  refine MC_of pn_X12 (Nat.le_of_ble_eq_true rfl) (fun X C B => ?_)
  have hR := B.1
  rw [F_X12_stepOn] at h
  refine lb_X12_stepOn_0 C K ht hR (fun s6 h => ?_) h
  refine e_aload_n C 0 (dk dX12_stepOn_0 19 rfl) rfl rfl ?_
  refine e_aload_n C 0 (dk dX12_stepOn_0 20 rfl) rfl rfl ?_
  refine gf_X12_at C K ht fl_X12_169 (dk dX12_stepOn_0 21 rfl) ?_
  refine pf_X12_begins C K ht fl_X12_176 (dk dX12_stepOn_0 22 rfl) ?_
  refine e_aload_n C 0 (dk dX12_stepOn_0 23 rfl) rfl rfl ?_
  refine e_aload_n C 0 (dk dX12_stepOn_0 24 rfl) rfl rfl ?_
  refine gf_X12_at C K ht fl_X12_169 (dk dX12_stepOn_0 25 rfl) ?_
  obtain ⟨q7, hq7, h⟩ := ob h
  refine e_callV (ci := 12) C cal_X12_byteAt im_X12_byteAt se_X12_byteAt ml_X12_172 rfl hR (by decide) (dk dX12_stepOn_0 26 rfl) (K.1 _ (by rw [ht]; decide)) (ent_o12 ht) (c_X12_byteAt K ht hq7) ⟨Nat.zero_le _, Nat.zero_le _⟩ (Nat.le_of_ble_eq_true rfl) rfl ?_
  refine e_istore_n C [(1, .int q7), (0, .ref (g_N g + t))] (dk dX12_stepOn_0 27 rfl) rfl (by decide) rfl ?_
  refine e_iload_n C 0 (dk dX12_stepOn_0 28 rfl) rfl rfl ?_
  refine e_iconst C (-1) (dk dX12_stepOn_0 29 rfl) (by decide) ?_
  refine e_icmp_ne C 69 (dk dX12_stepOn_0 30 rfl) (by decide) (fun c8 => ?_) (fun c8 => ?_)
  · rw [if_neg c8] at h
    refine e_iload_n C 0 (dk dX12_stepOn_0 35 rfl) rfl rfl ?_
    refine e_callS C cal_X12_isLetter sm_X12_isLetter ml_X12_182 hR (by decide) (dk dX12_stepOn_0 36 rfl) (c_X12_isLetter K (rfl : F_X12_isLetter q7 = _)) ⟨Nat.zero_le _, Nat.zero_le _⟩ (Nat.le_of_ble_eq_true rfl) rfl ?_
    refine e_if_eq C 111 (dk dX12_stepOn_0 37 rfl) (by decide) (fun c9 => ?_) (fun c9 => ?_)
    · rw [if_pos c9] at h
      refine e_iload_n C 0 (dk dX12_stepOn_0 55 rfl) rfl rfl ?_
      refine e_callS C cal_X12_isDigit sm_X12_isDigit ml_X12_186 hR (by decide) (dk dX12_stepOn_0 56 rfl) (c_X12_isDigit K (rfl : F_X12_isDigit q7 = _)) ⟨Nat.zero_le _, Nat.zero_le _⟩ (Nat.le_of_ble_eq_true rfl) rfl ?_
      refine e_if_eq C 186 (dk dX12_stepOn_0 57 rfl) (by decide) (fun c10 => ?_) (fun c10 => ?_)
      · rw [if_pos c10] at h
        refine e_aload_n C 1 (dk dX12_stepOn_1 33 rfl) rfl rfl ?_
        refine e_dup C (dk dX12_stepOn_1 34 rfl) rfl ?_
        refine gf_X12_at C K ht fl_X12_169 (dk dX12_stepOn_1 35 rfl) ?_
        refine e_iconst C 1 (dk dX12_stepOn_1 36 rfl) (by decide) ?_
        refine e_iadd C (dk dX12_stepOn_1 37 rfl) ?_
        refine pf_X12_at C K ht fl_X12_169 (dk dX12_stepOn_1 38 rfl) ?_
        refine e_aload_n C 1 (dk dX12_stepOn_1 39 rfl) rfl rfl ?_
        refine e_iload_n C 0 (dk dX12_stepOn_1 40 rfl) rfl rfl ?_
        refine e_callS C cal_X12_isMark sm_X12_isMark ml_X12_199 hR (by decide) (dk dX12_stepOn_1 41 rfl) (c_X12_isMark K (rfl : F_X12_isMark q7 = _)) ⟨Nat.zero_le _, Nat.zero_le _⟩ (Nat.le_of_ble_eq_true rfl) rfl ?_
        suffices hm12 : EW X g (x_s X).heap.size n 2 (ent g Xo kd (up (up s6 t 19 (s6 t 15)) t 15 (((up s6 t 19 (s6 t 15)) t 15) + 1))) 0 0 209 [(1, .int q7), (0, .ref (g_N g + t))] [.int (if (bi (F_X12_isMark q7)) = 0 then (4 : Int32) else (3 : Int32)), .ref (g_N g + t)] from (by
          refine e_if_eq C 208 (dk dX12_stepOn_1 42 rfl) (by decide) (fun c11 => ?_) (fun c11 => ?_)
          · rw [show (if (bi (F_X12_isMark q7)) = 0 then (4 : Int32) else (3 : Int32)) = (4 : Int32) from if_pos c11] at hm12
            refine e_iconst C 4 (dk dX12_stepOn_1 45 rfl) (by decide) ?_
            exact hm12
          · rw [show (if (bi (F_X12_isMark q7)) = 0 then (4 : Int32) else (3 : Int32)) = (3 : Int32) from if_neg c11] at hm12
            refine e_iconst C 3 (dk dX12_stepOn_1 43 rfl) (by decide) ?_
            refine e_goto C 209 (dk dX12_stepOn_1 44 rfl) (by decide) ?_
            exact hm12)
        refine pf_X12_token C K ht fl_X12_179 (dk dX12_stepOn_1 46 rfl) ?_
        refine e_lv [1] rfl ?_
        exact j_X12_stepOn_j212 C K ht hR h B
      · rw [if_neg c10] at h
        refine e_aload_n C 1 (dk dX12_stepOn_0 58 rfl) rfl rfl ?_
        refine e_iconst C 0 (dk dX12_stepOn_0 59 rfl) (by decide) ?_
        refine pf_X12_number C K ht fl_X12_189 (dk dX12_stepOn_1 0 rfl) ?_
        refine e_lv [1] rfl ?_
        refine lb_X12_stepOn_123 C K ht hR (fun s17 h => ?_) h
        refine e_aload_n C 0 (dk dX12_stepOn_1 29 rfl) rfl rfl ?_
        refine e_iconst C 2 (dk dX12_stepOn_1 30 rfl) (by decide) ?_
        refine pf_X12_token C K ht fl_X12_179 (dk dX12_stepOn_1 31 rfl) ?_
        refine e_goto C 212 (dk dX12_stepOn_1 32 rfl) (by decide) ?_
        exact j_X12_stepOn_j212 C K ht hR h B
    · rw [if_neg c9] at h
      refine e_lv [1] rfl ?_
      refine lb_X12_stepOn_76 C K ht hR (fun s21 h => ?_) h
      refine e_aload_n C 0 (dk dX12_stepOn_0 51 rfl) rfl rfl ?_
      refine e_iconst C 1 (dk dX12_stepOn_0 52 rfl) (by decide) ?_
      refine pf_X12_token C K ht fl_X12_179 (dk dX12_stepOn_0 53 rfl) ?_
      refine e_goto C 212 (dk dX12_stepOn_0 54 rfl) (by decide) ?_
      exact j_X12_stepOn_j212 C K ht hR h B
  · rw [if_pos c8] at h
    refine e_aload_n C 1 (dk dX12_stepOn_0 31 rfl) rfl rfl ?_
    refine e_iconst C 0 (dk dX12_stepOn_0 32 rfl) (by decide) ?_
    refine pf_X12_token C K ht fl_X12_179 (dk dX12_stepOn_0 33 rfl) ?_
    refine e_goto C 212 (dk dX12_stepOn_0 34 rfl) (by decide) ?_
    refine e_lv [1] rfl ?_
    exact j_X12_stepOn_j212 C K ht hR h B
set_option maxRecDepth 20000 in
theorem c_X12_wrong {g : WC} {Xo : Nat → va_E} {n : Nat} {kd : Nat → Nat} (K : KD n kd) {t : Nat} {p0 : Int32} (ht : kd t = 13) {M : Mem} {res : Mem} (h : F_X12_wrong t p0 M = res) : MC g yX12_wrong cX12_wrong 2 none 0 n [.ref (g_N g + t), .int p0] (ent g Xo kd M) none (ent g Xo kd res) := by
  refine MC_of pn_X12 (Nat.le_of_ble_eq_true rfl) (fun X C B => ?_)
  have hR := B.1
  rw [F_X12_wrong] at h
  refine e_aload_n C 0 (dk dX12_wrong 0 rfl) rfl rfl ?_
  refine gf_X12_bad C K ht fl_X12_205 (dk dX12_wrong 1 rfl) ?_
  refine e_if_eq C 8 (dk dX12_wrong 2 rfl) (by decide) (fun c1 => ?_) (fun c1 => ?_)
  · rw [if_pos c1] at h
    refine e_aload_n C 0 (dk dX12_wrong 4 rfl) rfl rfl ?_
    refine e_iload_n C 1 (dk dX12_wrong 5 rfl) rfl rfl ?_
    refine pf_X12_bad C K ht fl_X12_205 (dk dX12_wrong 6 rfl) ?_
    refine e_aload_n C 0 (dk dX12_wrong 7 rfl) rfl rfl ?_
    refine e_aload_n C 0 (dk dX12_wrong 8 rfl) rfl rfl ?_
    refine gf_X12_begins C K ht fl_X12_176 (dk dX12_wrong 9 rfl) ?_
    refine pf_X12_badPlace C K ht fl_X12_208 (dk dX12_wrong 10 rfl) ?_
    subst h
    exact e_vret C B (dk dX12_wrong 11 rfl)
  · rw [if_neg c1] at h
    subst h
    exact e_vret C B (dk dX12_wrong 3 rfl)
set_option maxRecDepth 20000 in
theorem l_X12_is_39 {X : FX} {g : WC} {Xo : Nat → va_E} {n : Nat} {kd : Nat → Nat} (C : Cx X g RX12 cX12_is 4) (K : KD n kd) {t : Nat} {u0 : Nat} (ht : kd t = 13) (hu0 : u0 < 38) {M : Mem} (hR : x_R X = rm 4) {OK : Int32 → Prop} (hx : ∀ s, OK s → EW X g (x_s X).heap.size n 4 (ent g Xo kd M) 0 0 82 [(2, .int s)] []) : ∀ (N9 : Nat) (x2 : Int32) (x3 : Int32) (q : Int32), L_X12_is_39 t u0 M N9 x2 x3 = some q → OK q → EW X g (x_s X).heap.size n 4 (ent g Xo kd M) 0 0 39 [(0, .ref (g_N g + t)), (1, .ref (g_sa g u0)), (2, .int x2), (3, .int x3)] [] := by
  intro N9
  induction N9 with
  | zero =>
    intro x2 x3 q h
    rw [L_X12_is_39.eq_1] at h
    cases h
  | succ m9 ih =>
    intro x2 x3 q h hOK
    rw [L_X12_is_39.eq_2] at h
    refine e_iload_n C 2 (dk dX12_is 21 rfl) rfl rfl ?_
    refine e_if_eq C 82 (dk dX12_is 22 rfl) (by decide) (fun c2 => ?_) (fun c2 => ?_)
    · rw [if_pos c2] at h
      obtain rfl := Option.some.inj h
      refine e_lv [2] rfl ?_
      exact hx _ hOK
    · rw [if_neg c2] at h
      refine e_iload_n C 3 (dk dX12_is 23 rfl) rfl rfl ?_
      refine e_aload_n C 1 (dk dX12_is 24 rfl) rfl rfl ?_
      refine e_callT (as := []) hu0 C cal_J0_length_8abf5 im_J0_length_8abf5 se_J0_length_8abf5 ml_X12_211 hR (by decide) (dk dX12_is 25 rfl) (c_slen K hu0 (rfl : F_slen u0 = _)) ⟨Nat.zero_le _, Nat.zero_le _⟩ (Nat.le_of_ble_eq_true rfl) rfl ?_
      refine e_icmp_ge C 82 (dk dX12_is 26 rfl) (by decide) (fun c3 => ?_) (fun c3 => ?_)
      · rw [if_pos c3] at h
        obtain rfl := Option.some.inj h
        refine e_lv [2] rfl ?_
        exact hx _ hOK
      · rw [if_neg c3] at h
        refine e_aload_n C 1 (dk dX12_is 27 rfl) rfl rfl ?_
        refine e_iload_n C 3 (dk dX12_is 28 rfl) rfl rfl ?_
        obtain ⟨v4, hv4, h⟩ := ob h
        refine e_callT (as := [.int x3]) hu0 C cal_J0_charAt_5068e im_J0_charAt_5068e se_J0_charAt_5068e ml_X12_215 hR (by decide) (dk dX12_is 29 rfl) (c_schar K hu0 hv4) ⟨Nat.zero_le _, Nat.zero_le _⟩ (Nat.le_of_ble_eq_true rfl) rfl ?_
        refine e_aload_n C 0 (dk dX12_is 30 rfl) rfl rfl ?_
        refine gf_X12_tape C K ht fl_X12_68 (dk dX12_is 31 rfl) ?_
        refine e_aload_n C 0 (dk dX12_is 32 rfl) rfl rfl ?_
        refine gf_X12_begins C K ht fl_X12_176 (dk dX12_is 33 rfl) ?_
        refine e_iload_n C 3 (dk dX12_is 34 rfl) rfl rfl ?_
        refine e_iadd C (dk dX12_is 35 rfl) ?_
        obtain ⟨v5, hv5, h⟩ := ob h
        refine m_ald C K (kd_X12_tape K ht) (dk dX12_is 36 rfl) hv5 ?_
        suffices hm7 : EW X g (x_s X).heap.size n 4 (ent g Xo kd M) 0 0 75 [(0, .ref (g_N g + t)), (1, .ref (g_sa g u0)), (2, .int x2), (3, .int x3)] [.int (if v4 = v5 then (1 : Int32) else (0 : Int32))] from (by
          refine e_icmp_ne C 74 (dk dX12_is 37 rfl) (by decide) (fun c6 => ?_) (fun c6 => ?_)
          · rw [show (if v4 = v5 then (1 : Int32) else (0 : Int32)) = (0 : Int32) from if_neg c6] at hm7
            refine e_iconst C 0 (dk dX12_is 40 rfl) (by decide) ?_
            exact hm7
          · rw [show (if v4 = v5 then (1 : Int32) else (0 : Int32)) = (1 : Int32) from if_pos c6] at hm7
            refine e_iconst C 1 (dk dX12_is 38 rfl) (by decide) ?_
            refine e_goto C 75 (dk dX12_is 39 rfl) (by decide) ?_
            exact hm7)
        refine e_istore_n C [(2, .int (if v4 = v5 then (1 : Int32) else (0 : Int32))), (0, .ref (g_N g + t)), (1, .ref (g_sa g u0)), (3, .int x3)] (dk dX12_is 41 rfl) rfl (by decide) rfl ?_
        refine e_iinc C [(3, .int (x3 + 1)), (2, .int (if v4 = v5 then (1 : Int32) else (0 : Int32))), (0, .ref (g_N g + t)), (1, .ref (g_sa g u0))] 3 1 (dk dX12_is 42 rfl) rfl (by decide) (by decide) rfl ?_
        refine e_goto C 39 (dk dX12_is 43 rfl) (by decide) ?_
        refine e_lv [2, 3, 1, 0] rfl ?_
        exact ih _ _ _ h hOK
set_option maxRecDepth 20000 in
theorem lb_X12_is_39 {X : FX} {g : WC} {Xo : Nat → va_E} {n : Nat} {kd : Nat → Nat} (C : Cx X g RX12 cX12_is 4) (K : KD n kd) {t : Nat} {u0 : Nat} (ht : kd t = 13) (hu0 : u0 < 38) {M : Mem} (hR : x_R X = rm 4) {T9 : Type} {f9 : Int32 → Option T9} {b9 : T9} (hx : ∀ s, f9 s = some b9 → EW X g (x_s X).heap.size n 4 (ent g Xo kd M) 0 0 82 [(2, .int s)] []) {x2 : Int32} {x3 : Int32} (h : (L_X12_is_39 t u0 M FU x2 x3).bind f9 = some b9) : EW X g (x_s X).heap.size n 4 (ent g Xo kd M) 0 0 39 [(0, .ref (g_N g + t)), (1, .ref (g_sa g u0)), (2, .int x2), (3, .int x3)] [] := by
  obtain ⟨q, hq, h⟩ := ob h
  exact l_X12_is_39 C K ht hu0 hR (OK := fun q => f9 q = some b9) hx FU x2 x3 q hq h
set_option maxRecDepth 20000 in
theorem j_X12_is_j36 {X : FX} {g : WC} {Xo : Nat → va_E} {n : Nat} {kd : Nat → Nat} (C : Cx X g RX12 cX12_is 4) (K : KD n kd) {t : Nat} {u0 : Nat} (ht : kd t = 13) (hu0 : u0 < 38) (hR : x_R X = rm 4) {y0 : Int32} {M : Mem} {res : Bool} (h : J_X12_is_j36 t u0 y0 M = some res) (B : Bx X g (some .boolean) 4 n (some (.int (bi res))) (ent g Xo kd M)) : EW X g (x_s X).heap.size n 4 (ent g Xo kd M) 0 0 36 [(0, .ref (g_N g + t)), (1, .ref (g_sa g u0))] [.int y0] := by
  rw [J_X12_is_j36] at h
  refine e_istore_n C [(2, .int y0), (0, .ref (g_N g + t)), (1, .ref (g_sa g u0))] (dk dX12_is 18 rfl) rfl (by decide) rfl ?_
  refine e_iconst C 0 (dk dX12_is 19 rfl) (by decide) ?_
  refine e_istore_n C [(3, .int 0), (2, .int y0), (0, .ref (g_N g + t)), (1, .ref (g_sa g u0))] (dk dX12_is 20 rfl) rfl (by decide) rfl ?_
  refine e_lv [2, 3, 1, 0] rfl ?_
  refine lb_X12_is_39 C K ht hu0 hR (fun s9 h => ?_) h
  refine e_iload_n C 0 (dk dX12_is 44 rfl) rfl rfl ?_
  obtain ⟨b10, hb10, h⟩ := ob h
  rw [bgd_some hb10]
  obtain rfl := Option.some.inj h
  exact e_iret (v := bi b10) C B (nar_bi _) (dk dX12_is 45 rfl)
set_option maxRecDepth 20000 in
theorem j_X12_is_j35 {X : FX} {g : WC} {Xo : Nat → va_E} {n : Nat} {kd : Nat → Nat} (C : Cx X g RX12 cX12_is 4) (K : KD n kd) {t : Nat} {u0 : Nat} (ht : kd t = 13) (hu0 : u0 < 38) (hR : x_R X = rm 4) {M : Mem} {res : Bool} (h : J_X12_is_j35 t u0 M = some res) (B : Bx X g (some .boolean) 4 n (some (.int (bi res))) (ent g Xo kd M)) : EW X g (x_s X).heap.size n 4 (ent g Xo kd M) 0 0 35 [(0, .ref (g_N g + t)), (1, .ref (g_sa g u0))] [] := by
  rw [J_X12_is_j35] at h
  refine e_iconst C 0 (dk dX12_is 17 rfl) (by decide) ?_
  exact j_X12_is_j36 C K ht hu0 hR h B
set_option maxRecDepth 20000 in
theorem c_X12_is {g : WC} {Xo : Nat → va_E} {n : Nat} {kd : Nat → Nat} (K : KD n kd) {t : Nat} {u0 : Nat} (ht : kd t = 13) (hu0 : u0 < 38) {M : Mem} {res : Bool} (h : F_X12_is t u0 M = some res) : MC g yX12_is cX12_is 4 (some .boolean) 4 n [.ref (g_N g + t), .ref (g_sa g u0)] (ent g Xo kd M) (some (.int (bi res))) (ent g Xo kd M) := by
  refine MC_of pn_X12 (Nat.le_of_ble_eq_true rfl) (fun X C B => ?_)
  have hR := B.1
  rw [F_X12_is] at h
  refine e_aload_n C 0 (dk dX12_is 0 rfl) rfl rfl ?_
  refine gf_X12_bad C K ht fl_X12_205 (dk dX12_is 1 rfl) ?_
  refine e_if_ne C 35 (dk dX12_is 2 rfl) (by decide) (fun c1 => ?_) (fun c1 => ?_)
  · rw [if_neg c1] at h
    exact j_X12_is_j35 C K ht hu0 hR h B
  · rw [if_pos c1] at h
    refine e_aload_n C 0 (dk dX12_is 3 rfl) rfl rfl ?_
    refine gf_X12_token C K ht fl_X12_179 (dk dX12_is 4 rfl) ?_
    refine e_iconst C 1 (dk dX12_is 5 rfl) (by decide) ?_
    refine e_icmp_ne C 35 (dk dX12_is 6 rfl) (by decide) (fun c11 => ?_) (fun c11 => ?_)
    · rw [if_neg c11] at h
      exact j_X12_is_j35 C K ht hu0 hR h B
    · rw [if_pos c11] at h
      refine e_aload_n C 1 (dk dX12_is 7 rfl) rfl rfl ?_
      refine e_callT (as := []) hu0 C cal_J0_length_8abf5 im_J0_length_8abf5 se_J0_length_8abf5 ml_X12_211 hR (by decide) (dk dX12_is 8 rfl) (c_slen K hu0 (rfl : F_slen u0 = _)) ⟨Nat.zero_le _, Nat.zero_le _⟩ (Nat.le_of_ble_eq_true rfl) rfl ?_
      refine e_aload_n C 0 (dk dX12_is 9 rfl) rfl rfl ?_
      refine gf_X12_stops C K ht fl_X12_202 (dk dX12_is 10 rfl) ?_
      refine e_aload_n C 0 (dk dX12_is 11 rfl) rfl rfl ?_
      refine gf_X12_begins C K ht fl_X12_176 (dk dX12_is 12 rfl) ?_
      refine e_isub C (dk dX12_is 13 rfl) ?_
      refine e_icmp_ne C 35 (dk dX12_is 14 rfl) (by decide) (fun c12 => ?_) (fun c12 => ?_)
      · rw [if_neg c12] at h
        exact j_X12_is_j35 C K ht hu0 hR h B
      · rw [if_pos c12] at h
        refine e_iconst C 1 (dk dX12_is 15 rfl) (by decide) ?_
        refine e_goto C 36 (dk dX12_is 16 rfl) (by decide) ?_
        exact j_X12_is_j36 C K ht hu0 hR h B
set_option maxRecDepth 20000 in
theorem l_X12_which_2 {X : FX} {g : WC} {Xo : Nat → va_E} {n : Nat} {kd : Nat → Nat} (C : Cx X g RX12 cX12_which 3) (K : KD n kd) {t : Nat} {a0 : Nat} {n0 : Nat} (ht : kd t = 13) (ha0 : SA kd a0 n0) {M : Mem} (hR : x_R X = rm 5) {OK : Sum (Int32) (Unit) → Prop} (hB : ∀ v, OK (Sum.inl v) → Bx X g (some .int) 5 n (some (.int v)) (ent g Xo kd M)) (hx : ∀ s, OK (Sum.inr s) → EW X g (x_s X).heap.size n 3 (ent g Xo kd M) 0 0 26 [] []) : ∀ (N9 : Nat) (x2 : Int32) (q : Sum (Int32) (Unit)), L_X12_which_2 t a0 n0 M N9 x2 = some q → OK q → EW X g (x_s X).heap.size n 3 (ent g Xo kd M) 0 0 2 [(0, .ref (g_N g + t)), (1, .ref (g_N g + a0)), (2, .int x2)] [] := by
  intro N9
  induction N9 with
  | zero =>
    intro x2 q h
    rw [L_X12_which_2.eq_1] at h
    cases h
  | succ m9 ih =>
    intro x2 q h hOK
    rw [L_X12_which_2.eq_2] at h
    refine e_iload_n C 2 (dk dX12_which 2 rfl) rfl rfl ?_
    refine e_aload_n C 1 (dk dX12_which 3 rfl) rfl rfl ?_
    refine m_slen C K ha0 (dk dX12_which 4 rfl) ?_
    refine e_icmp_ge C 26 (dk dX12_which 5 rfl) (by decide) (fun c1 => ?_) (fun c1 => ?_)
    · rw [if_pos c1] at h
      obtain rfl := Option.some.inj h
      refine e_lv [] rfl ?_
      exact hx _ hOK
    · rw [if_neg c1] at h
      refine e_aload_n C 0 (dk dX12_which 6 rfl) rfl rfl ?_
      refine e_aload_n C 1 (dk dX12_which 7 rfl) rfl rfl ?_
      refine e_iload_n C 2 (dk dX12_which 8 rfl) rfl rfl ?_
      obtain ⟨u2, hu2, h⟩ := ob h
      refine m_sld C K ha0 (dk dX12_which 9 rfl) hu2 ?_
      obtain ⟨q3, hq3, h⟩ := ob h
      refine e_callV (ci := 12) C cal_X12_is im_X12_is se_X12_is ml_X12_219 rfl hR (by decide) (dk dX12_which 10 rfl) (K.1 _ (by rw [ht]; decide)) (ent_o12 ht) (c_X12_is K ht (sld_lt hu2) hq3) ⟨Nat.zero_le _, Nat.zero_le _⟩ (Nat.le_of_ble_eq_true rfl) rfl ?_
      refine e_if_eq C 20 (dk dX12_which 11 rfl) (by decide) (fun c4 => ?_) (fun c4 => ?_)
      · rw [if_pos c4] at h
        refine e_iinc C [(2, .int (x2 + 1)), (0, .ref (g_N g + t)), (1, .ref (g_N g + a0))] 2 1 (dk dX12_which 14 rfl) rfl (by decide) (by decide) rfl ?_
        refine e_goto C 2 (dk dX12_which 15 rfl) (by decide) ?_
        refine e_lv [1, 2, 0] rfl ?_
        exact ih _ _ h hOK
      · rw [if_neg c4] at h
        refine e_iload_n C 2 (dk dX12_which 12 rfl) rfl rfl ?_
        obtain rfl := Option.some.inj h
        exact e_iret C (hB _ hOK) (nar1 _) (dk dX12_which 13 rfl)
set_option maxRecDepth 20000 in
theorem lb_X12_which_2 {X : FX} {g : WC} {Xo : Nat → va_E} {n : Nat} {kd : Nat → Nat} (C : Cx X g RX12 cX12_which 3) (K : KD n kd) {t : Nat} {a0 : Nat} {n0 : Nat} (ht : kd t = 13) (ha0 : SA kd a0 n0) {M : Mem} (hR : x_R X = rm 5) {T9 : Type} {f9 : Sum (Int32) (Unit) → Option T9} {b9 : T9} (hB : ∀ v, f9 (Sum.inl v) = some b9 → Bx X g (some .int) 5 n (some (.int v)) (ent g Xo kd M)) (hx : ∀ s, f9 (Sum.inr s) = some b9 → EW X g (x_s X).heap.size n 3 (ent g Xo kd M) 0 0 26 [] []) {x2 : Int32} (h : (L_X12_which_2 t a0 n0 M FU x2).bind f9 = some b9) : EW X g (x_s X).heap.size n 3 (ent g Xo kd M) 0 0 2 [(0, .ref (g_N g + t)), (1, .ref (g_N g + a0)), (2, .int x2)] [] := by
  obtain ⟨q, hq, h⟩ := ob h
  exact l_X12_which_2 C K ht ha0 hR (OK := fun q => f9 q = some b9) hB hx FU x2 q hq h
set_option maxRecDepth 20000 in
theorem c_X12_which {g : WC} {Xo : Nat → va_E} {n : Nat} {kd : Nat → Nat} (K : KD n kd) {t : Nat} {a0 : Nat} {n0 : Nat} (ht : kd t = 13) (ha0 : SA kd a0 n0) {M : Mem} {res : Int32} (h : F_X12_which t a0 n0 M = some res) : MC g yX12_which cX12_which 3 (some .int) 5 n [.ref (g_N g + t), .ref (g_N g + a0)] (ent g Xo kd M) (some (.int res)) (ent g Xo kd M) := by
  refine MC_of pn_X12 (Nat.le_of_ble_eq_true rfl) (fun X C B => ?_)
  have hR := B.1
  rw [F_X12_which] at h
  refine e_iconst C 0 (dk dX12_which 0 rfl) (by decide) ?_
  refine e_istore_n C [(2, .int 0), (0, .ref (g_N g + t)), (1, .ref (g_N g + a0))] (dk dX12_which 1 rfl) rfl (by decide) rfl ?_
  refine e_lv [1, 2, 0] rfl ?_
  refine lb_X12_which_2 C K ht ha0 hR (fun v h => ?_) (fun s6 h => ?_) h
  · obtain rfl := Option.some.inj (show some v = some _ from h)
    exact B
  dsimp only [Sum.elim_inr] at h
  refine e_iconst C (-1) (dk dX12_which 16 rfl) (by decide) ?_
  obtain rfl := Option.some.inj h
  exact e_iret C B (nar1 _) (dk dX12_which 17 rfl)
set_option maxRecDepth 20000 in
theorem c_X12_isMarked {g : WC} {Xo : Nat → va_E} {n : Nat} {kd : Nat → Nat} (K : KD n kd) {t : Nat} {p0 : Int32} (ht : kd t = 13) {M : Mem} {res : Bool} (h : F_X12_isMarked t p0 M = some res) : MC g yX12_isMarked cX12_isMarked 2 (some .boolean) 0 n [.ref (g_N g + t), .int p0] (ent g Xo kd M) (some (.int (bi res))) (ent g Xo kd M) := by
  refine MC_of pn_X12 (Nat.le_of_ble_eq_true rfl) (fun X C B => ?_)
  have hR := B.1
  rw [F_X12_isMarked] at h
  refine e_aload_n C 0 (dk dX12_isMarked 0 rfl) rfl rfl ?_
  refine gf_X12_bad C K ht fl_X12_205 (dk dX12_isMarked 1 rfl) ?_
  refine e_if_ne C 32 (dk dX12_isMarked 2 rfl) (by decide) (fun c1 => ?_) (fun c1 => ?_)
  · rw [if_neg c1] at h
    refine e_iconst C 0 (dk dX12_isMarked 16 rfl) (by decide) ?_
    obtain rfl := Option.some.inj h
    exact e_iret (v := bi false) C B (nar_bi _) (dk dX12_isMarked 17 rfl)
  · rw [if_pos c1] at h
    refine e_aload_n C 0 (dk dX12_isMarked 3 rfl) rfl rfl ?_
    refine gf_X12_token C K ht fl_X12_179 (dk dX12_isMarked 4 rfl) ?_
    refine e_iconst C 3 (dk dX12_isMarked 5 rfl) (by decide) ?_
    refine e_icmp_ne C 32 (dk dX12_isMarked 6 rfl) (by decide) (fun c2 => ?_) (fun c2 => ?_)
    · rw [if_neg c2] at h
      refine e_iconst C 0 (dk dX12_isMarked 16 rfl) (by decide) ?_
      obtain rfl := Option.some.inj h
      exact e_iret (v := bi false) C B (nar_bi _) (dk dX12_isMarked 17 rfl)
    · rw [if_pos c2] at h
      refine e_aload_n C 0 (dk dX12_isMarked 7 rfl) rfl rfl ?_
      refine gf_X12_tape C K ht fl_X12_68 (dk dX12_isMarked 8 rfl) ?_
      refine e_aload_n C 0 (dk dX12_isMarked 9 rfl) rfl rfl ?_
      refine gf_X12_begins C K ht fl_X12_176 (dk dX12_isMarked 10 rfl) ?_
      obtain ⟨v3, hv3, h⟩ := ob h
      refine m_ald C K (kd_X12_tape K ht) (dk dX12_isMarked 11 rfl) hv3 ?_
      refine e_iload_n C 1 (dk dX12_isMarked 12 rfl) rfl rfl ?_
      refine e_icmp_ne C 32 (dk dX12_isMarked 13 rfl) (by decide) (fun c4 => ?_) (fun c4 => ?_)
      · rw [if_neg c4] at h
        refine e_iconst C 0 (dk dX12_isMarked 16 rfl) (by decide) ?_
        obtain rfl := Option.some.inj h
        exact e_iret (v := bi false) C B (nar_bi _) (dk dX12_isMarked 17 rfl)
      · rw [if_pos c4] at h
        refine e_iconst C 1 (dk dX12_isMarked 14 rfl) (by decide) ?_
        refine e_goto C 33 (dk dX12_isMarked 15 rfl) (by decide) ?_
        obtain rfl := Option.some.inj h
        exact e_iret (v := bi true) C B (nar_bi _) (dk dX12_isMarked 17 rfl)
set_option maxRecDepth 20000 in
theorem j_X12_mark_j20 {X : FX} {g : WC} {Xo : Nat → va_E} {n : Nat} {kd : Nat → Nat} (C : Cx X g RX12 cX12_mark 2) (K : KD n kd) {t : Nat} (ht : kd t = 13) (hR : x_R X = rm 2) {M : Mem} {res : Mem} (h : J_X12_mark_j20 t M = some res) (B : Bx X g none 2 n none (ent g Xo kd res)) : EW X g (x_s X).heap.size n 2 (ent g Xo kd M) 0 0 20 [(0, .ref (g_N g + t))] [] := by
  rw [J_X12_mark_j20] at h
  refine e_aload_n C 0 (dk dX12_mark 10 rfl) rfl rfl ?_
  refine gf_X12_bad C K ht fl_X12_205 (dk dX12_mark 11 rfl) ?_
  refine e_if_ne C 31 (dk dX12_mark 12 rfl) (by decide) (fun c2 => ?_) (fun c2 => ?_)
  · rw [if_neg c2] at h
    obtain rfl := Option.some.inj h
    exact e_vret C B (dk dX12_mark 15 rfl)
  · rw [if_pos c2] at h
    refine e_aload_n C 0 (dk dX12_mark 13 rfl) rfl rfl ?_
    obtain ⟨q3, hq3, h⟩ := ob h
    refine e_callV (ci := 12) C cal_X12_stepOn im_X12_stepOn se_X12_stepOn ml_X12_230 rfl hR (by decide) (dk dX12_mark 14 rfl) (K.1 _ (by rw [ht]; decide)) (ent_o12 ht) (c_X12_stepOn K ht hq3) ⟨Nat.zero_le _, Nat.zero_le _⟩ (Nat.le_of_ble_eq_true rfl) rfl ?_
    obtain rfl := Option.some.inj h
    exact e_vret C B (dk dX12_mark 15 rfl)
set_option maxRecDepth 20000 in
theorem c_X12_mark {g : WC} {Xo : Nat → va_E} {n : Nat} {kd : Nat → Nat} (K : KD n kd) {t : Nat} {p0 : Int32} (ht : kd t = 13) {M : Mem} {res : Mem} (h : F_X12_mark t p0 M = some res) : MC g yX12_mark cX12_mark 2 none 2 n [.ref (g_N g + t), .int p0] (ent g Xo kd M) none (ent g Xo kd res) := by
  refine MC_of pn_X12 (Nat.le_of_ble_eq_true rfl) (fun X C B => ?_)
  have hR := B.1
  rw [F_X12_mark] at h
  refine e_aload_n C 0 (dk dX12_mark 0 rfl) rfl rfl ?_
  refine gf_X12_bad C K ht fl_X12_205 (dk dX12_mark 1 rfl) ?_
  refine e_if_ne C 20 (dk dX12_mark 2 rfl) (by decide) (fun c1 => ?_) (fun c1 => ?_)
  · rw [if_neg c1] at h
    refine e_lv [0] rfl ?_
    exact j_X12_mark_j20 C K ht hR h B
  · rw [if_pos c1] at h
    refine e_aload_n C 0 (dk dX12_mark 3 rfl) rfl rfl ?_
    refine e_iload_n C 1 (dk dX12_mark 4 rfl) rfl rfl ?_
    obtain ⟨q4, hq4, h⟩ := ob h
    refine e_callV (ci := 12) C cal_X12_isMarked im_X12_isMarked se_X12_isMarked ml_X12_223 rfl hR (by decide) (dk dX12_mark 5 rfl) (K.1 _ (by rw [ht]; decide)) (ent_o12 ht) (c_X12_isMarked K ht hq4) ⟨Nat.zero_le _, Nat.zero_le _⟩ (Nat.le_of_ble_eq_true rfl) rfl ?_
    refine e_if_ne C 20 (dk dX12_mark 6 rfl) (by decide) (fun c5 => ?_) (fun c5 => ?_)
    · rw [if_neg c5] at h
      refine e_lv [0] rfl ?_
      exact j_X12_mark_j20 C K ht hR h B
    · rw [if_pos c5] at h
      refine e_aload_n C 0 (dk dX12_mark 7 rfl) rfl rfl ?_
      refine e_iconst C 1 (dk dX12_mark 8 rfl) (by decide) ?_
      refine e_callV (ci := 12) C cal_X12_wrong im_X12_wrong se_X12_wrong ml_X12_226 rfl hR (by decide) (dk dX12_mark 9 rfl) (K.1 _ (by rw [ht]; decide)) (ent_o12 ht) (c_X12_wrong K ht (rfl : F_X12_wrong t 1 M = _)) ⟨Nat.zero_le _, Nat.zero_le _⟩ (Nat.le_of_ble_eq_true rfl) rfl ?_
      refine e_lv [0] rfl ?_
      exact j_X12_mark_j20 C K ht hR h B
set_option maxRecDepth 20000 in
theorem j_X12_numberNow_j59 {X : FX} {g : WC} {Xo : Nat → va_E} {n : Nat} {kd : Nat → Nat} (C : Cx X g RX12 cX12_numberNow 3) (K : KD n kd) {t : Nat} (ht : kd t = 13) (hR : x_R X = rm 1) {M : Mem} {res : Int32 × Mem} (h : J_X12_numberNow_j59 t M = res) (B : Bx X g (some .int) 1 n (some (.int res.1)) (ent g Xo kd res.2)) : EW X g (x_s X).heap.size n 3 (ent g Xo kd M) 0 0 59 [(0, .ref (g_N g + t))] [] := by
  rw [J_X12_numberNow_j59] at h
  refine e_aload_n C 0 (dk dX12_numberNow 31 rfl) rfl rfl ?_
  refine gf_X12_bad C K ht fl_X12_205 (dk dX12_numberNow 32 rfl) ?_
  suffices hm5 : EW X g (x_s X).heap.size n 3 (ent g Xo kd M) 0 0 74 [(0, .ref (g_N g + t))] [.int (if (M t 21) = 0 then (M t 18) else (0 : Int32))] from (by
    refine e_if_ne C 73 (dk dX12_numberNow 33 rfl) (by decide) (fun c4 => ?_) (fun c4 => ?_)
    · rw [show (if (M t 21) = 0 then (M t 18) else (0 : Int32)) = (0 : Int32) from if_neg c4] at hm5
      refine e_iconst C 0 (dk dX12_numberNow 37 rfl) (by decide) ?_
      exact hm5
    · rw [show (if (M t 21) = 0 then (M t 18) else (0 : Int32)) = (M t 18) from if_pos c4] at hm5
      refine e_aload_n C 0 (dk dX12_numberNow 34 rfl) rfl rfl ?_
      refine gf_X12_number C K ht fl_X12_189 (dk dX12_numberNow 35 rfl) ?_
      refine e_goto C 74 (dk dX12_numberNow 36 rfl) (by decide) ?_
      exact hm5)
  subst h
  exact e_iret C B (nar1 _) (dk dX12_numberNow 38 rfl)
set_option maxRecDepth 20000 in
theorem j_X12_numberNow_j54 {X : FX} {g : WC} {Xo : Nat → va_E} {n : Nat} {kd : Nat → Nat} (C : Cx X g RX12 cX12_numberNow 3) (K : KD n kd) {t : Nat} (ht : kd t = 13) (hR : x_R X = rm 1) {M : Mem} {res : Int32 × Mem} (h : J_X12_numberNow_j54 t M = res) (B : Bx X g (some .int) 1 n (some (.int res.1)) (ent g Xo kd res.2)) : EW X g (x_s X).heap.size n 3 (ent g Xo kd M) 0 0 54 [(0, .ref (g_N g + t))] [] := by
  rw [J_X12_numberNow_j54] at h
  refine e_aload_n C 0 (dk dX12_numberNow 28 rfl) rfl rfl ?_
  refine e_iconst C 2 (dk dX12_numberNow 29 rfl) (by decide) ?_
  refine e_callV (ci := 12) C cal_X12_wrong im_X12_wrong se_X12_wrong ml_X12_226 rfl hR (by decide) (dk dX12_numberNow 30 rfl) (K.1 _ (by rw [ht]; decide)) (ent_o12 ht) (c_X12_wrong K ht (rfl : F_X12_wrong t 2 M = _)) ⟨Nat.zero_le _, Nat.zero_le _⟩ (Nat.le_of_ble_eq_true rfl) rfl ?_
  exact j_X12_numberNow_j59 C K ht hR h B
set_option maxRecDepth 20000 in
theorem c_X12_numberNow {g : WC} {Xo : Nat → va_E} {n : Nat} {kd : Nat → Nat} (K : KD n kd) {t : Nat} {p0 : Int32} {p1 : Int32} (ht : kd t = 13) {M : Mem} {res : Int32 × Mem} (h : F_X12_numberNow t p0 p1 M = res) : MC g yX12_numberNow cX12_numberNow 3 (some .int) 1 n [.ref (g_N g + t), .int p0, .int p1] (ent g Xo kd M) (some (.int res.1)) (ent g Xo kd res.2) := by
  refine MC_of pn_X12 (Nat.le_of_ble_eq_true rfl) (fun X C B => ?_)
  have hR := B.1
  rw [F_X12_numberNow] at h
  refine e_aload_n C 0 (dk dX12_numberNow 0 rfl) rfl rfl ?_
  refine gf_X12_bad C K ht fl_X12_205 (dk dX12_numberNow 1 rfl) ?_
  refine e_if_eq C 9 (dk dX12_numberNow 2 rfl) (by decide) (fun c1 => ?_) (fun c1 => ?_)
  · rw [if_pos c1] at h
    refine e_aload_n C 0 (dk dX12_numberNow 5 rfl) rfl rfl ?_
    refine gf_X12_token C K ht fl_X12_179 (dk dX12_numberNow 6 rfl) ?_
    refine e_iconst C 2 (dk dX12_numberNow 7 rfl) (by decide) ?_
    refine e_icmp_eq C 25 (dk dX12_numberNow 8 rfl) (by decide) (fun c2 => ?_) (fun c2 => ?_)
    · rw [if_pos c2] at h
      refine e_aload_n C 0 (dk dX12_numberNow 13 rfl) rfl rfl ?_
      refine gf_X12_stops C K ht fl_X12_202 (dk dX12_numberNow 14 rfl) ?_
      refine e_aload_n C 0 (dk dX12_numberNow 15 rfl) rfl rfl ?_
      refine gf_X12_begins C K ht fl_X12_176 (dk dX12_numberNow 16 rfl) ?_
      refine e_isub C (dk dX12_numberNow 17 rfl) ?_
      refine e_iconst C 4 (dk dX12_numberNow 18 rfl) (by decide) ?_
      refine e_icmp_gt C 54 (dk dX12_numberNow 19 rfl) (by decide) (fun c3 => ?_) (fun c3 => ?_)
      · rw [if_pos c3] at h
        refine e_lv [0] rfl ?_
        exact j_X12_numberNow_j54 C K ht hR h B
      · rw [if_neg c3] at h
        refine e_aload_n C 0 (dk dX12_numberNow 20 rfl) rfl rfl ?_
        refine gf_X12_number C K ht fl_X12_189 (dk dX12_numberNow 21 rfl) ?_
        refine e_iload_n C 1 (dk dX12_numberNow 22 rfl) rfl rfl ?_
        refine e_icmp_lt C 54 (dk dX12_numberNow 23 rfl) (by decide) (fun c6 => ?_) (fun c6 => ?_)
        · rw [if_pos c6] at h
          refine e_lv [0] rfl ?_
          exact j_X12_numberNow_j54 C K ht hR h B
        · rw [if_neg c6] at h
          refine e_aload_n C 0 (dk dX12_numberNow 24 rfl) rfl rfl ?_
          refine gf_X12_number C K ht fl_X12_189 (dk dX12_numberNow 25 rfl) ?_
          refine e_iload_n C 2 (dk dX12_numberNow 26 rfl) rfl rfl ?_
          refine e_icmp_le C 59 (dk dX12_numberNow 27 rfl) (by decide) (fun c7 => ?_) (fun c7 => ?_)
          · rw [if_pos c7] at h
            refine e_lv [0] rfl ?_
            exact j_X12_numberNow_j59 C K ht hR h B
          · rw [if_neg c7] at h
            refine e_lv [0] rfl ?_
            exact j_X12_numberNow_j54 C K ht hR h B
    · rw [if_neg c2] at h
      refine e_aload_n C 0 (dk dX12_numberNow 9 rfl) rfl rfl ?_
      refine e_iconst C 1 (dk dX12_numberNow 10 rfl) (by decide) ?_
      refine e_callV (ci := 12) C cal_X12_wrong im_X12_wrong se_X12_wrong ml_X12_226 rfl hR (by decide) (dk dX12_numberNow 11 rfl) (K.1 _ (by rw [ht]; decide)) (ent_o12 ht) (c_X12_wrong K ht (rfl : F_X12_wrong t 1 M = _)) ⟨Nat.zero_le _, Nat.zero_le _⟩ (Nat.le_of_ble_eq_true rfl) rfl ?_
      refine e_goto C 59 (dk dX12_numberNow 12 rfl) (by decide) ?_
      refine e_lv [0] rfl ?_
      exact j_X12_numberNow_j59 C K ht hR h B
  · rw [if_neg c1] at h
    refine e_iconst C 0 (dk dX12_numberNow 3 rfl) (by decide) ?_
    subst h
    exact e_iret C B (nar1 _) (dk dX12_numberNow 4 rfl)
set_option maxRecDepth 20000 in
theorem c_X12_readNumber {g : WC} {Xo : Nat → va_E} {n : Nat} {kd : Nat → Nat} (K : KD n kd) {t : Nat} {p0 : Int32} {p1 : Int32} (ht : kd t = 13) {M : Mem} {res : Int32 × Mem} (h : F_X12_readNumber t p0 p1 M = some res) : MC g yX12_readNumber cX12_readNumber 4 (some .int) 2 n [.ref (g_N g + t), .int p0, .int p1] (ent g Xo kd M) (some (.int res.1)) (ent g Xo kd res.2) := by
  refine MC_of pn_X12 (Nat.le_of_ble_eq_true rfl) (fun X C B => ?_)
  have hR := B.1
  rw [F_X12_readNumber] at h
  refine e_aload_n C 0 (dk dX12_readNumber 0 rfl) rfl rfl ?_
  refine e_iload_n C 1 (dk dX12_readNumber 1 rfl) rfl rfl ?_
  refine e_iload_n C 2 (dk dX12_readNumber 2 rfl) rfl rfl ?_
  refine e_callV (ci := 12) C cal_X12_numberNow im_X12_numberNow se_X12_numberNow ml_X12_233 rfl hR (by decide) (dk dX12_readNumber 3 rfl) (K.1 _ (by rw [ht]; decide)) (ent_o12 ht) (c_X12_numberNow K ht (rfl : F_X12_numberNow t p0 p1 M = _)) ⟨Nat.zero_le _, Nat.zero_le _⟩ (Nat.le_of_ble_eq_true rfl) rfl ?_
  refine e_istore_n C [(3, .int ((F_X12_numberNow t p0 p1 M).1)), (0, .ref (g_N g + t)), (1, .int p0), (2, .int p1)] (dk dX12_readNumber 4 rfl) rfl (by decide) rfl ?_
  refine e_aload_n C 1 (dk dX12_readNumber 5 rfl) rfl rfl ?_
  refine gf_X12_bad C K ht fl_X12_205 (dk dX12_readNumber 6 rfl) ?_
  refine e_if_ne C 18 (dk dX12_readNumber 7 rfl) (by decide) (fun c1 => ?_) (fun c1 => ?_)
  · rw [if_neg c1] at h
    refine e_iload_n C 0 (dk dX12_readNumber 10 rfl) rfl rfl ?_
    obtain rfl := Option.some.inj h
    exact e_iret C B (nar1 _) (dk dX12_readNumber 11 rfl)
  · rw [if_pos c1] at h
    refine e_aload_n C 1 (dk dX12_readNumber 8 rfl) rfl rfl ?_
    obtain ⟨q2, hq2, h⟩ := ob h
    refine e_callV (ci := 12) C cal_X12_stepOn im_X12_stepOn se_X12_stepOn ml_X12_230 rfl hR (by decide) (dk dX12_readNumber 9 rfl) (K.1 _ (by rw [ht]; decide)) (ent_o12 ht) (c_X12_stepOn K ht hq2) ⟨Nat.zero_le _, Nat.zero_le _⟩ (Nat.le_of_ble_eq_true rfl) rfl ?_
    refine e_iload_n C 0 (dk dX12_readNumber 10 rfl) rfl rfl ?_
    obtain rfl := Option.some.inj h
    exact e_iret C B (nar1 _) (dk dX12_readNumber 11 rfl)
set_option maxRecDepth 20000 in
theorem j_X12_streetNow_j32 {X : FX} {g : WC} {Xo : Nat → va_E} {n : Nat} {kd : Nat → Nat} (C : Cx X g RX12 cX12_streetNow 2) (K : KD n kd) {t : Nat} (ht : kd t = 13) (hR : x_R X = rm 2) {x1 : Int32} {M : Mem} {res : Int32 × Mem} (h : J_X12_streetNow_j32 t x1 M = res) (B : Bx X g (some .int) 2 n (some (.int res.1)) (ent g Xo kd res.2)) : EW X g (x_s X).heap.size n 2 (ent g Xo kd M) 0 0 32 [(0, .ref (g_N g + t)), (1, .int x1)] [] := by
  rw [J_X12_streetNow_j32] at h
  refine e_aload_n C 0 (dk dX12_streetNow 17 rfl) rfl rfl ?_
  refine e_iconst C 1 (dk dX12_streetNow 18 rfl) (by decide) ?_
  refine pf_X12_anyStreet (b := true) C K ht fl_X12_236 (dk dX12_streetNow 19 rfl) ?_
  refine e_aload_n C 0 (dk dX12_streetNow 20 rfl) rfl rfl ?_
  refine gf_X12_bad C K ht fl_X12_205 (dk dX12_streetNow 21 rfl) ?_
  suffices hm3 : EW X g (x_s X).heap.size n 2 (ent g Xo kd (up M t 24 (bi true))) 0 0 49 [(0, .ref (g_N g + t)), (1, .int x1)] [.int (if ((up M t 24 (bi true)) t 21) = 0 then x1 else (0 : Int32))] from (by
    refine e_if_ne C 48 (dk dX12_streetNow 22 rfl) (by decide) (fun c2 => ?_) (fun c2 => ?_)
    · rw [show (if ((up M t 24 (bi true)) t 21) = 0 then x1 else (0 : Int32)) = (0 : Int32) from if_neg c2] at hm3
      refine e_iconst C 0 (dk dX12_streetNow 25 rfl) (by decide) ?_
      exact hm3
    · rw [show (if ((up M t 24 (bi true)) t 21) = 0 then x1 else (0 : Int32)) = x1 from if_pos c2] at hm3
      refine e_iload_n C 1 (dk dX12_streetNow 23 rfl) rfl rfl ?_
      refine e_goto C 49 (dk dX12_streetNow 24 rfl) (by decide) ?_
      exact hm3)
  subst h
  exact e_iret C B (nar1 _) (dk dX12_streetNow 26 rfl)
set_option maxRecDepth 20000 in
theorem c_X12_streetNow {g : WC} {Xo : Nat → va_E} {n : Nat} {kd : Nat → Nat} (K : KD n kd) {t : Nat} (ht : kd t = 13) {M : Mem} {res : Int32 × Mem} (h : F_X12_streetNow t M = res) : MC g yX12_streetNow cX12_streetNow 2 (some .int) 2 n [.ref (g_N g + t)] (ent g Xo kd M) (some (.int res.1)) (ent g Xo kd res.2) := by
  refine MC_of pn_X12 (Nat.le_of_ble_eq_true rfl) (fun X C B => ?_)
  have hR := B.1
  rw [F_X12_streetNow] at h
  refine e_aload_n C 0 (dk dX12_streetNow 0 rfl) rfl rfl ?_
  refine e_iconst C 0 (dk dX12_streetNow 1 rfl) (by decide) ?_
  refine e_sipush C 9999 (dk dX12_streetNow 2 rfl) (by decide) ?_
  refine e_callV (ci := 12) C cal_X12_numberNow im_X12_numberNow se_X12_numberNow ml_X12_233 rfl hR (by decide) (dk dX12_streetNow 3 rfl) (K.1 _ (by rw [ht]; decide)) (ent_o12 ht) (c_X12_numberNow K ht (rfl : F_X12_numberNow t 0 9999 M = _)) ⟨Nat.zero_le _, Nat.zero_le _⟩ (Nat.le_of_ble_eq_true rfl) rfl ?_
  refine e_istore_n C [(1, .int ((F_X12_numberNow t 0 9999 M).1)), (0, .ref (g_N g + t))] (dk dX12_streetNow 4 rfl) rfl (by decide) rfl ?_
  refine e_aload_n C 1 (dk dX12_streetNow 5 rfl) rfl rfl ?_
  refine gf_X12_bad C K ht fl_X12_205 (dk dX12_streetNow 6 rfl) ?_
  refine e_if_ne C 32 (dk dX12_streetNow 7 rfl) (by decide) (fun c1 => ?_) (fun c1 => ?_)
  · rw [if_neg c1] at h
    refine e_lv [1, 0] rfl ?_
    exact j_X12_streetNow_j32 C K ht hR h B
  · rw [if_pos c1] at h
    refine e_iload_n C 0 (dk dX12_streetNow 8 rfl) rfl rfl ?_
    refine e_aload_n C 1 (dk dX12_streetNow 9 rfl) rfl rfl ?_
    refine gf_X12_told C K ht fl_X12_38 (dk dX12_streetNow 10 rfl) ?_
    refine e_bipush C 7 (dk dX12_streetNow 11 rfl) (by decide) ?_
    refine m_aldc C K (kd_X12_told K ht) 7 (dk dX12_streetNow 12 rfl) (by decide) (by decide) ?_
    refine e_icmp_lt C 32 (dk dX12_streetNow 13 rfl) (by decide) (fun c4 => ?_) (fun c4 => ?_)
    · rw [if_pos c4] at h
      refine e_lv [1, 0] rfl ?_
      exact j_X12_streetNow_j32 C K ht hR h B
    · rw [if_neg c4] at h
      refine e_aload_n C 1 (dk dX12_streetNow 14 rfl) rfl rfl ?_
      refine e_iconst C 3 (dk dX12_streetNow 15 rfl) (by decide) ?_
      refine e_callV (ci := 12) C cal_X12_wrong im_X12_wrong se_X12_wrong ml_X12_226 rfl hR (by decide) (dk dX12_streetNow 16 rfl) (K.1 _ (by rw [ht]; decide)) (ent_o12 ht) (c_X12_wrong K ht (rfl : F_X12_wrong t 3 (F_X12_numberNow t 0 9999 M).2 = _)) ⟨Nat.zero_le _, Nat.zero_le _⟩ (Nat.le_of_ble_eq_true rfl) rfl ?_
      refine e_lv [1, 0] rfl ?_
      exact j_X12_streetNow_j32 C K ht hR h B
set_option maxRecDepth 20000 in
theorem c_X12_readStreet {g : WC} {Xo : Nat → va_E} {n : Nat} {kd : Nat → Nat} (K : KD n kd) {t : Nat} (ht : kd t = 13) {M : Mem} {res : Int32 × Mem} (h : F_X12_readStreet t M = some res) : MC g yX12_readStreet cX12_readStreet 2 (some .int) 3 n [.ref (g_N g + t)] (ent g Xo kd M) (some (.int res.1)) (ent g Xo kd res.2) := by
  refine MC_of pn_X12 (Nat.le_of_ble_eq_true rfl) (fun X C B => ?_)
  have hR := B.1
  rw [F_X12_readStreet] at h
  refine e_aload_n C 0 (dk dX12_readStreet 0 rfl) rfl rfl ?_
  refine e_callV (ci := 12) C cal_X12_streetNow im_X12_streetNow se_X12_streetNow ml_X12_240 rfl hR (by decide) (dk dX12_readStreet 1 rfl) (K.1 _ (by rw [ht]; decide)) (ent_o12 ht) (c_X12_streetNow K ht (rfl : F_X12_streetNow t M = _)) ⟨Nat.zero_le _, Nat.zero_le _⟩ (Nat.le_of_ble_eq_true rfl) rfl ?_
  refine e_istore_n C [(1, .int ((F_X12_streetNow t M).1)), (0, .ref (g_N g + t))] (dk dX12_readStreet 2 rfl) rfl (by decide) rfl ?_
  refine e_aload_n C 1 (dk dX12_readStreet 3 rfl) rfl rfl ?_
  refine gf_X12_bad C K ht fl_X12_205 (dk dX12_readStreet 4 rfl) ?_
  refine e_if_ne C 16 (dk dX12_readStreet 5 rfl) (by decide) (fun c1 => ?_) (fun c1 => ?_)
  · rw [if_neg c1] at h
    refine e_iload_n C 0 (dk dX12_readStreet 8 rfl) rfl rfl ?_
    obtain rfl := Option.some.inj h
    exact e_iret C B (nar1 _) (dk dX12_readStreet 9 rfl)
  · rw [if_pos c1] at h
    refine e_aload_n C 1 (dk dX12_readStreet 6 rfl) rfl rfl ?_
    obtain ⟨q2, hq2, h⟩ := ob h
    refine e_callV (ci := 12) C cal_X12_stepOn im_X12_stepOn se_X12_stepOn ml_X12_230 rfl hR (by decide) (dk dX12_readStreet 7 rfl) (K.1 _ (by rw [ht]; decide)) (ent_o12 ht) (c_X12_stepOn K ht hq2) ⟨Nat.zero_le _, Nat.zero_le _⟩ (Nat.le_of_ble_eq_true rfl) rfl ?_
    refine e_iload_n C 0 (dk dX12_readStreet 8 rfl) rfl rfl ?_
    obtain rfl := Option.some.inj h
    exact e_iret C B (nar1 _) (dk dX12_readStreet 9 rfl)
set_option maxRecDepth 20000 in
theorem c_X12_lay {g : WC} {Xo : Nat → va_E} {n : Nat} {kd : Nat → Nat} (K : KD n kd) {t : Nat} {p0 : Int32} (ht : kd t = 13) {M : Mem} {res : Mem} (h : F_X12_lay t p0 M = some res) : MC g yX12_lay cX12_lay 2 none 0 n [.ref (g_N g + t), .int p0] (ent g Xo kd M) none (ent g Xo kd res) := by
  refine MC_of pn_X12 (Nat.le_of_ble_eq_true rfl) (fun X C B => ?_)
  have hR := B.1
  rw [F_X12_lay] at h
  refine e_aload_n C 0 (dk dX12_lay 0 rfl) rfl rfl ?_
  refine gf_X12_bad C K ht fl_X12_205 (dk dX12_lay 1 rfl) ?_
  refine e_if_eq C 8 (dk dX12_lay 2 rfl) (by decide) (fun c1 => ?_) (fun c1 => ?_)
  · rw [if_pos c1] at h
    refine e_aload_n C 0 (dk dX12_lay 4 rfl) rfl rfl ?_
    refine gf_X12_signs C K ht fl_X12_62 (dk dX12_lay 5 rfl) ?_
    refine e_sipush C 700 (dk dX12_lay 6 rfl) (by decide) ?_
    refine e_aload_n C 0 (dk dX12_lay 7 rfl) rfl rfl ?_
    refine gf_X12_told C K ht fl_X12_38 (dk dX12_lay 8 rfl) ?_
    refine e_bipush C 13 (dk dX12_lay 9 rfl) (by decide) ?_
    refine m_aldc C K (kd_X12_told K ht) 13 (dk dX12_lay 10 rfl) (by decide) (by decide) ?_
    refine e_iadd C (dk dX12_lay 11 rfl) ?_
    refine e_iload_n C 1 (dk dX12_lay 12 rfl) rfl rfl ?_
    obtain ⟨M2, hM2, h⟩ := ob h
    refine m_ast C K (kd_X12_signs K ht) (dk dX12_lay 13 rfl) hM2 ?_
    refine e_aload_n C 0 (dk dX12_lay 14 rfl) rfl rfl ?_
    refine gf_X12_told C K ht fl_X12_38 (dk dX12_lay 15 rfl) ?_
    refine e_bipush C 13 (dk dX12_lay 16 rfl) (by decide) ?_
    refine e_dup2 C (dk dX12_lay 17 rfl) rfl rfl ?_
    obtain ⟨v3, hv3, h⟩ := ob h
    refine m_ald C K (kd_X12_told K ht) (dk dX12_lay 18 rfl) hv3 ?_
    refine e_iconst C 1 (dk dX12_lay 19 rfl) (by decide) ?_
    refine e_iadd C (dk dX12_lay 20 rfl) ?_
    obtain ⟨M4, hM4, h⟩ := ob h
    refine m_ast C K (kd_X12_told K ht) (dk dX12_lay 21 rfl) hM4 ?_
    obtain rfl := Option.some.inj h
    exact e_vret C B (dk dX12_lay 22 rfl)
  · rw [if_neg c1] at h
    obtain rfl := Option.some.inj h
    exact e_vret C B (dk dX12_lay 3 rfl)
set_option maxRecDepth 20000 in
theorem j_X12_readStreets_j49 {X : FX} {g : WC} {Xo : Nat → va_E} {n : Nat} {kd : Nat → Nat} (C : Cx X g RX12 cX12_readStreets 6) (K : KD n kd) {t : Nat} {a0 : Nat} {n0 : Nat} (ht : kd t = 13) (ha0 : IA kd a0 n0) {x2 : Int32} {x3 : Int32} (hR : x_R X = rm 4) {OK : Sum (Int32 × Mem) (Int32 × Mem) → Prop} (hB : ∀ v, OK (Sum.inl v) → Bx X g (some .int) 4 n (some (.int v.1)) (ent g Xo kd v.2)) (hx : ∀ s, OK (Sum.inr s) → EW X g (x_s X).heap.size n 6 (ent g Xo kd s.2) 0 0 79 [(4, .int s.1)] []) {rec : Int32 → Mem → Option (Sum (Int32 × Mem) (Int32 × Mem))} (hrec : ∀ (x4 : Int32) (M : Mem) (q : Sum (Int32 × Mem) (Int32 × Mem)), rec x4 M = some q → OK q → EW X g (x_s X).heap.size n 6 (ent g Xo kd M) 0 0 23 [(0, .ref (g_N g + t)), (1, .ref (g_N g + a0)), (2, .int x2), (3, .int x3), (4, .int x4)] []) {x4 : Int32} {M : Mem} (q : Sum (Int32 × Mem) (Int32 × Mem)) (h : J_X12_readStreets_j49 t a0 n0 rec x2 x3 x4 M = some q) (hOK : OK q) : EW X g (x_s X).heap.size n 6 (ent g Xo kd M) 0 0 49 [(0, .ref (g_N g + t)), (1, .ref (g_N g + a0)), (2, .int x2), (3, .int x3), (4, .int x4)] [] := by
  rw [J_X12_readStreets_j49] at h
  refine e_aload_n C 0 (dk dX12_readStreets 25 rfl) rfl rfl ?_
  obtain ⟨q5, hq5, h⟩ := ob h
  refine e_callV (ci := 12) C cal_X12_readStreet im_X12_readStreet se_X12_readStreet ml_X12_280 rfl hR (by decide) (dk dX12_readStreets 26 rfl) (K.1 _ (by rw [ht]; decide)) (ent_o12 ht) (c_X12_readStreet K ht hq5) ⟨Nat.zero_le _, Nat.zero_le _⟩ (Nat.le_of_ble_eq_true rfl) rfl ?_
  refine e_istore C [(5, .int q5.1), (0, .ref (g_N g + t)), (1, .ref (g_N g + a0)), (2, .int x2), (3, .int x3), (4, .int x4)] (dk dX12_readStreets 27 rfl) (by decide) rfl ?_
  refine e_aload_n C 1 (dk dX12_readStreets 28 rfl) rfl rfl ?_
  refine gf_X12_bad C K ht fl_X12_205 (dk dX12_readStreets 29 rfl) ?_
  refine e_if_eq C 65 (dk dX12_readStreets 30 rfl) (by decide) (fun c6 => ?_) (fun c6 => ?_)
  · rw [if_pos c6] at h
    refine e_aload_n C 2 (dk dX12_readStreets 33 rfl) rfl rfl ?_
    refine e_iload_n C 3 (dk dX12_readStreets 34 rfl) rfl rfl ?_
    refine e_iload C 5 (dk dX12_readStreets 35 rfl) rfl ?_
    refine e_iadd C (dk dX12_readStreets 36 rfl) ?_
    refine e_iload C 0 (dk dX12_readStreets 37 rfl) rfl ?_
    obtain ⟨M7, hM7, h⟩ := ob h
    refine m_ast C K ha0 (dk dX12_readStreets 38 rfl) hM7 ?_
    refine e_iinc C [(4, .int (x4 + 1)), (5, .int q5.1), (0, .ref (g_N g + t)), (1, .ref (g_N g + a0)), (2, .int x2), (3, .int x3)] 5 1 (dk dX12_readStreets 39 rfl) rfl (by decide) (by decide) rfl ?_
    refine e_goto C 23 (dk dX12_readStreets 40 rfl) (by decide) ?_
    refine e_lv [2, 3, 4, 5, 0] rfl ?_
    exact hrec _ _ _ h hOK
  · rw [if_neg c6] at h
    refine e_iload C 5 (dk dX12_readStreets 31 rfl) rfl ?_
    obtain rfl := Option.some.inj h
    exact e_iret C (hB _ hOK) (nar1 _) (dk dX12_readStreets 32 rfl)
set_option maxRecDepth 20000 in
theorem l_X12_readStreets_23 {X : FX} {g : WC} {Xo : Nat → va_E} {n : Nat} {kd : Nat → Nat} (C : Cx X g RX12 cX12_readStreets 6) (K : KD n kd) {t : Nat} {a0 : Nat} {n0 : Nat} (ht : kd t = 13) (ha0 : IA kd a0 n0) {x2 : Int32} {x3 : Int32} (hR : x_R X = rm 4) {OK : Sum (Int32 × Mem) (Int32 × Mem) → Prop} (hB : ∀ v, OK (Sum.inl v) → Bx X g (some .int) 4 n (some (.int v.1)) (ent g Xo kd v.2)) (hx : ∀ s, OK (Sum.inr s) → EW X g (x_s X).heap.size n 6 (ent g Xo kd s.2) 0 0 79 [(4, .int s.1)] []) : ∀ (N9 : Nat) (x4 : Int32) (M : Mem) (q : Sum (Int32 × Mem) (Int32 × Mem)), L_X12_readStreets_23 t a0 n0 x2 x3 N9 x4 M = some q → OK q → EW X g (x_s X).heap.size n 6 (ent g Xo kd M) 0 0 23 [(0, .ref (g_N g + t)), (1, .ref (g_N g + a0)), (2, .int x2), (3, .int x3), (4, .int x4)] [] := by
  intro N9
  induction N9 with
  | zero =>
    intro x4 M q h
    rw [L_X12_readStreets_23.eq_1] at h
    cases h
  | succ m9 ih =>
    intro x4 M q h hOK
    rw [L_X12_readStreets_23.eq_2] at h
    refine e_aload_n C 0 (dk dX12_readStreets 12 rfl) rfl rfl ?_
    refine gf_X12_bad C K ht fl_X12_205 (dk dX12_readStreets 13 rfl) ?_
    refine e_if_ne C 79 (dk dX12_readStreets 14 rfl) (by decide) (fun c2 => ?_) (fun c2 => ?_)
    · rw [if_neg c2] at h
      obtain rfl := Option.some.inj h
      refine e_lv [4] rfl ?_
      exact hx _ hOK
    · rw [if_pos c2] at h
      refine e_aload_n C 0 (dk dX12_readStreets 15 rfl) rfl rfl ?_
      refine gf_X12_token C K ht fl_X12_179 (dk dX12_readStreets 16 rfl) ?_
      refine e_iconst C 2 (dk dX12_readStreets 17 rfl) (by decide) ?_
      refine e_icmp_ne C 79 (dk dX12_readStreets 18 rfl) (by decide) (fun c3 => ?_) (fun c3 => ?_)
      · rw [if_neg c3] at h
        obtain rfl := Option.some.inj h
        refine e_lv [4] rfl ?_
        exact hx _ hOK
      · rw [if_pos c3] at h
        refine e_iload C 4 (dk dX12_readStreets 19 rfl) rfl ?_
        refine e_iload_n C 3 (dk dX12_readStreets 20 rfl) rfl rfl ?_
        refine e_icmp_ne C 49 (dk dX12_readStreets 21 rfl) (by decide) (fun c4 => ?_) (fun c4 => ?_)
        · rw [if_neg c4] at h
          exact j_X12_readStreets_j49 C K ht ha0 hR hB hx ih _ h hOK
        · rw [if_pos c4] at h
          refine e_aload_n C 0 (dk dX12_readStreets 22 rfl) rfl rfl ?_
          refine e_iconst C 2 (dk dX12_readStreets 23 rfl) (by decide) ?_
          refine e_callV (ci := 12) C cal_X12_wrong im_X12_wrong se_X12_wrong ml_X12_226 rfl hR (by decide) (dk dX12_readStreets 24 rfl) (K.1 _ (by rw [ht]; decide)) (ent_o12 ht) (c_X12_wrong K ht (rfl : F_X12_wrong t 2 M = _)) ⟨Nat.zero_le _, Nat.zero_le _⟩ (Nat.le_of_ble_eq_true rfl) rfl ?_
          exact j_X12_readStreets_j49 C K ht ha0 hR hB hx ih _ h hOK
set_option maxRecDepth 20000 in
theorem lb_X12_readStreets_23 {X : FX} {g : WC} {Xo : Nat → va_E} {n : Nat} {kd : Nat → Nat} (C : Cx X g RX12 cX12_readStreets 6) (K : KD n kd) {t : Nat} {a0 : Nat} {n0 : Nat} (ht : kd t = 13) (ha0 : IA kd a0 n0) {x2 : Int32} {x3 : Int32} (hR : x_R X = rm 4) {T9 : Type} {f9 : Sum (Int32 × Mem) (Int32 × Mem) → Option T9} {b9 : T9} (hB : ∀ v, f9 (Sum.inl v) = some b9 → Bx X g (some .int) 4 n (some (.int v.1)) (ent g Xo kd v.2)) (hx : ∀ s, f9 (Sum.inr s) = some b9 → EW X g (x_s X).heap.size n 6 (ent g Xo kd s.2) 0 0 79 [(4, .int s.1)] []) {x4 : Int32} {M : Mem} (h : (L_X12_readStreets_23 t a0 n0 x2 x3 FU x4 M).bind f9 = some b9) : EW X g (x_s X).heap.size n 6 (ent g Xo kd M) 0 0 23 [(0, .ref (g_N g + t)), (1, .ref (g_N g + a0)), (2, .int x2), (3, .int x3), (4, .int x4)] [] := by
  obtain ⟨q, hq, h⟩ := ob h
  exact l_X12_readStreets_23 C K ht ha0 hR (OK := fun q => f9 q = some b9) hB hx FU x4 M q hq h
set_option maxRecDepth 20000 in
theorem c_X12_readStreets {g : WC} {Xo : Nat → va_E} {n : Nat} {kd : Nat → Nat} (K : KD n kd) {t : Nat} {a0 : Nat} {n0 : Nat} {p1 : Int32} {p2 : Int32} (ht : kd t = 13) (ha0 : IA kd a0 n0) {M : Mem} {res : Int32 × Mem} (h : F_X12_readStreets t a0 n0 p1 p2 M = some res) : MC g yX12_readStreets cX12_readStreets 6 (some .int) 4 n [.ref (g_N g + t), .ref (g_N g + a0), .int p1, .int p2] (ent g Xo kd M) (some (.int res.1)) (ent g Xo kd res.2) := by
  refine MC_of pn_X12 (Nat.le_of_ble_eq_true rfl) (fun X C B => ?_)
  have hR := B.1
  rw [F_X12_readStreets] at h
  refine e_iconst C 0 (dk dX12_readStreets 0 rfl) (by decide) ?_
  refine e_istore C [(4, .int 0), (0, .ref (g_N g + t)), (1, .ref (g_N g + a0)), (2, .int p1), (3, .int p2)] (dk dX12_readStreets 1 rfl) (by decide) rfl ?_
  refine e_aload_n C 1 (dk dX12_readStreets 2 rfl) rfl rfl ?_
  refine gf_X12_bad C K ht fl_X12_205 (dk dX12_readStreets 3 rfl) ?_
  refine e_if_ne C 23 (dk dX12_readStreets 4 rfl) (by decide) (fun c1 => ?_) (fun c1 => ?_)
  · rw [if_neg c1] at h
    refine e_lv [1, 2, 3, 4, 0] rfl ?_
    refine lb_X12_readStreets_23 C K ht ha0 hR (fun v h => ?_) (fun s9 h => ?_) h
    · obtain rfl := Option.some.inj (show some v = some _ from h)
      exact B
    dsimp only [Sum.elim_inr] at h
    refine e_iload C 0 (dk dX12_readStreets 41 rfl) rfl ?_
    obtain rfl := Option.some.inj h
    exact e_iret C B (nar1 _) (dk dX12_readStreets 42 rfl)
  · rw [if_pos c1] at h
    refine e_aload_n C 1 (dk dX12_readStreets 5 rfl) rfl rfl ?_
    refine gf_X12_token C K ht fl_X12_179 (dk dX12_readStreets 6 rfl) ?_
    refine e_iconst C 2 (dk dX12_readStreets 7 rfl) (by decide) ?_
    refine e_icmp_eq C 23 (dk dX12_readStreets 8 rfl) (by decide) (fun c10 => ?_) (fun c10 => ?_)
    · rw [if_pos c10] at h
      refine e_lv [1, 2, 3, 4, 0] rfl ?_
      refine lb_X12_readStreets_23 C K ht ha0 hR (fun v h => ?_) (fun s12 h => ?_) h
      · obtain rfl := Option.some.inj (show some v = some _ from h)
        exact B
      dsimp only [Sum.elim_inr] at h
      refine e_iload C 0 (dk dX12_readStreets 41 rfl) rfl ?_
      obtain rfl := Option.some.inj h
      exact e_iret C B (nar1 _) (dk dX12_readStreets 42 rfl)
    · rw [if_neg c10] at h
      refine e_aload_n C 1 (dk dX12_readStreets 9 rfl) rfl rfl ?_
      refine e_iconst C 1 (dk dX12_readStreets 10 rfl) (by decide) ?_
      refine e_callV (ci := 12) C cal_X12_wrong im_X12_wrong se_X12_wrong ml_X12_226 rfl hR (by decide) (dk dX12_readStreets 11 rfl) (K.1 _ (by rw [ht]; decide)) (ent_o12 ht) (c_X12_wrong K ht (rfl : F_X12_wrong t 1 M = _)) ⟨Nat.zero_le _, Nat.zero_le _⟩ (Nat.le_of_ble_eq_true rfl) rfl ?_
      refine e_lv [1, 2, 3, 4, 0] rfl ?_
      refine lb_X12_readStreets_23 C K ht ha0 hR (fun v h => ?_) (fun s14 h => ?_) h
      · obtain rfl := Option.some.inj (show some v = some _ from h)
        exact B
      dsimp only [Sum.elim_inr] at h
      refine e_iload C 0 (dk dX12_readStreets 41 rfl) rfl ?_
      obtain rfl := Option.some.inj h
      exact e_iret C B (nar1 _) (dk dX12_readStreets 42 rfl)
set_option maxRecDepth 20000 in
theorem j_X12_another_j18 {X : FX} {g : WC} {Xo : Nat → va_E} {n : Nat} {kd : Nat → Nat} (C : Cx X g RX12 cX12_another 3) (K : KD n kd) {t : Nat} (ht : kd t = 13) (hR : x_R X = rm 2) {M : Mem} {res : Bool × Mem} (h : J_X12_another_j18 t M = some res) (B : Bx X g (some .boolean) 2 n (some (.int (bi res.1))) (ent g Xo kd res.2)) : EW X g (x_s X).heap.size n 3 (ent g Xo kd M) 0 0 18 [(0, .ref (g_N g + t))] [] := by
  rw [J_X12_another_j18] at h
  refine e_aload_n C 0 (dk dX12_another 11 rfl) rfl rfl ?_
  refine gf_X12_bad C K ht fl_X12_205 (dk dX12_another 12 rfl) ?_
  refine e_if_eq C 27 (dk dX12_another 13 rfl) (by decide) (fun c3 => ?_) (fun c3 => ?_)
  · rw [if_pos c3] at h
    refine e_aload_n C 0 (dk dX12_another 16 rfl) rfl rfl ?_
    obtain ⟨q4, hq4, h⟩ := ob h
    refine e_callV (ci := 12) C cal_X12_stepOn im_X12_stepOn se_X12_stepOn ml_X12_230 rfl hR (by decide) (dk dX12_another 17 rfl) (K.1 _ (by rw [ht]; decide)) (ent_o12 ht) (c_X12_stepOn K ht hq4) ⟨Nat.zero_le _, Nat.zero_le _⟩ (Nat.le_of_ble_eq_true rfl) rfl ?_
    refine e_iconst C 1 (dk dX12_another 18 rfl) (by decide) ?_
    obtain rfl := Option.some.inj h
    exact e_iret (v := bi true) C B (nar_bi _) (dk dX12_another 19 rfl)
  · rw [if_neg c3] at h
    refine e_iconst C 0 (dk dX12_another 14 rfl) (by decide) ?_
    obtain rfl := Option.some.inj h
    exact e_iret (v := bi false) C B (nar_bi _) (dk dX12_another 15 rfl)
set_option maxRecDepth 20000 in
theorem c_X12_another {g : WC} {Xo : Nat → va_E} {n : Nat} {kd : Nat → Nat} (K : KD n kd) {t : Nat} {p0 : Int32} {p1 : Int32} (ht : kd t = 13) {M : Mem} {res : Bool × Mem} (h : F_X12_another t p0 p1 M = some res) : MC g yX12_another cX12_another 3 (some .boolean) 2 n [.ref (g_N g + t), .int p0, .int p1] (ent g Xo kd M) (some (.int (bi res.1))) (ent g Xo kd res.2) := by
  refine MC_of pn_X12 (Nat.le_of_ble_eq_true rfl) (fun X C B => ?_)
  have hR := B.1
  rw [F_X12_another] at h
  refine e_aload_n C 0 (dk dX12_another 0 rfl) rfl rfl ?_
  refine gf_X12_told C K ht fl_X12_38 (dk dX12_another 1 rfl) ?_
  refine e_bipush C 7 (dk dX12_another 2 rfl) (by decide) ?_
  refine e_iload_n C 1 (dk dX12_another 3 rfl) rfl rfl ?_
  refine e_iadd C (dk dX12_another 4 rfl) ?_
  obtain ⟨v1, hv1, h⟩ := ob h
  refine m_ald C K (kd_X12_told K ht) (dk dX12_another 5 rfl) hv1 ?_
  refine e_iload_n C 2 (dk dX12_another 6 rfl) rfl rfl ?_
  refine e_icmp_ne C 18 (dk dX12_another 7 rfl) (by decide) (fun c2 => ?_) (fun c2 => ?_)
  · rw [if_neg c2] at h
    refine e_lv [0] rfl ?_
    exact j_X12_another_j18 C K ht hR h B
  · rw [if_pos c2] at h
    refine e_aload_n C 0 (dk dX12_another 8 rfl) rfl rfl ?_
    refine e_iconst C 2 (dk dX12_another 9 rfl) (by decide) ?_
    refine e_callV (ci := 12) C cal_X12_wrong im_X12_wrong se_X12_wrong ml_X12_226 rfl hR (by decide) (dk dX12_another 10 rfl) (K.1 _ (by rw [ht]; decide)) (ent_o12 ht) (c_X12_wrong K ht (rfl : F_X12_wrong t 2 M = _)) ⟨Nat.zero_le _, Nat.zero_le _⟩ (Nat.le_of_ble_eq_true rfl) rfl ?_
    refine e_lv [0] rfl ?_
    exact j_X12_another_j18 C K ht hR h B
set_option maxRecDepth 20000 in
theorem j_X12_sayPath_j54 {X : FX} {g : WC} {Xo : Nat → va_E} {n : Nat} {kd : Nat → Nat} (C : Cx X g RX12 cX12_sayPath 3) (K : KD n kd) {t : Nat} (ht : kd t = 13) (hR : x_R X = rm 4) {x1 : Int32} {x2 : Int32} {M : Mem} {res : Mem} (h : J_X12_sayPath_j54 t x1 x2 M = some res) (B : Bx X g none 4 n none (ent g Xo kd res)) : EW X g (x_s X).heap.size n 3 (ent g Xo kd M) 0 0 54 [(0, .ref (g_N g + t)), (1, .int x1), (2, .int x2)] [] := by
  rw [J_X12_sayPath_j54] at h
  refine e_aload_n C 0 (dk dX12_sayPath_0 30 rfl) rfl rfl ?_
  refine gf_X12_bad C K ht fl_X12_205 (dk dX12_sayPath_0 31 rfl) ?_
  refine e_if_eq C 62 (dk dX12_sayPath_0 32 rfl) (by decide) (fun c5 => ?_) (fun c5 => ?_)
  · rw [if_pos c5] at h
    refine e_aload_n C 0 (dk dX12_sayPath_0 34 rfl) rfl rfl ?_
    obtain ⟨q6, hq6, h⟩ := ob h
    refine e_callV (ci := 12) C cal_X12_stepOn im_X12_stepOn se_X12_stepOn ml_X12_230 rfl hR (by decide) (dk dX12_sayPath_0 35 rfl) (K.1 _ (by rw [ht]; decide)) (ent_o12 ht) (c_X12_stepOn K ht hq6) ⟨Nat.zero_le _, Nat.zero_le _⟩ (Nat.le_of_ble_eq_true rfl) rfl ?_
    refine e_aload_n C 0 (dk dX12_sayPath_0 36 rfl) rfl rfl ?_
    refine gf_X12_pathTold C K ht fl_X12_42 (dk dX12_sayPath_0 37 rfl) ?_
    refine e_bipush C 8 (dk dX12_sayPath_0 38 rfl) (by decide) ?_
    refine e_iload_n C 1 (dk dX12_sayPath_0 39 rfl) rfl rfl ?_
    refine e_iadd C (dk dX12_sayPath_0 40 rfl) ?_
    refine e_dup2 C (dk dX12_sayPath_0 41 rfl) rfl rfl ?_
    obtain ⟨v7, hv7, h⟩ := ob h
    refine m_ald C K (kd_X12_pathTold K ht) (dk dX12_sayPath_0 42 rfl) hv7 ?_
    refine e_iconst C 1 (dk dX12_sayPath_0 43 rfl) (by decide) ?_
    refine e_iload_n C 2 (dk dX12_sayPath_0 44 rfl) rfl rfl ?_
    refine e_ishl C (dk dX12_sayPath_0 45 rfl) ?_
    refine e_ior C (dk dX12_sayPath_0 46 rfl) ?_
    obtain ⟨M8, hM8, h⟩ := ob h
    refine m_ast C K (kd_X12_pathTold K ht) (dk dX12_sayPath_0 47 rfl) hM8 ?_
    refine e_aload_n C 0 (dk dX12_sayPath_0 48 rfl) rfl rfl ?_
    refine gf_X12_pathTold C K ht fl_X12_42 (dk dX12_sayPath_0 49 rfl) ?_
    refine e_bipush C 8 (dk dX12_sayPath_0 50 rfl) (by decide) ?_
    refine e_iload_n C 2 (dk dX12_sayPath_0 51 rfl) rfl rfl ?_
    refine e_iadd C (dk dX12_sayPath_0 52 rfl) ?_
    refine e_dup2 C (dk dX12_sayPath_0 53 rfl) rfl rfl ?_
    obtain ⟨v9, hv9, h⟩ := ob h
    refine m_ald C K (kd_X12_pathTold K ht) (dk dX12_sayPath_0 54 rfl) hv9 ?_
    refine e_iconst C 1 (dk dX12_sayPath_0 55 rfl) (by decide) ?_
    refine e_iload_n C 1 (dk dX12_sayPath_0 56 rfl) rfl rfl ?_
    refine e_ishl C (dk dX12_sayPath_0 57 rfl) ?_
    refine e_ior C (dk dX12_sayPath_0 58 rfl) ?_
    obtain ⟨M10, hM10, h⟩ := ob h
    refine m_ast C K (kd_X12_pathTold K ht) (dk dX12_sayPath_0 59 rfl) hM10 ?_
    refine e_aload_n C 0 (dk dX12_sayPath_1 0 rfl) rfl rfl ?_
    refine gf_X12_told C K ht fl_X12_38 (dk dX12_sayPath_1 1 rfl) ?_
    refine e_bipush C 8 (dk dX12_sayPath_1 2 rfl) (by decide) ?_
    refine e_dup2 C (dk dX12_sayPath_1 3 rfl) rfl rfl ?_
    obtain ⟨v11, hv11, h⟩ := ob h
    refine m_ald C K (kd_X12_told K ht) (dk dX12_sayPath_1 4 rfl) hv11 ?_
    refine e_iconst C 1 (dk dX12_sayPath_1 5 rfl) (by decide) ?_
    refine e_iadd C (dk dX12_sayPath_1 6 rfl) ?_
    obtain ⟨M12, hM12, h⟩ := ob h
    refine m_ast C K (kd_X12_told K ht) (dk dX12_sayPath_1 7 rfl) hM12 ?_
    obtain rfl := Option.some.inj h
    exact e_vret C B (dk dX12_sayPath_1 8 rfl)
  · rw [if_neg c5] at h
    obtain rfl := Option.some.inj h
    exact e_vret C B (dk dX12_sayPath_0 33 rfl)
set_option maxRecDepth 20000 in
theorem j_X12_sayPath_j49 {X : FX} {g : WC} {Xo : Nat → va_E} {n : Nat} {kd : Nat → Nat} (C : Cx X g RX12 cX12_sayPath 3) (K : KD n kd) {t : Nat} (ht : kd t = 13) (hR : x_R X = rm 4) {x1 : Int32} {x2 : Int32} {M : Mem} {res : Mem} (h : J_X12_sayPath_j49 t x1 x2 M = some res) (B : Bx X g none 4 n none (ent g Xo kd res)) : EW X g (x_s X).heap.size n 3 (ent g Xo kd M) 0 0 49 [(0, .ref (g_N g + t)), (1, .int x1), (2, .int x2)] [] := by
  rw [J_X12_sayPath_j49] at h
  refine e_aload_n C 0 (dk dX12_sayPath_0 27 rfl) rfl rfl ?_
  refine e_iconst C 4 (dk dX12_sayPath_0 28 rfl) (by decide) ?_
  refine e_callV (ci := 12) C cal_X12_wrong im_X12_wrong se_X12_wrong ml_X12_226 rfl hR (by decide) (dk dX12_sayPath_0 29 rfl) (K.1 _ (by rw [ht]; decide)) (ent_o12 ht) (c_X12_wrong K ht (rfl : F_X12_wrong t 4 M = _)) ⟨Nat.zero_le _, Nat.zero_le _⟩ (Nat.le_of_ble_eq_true rfl) rfl ?_
  exact j_X12_sayPath_j54 C K ht hR h B
set_option maxRecDepth 20000 in
theorem c_X12_sayPath {g : WC} {Xo : Nat → va_E} {n : Nat} {kd : Nat → Nat} (K : KD n kd) {t : Nat} (ht : kd t = 13) {M : Mem} {res : Mem} (h : F_X12_sayPath t M = some res) : MC g yX12_sayPath cX12_sayPath 3 none 4 n [.ref (g_N g + t)] (ent g Xo kd M) none (ent g Xo kd res) := by
  refine MC_of pn_X12 (Nat.le_of_ble_eq_true rfl) (fun X C B => ?_)
  have hR := B.1
  rw [F_X12_sayPath] at h
  refine e_aload_n C 0 (dk dX12_sayPath_0 0 rfl) rfl rfl ?_
  refine e_iconst C 1 (dk dX12_sayPath_0 1 rfl) (by decide) ?_
  refine e_bipush C 14 (dk dX12_sayPath_0 2 rfl) (by decide) ?_
  obtain ⟨q1, hq1, h⟩ := ob h
  refine e_callV (ci := 12) C cal_X12_another im_X12_another se_X12_another ml_X12_283 rfl hR (by decide) (dk dX12_sayPath_0 3 rfl) (K.1 _ (by rw [ht]; decide)) (ent_o12 ht) (c_X12_another K ht hq1) ⟨Nat.zero_le _, Nat.zero_le _⟩ (Nat.le_of_ble_eq_true rfl) rfl ?_
  refine e_if_ne C 11 (dk dX12_sayPath_0 4 rfl) (by decide) (fun c2 => ?_) (fun c2 => ?_)
  · rw [if_neg c2] at h
    refine e_aload_n C 0 (dk dX12_sayPath_0 6 rfl) rfl rfl ?_
    obtain ⟨q3, hq3, h⟩ := ob h
    refine e_callV (ci := 12) C cal_X12_readStreet im_X12_readStreet se_X12_readStreet ml_X12_280 rfl hR (by decide) (dk dX12_sayPath_0 7 rfl) (K.1 _ (by rw [ht]; decide)) (ent_o12 ht) (c_X12_readStreet K ht hq3) ⟨Nat.zero_le _, Nat.zero_le _⟩ (Nat.le_of_ble_eq_true rfl) rfl ?_
    refine e_istore_n C [(1, .int q3.1), (0, .ref (g_N g + t))] (dk dX12_sayPath_0 8 rfl) rfl (by decide) rfl ?_
    refine e_aload_n C 1 (dk dX12_sayPath_0 9 rfl) rfl rfl ?_
    refine e_callV (ci := 12) C cal_X12_streetNow im_X12_streetNow se_X12_streetNow ml_X12_240 rfl hR (by decide) (dk dX12_sayPath_0 10 rfl) (K.1 _ (by rw [ht]; decide)) (ent_o12 ht) (c_X12_streetNow K ht (rfl : F_X12_streetNow t q3.2 = _)) ⟨Nat.zero_le _, Nat.zero_le _⟩ (Nat.le_of_ble_eq_true rfl) rfl ?_
    refine e_istore_n C [(2, .int ((F_X12_streetNow t q3.2).1)), (1, .int q3.1), (0, .ref (g_N g + t))] (dk dX12_sayPath_0 11 rfl) rfl (by decide) rfl ?_
    refine e_aload_n C 2 (dk dX12_sayPath_0 12 rfl) rfl rfl ?_
    refine gf_X12_bad C K ht fl_X12_205 (dk dX12_sayPath_0 13 rfl) ?_
    refine e_if_ne C 54 (dk dX12_sayPath_0 14 rfl) (by decide) (fun c4 => ?_) (fun c4 => ?_)
    · rw [if_neg c4] at h
      refine e_lv [2, 1, 0] rfl ?_
      exact j_X12_sayPath_j54 C K ht hR h B
    · rw [if_pos c4] at h
      refine e_iload_n C 1 (dk dX12_sayPath_0 15 rfl) rfl rfl ?_
      refine e_iload_n C 0 (dk dX12_sayPath_0 16 rfl) rfl rfl ?_
      refine e_icmp_eq C 49 (dk dX12_sayPath_0 17 rfl) (by decide) (fun c13 => ?_) (fun c13 => ?_)
      · rw [if_pos c13] at h
        refine e_lv [2, 1, 0] rfl ?_
        exact j_X12_sayPath_j49 C K ht hR h B
      · rw [if_neg c13] at h
        refine e_aload_n C 2 (dk dX12_sayPath_0 18 rfl) rfl rfl ?_
        refine gf_X12_pathTold C K ht fl_X12_42 (dk dX12_sayPath_0 19 rfl) ?_
        refine e_bipush C 8 (dk dX12_sayPath_0 20 rfl) (by decide) ?_
        refine e_iload_n C 1 (dk dX12_sayPath_0 21 rfl) rfl rfl ?_
        refine e_iadd C (dk dX12_sayPath_0 22 rfl) ?_
        obtain ⟨v14, hv14, h⟩ := ob h
        refine m_ald C K (kd_X12_pathTold K ht) (dk dX12_sayPath_0 23 rfl) hv14 ?_
        refine e_iload_n C 0 (dk dX12_sayPath_0 24 rfl) rfl rfl ?_
        refine e_callS C cal_X12_isOf sm_X12_isOf ml_X12_287 hR (by decide) (dk dX12_sayPath_0 25 rfl) (c_X12_isOf K (rfl : F_X12_isOf v14 ((F_X12_streetNow t q3.2).1) = _)) ⟨Nat.zero_le _, Nat.zero_le _⟩ (Nat.le_of_ble_eq_true rfl) rfl ?_
        refine e_if_eq C 54 (dk dX12_sayPath_0 26 rfl) (by decide) (fun c15 => ?_) (fun c15 => ?_)
        · rw [if_pos c15] at h
          refine e_lv [2, 1, 0] rfl ?_
          exact j_X12_sayPath_j54 C K ht hR h B
        · rw [if_neg c15] at h
          refine e_lv [2, 1, 0] rfl ?_
          exact j_X12_sayPath_j49 C K ht hR h B
  · rw [if_pos c2] at h
    obtain rfl := Option.some.inj h
    exact e_vret C B (dk dX12_sayPath_0 5 rfl)
set_option maxRecDepth 20000 in
theorem c_X12_sayPerson {g : WC} {Xo : Nat → va_E} {n : Nat} {kd : Nat → Nat} (K : KD n kd) {t : Nat} {p0 : Int32} (ht : kd t = 13) {M : Mem} {res : Mem} (h : F_X12_sayPerson t p0 M = some res) : MC g yX12_sayPerson cX12_sayPerson 3 none 5 n [.ref (g_N g + t), .int p0] (ent g Xo kd M) none (ent g Xo kd res) := by
  refine MC_of pn_X12 (Nat.le_of_ble_eq_true rfl) (fun X C B => ?_)
  have hR := B.1
  rw [F_X12_sayPerson] at h
  refine e_aload_n C 0 (dk dX12_sayPerson 0 rfl) rfl rfl ?_
  refine e_iconst C 3 (dk dX12_sayPerson 1 rfl) (by decide) ?_
  refine e_bipush C 7 (dk dX12_sayPerson 2 rfl) (by decide) ?_
  obtain ⟨q1, hq1, h⟩ := ob h
  refine e_callV (ci := 12) C cal_X12_another im_X12_another se_X12_another ml_X12_283 rfl hR (by decide) (dk dX12_sayPerson 3 rfl) (K.1 _ (by rw [ht]; decide)) (ent_o12 ht) (c_X12_another K ht hq1) ⟨Nat.zero_le _, Nat.zero_le _⟩ (Nat.le_of_ble_eq_true rfl) rfl ?_
  refine e_if_ne C 11 (dk dX12_sayPerson 4 rfl) (by decide) (fun c2 => ?_) (fun c2 => ?_)
  · rw [if_neg c2] at h
    refine e_bipush C 7 (dk dX12_sayPerson 6 rfl) (by decide) ?_
    refine e_aload_n C 0 (dk dX12_sayPerson 7 rfl) rfl rfl ?_
    refine gf_X12_told C K ht fl_X12_38 (dk dX12_sayPerson 8 rfl) ?_
    refine e_bipush C 10 (dk dX12_sayPerson 9 rfl) (by decide) ?_
    refine m_aldc C K (kd_X12_told K ht) 10 (dk dX12_sayPerson 10 rfl) (by decide) (by decide) ?_
    refine e_iadd C (dk dX12_sayPerson 11 rfl) ?_
    refine e_istore_n C [(2, .int (7 + (q1.2 (t + 3) 10))), (0, .ref (g_N g + t)), (1, .int p0)] (dk dX12_sayPerson 12 rfl) rfl (by decide) rfl ?_
    refine e_aload_n C 1 (dk dX12_sayPerson 13 rfl) rfl rfl ?_
    refine gf_X12_bishop C K ht fl_X12_48 (dk dX12_sayPerson 14 rfl) ?_
    refine e_iload_n C 0 (dk dX12_sayPerson 15 rfl) rfl rfl ?_
    refine e_iload_n C 2 (dk dX12_sayPerson 16 rfl) rfl rfl ?_
    obtain ⟨M3, hM3, h⟩ := ob h
    refine m_ast C K (kd_X12_bishop K ht) (dk dX12_sayPerson 17 rfl) hM3 ?_
    refine e_aload_n C 1 (dk dX12_sayPerson 18 rfl) rfl rfl ?_
    refine gf_X12_coinsTold C K ht fl_X12_50 (dk dX12_sayPerson 19 rfl) ?_
    refine e_iload_n C 0 (dk dX12_sayPerson 20 rfl) rfl rfl ?_
    refine e_aload_n C 1 (dk dX12_sayPerson 21 rfl) rfl rfl ?_
    refine e_iconst C 0 (dk dX12_sayPerson 22 rfl) (by decide) ?_
    refine e_sipush C 999 (dk dX12_sayPerson 23 rfl) (by decide) ?_
    obtain ⟨q4, hq4, h⟩ := ob h
    refine e_callV (ci := 12) C cal_X12_readNumber im_X12_readNumber se_X12_readNumber ml_X12_243 rfl hR (by decide) (dk dX12_sayPerson 24 rfl) (K.1 _ (by rw [ht]; decide)) (ent_o12 ht) (c_X12_readNumber K ht hq4) ⟨Nat.zero_le _, Nat.zero_le _⟩ (Nat.le_of_ble_eq_true rfl) rfl ?_
    obtain ⟨M5, hM5, h⟩ := ob h
    refine m_ast C K (kd_X12_coinsTold K ht) (dk dX12_sayPerson 25 rfl) hM5 ?_
    refine e_aload_n C 1 (dk dX12_sayPerson 26 rfl) rfl rfl ?_
    refine gf_X12_places C K ht fl_X12_53 (dk dX12_sayPerson 27 rfl) ?_
    refine e_iload_n C 0 (dk dX12_sayPerson 28 rfl) rfl rfl ?_
    refine e_aload_n C 1 (dk dX12_sayPerson 29 rfl) rfl rfl ?_
    refine e_aload_n C 1 (dk dX12_sayPerson 30 rfl) rfl rfl ?_
    refine gf_X12_walkTold C K ht fl_X12_56 (dk dX12_sayPerson 31 rfl) ?_
    refine e_bipush C 6 (dk dX12_sayPerson 32 rfl) (by decide) ?_
    refine e_iload_n C 0 (dk dX12_sayPerson 33 rfl) rfl rfl ?_
    refine e_imul C (dk dX12_sayPerson 34 rfl) ?_
    refine e_bipush C 6 (dk dX12_sayPerson 35 rfl) (by decide) ?_
    obtain ⟨q6, hq6, h⟩ := ob h
    refine e_callV (ci := 12) C cal_X12_readStreets im_X12_readStreets se_X12_readStreets ml_X12_290 rfl hR (by decide) (dk dX12_sayPerson 36 rfl) (K.1 _ (by rw [ht]; decide)) (ent_o12 ht) (c_X12_readStreets K ht (kd_X12_walkTold K ht) hq6) ⟨Nat.zero_le _, Nat.zero_le _⟩ (Nat.le_of_ble_eq_true rfl) rfl ?_
    obtain ⟨M7, hM7, h⟩ := ob h
    refine m_ast C K (kd_X12_places K ht) (dk dX12_sayPerson 37 rfl) hM7 ?_
    refine e_aload_n C 1 (dk dX12_sayPerson 38 rfl) rfl rfl ?_
    refine gf_X12_told C K ht fl_X12_38 (dk dX12_sayPerson 39 rfl) ?_
    refine e_bipush C 10 (dk dX12_sayPerson 40 rfl) (by decide) ?_
    refine e_dup2 C (dk dX12_sayPerson 41 rfl) rfl rfl ?_
    obtain ⟨v8, hv8, h⟩ := ob h
    refine m_ald C K (kd_X12_told K ht) (dk dX12_sayPerson 42 rfl) hv8 ?_
    refine e_iconst C 1 (dk dX12_sayPerson 43 rfl) (by decide) ?_
    refine e_iadd C (dk dX12_sayPerson 44 rfl) ?_
    obtain ⟨M9, hM9, h⟩ := ob h
    refine m_ast C K (kd_X12_told K ht) (dk dX12_sayPerson 45 rfl) hM9 ?_
    obtain rfl := Option.some.inj h
    exact e_vret C B (dk dX12_sayPerson 46 rfl)
  · rw [if_pos c2] at h
    obtain rfl := Option.some.inj h
    exact e_vret C B (dk dX12_sayPerson 5 rfl)
set_option maxRecDepth 20000 in
theorem j_X12_sayFogs_j48 {X : FX} {g : WC} {Xo : Nat → va_E} {n : Nat} {kd : Nat → Nat} (C : Cx X g RX12 cX12_sayFogs 3) (K : KD n kd) {t : Nat} (ht : kd t = 13) (hR : x_R X = rm 3) {OK : Sum (Mem) (Int32 × Mem) → Prop} (hB : ∀ v, OK (Sum.inl v) → Bx X g none 3 n none (ent g Xo kd v)) (hx : ∀ s, OK (Sum.inr s) → EW X g (x_s X).heap.size n 3 (ent g Xo kd s.2) 0 0 80 [(0, .ref (g_N g + t)), (1, .int s.1)] []) {rec : Int32 → Mem → Option (Sum (Mem) (Int32 × Mem))} (hrec : ∀ (x1 : Int32) (M : Mem) (q : Sum (Mem) (Int32 × Mem)), rec x1 M = some q → OK q → EW X g (x_s X).heap.size n 3 (ent g Xo kd M) 0 0 22 [(0, .ref (g_N g + t)), (1, .int x1)] []) {x1 : Int32} {M : Mem} (q : Sum (Mem) (Int32 × Mem)) (h : J_X12_sayFogs_j48 t rec x1 M = some q) (hOK : OK q) : EW X g (x_s X).heap.size n 3 (ent g Xo kd M) 0 0 48 [(0, .ref (g_N g + t)), (1, .int x1)] [] := by
  rw [J_X12_sayFogs_j48] at h
  refine e_aload_n C 0 (dk dX12_sayFogs 25 rfl) rfl rfl ?_
  refine e_iconst C 0 (dk dX12_sayFogs 26 rfl) (by decide) ?_
  refine e_bipush C 9 (dk dX12_sayFogs 27 rfl) (by decide) ?_
  obtain ⟨q5, hq5, h⟩ := ob h
  refine e_callV (ci := 12) C cal_X12_readNumber im_X12_readNumber se_X12_readNumber ml_X12_243 rfl hR (by decide) (dk dX12_sayFogs 28 rfl) (K.1 _ (by rw [ht]; decide)) (ent_o12 ht) (c_X12_readNumber K ht hq5) ⟨Nat.zero_le _, Nat.zero_le _⟩ (Nat.le_of_ble_eq_true rfl) rfl ?_
  refine e_istore_n C [(2, .int q5.1), (0, .ref (g_N g + t)), (1, .int x1)] (dk dX12_sayFogs 29 rfl) rfl (by decide) rfl ?_
  refine e_aload_n C 1 (dk dX12_sayFogs 30 rfl) rfl rfl ?_
  refine gf_X12_bad C K ht fl_X12_205 (dk dX12_sayFogs 31 rfl) ?_
  refine e_if_eq C 64 (dk dX12_sayFogs 32 rfl) (by decide) (fun c6 => ?_) (fun c6 => ?_)
  · rw [if_pos c6] at h
    refine e_aload_n C 1 (dk dX12_sayFogs 34 rfl) rfl rfl ?_
    refine gf_X12_fogTold C K ht fl_X12_59 (dk dX12_sayFogs 35 rfl) ?_
    refine e_bipush C 8 (dk dX12_sayFogs 36 rfl) (by decide) ?_
    refine e_iload_n C 2 (dk dX12_sayFogs 37 rfl) rfl rfl ?_
    refine e_iadd C (dk dX12_sayFogs 38 rfl) ?_
    refine e_iload_n C 0 (dk dX12_sayFogs 39 rfl) rfl rfl ?_
    obtain ⟨M7, hM7, h⟩ := ob h
    refine m_ast C K (kd_X12_fogTold K ht) (dk dX12_sayFogs 40 rfl) hM7 ?_
    refine e_iinc C [(1, .int (x1 + 1)), (2, .int q5.1), (0, .ref (g_N g + t))] 2 1 (dk dX12_sayFogs 41 rfl) rfl (by decide) (by decide) rfl ?_
    refine e_goto C 22 (dk dX12_sayFogs 42 rfl) (by decide) ?_
    refine e_lv [2, 0] rfl ?_
    exact hrec _ _ _ h hOK
  · rw [if_neg c6] at h
    obtain rfl := Option.some.inj h
    exact e_vret C (hB _ hOK) (dk dX12_sayFogs 33 rfl)
set_option maxRecDepth 20000 in
theorem l_X12_sayFogs_22 {X : FX} {g : WC} {Xo : Nat → va_E} {n : Nat} {kd : Nat → Nat} (C : Cx X g RX12 cX12_sayFogs 3) (K : KD n kd) {t : Nat} (ht : kd t = 13) (hR : x_R X = rm 3) {OK : Sum (Mem) (Int32 × Mem) → Prop} (hB : ∀ v, OK (Sum.inl v) → Bx X g none 3 n none (ent g Xo kd v)) (hx : ∀ s, OK (Sum.inr s) → EW X g (x_s X).heap.size n 3 (ent g Xo kd s.2) 0 0 80 [(0, .ref (g_N g + t)), (1, .int s.1)] []) : ∀ (N9 : Nat) (x1 : Int32) (M : Mem) (q : Sum (Mem) (Int32 × Mem)), L_X12_sayFogs_22 t N9 x1 M = some q → OK q → EW X g (x_s X).heap.size n 3 (ent g Xo kd M) 0 0 22 [(0, .ref (g_N g + t)), (1, .int x1)] [] := by
  intro N9
  induction N9 with
  | zero =>
    intro x1 M q h
    rw [L_X12_sayFogs_22.eq_1] at h
    cases h
  | succ m9 ih =>
    intro x1 M q h hOK
    rw [L_X12_sayFogs_22.eq_2] at h
    refine e_aload_n C 0 (dk dX12_sayFogs 12 rfl) rfl rfl ?_
    refine gf_X12_bad C K ht fl_X12_205 (dk dX12_sayFogs 13 rfl) ?_
    refine e_if_ne C 80 (dk dX12_sayFogs 14 rfl) (by decide) (fun c2 => ?_) (fun c2 => ?_)
    · rw [if_neg c2] at h
      obtain rfl := Option.some.inj h
      exact hx _ hOK
    · rw [if_pos c2] at h
      refine e_aload_n C 0 (dk dX12_sayFogs 15 rfl) rfl rfl ?_
      refine gf_X12_token C K ht fl_X12_179 (dk dX12_sayFogs 16 rfl) ?_
      refine e_iconst C 2 (dk dX12_sayFogs 17 rfl) (by decide) ?_
      refine e_icmp_ne C 80 (dk dX12_sayFogs 18 rfl) (by decide) (fun c3 => ?_) (fun c3 => ?_)
      · rw [if_neg c3] at h
        obtain rfl := Option.some.inj h
        exact hx _ hOK
      · rw [if_pos c3] at h
        refine e_iload_n C 1 (dk dX12_sayFogs 19 rfl) rfl rfl ?_
        refine e_bipush C 8 (dk dX12_sayFogs 20 rfl) (by decide) ?_
        refine e_icmp_ne C 48 (dk dX12_sayFogs 21 rfl) (by decide) (fun c4 => ?_) (fun c4 => ?_)
        · rw [if_neg c4] at h
          exact j_X12_sayFogs_j48 C K ht hR hB hx ih _ h hOK
        · rw [if_pos c4] at h
          refine e_aload_n C 0 (dk dX12_sayFogs 22 rfl) rfl rfl ?_
          refine e_iconst C 2 (dk dX12_sayFogs 23 rfl) (by decide) ?_
          refine e_callV (ci := 12) C cal_X12_wrong im_X12_wrong se_X12_wrong ml_X12_226 rfl hR (by decide) (dk dX12_sayFogs 24 rfl) (K.1 _ (by rw [ht]; decide)) (ent_o12 ht) (c_X12_wrong K ht (rfl : F_X12_wrong t 2 M = _)) ⟨Nat.zero_le _, Nat.zero_le _⟩ (Nat.le_of_ble_eq_true rfl) rfl ?_
          exact j_X12_sayFogs_j48 C K ht hR hB hx ih _ h hOK
set_option maxRecDepth 20000 in
theorem lb_X12_sayFogs_22 {X : FX} {g : WC} {Xo : Nat → va_E} {n : Nat} {kd : Nat → Nat} (C : Cx X g RX12 cX12_sayFogs 3) (K : KD n kd) {t : Nat} (ht : kd t = 13) (hR : x_R X = rm 3) {T9 : Type} {f9 : Sum (Mem) (Int32 × Mem) → Option T9} {b9 : T9} (hB : ∀ v, f9 (Sum.inl v) = some b9 → Bx X g none 3 n none (ent g Xo kd v)) (hx : ∀ s, f9 (Sum.inr s) = some b9 → EW X g (x_s X).heap.size n 3 (ent g Xo kd s.2) 0 0 80 [(0, .ref (g_N g + t)), (1, .int s.1)] []) {x1 : Int32} {M : Mem} (h : (L_X12_sayFogs_22 t FU x1 M).bind f9 = some b9) : EW X g (x_s X).heap.size n 3 (ent g Xo kd M) 0 0 22 [(0, .ref (g_N g + t)), (1, .int x1)] [] := by
  obtain ⟨q, hq, h⟩ := ob h
  exact l_X12_sayFogs_22 C K ht hR (OK := fun q => f9 q = some b9) hB hx FU x1 M q hq h
set_option maxRecDepth 20000 in
theorem j_X12_sayFogs_j80 {X : FX} {g : WC} {Xo : Nat → va_E} {n : Nat} {kd : Nat → Nat} (C : Cx X g RX12 cX12_sayFogs 3) (K : KD n kd) {t : Nat} (ht : kd t = 13) (hR : x_R X = rm 3) {x1 : Int32} {M : Mem} {res : Mem} (h : J_X12_sayFogs_j80 t x1 M = some res) (B : Bx X g none 3 n none (ent g Xo kd res)) : EW X g (x_s X).heap.size n 3 (ent g Xo kd M) 0 0 80 [(0, .ref (g_N g + t)), (1, .int x1)] [] := by
  rw [J_X12_sayFogs_j80] at h
  refine e_aload_n C 0 (dk dX12_sayFogs 43 rfl) rfl rfl ?_
  refine gf_X12_told C K ht fl_X12_38 (dk dX12_sayFogs 44 rfl) ?_
  refine e_bipush C 11 (dk dX12_sayFogs 45 rfl) (by decide) ?_
  refine e_iload_n C 1 (dk dX12_sayFogs 46 rfl) rfl rfl ?_
  obtain ⟨M10, hM10, h⟩ := ob h
  refine m_ast C K (kd_X12_told K ht) (dk dX12_sayFogs 47 rfl) hM10 ?_
  obtain rfl := Option.some.inj h
  exact e_vret C B (dk dX12_sayFogs 48 rfl)
set_option maxRecDepth 20000 in
theorem c_X12_sayFogs {g : WC} {Xo : Nat → va_E} {n : Nat} {kd : Nat → Nat} (K : KD n kd) {t : Nat} (ht : kd t = 13) {M : Mem} {res : Mem} (h : F_X12_sayFogs t M = some res) : MC g yX12_sayFogs cX12_sayFogs 3 none 3 n [.ref (g_N g + t)] (ent g Xo kd M) none (ent g Xo kd res) := by
  refine MC_of pn_X12 (Nat.le_of_ble_eq_true rfl) (fun X C B => ?_)
  have hR := B.1
  rw [F_X12_sayFogs] at h
  refine e_iconst C 0 (dk dX12_sayFogs 0 rfl) (by decide) ?_
  refine e_istore_n C [(1, .int 0), (0, .ref (g_N g + t))] (dk dX12_sayFogs 1 rfl) rfl (by decide) rfl ?_
  refine e_aload_n C 1 (dk dX12_sayFogs 2 rfl) rfl rfl ?_
  refine gf_X12_bad C K ht fl_X12_205 (dk dX12_sayFogs 3 rfl) ?_
  refine e_if_ne C 22 (dk dX12_sayFogs 4 rfl) (by decide) (fun c1 => ?_) (fun c1 => ?_)
  · rw [if_neg c1] at h
    refine e_lv [1, 0] rfl ?_
    refine lb_X12_sayFogs_22 C K ht hR (fun v h => ?_) (fun s9 h => ?_) h
    · obtain rfl := Option.some.inj (show some v = some _ from h)
      exact B
    dsimp only [Sum.elim_inr] at h
    exact j_X12_sayFogs_j80 C K ht hR h B
  · rw [if_pos c1] at h
    refine e_aload_n C 1 (dk dX12_sayFogs 5 rfl) rfl rfl ?_
    refine gf_X12_token C K ht fl_X12_179 (dk dX12_sayFogs 6 rfl) ?_
    refine e_iconst C 2 (dk dX12_sayFogs 7 rfl) (by decide) ?_
    refine e_icmp_eq C 22 (dk dX12_sayFogs 8 rfl) (by decide) (fun c11 => ?_) (fun c11 => ?_)
    · rw [if_pos c11] at h
      refine e_lv [1, 0] rfl ?_
      refine lb_X12_sayFogs_22 C K ht hR (fun v h => ?_) (fun s13 h => ?_) h
      · obtain rfl := Option.some.inj (show some v = some _ from h)
        exact B
      dsimp only [Sum.elim_inr] at h
      exact j_X12_sayFogs_j80 C K ht hR h B
    · rw [if_neg c11] at h
      refine e_aload_n C 1 (dk dX12_sayFogs 9 rfl) rfl rfl ?_
      refine e_iconst C 1 (dk dX12_sayFogs 10 rfl) (by decide) ?_
      refine e_callV (ci := 12) C cal_X12_wrong im_X12_wrong se_X12_wrong ml_X12_226 rfl hR (by decide) (dk dX12_sayFogs 11 rfl) (K.1 _ (by rw [ht]; decide)) (ent_o12 ht) (c_X12_wrong K ht (rfl : F_X12_wrong t 1 M = _)) ⟨Nat.zero_le _, Nat.zero_le _⟩ (Nat.le_of_ble_eq_true rfl) rfl ?_
      refine e_lv [1, 0] rfl ?_
      refine lb_X12_sayFogs_22 C K ht hR (fun v h => ?_) (fun s15 h => ?_) h
      · obtain rfl := Option.some.inj (show some v = some _ from h)
        exact B
      dsimp only [Sum.elim_inr] at h
      exact j_X12_sayFogs_j80 C K ht hR h B
set_option maxRecDepth 20000 in
theorem l_X12_takeHalf_2 {X : FX} {g : WC} {Xo : Nat → va_E} {n : Nat} {kd : Nat → Nat} (C : Cx X g RX12 cX12_takeHalf 2) (K : KD n kd) {a0 : Nat} {n0 : Nat} (ha0 : IA kd a0 n0) (hR : x_R X = rm 0) {OK : Mem → Prop} (hx : ∀ s, OK s → EW X g (x_s X).heap.size n 2 (ent g Xo kd s) 0 0 27 [] []) : ∀ (N9 : Nat) (x1 : Int32) (M : Mem) (q : Mem), L_X12_takeHalf_2 a0 n0 N9 x1 M = some q → OK q → EW X g (x_s X).heap.size n 2 (ent g Xo kd M) 0 0 2 [(0, .ref (g_N g + a0)), (1, .int x1)] [] := by
  intro N9
  induction N9 with
  | zero =>
    intro x1 M q h
    rw [L_X12_takeHalf_2.eq_1] at h
    cases h
  | succ m9 ih =>
    intro x1 M q h hOK
    rw [L_X12_takeHalf_2.eq_2] at h
    refine e_iload_n C 1 (dk dX12_takeHalf 2 rfl) rfl rfl ?_
    refine e_aload_n C 0 (dk dX12_takeHalf 3 rfl) rfl rfl ?_
    refine m_alen C K ha0 (nI n0) rfl (dk dX12_takeHalf 4 rfl) ?_
    refine e_iconst C 2 (dk dX12_takeHalf 5 rfl) (by decide) ?_
    refine e_idiv C (dk dX12_takeHalf 6 rfl) (by decide) ?_
    refine e_icmp_ge C 27 (dk dX12_takeHalf 7 rfl) (by decide) (fun c1 => ?_) (fun c1 => ?_)
    · rw [if_pos c1] at h
      obtain rfl := Option.some.inj h
      refine e_lv [] rfl ?_
      exact hx _ hOK
    · rw [if_neg c1] at h
      refine e_aload_n C 0 (dk dX12_takeHalf 8 rfl) rfl rfl ?_
      refine e_iload_n C 1 (dk dX12_takeHalf 9 rfl) rfl rfl ?_
      refine e_aload_n C 0 (dk dX12_takeHalf 10 rfl) rfl rfl ?_
      refine e_aload_n C 0 (dk dX12_takeHalf 11 rfl) rfl rfl ?_
      refine m_alen C K ha0 (nI n0) rfl (dk dX12_takeHalf 12 rfl) ?_
      refine e_iconst C 2 (dk dX12_takeHalf 13 rfl) (by decide) ?_
      refine e_idiv C (dk dX12_takeHalf 14 rfl) (by decide) ?_
      refine e_iload_n C 1 (dk dX12_takeHalf 15 rfl) rfl rfl ?_
      refine e_iadd C (dk dX12_takeHalf 16 rfl) ?_
      obtain ⟨v2, hv2, h⟩ := ob h
      refine m_ald C K ha0 (dk dX12_takeHalf 17 rfl) hv2 ?_
      obtain ⟨M3, hM3, h⟩ := ob h
      refine m_ast C K ha0 (dk dX12_takeHalf 18 rfl) hM3 ?_
      refine e_iinc C [(1, .int (x1 + 1)), (0, .ref (g_N g + a0))] 1 1 (dk dX12_takeHalf 19 rfl) rfl (by decide) (by decide) rfl ?_
      refine e_goto C 2 (dk dX12_takeHalf 20 rfl) (by decide) ?_
      refine e_lv [1, 0] rfl ?_
      exact ih _ _ _ h hOK
set_option maxRecDepth 20000 in
theorem lb_X12_takeHalf_2 {X : FX} {g : WC} {Xo : Nat → va_E} {n : Nat} {kd : Nat → Nat} (C : Cx X g RX12 cX12_takeHalf 2) (K : KD n kd) {a0 : Nat} {n0 : Nat} (ha0 : IA kd a0 n0) (hR : x_R X = rm 0) {T9 : Type} {f9 : Mem → Option T9} {b9 : T9} (hx : ∀ s, f9 s = some b9 → EW X g (x_s X).heap.size n 2 (ent g Xo kd s) 0 0 27 [] []) {x1 : Int32} {M : Mem} (h : (L_X12_takeHalf_2 a0 n0 FU x1 M).bind f9 = some b9) : EW X g (x_s X).heap.size n 2 (ent g Xo kd M) 0 0 2 [(0, .ref (g_N g + a0)), (1, .int x1)] [] := by
  obtain ⟨q, hq, h⟩ := ob h
  exact l_X12_takeHalf_2 C K ha0 hR (OK := fun q => f9 q = some b9) hx FU x1 M q hq h
set_option maxRecDepth 20000 in
theorem c_X12_takeHalf {g : WC} {Xo : Nat → va_E} {n : Nat} {kd : Nat → Nat} (K : KD n kd) {a0 : Nat} {n0 : Nat} (ha0 : IA kd a0 n0) {M : Mem} {res : Mem} (h : F_X12_takeHalf a0 n0 M = some res) : MC g yX12_takeHalf cX12_takeHalf 2 none 0 n [.ref (g_N g + a0)] (ent g Xo kd M) none (ent g Xo kd res) := by
  refine MC_of pn_X12 (Nat.le_of_ble_eq_true rfl) (fun X C B => ?_)
  have hR := B.1
  rw [F_X12_takeHalf] at h
  refine e_iconst C 0 (dk dX12_takeHalf 0 rfl) (by decide) ?_
  refine e_istore_n C [(1, .int 0), (0, .ref (g_N g + a0))] (dk dX12_takeHalf 1 rfl) rfl (by decide) rfl ?_
  refine e_lv [1, 0] rfl ?_
  refine lb_X12_takeHalf_2 C K ha0 hR (fun s5 h => ?_) h
  obtain rfl := Option.some.inj h
  exact e_vret C B (dk dX12_takeHalf 21 rfl)
set_option maxRecDepth 20000 in
theorem j_X12_takeOver_j186 {X : FX} {g : WC} {Xo : Nat → va_E} {n : Nat} {kd : Nat → Nat} (C : Cx X g RX12 cX12_takeOver 4) (K : KD n kd) {t : Nat} (ht : kd t = 13) {x1 : Int32} {x2 : Int32} (hR : x_R X = rm 1) {OK : Mem → Prop} (hx : ∀ s, OK s → EW X g (x_s X).heap.size n 4 (ent g Xo kd s) 0 0 193 [(0, .ref (g_N g + t)), (1, .int x1)] []) {rec : Int32 → Mem → Option (Mem)} (hrec : ∀ (x3 : Int32) (M : Mem) (q : Mem), rec x3 M = some q → OK q → EW X g (x_s X).heap.size n 4 (ent g Xo kd M) 0 0 141 [(0, .ref (g_N g + t)), (1, .int x1), (2, .int x2), (3, .int x3)] []) {x3 : Int32} {y1 : Int32} {y2 : Int32} {M : Mem} (q : Mem) (h : J_X12_takeOver_j186 t rec x1 x2 x3 y1 y2 M = some q) (hOK : OK q) : EW X g (x_s X).heap.size n 4 (ent g Xo kd M) 0 0 186 [(0, .ref (g_N g + t)), (1, .int x1), (2, .int x2), (3, .int x3)] [.int y2, .int y1, .ref (g_N g + (t + 16))] := by
  rw [J_X12_takeOver_j186] at h
  obtain ⟨M18, hM18, h⟩ := ob h
  refine m_ast C K (kd_X12_walks K ht) (dk dX12_takeOver_1 44 rfl) hM18 ?_
  refine e_iinc C [(3, .int (x3 + 1)), (0, .ref (g_N g + t)), (1, .int x1), (2, .int x2)] 3 1 (dk dX12_takeOver_1 45 rfl) rfl (by decide) (by decide) rfl ?_
  refine e_goto C 141 (dk dX12_takeOver_1 46 rfl) (by decide) ?_
  refine e_lv [1, 2, 3, 0] rfl ?_
  exact hrec _ _ _ h hOK
set_option maxRecDepth 20000 in
theorem j_X12_takeOver_j185 {X : FX} {g : WC} {Xo : Nat → va_E} {n : Nat} {kd : Nat → Nat} (C : Cx X g RX12 cX12_takeOver 4) (K : KD n kd) {t : Nat} (ht : kd t = 13) {x1 : Int32} {x2 : Int32} (hR : x_R X = rm 1) {OK : Mem → Prop} (hx : ∀ s, OK s → EW X g (x_s X).heap.size n 4 (ent g Xo kd s) 0 0 193 [(0, .ref (g_N g + t)), (1, .int x1)] []) {rec : Int32 → Mem → Option (Mem)} (hrec : ∀ (x3 : Int32) (M : Mem) (q : Mem), rec x3 M = some q → OK q → EW X g (x_s X).heap.size n 4 (ent g Xo kd M) 0 0 141 [(0, .ref (g_N g + t)), (1, .int x1), (2, .int x2), (3, .int x3)] []) {x3 : Int32} {y1 : Int32} {M : Mem} (q : Mem) (h : J_X12_takeOver_j185 t rec x1 x2 x3 y1 M = some q) (hOK : OK q) : EW X g (x_s X).heap.size n 4 (ent g Xo kd M) 0 0 185 [(0, .ref (g_N g + t)), (1, .int x1), (2, .int x2), (3, .int x3)] [.int y1, .ref (g_N g + (t + 16))] := by
  rw [J_X12_takeOver_j185] at h
  refine e_iconst C 0 (dk dX12_takeOver_1 43 rfl) (by decide) ?_
  exact j_X12_takeOver_j186 C K ht hR hx hrec _ h hOK
set_option maxRecDepth 20000 in
theorem l_X12_takeOver_141 {X : FX} {g : WC} {Xo : Nat → va_E} {n : Nat} {kd : Nat → Nat} (C : Cx X g RX12 cX12_takeOver 4) (K : KD n kd) {t : Nat} (ht : kd t = 13) {x1 : Int32} {x2 : Int32} (hR : x_R X = rm 1) {OK : Mem → Prop} (hx : ∀ s, OK s → EW X g (x_s X).heap.size n 4 (ent g Xo kd s) 0 0 193 [(0, .ref (g_N g + t)), (1, .int x1)] []) : ∀ (N9 : Nat) (x3 : Int32) (M : Mem) (q : Mem), L_X12_takeOver_141 t x1 x2 N9 x3 M = some q → OK q → EW X g (x_s X).heap.size n 4 (ent g Xo kd M) 0 0 141 [(0, .ref (g_N g + t)), (1, .int x1), (2, .int x2), (3, .int x3)] [] := by
  intro N9
  induction N9 with
  | zero =>
    intro x3 M q h
    rw [L_X12_takeOver_141.eq_1] at h
    cases h
  | succ m9 ih =>
    intro x3 M q h hOK
    rw [L_X12_takeOver_141.eq_2] at h
    refine e_iload_n C 3 (dk dX12_takeOver_1 16 rfl) rfl rfl ?_
    refine e_bipush C 6 (dk dX12_takeOver_1 17 rfl) (by decide) ?_
    refine e_icmp_ge C 193 (dk dX12_takeOver_1 18 rfl) (by decide) (fun c16 => ?_) (fun c16 => ?_)
    · rw [if_pos c16] at h
      obtain rfl := Option.some.inj h
      refine e_lv [0, 1] rfl ?_
      exact hx _ hOK
    · rw [if_neg c16] at h
      refine e_aload_n C 0 (dk dX12_takeOver_1 19 rfl) rfl rfl ?_
      refine gf_X12_walks C K ht fl_X12_80 (dk dX12_takeOver_1 20 rfl) ?_
      refine e_bipush C 6 (dk dX12_takeOver_1 21 rfl) (by decide) ?_
      refine e_iload_n C 1 (dk dX12_takeOver_1 22 rfl) rfl rfl ?_
      refine e_imul C (dk dX12_takeOver_1 23 rfl) ?_
      refine e_iload_n C 3 (dk dX12_takeOver_1 24 rfl) rfl rfl ?_
      refine e_iadd C (dk dX12_takeOver_1 25 rfl) ?_
      refine e_iload_n C 2 (dk dX12_takeOver_1 26 rfl) rfl rfl ?_
      refine e_if_eq C 185 (dk dX12_takeOver_1 27 rfl) (by decide) (fun c17 => ?_) (fun c17 => ?_)
      · rw [if_pos c17] at h
        exact j_X12_takeOver_j185 C K ht hR hx ih _ h hOK
      · rw [if_neg c17] at h
        refine e_iload_n C 3 (dk dX12_takeOver_1 28 rfl) rfl rfl ?_
        refine e_aload_n C 0 (dk dX12_takeOver_1 29 rfl) rfl rfl ?_
        refine gf_X12_places C K ht fl_X12_53 (dk dX12_takeOver_1 30 rfl) ?_
        refine e_iload_n C 1 (dk dX12_takeOver_1 31 rfl) rfl rfl ?_
        obtain ⟨v19, hv19, h⟩ := ob h
        refine m_ald C K (kd_X12_places K ht) (dk dX12_takeOver_1 32 rfl) hv19 ?_
        refine e_icmp_ge C 185 (dk dX12_takeOver_1 33 rfl) (by decide) (fun c20 => ?_) (fun c20 => ?_)
        · rw [if_pos c20] at h
          exact j_X12_takeOver_j185 C K ht hR hx ih _ h hOK
        · rw [if_neg c20] at h
          refine e_aload_n C 0 (dk dX12_takeOver_1 34 rfl) rfl rfl ?_
          refine gf_X12_walkTold C K ht fl_X12_56 (dk dX12_takeOver_1 35 rfl) ?_
          refine e_bipush C 6 (dk dX12_takeOver_1 36 rfl) (by decide) ?_
          refine e_iload_n C 1 (dk dX12_takeOver_1 37 rfl) rfl rfl ?_
          refine e_imul C (dk dX12_takeOver_1 38 rfl) ?_
          refine e_iload_n C 3 (dk dX12_takeOver_1 39 rfl) rfl rfl ?_
          refine e_iadd C (dk dX12_takeOver_1 40 rfl) ?_
          obtain ⟨v21, hv21, h⟩ := ob h
          refine m_ald C K (kd_X12_walkTold K ht) (dk dX12_takeOver_1 41 rfl) hv21 ?_
          refine e_goto C 186 (dk dX12_takeOver_1 42 rfl) (by decide) ?_
          exact j_X12_takeOver_j186 C K ht hR hx ih _ h hOK
set_option maxRecDepth 20000 in
theorem lb_X12_takeOver_141 {X : FX} {g : WC} {Xo : Nat → va_E} {n : Nat} {kd : Nat → Nat} (C : Cx X g RX12 cX12_takeOver 4) (K : KD n kd) {t : Nat} (ht : kd t = 13) {x1 : Int32} {x2 : Int32} (hR : x_R X = rm 1) {T9 : Type} {f9 : Mem → Option T9} {b9 : T9} (hx : ∀ s, f9 s = some b9 → EW X g (x_s X).heap.size n 4 (ent g Xo kd s) 0 0 193 [(0, .ref (g_N g + t)), (1, .int x1)] []) {x3 : Int32} {M : Mem} (h : (L_X12_takeOver_141 t x1 x2 FU x3 M).bind f9 = some b9) : EW X g (x_s X).heap.size n 4 (ent g Xo kd M) 0 0 141 [(0, .ref (g_N g + t)), (1, .int x1), (2, .int x2), (3, .int x3)] [] := by
  obtain ⟨q, hq, h⟩ := ob h
  exact l_X12_takeOver_141 C K ht hR (OK := fun q => f9 q = some b9) hx FU x3 M q hq h
set_option maxRecDepth 20000 in
theorem j_X12_takeOver_j131 {X : FX} {g : WC} {Xo : Nat → va_E} {n : Nat} {kd : Nat → Nat} (C : Cx X g RX12 cX12_takeOver 4) (K : KD n kd) {t : Nat} (ht : kd t = 13) (hR : x_R X = rm 1) {OK : Mem → Prop} (hx : ∀ s, OK s → EW X g (x_s X).heap.size n 4 (ent g Xo kd s) 0 0 199 [(0, .ref (g_N g + t))] []) {rec : Int32 → Mem → Option (Mem)} (hrec : ∀ (x1 : Int32) (M : Mem) (q : Mem), rec x1 M = some q → OK q → EW X g (x_s X).heap.size n 4 (ent g Xo kd M) 0 0 90 [(0, .ref (g_N g + t)), (1, .int x1)] []) {x1 : Int32} {x2 : Int32} {y1 : Int32} {y2 : Int32} {M : Mem} (q : Mem) (h : J_X12_takeOver_j131 t rec x1 x2 y1 y2 M = some q) (hOK : OK q) : EW X g (x_s X).heap.size n 4 (ent g Xo kd M) 0 0 131 [(0, .ref (g_N g + t)), (1, .int x1), (2, .int x2)] [.int y2, .int y1, .ref (g_N g + (t + 14))] := by
  rw [J_X12_takeOver_j131] at h
  obtain ⟨M14, hM14, h⟩ := ob h
  refine m_ast C K (kd_X12_purse K ht) (dk dX12_takeOver_1 8 rfl) hM14 ?_
  refine e_aload_n C 0 (dk dX12_takeOver_1 9 rfl) rfl rfl ?_
  refine gf_X12_knows C K ht fl_X12_78 (dk dX12_takeOver_1 10 rfl) ?_
  refine e_iload_n C 1 (dk dX12_takeOver_1 11 rfl) rfl rfl ?_
  refine e_iconst C 0 (dk dX12_takeOver_1 12 rfl) (by decide) ?_
  obtain ⟨M15, hM15, h⟩ := ob h
  refine m_ast C K (kd_X12_knows K ht) (dk dX12_takeOver_1 13 rfl) hM15 ?_
  refine e_iconst C 0 (dk dX12_takeOver_1 14 rfl) (by decide) ?_
  refine e_istore_n C [(3, .int 0), (0, .ref (g_N g + t)), (1, .int x1), (2, .int x2)] (dk dX12_takeOver_1 15 rfl) rfl (by decide) rfl ?_
  refine e_lv [1, 2, 3, 0] rfl ?_
  refine lb_X12_takeOver_141 C K ht hR (fun s23 h => ?_) h
  refine e_iinc C [(1, .int (x1 + 1)), (0, .ref (g_N g + t))] 1 1 (dk dX12_takeOver_1 47 rfl) rfl (by decide) (by decide) rfl ?_
  refine e_goto C 90 (dk dX12_takeOver_1 48 rfl) (by decide) ?_
  refine e_lv [1, 0] rfl ?_
  exact hrec _ _ _ h hOK
set_option maxRecDepth 20000 in
theorem l_X12_takeOver_90 {X : FX} {g : WC} {Xo : Nat → va_E} {n : Nat} {kd : Nat → Nat} (C : Cx X g RX12 cX12_takeOver 4) (K : KD n kd) {t : Nat} (ht : kd t = 13) (hR : x_R X = rm 1) {OK : Mem → Prop} (hx : ∀ s, OK s → EW X g (x_s X).heap.size n 4 (ent g Xo kd s) 0 0 199 [(0, .ref (g_N g + t))] []) : ∀ (N9 : Nat) (x1 : Int32) (M : Mem) (q : Mem), L_X12_takeOver_90 t N9 x1 M = some q → OK q → EW X g (x_s X).heap.size n 4 (ent g Xo kd M) 0 0 90 [(0, .ref (g_N g + t)), (1, .int x1)] [] := by
  intro N9
  induction N9 with
  | zero =>
    intro x1 M q h
    rw [L_X12_takeOver_90.eq_1] at h
    cases h
  | succ m9 ih =>
    intro x1 M q h hOK
    rw [L_X12_takeOver_90.eq_2] at h
    refine e_iload_n C 1 (dk dX12_takeOver_0 44 rfl) rfl rfl ?_
    refine e_bipush C 7 (dk dX12_takeOver_0 45 rfl) (by decide) ?_
    refine e_icmp_ge C 199 (dk dX12_takeOver_0 46 rfl) (by decide) (fun c10 => ?_) (fun c10 => ?_)
    · rw [if_pos c10] at h
      obtain rfl := Option.some.inj h
      refine e_lv [0] rfl ?_
      exact hx _ hOK
    · rw [if_neg c10] at h
      refine e_iload_n C 1 (dk dX12_takeOver_0 47 rfl) rfl rfl ?_
      refine e_aload_n C 0 (dk dX12_takeOver_0 48 rfl) rfl rfl ?_
      refine gf_X12_told C K ht fl_X12_38 (dk dX12_takeOver_0 49 rfl) ?_
      refine e_iconst C 3 (dk dX12_takeOver_0 50 rfl) (by decide) ?_
      refine m_aldc C K (kd_X12_told K ht) 3 (dk dX12_takeOver_0 51 rfl) (by decide) (by decide) ?_
      suffices hm12 : EW X g (x_s X).heap.size n 4 (ent g Xo kd M) 0 0 111 [(0, .ref (g_N g + t)), (1, .int x1)] [.int (if (M (t + 3) 3) ≤ x1 then (0 : Int32) else (1 : Int32))] from (by
        refine e_icmp_ge C 110 (dk dX12_takeOver_0 52 rfl) (by decide) (fun c11 => ?_) (fun c11 => ?_)
        · rw [show (if (M (t + 3) 3) ≤ x1 then (0 : Int32) else (1 : Int32)) = (0 : Int32) from if_pos c11] at hm12
          refine e_iconst C 0 (dk dX12_takeOver_0 55 rfl) (by decide) ?_
          exact hm12
        · rw [show (if (M (t + 3) 3) ≤ x1 then (0 : Int32) else (1 : Int32)) = (1 : Int32) from if_neg c11] at hm12
          refine e_iconst C 1 (dk dX12_takeOver_0 53 rfl) (by decide) ?_
          refine e_goto C 111 (dk dX12_takeOver_0 54 rfl) (by decide) ?_
          exact hm12)
      refine e_istore_n C [(2, .int (if (M (t + 3) 3) ≤ x1 then (0 : Int32) else (1 : Int32))), (0, .ref (g_N g + t)), (1, .int x1)] (dk dX12_takeOver_0 56 rfl) rfl (by decide) rfl ?_
      refine e_aload_n C 1 (dk dX12_takeOver_0 57 rfl) rfl rfl ?_
      refine gf_X12_purse C K ht fl_X12_75 (dk dX12_takeOver_0 58 rfl) ?_
      refine e_iload_n C 2 (dk dX12_takeOver_0 59 rfl) rfl rfl ?_
      refine e_iload_n C 0 (dk dX12_takeOver_1 0 rfl) rfl rfl ?_
      refine e_if_eq C 130 (dk dX12_takeOver_1 1 rfl) (by decide) (fun c13 => ?_) (fun c13 => ?_)
      · rw [if_pos c13] at h
        refine e_iconst C 0 (dk dX12_takeOver_1 7 rfl) (by decide) ?_
        refine e_lv [1, 2, 0] rfl ?_
        exact j_X12_takeOver_j131 C K ht hR hx ih _ h hOK
      · rw [if_neg c13] at h
        refine e_aload_n C 1 (dk dX12_takeOver_1 2 rfl) rfl rfl ?_
        refine gf_X12_coinsTold C K ht fl_X12_50 (dk dX12_takeOver_1 3 rfl) ?_
        refine e_iload_n C 2 (dk dX12_takeOver_1 4 rfl) rfl rfl ?_
        obtain ⟨v24, hv24, h⟩ := ob h
        refine m_ald C K (kd_X12_coinsTold K ht) (dk dX12_takeOver_1 5 rfl) hv24 ?_
        refine e_goto C 131 (dk dX12_takeOver_1 6 rfl) (by decide) ?_
        refine e_lv [1, 2, 0] rfl ?_
        exact j_X12_takeOver_j131 C K ht hR hx ih _ h hOK
set_option maxRecDepth 20000 in
theorem lb_X12_takeOver_90 {X : FX} {g : WC} {Xo : Nat → va_E} {n : Nat} {kd : Nat → Nat} (C : Cx X g RX12 cX12_takeOver 4) (K : KD n kd) {t : Nat} (ht : kd t = 13) (hR : x_R X = rm 1) {T9 : Type} {f9 : Mem → Option T9} {b9 : T9} (hx : ∀ s, f9 s = some b9 → EW X g (x_s X).heap.size n 4 (ent g Xo kd s) 0 0 199 [(0, .ref (g_N g + t))] []) {x1 : Int32} {M : Mem} (h : (L_X12_takeOver_90 t FU x1 M).bind f9 = some b9) : EW X g (x_s X).heap.size n 4 (ent g Xo kd M) 0 0 90 [(0, .ref (g_N g + t)), (1, .int x1)] [] := by
  obtain ⟨q, hq, h⟩ := ob h
  exact l_X12_takeOver_90 C K ht hR (OK := fun q => f9 q = some b9) hx FU x1 M q hq h
set_option maxRecDepth 20000 in
theorem c_X12_takeOver {g : WC} {Xo : Nat → va_E} {n : Nat} {kd : Nat → Nat} (K : KD n kd) {t : Nat} (ht : kd t = 13) {M : Mem} {res : Mem} (h : F_X12_takeOver t M = some res) : MC g yX12_takeOver cX12_takeOver 4 none 1 n [.ref (g_N g + t)] (ent g Xo kd M) none (ent g Xo kd res) := by
  refine MC_of pn_X12 (Nat.le_of_ble_eq_true rfl) (fun X C B => ?_)
  have hR := B.1
  rw [F_X12_takeOver] at h
  refine e_aload_n C 0 (dk dX12_takeOver_0 0 rfl) rfl rfl ?_
  refine gf_X12_told C K ht fl_X12_38 (dk dX12_takeOver_0 1 rfl) ?_
  obtain ⟨q1, hq1, h⟩ := ob h
  refine e_callS C cal_X12_takeHalf sm_X12_takeHalf ml_X12_327 hR (by decide) (dk dX12_takeOver_0 2 rfl) (c_X12_takeHalf K (kd_X12_told K ht) hq1) ⟨Nat.zero_le _, Nat.zero_le _⟩ (Nat.le_of_ble_eq_true rfl) rfl ?_
  refine e_aload_n C 0 (dk dX12_takeOver_0 3 rfl) rfl rfl ?_
  refine gf_X12_pathTold C K ht fl_X12_42 (dk dX12_takeOver_0 4 rfl) ?_
  obtain ⟨q2, hq2, h⟩ := ob h
  refine e_callS C cal_X12_takeHalf sm_X12_takeHalf ml_X12_327 hR (by decide) (dk dX12_takeOver_0 5 rfl) (c_X12_takeHalf K (kd_X12_pathTold K ht) hq2) ⟨Nat.zero_le _, Nat.zero_le _⟩ (Nat.le_of_ble_eq_true rfl) rfl ?_
  refine e_aload_n C 0 (dk dX12_takeOver_0 6 rfl) rfl rfl ?_
  refine gf_X12_roundTold C K ht fl_X12_45 (dk dX12_takeOver_0 7 rfl) ?_
  obtain ⟨q3, hq3, h⟩ := ob h
  refine e_callS C cal_X12_takeHalf sm_X12_takeHalf ml_X12_327 hR (by decide) (dk dX12_takeOver_0 8 rfl) (c_X12_takeHalf K (kd_X12_roundTold K ht) hq3) ⟨Nat.zero_le _, Nat.zero_le _⟩ (Nat.le_of_ble_eq_true rfl) rfl ?_
  refine e_aload_n C 0 (dk dX12_takeOver_0 9 rfl) rfl rfl ?_
  refine gf_X12_bishop C K ht fl_X12_48 (dk dX12_takeOver_0 10 rfl) ?_
  obtain ⟨q4, hq4, h⟩ := ob h
  refine e_callS C cal_X12_takeHalf sm_X12_takeHalf ml_X12_327 hR (by decide) (dk dX12_takeOver_0 11 rfl) (c_X12_takeHalf K (kd_X12_bishop K ht) hq4) ⟨Nat.zero_le _, Nat.zero_le _⟩ (Nat.le_of_ble_eq_true rfl) rfl ?_
  refine e_aload_n C 0 (dk dX12_takeOver_0 12 rfl) rfl rfl ?_
  refine gf_X12_coinsTold C K ht fl_X12_50 (dk dX12_takeOver_0 13 rfl) ?_
  obtain ⟨q5, hq5, h⟩ := ob h
  refine e_callS C cal_X12_takeHalf sm_X12_takeHalf ml_X12_327 hR (by decide) (dk dX12_takeOver_0 14 rfl) (c_X12_takeHalf K (kd_X12_coinsTold K ht) hq5) ⟨Nat.zero_le _, Nat.zero_le _⟩ (Nat.le_of_ble_eq_true rfl) rfl ?_
  refine e_aload_n C 0 (dk dX12_takeOver_0 15 rfl) rfl rfl ?_
  refine gf_X12_places C K ht fl_X12_53 (dk dX12_takeOver_0 16 rfl) ?_
  obtain ⟨q6, hq6, h⟩ := ob h
  refine e_callS C cal_X12_takeHalf sm_X12_takeHalf ml_X12_327 hR (by decide) (dk dX12_takeOver_0 17 rfl) (c_X12_takeHalf K (kd_X12_places K ht) hq6) ⟨Nat.zero_le _, Nat.zero_le _⟩ (Nat.le_of_ble_eq_true rfl) rfl ?_
  refine e_aload_n C 0 (dk dX12_takeOver_0 18 rfl) rfl rfl ?_
  refine gf_X12_walkTold C K ht fl_X12_56 (dk dX12_takeOver_0 19 rfl) ?_
  obtain ⟨q7, hq7, h⟩ := ob h
  refine e_callS C cal_X12_takeHalf sm_X12_takeHalf ml_X12_327 hR (by decide) (dk dX12_takeOver_0 20 rfl) (c_X12_takeHalf K (kd_X12_walkTold K ht) hq7) ⟨Nat.zero_le _, Nat.zero_le _⟩ (Nat.le_of_ble_eq_true rfl) rfl ?_
  refine e_aload_n C 0 (dk dX12_takeOver_0 21 rfl) rfl rfl ?_
  refine gf_X12_fogTold C K ht fl_X12_59 (dk dX12_takeOver_0 22 rfl) ?_
  obtain ⟨q8, hq8, h⟩ := ob h
  refine e_callS C cal_X12_takeHalf sm_X12_takeHalf ml_X12_327 hR (by decide) (dk dX12_takeOver_0 23 rfl) (c_X12_takeHalf K (kd_X12_fogTold K ht) hq8) ⟨Nat.zero_le _, Nat.zero_le _⟩ (Nat.le_of_ble_eq_true rfl) rfl ?_
  refine e_aload_n C 0 (dk dX12_takeOver_0 24 rfl) rfl rfl ?_
  refine gf_X12_signs C K ht fl_X12_62 (dk dX12_takeOver_0 25 rfl) ?_
  obtain ⟨q9, hq9, h⟩ := ob h
  refine e_callS C cal_X12_takeHalf sm_X12_takeHalf ml_X12_327 hR (by decide) (dk dX12_takeOver_0 26 rfl) (c_X12_takeHalf K (kd_X12_signs K ht) hq9) ⟨Nat.zero_le _, Nat.zero_le _⟩ (Nat.le_of_ble_eq_true rfl) rfl ?_
  refine e_aload_n C 0 (dk dX12_takeOver_0 27 rfl) rfl rfl ?_
  refine e_iconst C 0 (dk dX12_takeOver_0 28 rfl) (by decide) ?_
  refine pf_X12_night C K ht fl_X12_331 (dk dX12_takeOver_0 29 rfl) ?_
  refine e_aload_n C 0 (dk dX12_takeOver_0 30 rfl) rfl rfl ?_
  refine e_iconst C 0 (dk dX12_takeOver_0 31 rfl) (by decide) ?_
  refine pf_X12_darkness C K ht fl_X12_333 (dk dX12_takeOver_0 32 rfl) ?_
  refine e_aload_n C 0 (dk dX12_takeOver_0 33 rfl) rfl rfl ?_
  refine e_aload_n C 0 (dk dX12_takeOver_0 34 rfl) rfl rfl ?_
  refine gf_X12_told C K ht fl_X12_38 (dk dX12_takeOver_0 35 rfl) ?_
  refine e_iconst C 5 (dk dX12_takeOver_0 36 rfl) (by decide) ?_
  refine m_aldc C K (kd_X12_told K ht) 5 (dk dX12_takeOver_0 37 rfl) (by decide) (by decide) ?_
  refine pf_X12_held C K ht fl_X12_153 (dk dX12_takeOver_0 38 rfl) ?_
  refine e_aload_n C 0 (dk dX12_takeOver_0 39 rfl) rfl rfl ?_
  refine e_iconst C 0 (dk dX12_takeOver_0 40 rfl) (by decide) ?_
  refine pf_X12_bribing C K ht fl_X12_336 (dk dX12_takeOver_0 41 rfl) ?_
  refine e_iconst C 0 (dk dX12_takeOver_0 42 rfl) (by decide) ?_
  refine e_istore_n C [(1, .int 0), (0, .ref (g_N g + t))] (dk dX12_takeOver_0 43 rfl) rfl (by decide) rfl ?_
  refine e_lv [1, 0] rfl ?_
  refine lb_X12_takeOver_90 C K ht hR (fun s26 h => ?_) h
  refine e_aload_n C 0 (dk dX12_takeOver_1 49 rfl) rfl rfl ?_
  refine e_iconst C 0 (dk dX12_takeOver_1 50 rfl) (by decide) ?_
  refine pf_X12_acts C K ht fl_X12_339 (dk dX12_takeOver_1 51 rfl) ?_
  refine e_aload_n C 0 (dk dX12_takeOver_1 52 rfl) rfl rfl ?_
  refine e_iconst C 0 (dk dX12_takeOver_1 53 rfl) (by decide) ?_
  refine pf_X12_tellings C K ht fl_X12_342 (dk dX12_takeOver_1 54 rfl) ?_
  refine e_aload_n C 0 (dk dX12_takeOver_1 55 rfl) rfl rfl ?_
  refine e_iconst C 0 (dk dX12_takeOver_1 56 rfl) (by decide) ?_
  refine pf_X12_hasImage (b := false) C K ht fl_X12_345 (dk dX12_takeOver_1 57 rfl) ?_
  obtain rfl := Option.some.inj h
  exact e_vret C B (dk dX12_takeOver_1 58 rfl)
set_option maxRecDepth 20000 in
theorem c_X12_fault {g : WC} {Xo : Nat → va_E} {n : Nat} {kd : Nat → Nat} (K : KD n kd) {t : Nat} (ht : kd t = 13) {M : Mem} {res : Int32 × Mem} (h : F_X12_fault t M = res) : MC g yX12_fault cX12_fault 1 (some .int) 0 n [.ref (g_N g + t)] (ent g Xo kd M) (some (.int res.1)) (ent g Xo kd res.2) := by
  refine MC_of pn_X12 (Nat.le_of_ble_eq_true rfl) (fun X C B => ?_)
  have hR := B.1
  rw [F_X12_fault] at h
  refine e_aload_n C 0 (dk dX12_fault 0 rfl) rfl rfl ?_
  refine e_iconst C 0 (dk dX12_fault 1 rfl) (by decide) ?_
  refine pf_X12_code C K ht fl_X12_156 (dk dX12_fault 2 rfl) ?_
  refine e_aload_n C 0 (dk dX12_fault 3 rfl) rfl rfl ?_
  refine gf_X12_faultPlace C K ht fl_X12_71 (dk dX12_fault 4 rfl) ?_
  subst h
  exact e_iret C B (nar1 _) (dk dX12_fault 5 rfl)
set_option maxRecDepth 20000 in
theorem l_X12_pack_36 {X : FX} {g : WC} {Xo : Nat → va_E} {n : Nat} {kd : Nat → Nat} (C : Cx X g RX12 cX12_pack 5) (K : KD n kd) {t : Nat} {a0 : Nat} {n0 : Nat} (ht : kd t = 13) (ha0 : IA kd a0 n0) {x2 : Int32} (hR : x_R X = rm 0) {OK : Mem → Prop} (hx : ∀ s, OK s → EW X g (x_s X).heap.size n 5 (ent g Xo kd s) 0 0 77 [(0, .ref (g_N g + t)), (1, .ref (g_N g + a0)), (2, .int x2)] []) : ∀ (N9 : Nat) (x3 : Int32) (M : Mem) (q : Mem), L_X12_pack_36 t a0 n0 x2 N9 x3 M = some q → OK q → EW X g (x_s X).heap.size n 5 (ent g Xo kd M) 0 0 36 [(0, .ref (g_N g + t)), (1, .ref (g_N g + a0)), (2, .int x2), (3, .int x3)] [] := by
  intro N9
  induction N9 with
  | zero =>
    intro x3 M q h
    rw [L_X12_pack_36.eq_1] at h
    cases h
  | succ m9 ih =>
    intro x3 M q h hOK
    rw [L_X12_pack_36.eq_2] at h
    refine e_iload_n C 3 (dk dX12_pack_0 28 rfl) rfl rfl ?_
    refine e_bipush C 7 (dk dX12_pack_0 29 rfl) (by decide) ?_
    refine e_icmp_ge C 77 (dk dX12_pack_0 30 rfl) (by decide) (fun c5 => ?_) (fun c5 => ?_)
    · rw [if_pos c5] at h
      obtain rfl := Option.some.inj h
      refine e_lv [0, 1, 2] rfl ?_
      exact hx _ hOK
    · rw [if_neg c5] at h
      refine e_aload_n C 1 (dk dX12_pack_0 31 rfl) rfl rfl ?_
      refine e_iload_n C 2 (dk dX12_pack_0 32 rfl) rfl rfl ?_
      refine e_iconst C 4 (dk dX12_pack_0 33 rfl) (by decide) ?_
      refine e_iadd C (dk dX12_pack_0 34 rfl) ?_
      refine e_iload_n C 3 (dk dX12_pack_0 35 rfl) rfl rfl ?_
      refine e_iadd C (dk dX12_pack_0 36 rfl) ?_
      refine e_aload_n C 0 (dk dX12_pack_0 37 rfl) rfl rfl ?_
      refine gf_X12_purse C K ht fl_X12_75 (dk dX12_pack_0 38 rfl) ?_
      refine e_iload_n C 3 (dk dX12_pack_0 39 rfl) rfl rfl ?_
      obtain ⟨v6, hv6, h⟩ := ob h
      refine m_ald C K (kd_X12_purse K ht) (dk dX12_pack_0 40 rfl) hv6 ?_
      obtain ⟨M7, hM7, h⟩ := ob h
      refine m_ast C K ha0 (dk dX12_pack_0 41 rfl) hM7 ?_
      refine e_aload_n C 1 (dk dX12_pack_0 42 rfl) rfl rfl ?_
      refine e_iload_n C 2 (dk dX12_pack_0 43 rfl) rfl rfl ?_
      refine e_iconst C 4 (dk dX12_pack_0 44 rfl) (by decide) ?_
      refine e_iadd C (dk dX12_pack_0 45 rfl) ?_
      refine e_bipush C 7 (dk dX12_pack_0 46 rfl) (by decide) ?_
      refine e_iadd C (dk dX12_pack_0 47 rfl) ?_
      refine e_iload_n C 3 (dk dX12_pack_0 48 rfl) rfl rfl ?_
      refine e_iadd C (dk dX12_pack_0 49 rfl) ?_
      refine e_aload_n C 0 (dk dX12_pack_0 50 rfl) rfl rfl ?_
      refine gf_X12_knows C K ht fl_X12_78 (dk dX12_pack_0 51 rfl) ?_
      refine e_iload_n C 3 (dk dX12_pack_0 52 rfl) rfl rfl ?_
      obtain ⟨v8, hv8, h⟩ := ob h
      refine m_ald C K (kd_X12_knows K ht) (dk dX12_pack_0 53 rfl) hv8 ?_
      obtain ⟨M9, hM9, h⟩ := ob h
      refine m_ast C K ha0 (dk dX12_pack_0 54 rfl) hM9 ?_
      refine e_iinc C [(3, .int (x3 + 1)), (0, .ref (g_N g + t)), (1, .ref (g_N g + a0)), (2, .int x2)] 3 1 (dk dX12_pack_0 55 rfl) rfl (by decide) (by decide) rfl ?_
      refine e_goto C 36 (dk dX12_pack_0 56 rfl) (by decide) ?_
      refine e_lv [1, 2, 3, 0] rfl ?_
      exact ih _ _ _ h hOK
set_option maxRecDepth 20000 in
theorem lb_X12_pack_36 {X : FX} {g : WC} {Xo : Nat → va_E} {n : Nat} {kd : Nat → Nat} (C : Cx X g RX12 cX12_pack 5) (K : KD n kd) {t : Nat} {a0 : Nat} {n0 : Nat} (ht : kd t = 13) (ha0 : IA kd a0 n0) {x2 : Int32} (hR : x_R X = rm 0) {T9 : Type} {f9 : Mem → Option T9} {b9 : T9} (hx : ∀ s, f9 s = some b9 → EW X g (x_s X).heap.size n 5 (ent g Xo kd s) 0 0 77 [(0, .ref (g_N g + t)), (1, .ref (g_N g + a0)), (2, .int x2)] []) {x3 : Int32} {M : Mem} (h : (L_X12_pack_36 t a0 n0 x2 FU x3 M).bind f9 = some b9) : EW X g (x_s X).heap.size n 5 (ent g Xo kd M) 0 0 36 [(0, .ref (g_N g + t)), (1, .ref (g_N g + a0)), (2, .int x2), (3, .int x3)] [] := by
  obtain ⟨q, hq, h⟩ := ob h
  exact l_X12_pack_36 C K ht ha0 hR (OK := fun q => f9 q = some b9) hx FU x3 M q hq h
set_option maxRecDepth 20000 in
theorem l_X12_pack_87 {X : FX} {g : WC} {Xo : Nat → va_E} {n : Nat} {kd : Nat → Nat} (C : Cx X g RX12 cX12_pack 5) (K : KD n kd) {t : Nat} {a0 : Nat} {n0 : Nat} (ht : kd t = 13) (ha0 : IA kd a0 n0) {x3 : Int32} (hR : x_R X = rm 0) {OK : Mem → Prop} (hx : ∀ s, OK s → EW X g (x_s X).heap.size n 5 (ent g Xo kd s) 0 0 116 [] []) : ∀ (N9 : Nat) (x4 : Int32) (M : Mem) (q : Mem), L_X12_pack_87 t a0 n0 x3 N9 x4 M = some q → OK q → EW X g (x_s X).heap.size n 5 (ent g Xo kd M) 0 0 87 [(0, .ref (g_N g + t)), (1, .ref (g_N g + a0)), (3, .int x3), (4, .int x4)] [] := by
  intro N9
  induction N9 with
  | zero =>
    intro x4 M q h
    rw [L_X12_pack_87.eq_1] at h
    cases h
  | succ m9 ih =>
    intro x4 M q h hOK
    rw [L_X12_pack_87.eq_2] at h
    refine e_iload C 3 (dk dX12_pack_1 5 rfl) rfl ?_
    refine e_aload_n C 0 (dk dX12_pack_1 6 rfl) rfl rfl ?_
    refine gf_X12_walks C K ht fl_X12_80 (dk dX12_pack_1 7 rfl) ?_
    refine m_alen C K (kd_X12_walks K ht) 42 (by decide) (dk dX12_pack_1 8 rfl) ?_
    refine e_icmp_ge C 116 (dk dX12_pack_1 9 rfl) (by decide) (fun c12 => ?_) (fun c12 => ?_)
    · rw [if_pos c12] at h
      obtain rfl := Option.some.inj h
      refine e_lv [] rfl ?_
      exact hx _ hOK
    · rw [if_neg c12] at h
      refine e_aload_n C 1 (dk dX12_pack_1 10 rfl) rfl rfl ?_
      refine e_iload_n C 2 (dk dX12_pack_1 11 rfl) rfl rfl ?_
      refine e_iload C 3 (dk dX12_pack_1 12 rfl) rfl ?_
      refine e_iadd C (dk dX12_pack_1 13 rfl) ?_
      refine e_aload_n C 0 (dk dX12_pack_1 14 rfl) rfl rfl ?_
      refine gf_X12_walks C K ht fl_X12_80 (dk dX12_pack_1 15 rfl) ?_
      refine e_iload C 3 (dk dX12_pack_1 16 rfl) rfl ?_
      obtain ⟨v13, hv13, h⟩ := ob h
      refine m_ald C K (kd_X12_walks K ht) (dk dX12_pack_1 17 rfl) hv13 ?_
      obtain ⟨M14, hM14, h⟩ := ob h
      refine m_ast C K ha0 (dk dX12_pack_1 18 rfl) hM14 ?_
      refine e_iinc C [(4, .int (x4 + 1)), (0, .ref (g_N g + t)), (1, .ref (g_N g + a0)), (3, .int x3)] 3 1 (dk dX12_pack_1 19 rfl) rfl (by decide) (by decide) rfl ?_
      refine e_goto C 87 (dk dX12_pack_1 20 rfl) (by decide) ?_
      refine e_lv [1, 2, 3, 0] rfl ?_
      exact ih _ _ _ h hOK
set_option maxRecDepth 20000 in
theorem lb_X12_pack_87 {X : FX} {g : WC} {Xo : Nat → va_E} {n : Nat} {kd : Nat → Nat} (C : Cx X g RX12 cX12_pack 5) (K : KD n kd) {t : Nat} {a0 : Nat} {n0 : Nat} (ht : kd t = 13) (ha0 : IA kd a0 n0) {x3 : Int32} (hR : x_R X = rm 0) {T9 : Type} {f9 : Mem → Option T9} {b9 : T9} (hx : ∀ s, f9 s = some b9 → EW X g (x_s X).heap.size n 5 (ent g Xo kd s) 0 0 116 [] []) {x4 : Int32} {M : Mem} (h : (L_X12_pack_87 t a0 n0 x3 FU x4 M).bind f9 = some b9) : EW X g (x_s X).heap.size n 5 (ent g Xo kd M) 0 0 87 [(0, .ref (g_N g + t)), (1, .ref (g_N g + a0)), (3, .int x3), (4, .int x4)] [] := by
  obtain ⟨q, hq, h⟩ := ob h
  exact l_X12_pack_87 C K ht ha0 hR (OK := fun q => f9 q = some b9) hx FU x4 M q hq h
set_option maxRecDepth 20000 in
theorem c_X12_pack {g : WC} {Xo : Nat → va_E} {n : Nat} {kd : Nat → Nat} (K : KD n kd) {t : Nat} {a0 : Nat} {n0 : Nat} {p1 : Int32} (ht : kd t = 13) (ha0 : IA kd a0 n0) {M : Mem} {res : Mem} (h : F_X12_pack t a0 n0 p1 M = some res) : MC g yX12_pack cX12_pack 5 none 0 n [.ref (g_N g + t), .ref (g_N g + a0), .int p1] (ent g Xo kd M) none (ent g Xo kd res) := by
  refine MC_of pn_X12 (Nat.le_of_ble_eq_true rfl) (fun X C B => ?_)
  have hR := B.1
  rw [F_X12_pack] at h
  refine e_aload_n C 1 (dk dX12_pack_0 0 rfl) rfl rfl ?_
  refine e_iload_n C 2 (dk dX12_pack_0 1 rfl) rfl rfl ?_
  refine e_aload_n C 0 (dk dX12_pack_0 2 rfl) rfl rfl ?_
  refine gf_X12_night C K ht fl_X12_331 (dk dX12_pack_0 3 rfl) ?_
  obtain ⟨M1, hM1, h⟩ := ob h
  refine m_ast C K ha0 (dk dX12_pack_0 4 rfl) hM1 ?_
  refine e_aload_n C 1 (dk dX12_pack_0 5 rfl) rfl rfl ?_
  refine e_iload_n C 2 (dk dX12_pack_0 6 rfl) rfl rfl ?_
  refine e_iconst C 1 (dk dX12_pack_0 7 rfl) (by decide) ?_
  refine e_iadd C (dk dX12_pack_0 8 rfl) ?_
  refine e_aload_n C 0 (dk dX12_pack_0 9 rfl) rfl rfl ?_
  refine gf_X12_darkness C K ht fl_X12_333 (dk dX12_pack_0 10 rfl) ?_
  obtain ⟨M2, hM2, h⟩ := ob h
  refine m_ast C K ha0 (dk dX12_pack_0 11 rfl) hM2 ?_
  refine e_aload_n C 1 (dk dX12_pack_0 12 rfl) rfl rfl ?_
  refine e_iload_n C 2 (dk dX12_pack_0 13 rfl) rfl rfl ?_
  refine e_iconst C 2 (dk dX12_pack_0 14 rfl) (by decide) ?_
  refine e_iadd C (dk dX12_pack_0 15 rfl) ?_
  refine e_aload_n C 0 (dk dX12_pack_0 16 rfl) rfl rfl ?_
  refine gf_X12_held C K ht fl_X12_153 (dk dX12_pack_0 17 rfl) ?_
  obtain ⟨M3, hM3, h⟩ := ob h
  refine m_ast C K ha0 (dk dX12_pack_0 18 rfl) hM3 ?_
  refine e_aload_n C 1 (dk dX12_pack_0 19 rfl) rfl rfl ?_
  refine e_iload_n C 2 (dk dX12_pack_0 20 rfl) rfl rfl ?_
  refine e_iconst C 3 (dk dX12_pack_0 21 rfl) (by decide) ?_
  refine e_iadd C (dk dX12_pack_0 22 rfl) ?_
  refine e_aload_n C 0 (dk dX12_pack_0 23 rfl) rfl rfl ?_
  refine gf_X12_bribing C K ht fl_X12_336 (dk dX12_pack_0 24 rfl) ?_
  obtain ⟨M4, hM4, h⟩ := ob h
  refine m_ast C K ha0 (dk dX12_pack_0 25 rfl) hM4 ?_
  refine e_iconst C 0 (dk dX12_pack_0 26 rfl) (by decide) ?_
  refine e_istore_n C [(3, .int 0), (0, .ref (g_N g + t)), (1, .ref (g_N g + a0)), (2, .int p1)] (dk dX12_pack_0 27 rfl) rfl (by decide) rfl ?_
  refine e_lv [1, 2, 3, 0] rfl ?_
  refine lb_X12_pack_36 C K ht ha0 hR (fun s11 h => ?_) h
  refine e_iload_n C 2 (dk dX12_pack_0 57 rfl) rfl rfl ?_
  refine e_iconst C 4 (dk dX12_pack_0 58 rfl) (by decide) ?_
  refine e_iadd C (dk dX12_pack_0 59 rfl) ?_
  refine e_bipush C 14 (dk dX12_pack_1 0 rfl) (by decide) ?_
  refine e_iadd C (dk dX12_pack_1 1 rfl) ?_
  refine e_istore_n C [(3, .int ((p1 + 4) + 14)), (0, .ref (g_N g + t)), (1, .ref (g_N g + a0)), (2, .int p1)] (dk dX12_pack_1 2 rfl) rfl (by decide) rfl ?_
  refine e_iconst C 0 (dk dX12_pack_1 3 rfl) (by decide) ?_
  refine e_istore C [(4, .int 0), (3, .int ((p1 + 4) + 14)), (0, .ref (g_N g + t)), (1, .ref (g_N g + a0)), (2, .int p1)] (dk dX12_pack_1 4 rfl) (by decide) rfl ?_
  refine e_lv [2, 3, 1, 0] rfl ?_
  refine lb_X12_pack_87 C K ht ha0 hR (fun s16 h => ?_) h
  obtain rfl := Option.some.inj h
  exact e_vret C B (dk dX12_pack_1 21 rfl)
set_option maxRecDepth 20000 in
theorem l_X12_unpack_36 {X : FX} {g : WC} {Xo : Nat → va_E} {n : Nat} {kd : Nat → Nat} (C : Cx X g RX12 cX12_unpack 5) (K : KD n kd) {t : Nat} {a0 : Nat} {n0 : Nat} (ht : kd t = 13) (ha0 : IA kd a0 n0) {x2 : Int32} (hR : x_R X = rm 0) {OK : Mem → Prop} (hx : ∀ s, OK s → EW X g (x_s X).heap.size n 5 (ent g Xo kd s) 0 0 77 [(0, .ref (g_N g + t)), (1, .ref (g_N g + a0)), (2, .int x2)] []) : ∀ (N9 : Nat) (x3 : Int32) (M : Mem) (q : Mem), L_X12_unpack_36 t a0 n0 x2 N9 x3 M = some q → OK q → EW X g (x_s X).heap.size n 5 (ent g Xo kd M) 0 0 36 [(0, .ref (g_N g + t)), (1, .ref (g_N g + a0)), (2, .int x2), (3, .int x3)] [] := by
  intro N9
  induction N9 with
  | zero =>
    intro x3 M q h
    rw [L_X12_unpack_36.eq_1] at h
    cases h
  | succ m9 ih =>
    intro x3 M q h hOK
    rw [L_X12_unpack_36.eq_2] at h
    refine e_iload_n C 3 (dk dX12_unpack_0 28 rfl) rfl rfl ?_
    refine e_bipush C 7 (dk dX12_unpack_0 29 rfl) (by decide) ?_
    refine e_icmp_ge C 77 (dk dX12_unpack_0 30 rfl) (by decide) (fun c5 => ?_) (fun c5 => ?_)
    · rw [if_pos c5] at h
      obtain rfl := Option.some.inj h
      refine e_lv [0, 1, 2] rfl ?_
      exact hx _ hOK
    · rw [if_neg c5] at h
      refine e_aload_n C 0 (dk dX12_unpack_0 31 rfl) rfl rfl ?_
      refine gf_X12_purse C K ht fl_X12_75 (dk dX12_unpack_0 32 rfl) ?_
      refine e_iload_n C 3 (dk dX12_unpack_0 33 rfl) rfl rfl ?_
      refine e_aload_n C 1 (dk dX12_unpack_0 34 rfl) rfl rfl ?_
      refine e_iload_n C 2 (dk dX12_unpack_0 35 rfl) rfl rfl ?_
      refine e_iconst C 4 (dk dX12_unpack_0 36 rfl) (by decide) ?_
      refine e_iadd C (dk dX12_unpack_0 37 rfl) ?_
      refine e_iload_n C 3 (dk dX12_unpack_0 38 rfl) rfl rfl ?_
      refine e_iadd C (dk dX12_unpack_0 39 rfl) ?_
      obtain ⟨v6, hv6, h⟩ := ob h
      refine m_ald C K ha0 (dk dX12_unpack_0 40 rfl) hv6 ?_
      obtain ⟨M7, hM7, h⟩ := ob h
      refine m_ast C K (kd_X12_purse K ht) (dk dX12_unpack_0 41 rfl) hM7 ?_
      refine e_aload_n C 0 (dk dX12_unpack_0 42 rfl) rfl rfl ?_
      refine gf_X12_knows C K ht fl_X12_78 (dk dX12_unpack_0 43 rfl) ?_
      refine e_iload_n C 3 (dk dX12_unpack_0 44 rfl) rfl rfl ?_
      refine e_aload_n C 1 (dk dX12_unpack_0 45 rfl) rfl rfl ?_
      refine e_iload_n C 2 (dk dX12_unpack_0 46 rfl) rfl rfl ?_
      refine e_iconst C 4 (dk dX12_unpack_0 47 rfl) (by decide) ?_
      refine e_iadd C (dk dX12_unpack_0 48 rfl) ?_
      refine e_bipush C 7 (dk dX12_unpack_0 49 rfl) (by decide) ?_
      refine e_iadd C (dk dX12_unpack_0 50 rfl) ?_
      refine e_iload_n C 3 (dk dX12_unpack_0 51 rfl) rfl rfl ?_
      refine e_iadd C (dk dX12_unpack_0 52 rfl) ?_
      obtain ⟨v8, hv8, h⟩ := ob h
      refine m_ald C K ha0 (dk dX12_unpack_0 53 rfl) hv8 ?_
      obtain ⟨M9, hM9, h⟩ := ob h
      refine m_ast C K (kd_X12_knows K ht) (dk dX12_unpack_0 54 rfl) hM9 ?_
      refine e_iinc C [(3, .int (x3 + 1)), (0, .ref (g_N g + t)), (1, .ref (g_N g + a0)), (2, .int x2)] 3 1 (dk dX12_unpack_0 55 rfl) rfl (by decide) (by decide) rfl ?_
      refine e_goto C 36 (dk dX12_unpack_0 56 rfl) (by decide) ?_
      refine e_lv [1, 2, 3, 0] rfl ?_
      exact ih _ _ _ h hOK
set_option maxRecDepth 20000 in
theorem lb_X12_unpack_36 {X : FX} {g : WC} {Xo : Nat → va_E} {n : Nat} {kd : Nat → Nat} (C : Cx X g RX12 cX12_unpack 5) (K : KD n kd) {t : Nat} {a0 : Nat} {n0 : Nat} (ht : kd t = 13) (ha0 : IA kd a0 n0) {x2 : Int32} (hR : x_R X = rm 0) {T9 : Type} {f9 : Mem → Option T9} {b9 : T9} (hx : ∀ s, f9 s = some b9 → EW X g (x_s X).heap.size n 5 (ent g Xo kd s) 0 0 77 [(0, .ref (g_N g + t)), (1, .ref (g_N g + a0)), (2, .int x2)] []) {x3 : Int32} {M : Mem} (h : (L_X12_unpack_36 t a0 n0 x2 FU x3 M).bind f9 = some b9) : EW X g (x_s X).heap.size n 5 (ent g Xo kd M) 0 0 36 [(0, .ref (g_N g + t)), (1, .ref (g_N g + a0)), (2, .int x2), (3, .int x3)] [] := by
  obtain ⟨q, hq, h⟩ := ob h
  exact l_X12_unpack_36 C K ht ha0 hR (OK := fun q => f9 q = some b9) hx FU x3 M q hq h
set_option maxRecDepth 20000 in
theorem l_X12_unpack_87 {X : FX} {g : WC} {Xo : Nat → va_E} {n : Nat} {kd : Nat → Nat} (C : Cx X g RX12 cX12_unpack 5) (K : KD n kd) {t : Nat} {a0 : Nat} {n0 : Nat} (ht : kd t = 13) (ha0 : IA kd a0 n0) {x3 : Int32} (hR : x_R X = rm 0) {OK : Mem → Prop} (hx : ∀ s, OK s → EW X g (x_s X).heap.size n 5 (ent g Xo kd s) 0 0 116 [] []) : ∀ (N9 : Nat) (x4 : Int32) (M : Mem) (q : Mem), L_X12_unpack_87 t a0 n0 x3 N9 x4 M = some q → OK q → EW X g (x_s X).heap.size n 5 (ent g Xo kd M) 0 0 87 [(0, .ref (g_N g + t)), (1, .ref (g_N g + a0)), (3, .int x3), (4, .int x4)] [] := by
  intro N9
  induction N9 with
  | zero =>
    intro x4 M q h
    rw [L_X12_unpack_87.eq_1] at h
    cases h
  | succ m9 ih =>
    intro x4 M q h hOK
    rw [L_X12_unpack_87.eq_2] at h
    refine e_iload C 3 (dk dX12_unpack_1 5 rfl) rfl ?_
    refine e_aload_n C 0 (dk dX12_unpack_1 6 rfl) rfl rfl ?_
    refine gf_X12_walks C K ht fl_X12_80 (dk dX12_unpack_1 7 rfl) ?_
    refine m_alen C K (kd_X12_walks K ht) 42 (by decide) (dk dX12_unpack_1 8 rfl) ?_
    refine e_icmp_ge C 116 (dk dX12_unpack_1 9 rfl) (by decide) (fun c12 => ?_) (fun c12 => ?_)
    · rw [if_pos c12] at h
      obtain rfl := Option.some.inj h
      refine e_lv [] rfl ?_
      exact hx _ hOK
    · rw [if_neg c12] at h
      refine e_aload_n C 0 (dk dX12_unpack_1 10 rfl) rfl rfl ?_
      refine gf_X12_walks C K ht fl_X12_80 (dk dX12_unpack_1 11 rfl) ?_
      refine e_iload C 3 (dk dX12_unpack_1 12 rfl) rfl ?_
      refine e_aload_n C 1 (dk dX12_unpack_1 13 rfl) rfl rfl ?_
      refine e_iload_n C 2 (dk dX12_unpack_1 14 rfl) rfl rfl ?_
      refine e_iload C 3 (dk dX12_unpack_1 15 rfl) rfl ?_
      refine e_iadd C (dk dX12_unpack_1 16 rfl) ?_
      obtain ⟨v13, hv13, h⟩ := ob h
      refine m_ald C K ha0 (dk dX12_unpack_1 17 rfl) hv13 ?_
      obtain ⟨M14, hM14, h⟩ := ob h
      refine m_ast C K (kd_X12_walks K ht) (dk dX12_unpack_1 18 rfl) hM14 ?_
      refine e_iinc C [(4, .int (x4 + 1)), (0, .ref (g_N g + t)), (1, .ref (g_N g + a0)), (3, .int x3)] 3 1 (dk dX12_unpack_1 19 rfl) rfl (by decide) (by decide) rfl ?_
      refine e_goto C 87 (dk dX12_unpack_1 20 rfl) (by decide) ?_
      refine e_lv [1, 2, 3, 0] rfl ?_
      exact ih _ _ _ h hOK
set_option maxRecDepth 20000 in
theorem lb_X12_unpack_87 {X : FX} {g : WC} {Xo : Nat → va_E} {n : Nat} {kd : Nat → Nat} (C : Cx X g RX12 cX12_unpack 5) (K : KD n kd) {t : Nat} {a0 : Nat} {n0 : Nat} (ht : kd t = 13) (ha0 : IA kd a0 n0) {x3 : Int32} (hR : x_R X = rm 0) {T9 : Type} {f9 : Mem → Option T9} {b9 : T9} (hx : ∀ s, f9 s = some b9 → EW X g (x_s X).heap.size n 5 (ent g Xo kd s) 0 0 116 [] []) {x4 : Int32} {M : Mem} (h : (L_X12_unpack_87 t a0 n0 x3 FU x4 M).bind f9 = some b9) : EW X g (x_s X).heap.size n 5 (ent g Xo kd M) 0 0 87 [(0, .ref (g_N g + t)), (1, .ref (g_N g + a0)), (3, .int x3), (4, .int x4)] [] := by
  obtain ⟨q, hq, h⟩ := ob h
  exact l_X12_unpack_87 C K ht ha0 hR (OK := fun q => f9 q = some b9) hx FU x4 M q hq h
set_option maxRecDepth 20000 in
theorem c_X12_unpack {g : WC} {Xo : Nat → va_E} {n : Nat} {kd : Nat → Nat} (K : KD n kd) {t : Nat} {a0 : Nat} {n0 : Nat} {p1 : Int32} (ht : kd t = 13) (ha0 : IA kd a0 n0) {M : Mem} {res : Mem} (h : F_X12_unpack t a0 n0 p1 M = some res) : MC g yX12_unpack cX12_unpack 5 none 0 n [.ref (g_N g + t), .ref (g_N g + a0), .int p1] (ent g Xo kd M) none (ent g Xo kd res) := by
  refine MC_of pn_X12 (Nat.le_of_ble_eq_true rfl) (fun X C B => ?_)
  have hR := B.1
  rw [F_X12_unpack] at h
  refine e_aload_n C 0 (dk dX12_unpack_0 0 rfl) rfl rfl ?_
  refine e_aload_n C 1 (dk dX12_unpack_0 1 rfl) rfl rfl ?_
  refine e_iload_n C 2 (dk dX12_unpack_0 2 rfl) rfl rfl ?_
  obtain ⟨v1, hv1, h⟩ := ob h
  refine m_ald C K ha0 (dk dX12_unpack_0 3 rfl) hv1 ?_
  refine pf_X12_night C K ht fl_X12_331 (dk dX12_unpack_0 4 rfl) ?_
  refine e_aload_n C 0 (dk dX12_unpack_0 5 rfl) rfl rfl ?_
  refine e_aload_n C 1 (dk dX12_unpack_0 6 rfl) rfl rfl ?_
  refine e_iload_n C 2 (dk dX12_unpack_0 7 rfl) rfl rfl ?_
  refine e_iconst C 1 (dk dX12_unpack_0 8 rfl) (by decide) ?_
  refine e_iadd C (dk dX12_unpack_0 9 rfl) ?_
  obtain ⟨v2, hv2, h⟩ := ob h
  refine m_ald C K ha0 (dk dX12_unpack_0 10 rfl) hv2 ?_
  refine pf_X12_darkness C K ht fl_X12_333 (dk dX12_unpack_0 11 rfl) ?_
  refine e_aload_n C 0 (dk dX12_unpack_0 12 rfl) rfl rfl ?_
  refine e_aload_n C 1 (dk dX12_unpack_0 13 rfl) rfl rfl ?_
  refine e_iload_n C 2 (dk dX12_unpack_0 14 rfl) rfl rfl ?_
  refine e_iconst C 2 (dk dX12_unpack_0 15 rfl) (by decide) ?_
  refine e_iadd C (dk dX12_unpack_0 16 rfl) ?_
  obtain ⟨v3, hv3, h⟩ := ob h
  refine m_ald C K ha0 (dk dX12_unpack_0 17 rfl) hv3 ?_
  refine pf_X12_held C K ht fl_X12_153 (dk dX12_unpack_0 18 rfl) ?_
  refine e_aload_n C 0 (dk dX12_unpack_0 19 rfl) rfl rfl ?_
  refine e_aload_n C 1 (dk dX12_unpack_0 20 rfl) rfl rfl ?_
  refine e_iload_n C 2 (dk dX12_unpack_0 21 rfl) rfl rfl ?_
  refine e_iconst C 3 (dk dX12_unpack_0 22 rfl) (by decide) ?_
  refine e_iadd C (dk dX12_unpack_0 23 rfl) ?_
  obtain ⟨v4, hv4, h⟩ := ob h
  refine m_ald C K ha0 (dk dX12_unpack_0 24 rfl) hv4 ?_
  refine pf_X12_bribing C K ht fl_X12_336 (dk dX12_unpack_0 25 rfl) ?_
  refine e_iconst C 0 (dk dX12_unpack_0 26 rfl) (by decide) ?_
  refine e_istore_n C [(3, .int 0), (0, .ref (g_N g + t)), (1, .ref (g_N g + a0)), (2, .int p1)] (dk dX12_unpack_0 27 rfl) rfl (by decide) rfl ?_
  refine e_lv [1, 2, 3, 0] rfl ?_
  refine lb_X12_unpack_36 C K ht ha0 hR (fun s11 h => ?_) h
  refine e_iload_n C 2 (dk dX12_unpack_0 57 rfl) rfl rfl ?_
  refine e_iconst C 4 (dk dX12_unpack_0 58 rfl) (by decide) ?_
  refine e_iadd C (dk dX12_unpack_0 59 rfl) ?_
  refine e_bipush C 14 (dk dX12_unpack_1 0 rfl) (by decide) ?_
  refine e_iadd C (dk dX12_unpack_1 1 rfl) ?_
  refine e_istore_n C [(3, .int ((p1 + 4) + 14)), (0, .ref (g_N g + t)), (1, .ref (g_N g + a0)), (2, .int p1)] (dk dX12_unpack_1 2 rfl) rfl (by decide) rfl ?_
  refine e_iconst C 0 (dk dX12_unpack_1 3 rfl) (by decide) ?_
  refine e_istore C [(4, .int 0), (3, .int ((p1 + 4) + 14)), (0, .ref (g_N g + t)), (1, .ref (g_N g + a0)), (2, .int p1)] (dk dX12_unpack_1 4 rfl) (by decide) rfl ?_
  refine e_lv [2, 3, 1, 0] rfl ?_
  refine lb_X12_unpack_87 C K ht ha0 hR (fun s16 h => ?_) h
  obtain rfl := Option.some.inj h
  exact e_vret C B (dk dX12_unpack_1 21 rfl)
set_option maxRecDepth 20000 in
theorem c_X12_fogOf {g : WC} {Xo : Nat → va_E} {n : Nat} {kd : Nat → Nat} (K : KD n kd) {t : Nat} (ht : kd t = 13) {M : Mem} {res : Int32} (h : F_X12_fogOf t M = some res) : MC g yX12_fogOf cX12_fogOf 1 (some .int) 0 n [.ref (g_N g + t)] (ent g Xo kd M) (some (.int res)) (ent g Xo kd M) := by
  refine MC_of pn_X12 (Nat.le_of_ble_eq_true rfl) (fun X C B => ?_)
  have hR := B.1
  rw [F_X12_fogOf] at h
  refine e_aload_n C 0 (dk dX12_fogOf 0 rfl) rfl rfl ?_
  refine gf_X12_fogNow C K ht fl_X12_86 (dk dX12_fogOf 1 rfl) ?_
  refine e_iconst C (-1) (dk dX12_fogOf 2 rfl) (by decide) ?_
  refine e_icmp_eq C 15 (dk dX12_fogOf 3 rfl) (by decide) (fun c1 => ?_) (fun c1 => ?_)
  · rw [if_pos c1] at h
    refine e_aload_n C 0 (dk dX12_fogOf 7 rfl) rfl rfl ?_
    refine gf_X12_told C K ht fl_X12_38 (dk dX12_fogOf 8 rfl) ?_
    refine e_iconst C 4 (dk dX12_fogOf 9 rfl) (by decide) ?_
    refine m_aldc C K (kd_X12_told K ht) 4 (dk dX12_fogOf 10 rfl) (by decide) (by decide) ?_
    refine e_if_ne C 28 (dk dX12_fogOf 11 rfl) (by decide) (fun c2 => ?_) (fun c2 => ?_)
    · rw [if_neg c2] at h
      refine e_aload_n C 0 (dk dX12_fogOf 14 rfl) rfl rfl ?_
      refine gf_X12_fogTold C K ht fl_X12_59 (dk dX12_fogOf 15 rfl) ?_
      refine e_aload_n C 0 (dk dX12_fogOf 16 rfl) rfl rfl ?_
      refine gf_X12_night C K ht fl_X12_331 (dk dX12_fogOf 17 rfl) ?_
      refine e_aload_n C 0 (dk dX12_fogOf 18 rfl) rfl rfl ?_
      refine gf_X12_told C K ht fl_X12_38 (dk dX12_fogOf 19 rfl) ?_
      refine e_iconst C 4 (dk dX12_fogOf 20 rfl) (by decide) ?_
      refine m_aldc C K (kd_X12_told K ht) 4 (dk dX12_fogOf 21 rfl) (by decide) (by decide) ?_
      obtain ⟨v3, hv3, h⟩ := ob h
      have gv3 := irm_some hv3
      refine e_irem C (dk dX12_fogOf 22 rfl) gv3.1 ?_
      rw [gv3.2]
      obtain ⟨v4, hv4, h⟩ := ob h
      refine m_ald C K (kd_X12_fogTold K ht) (dk dX12_fogOf 23 rfl) hv4 ?_
      obtain rfl := Option.some.inj h
      exact e_iret C B (nar1 _) (dk dX12_fogOf 24 rfl)
    · rw [if_pos c2] at h
      refine e_iconst C 0 (dk dX12_fogOf 12 rfl) (by decide) ?_
      refine e_goto C 44 (dk dX12_fogOf 13 rfl) (by decide) ?_
      obtain rfl := Option.some.inj h
      exact e_iret C B (nar1 _) (dk dX12_fogOf 24 rfl)
  · rw [if_neg c1] at h
    refine e_aload_n C 0 (dk dX12_fogOf 4 rfl) rfl rfl ?_
    refine gf_X12_fogNow C K ht fl_X12_86 (dk dX12_fogOf 5 rfl) ?_
    refine e_goto C 44 (dk dX12_fogOf 6 rfl) (by decide) ?_
    obtain rfl := Option.some.inj h
    exact e_iret C B (nar1 _) (dk dX12_fogOf 24 rfl)
set_option maxRecDepth 20000 in
theorem c_X12_watchAt {g : WC} {Xo : Nat → va_E} {n : Nat} {kd : Nat → Nat} (K : KD n kd) {t : Nat} {p0 : Int32} {p1 : Int32} (ht : kd t = 13) {M : Mem} {res : Int32} (h : F_X12_watchAt t p0 p1 M = some res) : MC g yX12_watchAt cX12_watchAt 3 (some .int) 0 n [.ref (g_N g + t), .int p0, .int p1] (ent g Xo kd M) (some (.int res)) (ent g Xo kd M) := by
  refine MC_of pn_X12 (Nat.le_of_ble_eq_true rfl) (fun X C B => ?_)
  have hR := B.1
  rw [F_X12_watchAt] at h
  refine e_aload_n C 0 (dk dX12_watchAt 0 rfl) rfl rfl ?_
  refine gf_X12_roundTold C K ht fl_X12_45 (dk dX12_watchAt 1 rfl) ?_
  refine e_bipush C 6 (dk dX12_watchAt 2 rfl) (by decide) ?_
  refine e_iload_n C 1 (dk dX12_watchAt 3 rfl) rfl rfl ?_
  refine e_imul C (dk dX12_watchAt 4 rfl) ?_
  refine e_iload_n C 2 (dk dX12_watchAt 5 rfl) rfl rfl ?_
  refine e_iadd C (dk dX12_watchAt 6 rfl) ?_
  refine e_aload_n C 0 (dk dX12_watchAt 7 rfl) rfl rfl ?_
  refine gf_X12_told C K ht fl_X12_38 (dk dX12_watchAt 8 rfl) ?_
  refine e_iconst C 2 (dk dX12_watchAt 9 rfl) (by decide) ?_
  refine m_aldc C K (kd_X12_told K ht) 2 (dk dX12_watchAt 10 rfl) (by decide) (by decide) ?_
  obtain ⟨v1, hv1, h⟩ := ob h
  have gv1 := irm_some hv1
  refine e_irem C (dk dX12_watchAt 11 rfl) gv1.1 ?_
  rw [gv1.2]
  obtain ⟨v2, hv2, h⟩ := ob h
  refine m_ald C K (kd_X12_roundTold K ht) (dk dX12_watchAt 12 rfl) hv2 ?_
  obtain rfl := Option.some.inj h
  exact e_iret C B (nar1 _) (dk dX12_watchAt 13 rfl)
set_option maxRecDepth 20000 in
theorem c_X12_streetOf {g : WC} {Xo : Nat → va_E} {n : Nat} {kd : Nat → Nat} (K : KD n kd) {t : Nat} {p0 : Int32} {p1 : Int32} (ht : kd t = 13) {M : Mem} {res : Int32} (h : F_X12_streetOf t p0 p1 M = some res) : MC g yX12_streetOf cX12_streetOf 3 (some .int) 0 n [.ref (g_N g + t), .int p0, .int p1] (ent g Xo kd M) (some (.int res)) (ent g Xo kd M) := by
  refine MC_of pn_X12 (Nat.le_of_ble_eq_true rfl) (fun X C B => ?_)
  have hR := B.1
  rw [F_X12_streetOf] at h
  refine e_aload_n C 0 (dk dX12_streetOf 0 rfl) rfl rfl ?_
  refine gf_X12_walks C K ht fl_X12_80 (dk dX12_streetOf 1 rfl) ?_
  refine e_bipush C 6 (dk dX12_streetOf 2 rfl) (by decide) ?_
  refine e_iload_n C 1 (dk dX12_streetOf 3 rfl) rfl rfl ?_
  refine e_imul C (dk dX12_streetOf 4 rfl) ?_
  refine e_iload_n C 2 (dk dX12_streetOf 5 rfl) rfl rfl ?_
  refine e_aload_n C 0 (dk dX12_streetOf 6 rfl) rfl rfl ?_
  refine gf_X12_places C K ht fl_X12_53 (dk dX12_streetOf 7 rfl) ?_
  refine e_iload_n C 1 (dk dX12_streetOf 8 rfl) rfl rfl ?_
  obtain ⟨v1, hv1, h⟩ := ob h
  refine m_ald C K (kd_X12_places K ht) (dk dX12_streetOf 9 rfl) hv1 ?_
  obtain ⟨v2, hv2, h⟩ := ob h
  have gv2 := irm_some hv2
  refine e_irem C (dk dX12_streetOf 10 rfl) gv2.1 ?_
  rw [gv2.2]
  refine e_iadd C (dk dX12_streetOf 11 rfl) ?_
  obtain ⟨v3, hv3, h⟩ := ob h
  refine m_ald C K (kd_X12_walks K ht) (dk dX12_streetOf 12 rfl) hv3 ?_
  obtain rfl := Option.some.inj h
  exact e_iret C B (nar1 _) (dk dX12_streetOf 13 rfl)
set_option maxRecDepth 20000 in
theorem l_X12_seenHours_31 {X : FX} {g : WC} {Xo : Nat → va_E} {n : Nat} {kd : Nat → Nat} (C : Cx X g RX12 cX12_seenHours 5) (K : KD n kd) {t : Nat} (ht : kd t = 13) {x1 : Int32} {x3 : Int32} {M : Mem} (hR : x_R X = rm 1) {OK : Int32 → Prop} (hx : ∀ s, OK s → EW X g (x_s X).heap.size n 5 (ent g Xo kd M) 0 0 79 [(2, .int s)] []) : ∀ (N9 : Nat) (x2 : Int32) (x4 : Int32) (q : Int32), L_X12_seenHours_31 t x1 x3 M N9 x2 x4 = some q → OK q → EW X g (x_s X).heap.size n 5 (ent g Xo kd M) 0 0 31 [(0, .ref (g_N g + t)), (1, .int x1), (2, .int x2), (3, .int x3), (4, .int x4)] [] := by
  intro N9
  induction N9 with
  | zero =>
    intro x2 x4 q h
    rw [L_X12_seenHours_31.eq_1] at h
    cases h
  | succ m9 ih =>
    intro x2 x4 q h hOK
    rw [L_X12_seenHours_31.eq_2] at h
    refine e_iload C 4 (dk dX12_seenHours 17 rfl) rfl ?_
    refine e_bipush C 6 (dk dX12_seenHours 18 rfl) (by decide) ?_
    refine e_icmp_ge C 79 (dk dX12_seenHours 19 rfl) (by decide) (fun c3 => ?_) (fun c3 => ?_)
    · rw [if_pos c3] at h
      obtain rfl := Option.some.inj h
      refine e_lv [2] rfl ?_
      exact hx _ hOK
    · rw [if_neg c3] at h
      refine e_iload_n C 3 (dk dX12_seenHours 20 rfl) rfl rfl ?_
      refine e_if_eq C 79 (dk dX12_seenHours 21 rfl) (by decide) (fun c4 => ?_) (fun c4 => ?_)
      · rw [if_pos c4] at h
        obtain rfl := Option.some.inj h
        refine e_lv [2] rfl ?_
        exact hx _ hOK
      · rw [if_neg c4] at h
        refine e_iload_n C 2 (dk dX12_seenHours 22 rfl) rfl rfl ?_
        refine e_aload_n C 0 (dk dX12_seenHours 23 rfl) rfl rfl ?_
        refine e_aload_n C 0 (dk dX12_seenHours 24 rfl) rfl rfl ?_
        refine gf_X12_night C K ht fl_X12_331 (dk dX12_seenHours 25 rfl) ?_
        refine e_iload C 4 (dk dX12_seenHours 26 rfl) rfl ?_
        obtain ⟨q5, hq5, h⟩ := ob h
        refine e_callV (ci := 12) C cal_X12_watchAt im_X12_watchAt se_X12_watchAt ml_X12_351 rfl hR (by decide) (dk dX12_seenHours 27 rfl) (K.1 _ (by rw [ht]; decide)) (ent_o12 ht) (c_X12_watchAt K ht hq5) ⟨Nat.zero_le _, Nat.zero_le _⟩ (Nat.le_of_ble_eq_true rfl) rfl ?_
        refine e_aload_n C 0 (dk dX12_seenHours 28 rfl) rfl rfl ?_
        refine e_iload_n C 1 (dk dX12_seenHours 29 rfl) rfl rfl ?_
        refine e_iload C 4 (dk dX12_seenHours 30 rfl) rfl ?_
        obtain ⟨q6, hq6, h⟩ := ob h
        refine e_callV (ci := 12) C cal_X12_streetOf im_X12_streetOf se_X12_streetOf ml_X12_354 rfl hR (by decide) (dk dX12_seenHours 31 rfl) (K.1 _ (by rw [ht]; decide)) (ent_o12 ht) (c_X12_streetOf K ht hq6) ⟨Nat.zero_le _, Nat.zero_le _⟩ (Nat.le_of_ble_eq_true rfl) rfl ?_
        suffices hm8 : EW X g (x_s X).heap.size n 5 (ent g Xo kd M) 0 0 71 [(0, .ref (g_N g + t)), (1, .int x1), (2, .int x2), (3, .int x3), (4, .int x4)] [.int (if q5 = q6 then ((1 : Int32) <<< (x4 &&& 31)) else (0 : Int32)), .int x2] from (by
          refine e_icmp_ne C 70 (dk dX12_seenHours 32 rfl) (by decide) (fun c7 => ?_) (fun c7 => ?_)
          · rw [show (if q5 = q6 then ((1 : Int32) <<< (x4 &&& 31)) else (0 : Int32)) = (0 : Int32) from if_neg c7] at hm8
            refine e_iconst C 0 (dk dX12_seenHours 37 rfl) (by decide) ?_
            exact hm8
          · rw [show (if q5 = q6 then ((1 : Int32) <<< (x4 &&& 31)) else (0 : Int32)) = ((1 : Int32) <<< (x4 &&& 31)) from if_pos c7] at hm8
            refine e_iconst C 1 (dk dX12_seenHours 33 rfl) (by decide) ?_
            refine e_iload C 4 (dk dX12_seenHours 34 rfl) rfl ?_
            refine e_ishl C (dk dX12_seenHours 35 rfl) ?_
            refine e_goto C 71 (dk dX12_seenHours 36 rfl) (by decide) ?_
            exact hm8)
        refine e_ior C (dk dX12_seenHours 38 rfl) ?_
        refine e_istore_n C [(2, .int (x2 ||| (if q5 = q6 then ((1 : Int32) <<< (x4 &&& 31)) else (0 : Int32)))), (0, .ref (g_N g + t)), (1, .int x1), (3, .int x3), (4, .int x4)] (dk dX12_seenHours 39 rfl) rfl (by decide) rfl ?_
        refine e_iinc C [(4, .int (x4 + 1)), (2, .int (x2 ||| (if q5 = q6 then ((1 : Int32) <<< (x4 &&& 31)) else (0 : Int32)))), (0, .ref (g_N g + t)), (1, .int x1), (3, .int x3)] 4 1 (dk dX12_seenHours 40 rfl) rfl (by decide) (by decide) rfl ?_
        refine e_goto C 31 (dk dX12_seenHours 41 rfl) (by decide) ?_
        refine e_lv [2, 3, 1, 4, 0] rfl ?_
        exact ih _ _ _ h hOK
set_option maxRecDepth 20000 in
theorem lb_X12_seenHours_31 {X : FX} {g : WC} {Xo : Nat → va_E} {n : Nat} {kd : Nat → Nat} (C : Cx X g RX12 cX12_seenHours 5) (K : KD n kd) {t : Nat} (ht : kd t = 13) {x1 : Int32} {x3 : Int32} {M : Mem} (hR : x_R X = rm 1) {T9 : Type} {f9 : Int32 → Option T9} {b9 : T9} (hx : ∀ s, f9 s = some b9 → EW X g (x_s X).heap.size n 5 (ent g Xo kd M) 0 0 79 [(2, .int s)] []) {x2 : Int32} {x4 : Int32} (h : (L_X12_seenHours_31 t x1 x3 M FU x2 x4).bind f9 = some b9) : EW X g (x_s X).heap.size n 5 (ent g Xo kd M) 0 0 31 [(0, .ref (g_N g + t)), (1, .int x1), (2, .int x2), (3, .int x3), (4, .int x4)] [] := by
  obtain ⟨q, hq, h⟩ := ob h
  exact l_X12_seenHours_31 C K ht hR (OK := fun q => f9 q = some b9) hx FU x2 x4 q hq h
set_option maxRecDepth 20000 in
theorem j_X12_seenHours_j27 {X : FX} {g : WC} {Xo : Nat → va_E} {n : Nat} {kd : Nat → Nat} (C : Cx X g RX12 cX12_seenHours 5) (K : KD n kd) {t : Nat} (ht : kd t = 13) (hR : x_R X = rm 1) {x1 : Int32} {x2 : Int32} {y0 : Int32} {M : Mem} {res : Int32} (h : J_X12_seenHours_j27 t x1 x2 y0 M = some res) (B : Bx X g (some .int) 1 n (some (.int res)) (ent g Xo kd M)) : EW X g (x_s X).heap.size n 5 (ent g Xo kd M) 0 0 27 [(0, .ref (g_N g + t)), (1, .int x1), (2, .int x2)] [.int y0] := by
  rw [J_X12_seenHours_j27] at h
  refine e_istore_n C [(3, .int y0), (0, .ref (g_N g + t)), (1, .int x1), (2, .int x2)] (dk dX12_seenHours 14 rfl) rfl (by decide) rfl ?_
  refine e_iconst C 0 (dk dX12_seenHours 15 rfl) (by decide) ?_
  refine e_istore C [(4, .int 0), (3, .int y0), (0, .ref (g_N g + t)), (1, .int x1), (2, .int x2)] (dk dX12_seenHours 16 rfl) (by decide) rfl ?_
  refine e_lv [2, 3, 4, 1, 0] rfl ?_
  refine lb_X12_seenHours_31 C K ht hR (fun s10 h => ?_) h
  refine e_iload_n C 0 (dk dX12_seenHours 42 rfl) rfl rfl ?_
  obtain rfl := Option.some.inj h
  exact e_iret C B (nar1 _) (dk dX12_seenHours 43 rfl)
set_option maxRecDepth 20000 in
theorem j_X12_seenHours_j26 {X : FX} {g : WC} {Xo : Nat → va_E} {n : Nat} {kd : Nat → Nat} (C : Cx X g RX12 cX12_seenHours 5) (K : KD n kd) {t : Nat} (ht : kd t = 13) (hR : x_R X = rm 1) {x1 : Int32} {x2 : Int32} {M : Mem} {res : Int32} (h : J_X12_seenHours_j26 t x1 x2 M = some res) (B : Bx X g (some .int) 1 n (some (.int res)) (ent g Xo kd M)) : EW X g (x_s X).heap.size n 5 (ent g Xo kd M) 0 0 26 [(0, .ref (g_N g + t)), (1, .int x1), (2, .int x2)] [] := by
  rw [J_X12_seenHours_j26] at h
  refine e_iconst C 0 (dk dX12_seenHours 13 rfl) (by decide) ?_
  exact j_X12_seenHours_j27 C K ht hR h B
set_option maxRecDepth 20000 in
theorem c_X12_seenHours {g : WC} {Xo : Nat → va_E} {n : Nat} {kd : Nat → Nat} (K : KD n kd) {t : Nat} {p0 : Int32} (ht : kd t = 13) {M : Mem} {res : Int32} (h : F_X12_seenHours t p0 M = some res) : MC g yX12_seenHours cX12_seenHours 5 (some .int) 1 n [.ref (g_N g + t), .int p0] (ent g Xo kd M) (some (.int res)) (ent g Xo kd M) := by
  refine MC_of pn_X12 (Nat.le_of_ble_eq_true rfl) (fun X C B => ?_)
  have hR := B.1
  rw [F_X12_seenHours] at h
  refine e_iconst C 0 (dk dX12_seenHours 0 rfl) (by decide) ?_
  refine e_istore_n C [(2, .int 0), (0, .ref (g_N g + t)), (1, .int p0)] (dk dX12_seenHours 1 rfl) rfl (by decide) rfl ?_
  refine e_aload_n C 1 (dk dX12_seenHours 2 rfl) rfl rfl ?_
  obtain ⟨q1, hq1, h⟩ := ob h
  refine e_callV (ci := 12) C cal_X12_fogOf im_X12_fogOf se_X12_fogOf ml_X12_348 rfl hR (by decide) (dk dX12_seenHours 3 rfl) (K.1 _ (by rw [ht]; decide)) (ent_o12 ht) (c_X12_fogOf K ht hq1) ⟨Nat.zero_le _, Nat.zero_le _⟩ (Nat.le_of_ble_eq_true rfl) rfl ?_
  refine e_bipush C 7 (dk dX12_seenHours 4 rfl) (by decide) ?_
  refine e_icmp_ge C 26 (dk dX12_seenHours 5 rfl) (by decide) (fun c2 => ?_) (fun c2 => ?_)
  · rw [if_pos c2] at h
    refine e_lv [1, 2, 0] rfl ?_
    exact j_X12_seenHours_j26 C K ht hR h B
  · rw [if_neg c2] at h
    refine e_aload_n C 1 (dk dX12_seenHours 6 rfl) rfl rfl ?_
    refine gf_X12_bribing C K ht fl_X12_336 (dk dX12_seenHours 7 rfl) ?_
    refine e_iload_n C 2 (dk dX12_seenHours 8 rfl) rfl rfl ?_
    refine e_callS C cal_X12_isOf sm_X12_isOf ml_X12_287 hR (by decide) (dk dX12_seenHours 9 rfl) (c_X12_isOf K (rfl : F_X12_isOf (M t 32) p0 = _)) ⟨Nat.zero_le _, Nat.zero_le _⟩ (Nat.le_of_ble_eq_true rfl) rfl ?_
    refine e_if_ne C 26 (dk dX12_seenHours 10 rfl) (by decide) (fun c11 => ?_) (fun c11 => ?_)
    · rw [if_neg c11] at h
      refine e_lv [1, 2, 0] rfl ?_
      exact j_X12_seenHours_j26 C K ht hR h B
    · rw [if_pos c11] at h
      refine e_iconst C 1 (dk dX12_seenHours 11 rfl) (by decide) ?_
      refine e_goto C 27 (dk dX12_seenHours 12 rfl) (by decide) ?_
      refine e_lv [1, 2, 0] rfl ?_
      exact j_X12_seenHours_j27 C K ht hR h B
set_option maxRecDepth 20000 in
theorem l_X12_lotsNow_4 {X : FX} {g : WC} {Xo : Nat → va_E} {n : Nat} {kd : Nat → Nat} (C : Cx X g RX12 cX12_lotsNow 3) (K : KD n kd) {t : Nat} (ht : kd t = 13) {M : Mem} (hR : x_R X = rm 2) {OK : Int32 → Prop} (hx : ∀ s, OK s → EW X g (x_s X).heap.size n 3 (ent g Xo kd M) 0 0 38 [(1, .int s)] []) : ∀ (N9 : Nat) (x1 : Int32) (x2 : Int32) (q : Int32), L_X12_lotsNow_4 t M N9 x1 x2 = some q → OK q → EW X g (x_s X).heap.size n 3 (ent g Xo kd M) 0 0 4 [(0, .ref (g_N g + t)), (1, .int x1), (2, .int x2)] [] := by
  intro N9
  induction N9 with
  | zero =>
    intro x1 x2 q h
    rw [L_X12_lotsNow_4.eq_1] at h
    cases h
  | succ m9 ih =>
    intro x1 x2 q h hOK
    rw [L_X12_lotsNow_4.eq_2] at h
    refine e_iload_n C 2 (dk dX12_lotsNow 4 rfl) rfl rfl ?_
    refine e_aload_n C 0 (dk dX12_lotsNow 5 rfl) rfl rfl ?_
    refine gf_X12_told C K ht fl_X12_38 (dk dX12_lotsNow 6 rfl) ?_
    refine e_iconst C 3 (dk dX12_lotsNow 7 rfl) (by decide) ?_
    refine m_aldc C K (kd_X12_told K ht) 3 (dk dX12_lotsNow 8 rfl) (by decide) (by decide) ?_
    refine e_icmp_ge C 38 (dk dX12_lotsNow 9 rfl) (by decide) (fun c1 => ?_) (fun c1 => ?_)
    · rw [if_pos c1] at h
      obtain rfl := Option.some.inj h
      refine e_lv [1] rfl ?_
      exact hx _ hOK
    · rw [if_neg c1] at h
      refine e_iload_n C 1 (dk dX12_lotsNow 10 rfl) rfl rfl ?_
      refine e_aload_n C 0 (dk dX12_lotsNow 11 rfl) rfl rfl ?_
      refine e_iload_n C 2 (dk dX12_lotsNow 12 rfl) rfl rfl ?_
      obtain ⟨q2, hq2, h⟩ := ob h
      refine e_callV (ci := 12) C cal_X12_seenHours im_X12_seenHours se_X12_seenHours ml_X12_357 rfl hR (by decide) (dk dX12_lotsNow 13 rfl) (K.1 _ (by rw [ht]; decide)) (ent_o12 ht) (c_X12_seenHours K ht hq2) ⟨Nat.zero_le _, Nat.zero_le _⟩ (Nat.le_of_ble_eq_true rfl) rfl ?_
      suffices hm4 : EW X g (x_s X).heap.size n 3 (ent g Xo kd M) 0 0 30 [(0, .ref (g_N g + t)), (1, .int x1), (2, .int x2)] [.int (if q2 = 0 then (0 : Int32) else ((1 : Int32) <<< (x2 &&& 31))), .int x1] from (by
        refine e_if_eq C 29 (dk dX12_lotsNow 14 rfl) (by decide) (fun c3 => ?_) (fun c3 => ?_)
        · rw [show (if q2 = 0 then (0 : Int32) else ((1 : Int32) <<< (x2 &&& 31))) = (0 : Int32) from if_pos c3] at hm4
          refine e_iconst C 0 (dk dX12_lotsNow 19 rfl) (by decide) ?_
          exact hm4
        · rw [show (if q2 = 0 then (0 : Int32) else ((1 : Int32) <<< (x2 &&& 31))) = ((1 : Int32) <<< (x2 &&& 31)) from if_neg c3] at hm4
          refine e_iconst C 1 (dk dX12_lotsNow 15 rfl) (by decide) ?_
          refine e_iload_n C 2 (dk dX12_lotsNow 16 rfl) rfl rfl ?_
          refine e_ishl C (dk dX12_lotsNow 17 rfl) ?_
          refine e_goto C 30 (dk dX12_lotsNow 18 rfl) (by decide) ?_
          exact hm4)
      refine e_ior C (dk dX12_lotsNow 20 rfl) ?_
      refine e_istore_n C [(1, .int (x1 ||| (if q2 = 0 then (0 : Int32) else ((1 : Int32) <<< (x2 &&& 31))))), (0, .ref (g_N g + t)), (2, .int x2)] (dk dX12_lotsNow 21 rfl) rfl (by decide) rfl ?_
      refine e_iinc C [(2, .int (x2 + 1)), (1, .int (x1 ||| (if q2 = 0 then (0 : Int32) else ((1 : Int32) <<< (x2 &&& 31))))), (0, .ref (g_N g + t))] 2 1 (dk dX12_lotsNow 22 rfl) rfl (by decide) (by decide) rfl ?_
      refine e_goto C 4 (dk dX12_lotsNow 23 rfl) (by decide) ?_
      refine e_lv [2, 1, 0] rfl ?_
      exact ih _ _ _ h hOK
set_option maxRecDepth 20000 in
theorem lb_X12_lotsNow_4 {X : FX} {g : WC} {Xo : Nat → va_E} {n : Nat} {kd : Nat → Nat} (C : Cx X g RX12 cX12_lotsNow 3) (K : KD n kd) {t : Nat} (ht : kd t = 13) {M : Mem} (hR : x_R X = rm 2) {T9 : Type} {f9 : Int32 → Option T9} {b9 : T9} (hx : ∀ s, f9 s = some b9 → EW X g (x_s X).heap.size n 3 (ent g Xo kd M) 0 0 38 [(1, .int s)] []) {x1 : Int32} {x2 : Int32} (h : (L_X12_lotsNow_4 t M FU x1 x2).bind f9 = some b9) : EW X g (x_s X).heap.size n 3 (ent g Xo kd M) 0 0 4 [(0, .ref (g_N g + t)), (1, .int x1), (2, .int x2)] [] := by
  obtain ⟨q, hq, h⟩ := ob h
  exact l_X12_lotsNow_4 C K ht hR (OK := fun q => f9 q = some b9) hx FU x1 x2 q hq h
set_option maxRecDepth 20000 in
theorem c_X12_lotsNow {g : WC} {Xo : Nat → va_E} {n : Nat} {kd : Nat → Nat} (K : KD n kd) {t : Nat} (ht : kd t = 13) {M : Mem} {res : Int32} (h : F_X12_lotsNow t M = some res) : MC g yX12_lotsNow cX12_lotsNow 3 (some .int) 2 n [.ref (g_N g + t)] (ent g Xo kd M) (some (.int res)) (ent g Xo kd M) := by
  refine MC_of pn_X12 (Nat.le_of_ble_eq_true rfl) (fun X C B => ?_)
  have hR := B.1
  rw [F_X12_lotsNow] at h
  refine e_iconst C 0 (dk dX12_lotsNow 0 rfl) (by decide) ?_
  refine e_istore_n C [(1, .int 0), (0, .ref (g_N g + t))] (dk dX12_lotsNow 1 rfl) rfl (by decide) rfl ?_
  refine e_iconst C 0 (dk dX12_lotsNow 2 rfl) (by decide) ?_
  refine e_istore_n C [(2, .int 0), (1, .int 0), (0, .ref (g_N g + t))] (dk dX12_lotsNow 3 rfl) rfl (by decide) rfl ?_
  refine e_lv [2, 1, 0] rfl ?_
  refine lb_X12_lotsNow_4 C K ht hR (fun s6 h => ?_) h
  refine e_iload_n C 0 (dk dX12_lotsNow 24 rfl) rfl rfl ?_
  obtain rfl := Option.some.inj h
  exact e_iret C B (nar1 _) (dk dX12_lotsNow 25 rfl)
set_option maxRecDepth 20000 in
theorem c_X12_reckon {g : WC} {Xo : Nat → va_E} {n : Nat} {kd : Nat → Nat} (K : KD n kd) {p0 : Int32} {p1 : Int32} {p2 : Int32} {M : Mem} {res : Int32} (h : F_X12_reckon p0 p1 p2 = some res) : MC g yX12_reckon cX12_reckon 3 (some .int) 0 n [.int p0, .int p1, .int p2] (ent g Xo kd M) (some (.int res)) (ent g Xo kd M) := by
  refine MC_of pn_X12 (Nat.le_of_ble_eq_true rfl) (fun X C B => ?_)
  have hR := B.1
  rw [F_X12_reckon] at h
  refine e_iload_n C 0 (dk dX12_reckon 0 rfl) rfl rfl ?_
  by_cases c1 : p0 = (-26)
  · rw [if_pos c1] at h
    refine e_tsIn C 90 (dk dX12_reckon 1 rfl) (by rw [c1]; decide) (by rw [c1]; decide) (by rw [c1]; rfl) (by decide) ?_
    refine e_iload_n C 1 (dk dX12_reckon 36 rfl) rfl rfl ?_
    refine e_if_eq C 102 (dk dX12_reckon 37 rfl) (by decide) (fun c2 => ?_) (fun c2 => ?_)
    · rw [if_pos c2] at h
      refine e_iconst C 0 (dk dX12_reckon 42 rfl) (by decide) ?_
      obtain rfl := Option.some.inj h
      exact e_iret C B (nar1 _) (dk dX12_reckon 43 rfl)
    · rw [if_neg c2] at h
      refine e_iload_n C 2 (dk dX12_reckon 38 rfl) rfl rfl ?_
      refine e_if_eq C 102 (dk dX12_reckon 39 rfl) (by decide) (fun c3 => ?_) (fun c3 => ?_)
      · rw [if_pos c3] at h
        refine e_iconst C 0 (dk dX12_reckon 42 rfl) (by decide) ?_
        obtain rfl := Option.some.inj h
        exact e_iret C B (nar1 _) (dk dX12_reckon 43 rfl)
      · rw [if_neg c3] at h
        refine e_iconst C 1 (dk dX12_reckon 40 rfl) (by decide) ?_
        refine e_goto C 103 (dk dX12_reckon 41 rfl) (by decide) ?_
        obtain rfl := Option.some.inj h
        exact e_iret C B (nar1 _) (dk dX12_reckon 43 rfl)
  rw [if_neg c1] at h
  by_cases c4 : p0 = (-25)
  · rw [if_pos c4] at h
    refine e_tsIn C 79 (dk dX12_reckon 1 rfl) (by rw [c4]; decide) (by rw [c4]; decide) (by rw [c4]; rfl) (by decide) ?_
    refine e_iload_n C 1 (dk dX12_reckon 29 rfl) rfl rfl ?_
    refine e_iload_n C 2 (dk dX12_reckon 30 rfl) rfl rfl ?_
    suffices hm6 : EW X g (x_s X).heap.size n 3 (ent g Xo kd M) 0 0 89 [(0, .int p0), (1, .int p1), (2, .int p2)] [.int (if p1 = p2 then (1 : Int32) else (0 : Int32))] from (by
      refine e_icmp_ne C 88 (dk dX12_reckon 31 rfl) (by decide) (fun c5 => ?_) (fun c5 => ?_)
      · rw [show (if p1 = p2 then (1 : Int32) else (0 : Int32)) = (0 : Int32) from if_neg c5] at hm6
        refine e_iconst C 0 (dk dX12_reckon 34 rfl) (by decide) ?_
        exact hm6
      · rw [show (if p1 = p2 then (1 : Int32) else (0 : Int32)) = (1 : Int32) from if_pos c5] at hm6
        refine e_iconst C 1 (dk dX12_reckon 32 rfl) (by decide) ?_
        refine e_goto C 89 (dk dX12_reckon 33 rfl) (by decide) ?_
        exact hm6)
    obtain rfl := Option.some.inj h
    exact e_iret C B (nar1 _) (dk dX12_reckon 35 rfl)
  rw [if_neg c4] at h
  by_cases c7 : p0 = (-24)
  · rw [if_pos c7] at h
    refine e_tsIn C 68 (dk dX12_reckon 1 rfl) (by rw [c7]; decide) (by rw [c7]; decide) (by rw [c7]; rfl) (by decide) ?_
    refine e_iload_n C 1 (dk dX12_reckon 22 rfl) rfl rfl ?_
    refine e_iload_n C 2 (dk dX12_reckon 23 rfl) rfl rfl ?_
    suffices hm9 : EW X g (x_s X).heap.size n 3 (ent g Xo kd M) 0 0 78 [(0, .int p0), (1, .int p1), (2, .int p2)] [.int (if p2 ≤ p1 then (0 : Int32) else (1 : Int32))] from (by
      refine e_icmp_ge C 77 (dk dX12_reckon 24 rfl) (by decide) (fun c8 => ?_) (fun c8 => ?_)
      · rw [show (if p2 ≤ p1 then (0 : Int32) else (1 : Int32)) = (0 : Int32) from if_pos c8] at hm9
        refine e_iconst C 0 (dk dX12_reckon 27 rfl) (by decide) ?_
        exact hm9
      · rw [show (if p2 ≤ p1 then (0 : Int32) else (1 : Int32)) = (1 : Int32) from if_neg c8] at hm9
        refine e_iconst C 1 (dk dX12_reckon 25 rfl) (by decide) ?_
        refine e_goto C 78 (dk dX12_reckon 26 rfl) (by decide) ?_
        exact hm9)
    obtain rfl := Option.some.inj h
    exact e_iret C B (nar1 _) (dk dX12_reckon 28 rfl)
  rw [if_neg c7] at h
  by_cases c10 : p0 = (-23)
  · rw [if_pos c10] at h
    refine e_tsIn C 56 (dk dX12_reckon 1 rfl) (by rw [c10]; decide) (by rw [c10]; decide) (by rw [c10]; rfl) (by decide) ?_
    refine e_iload_n C 2 (dk dX12_reckon 14 rfl) rfl rfl ?_
    refine e_if_ne C 64 (dk dX12_reckon 15 rfl) (by decide) (fun c11 => ?_) (fun c11 => ?_)
    · rw [if_neg c11] at h
      refine e_iload_n C 1 (dk dX12_reckon 18 rfl) rfl rfl ?_
      refine e_iload_n C 2 (dk dX12_reckon 19 rfl) rfl rfl ?_
      obtain ⟨v12, hv12, h⟩ := ob h
      have gv12 := idv_some hv12
      refine e_idiv C (dk dX12_reckon 20 rfl) gv12.1 ?_
      rw [gv12.2]
      obtain rfl := Option.some.inj h
      exact e_iret C B (nar1 _) (dk dX12_reckon 21 rfl)
    · rw [if_pos c11] at h
      refine e_iconst C 0 (dk dX12_reckon 16 rfl) (by decide) ?_
      refine e_goto C 67 (dk dX12_reckon 17 rfl) (by decide) ?_
      obtain rfl := Option.some.inj h
      exact e_iret C B (nar1 _) (dk dX12_reckon 21 rfl)
  rw [if_neg c10] at h
  by_cases c13 : p0 = (-22)
  · rw [if_pos c13] at h
    refine e_tsIn C 52 (dk dX12_reckon 1 rfl) (by rw [c13]; decide) (by rw [c13]; decide) (by rw [c13]; rfl) (by decide) ?_
    refine e_iload_n C 1 (dk dX12_reckon 10 rfl) rfl rfl ?_
    refine e_iload_n C 2 (dk dX12_reckon 11 rfl) rfl rfl ?_
    refine e_imul C (dk dX12_reckon 12 rfl) ?_
    obtain rfl := Option.some.inj h
    exact e_iret C B (nar1 _) (dk dX12_reckon 13 rfl)
  rw [if_neg c13] at h
  by_cases c14 : p0 = (-21)
  · rw [if_pos c14] at h
    refine e_tsIn C 48 (dk dX12_reckon 1 rfl) (by rw [c14]; decide) (by rw [c14]; decide) (by rw [c14]; rfl) (by decide) ?_
    refine e_iload_n C 1 (dk dX12_reckon 6 rfl) rfl rfl ?_
    refine e_iload_n C 2 (dk dX12_reckon 7 rfl) rfl rfl ?_
    refine e_isub C (dk dX12_reckon 8 rfl) ?_
    obtain rfl := Option.some.inj h
    exact e_iret C B (nar1 _) (dk dX12_reckon 9 rfl)
  rw [if_neg c14] at h
  by_cases c15 : p0 = (-20)
  · rw [if_pos c15] at h
    refine e_tsIn C 44 (dk dX12_reckon 1 rfl) (by rw [c15]; decide) (by rw [c15]; decide) (by rw [c15]; rfl) (by decide) ?_
    refine e_iload_n C 1 (dk dX12_reckon 2 rfl) rfl rfl ?_
    refine e_iload_n C 2 (dk dX12_reckon 3 rfl) rfl rfl ?_
    refine e_iadd C (dk dX12_reckon 4 rfl) ?_
    obtain rfl := Option.some.inj h
    exact e_iret C B (nar1 _) (dk dX12_reckon 5 rfl)
  rw [if_neg c15] at h
  refine e_tsOut C 104 (dk dX12_reckon 1 rfl) (ts_out (-26) (-20) (by decide) (fun v h1 h2 => ?_)) (by decide) ?_
  · intro o16
    have hv : v = (-26 : Int) ∨ v = (-25 : Int) ∨ v = (-24 : Int) ∨ v = (-23 : Int) ∨ v = (-22 : Int) ∨ v = (-21 : Int) ∨ v = (-20 : Int) := by omega
    rcases hv with rfl | rfl | rfl | rfl | rfl | rfl | rfl
    · exact c1 (Int32.toInt_inj.mp (by rw [o16]; rfl))
    · exact c4 (Int32.toInt_inj.mp (by rw [o16]; rfl))
    · exact c7 (Int32.toInt_inj.mp (by rw [o16]; rfl))
    · exact c10 (Int32.toInt_inj.mp (by rw [o16]; rfl))
    · exact c13 (Int32.toInt_inj.mp (by rw [o16]; rfl))
    · exact c14 (Int32.toInt_inj.mp (by rw [o16]; rfl))
    · exact c15 (Int32.toInt_inj.mp (by rw [o16]; rfl))
  refine e_iload_n C 1 (dk dX12_reckon 44 rfl) rfl rfl ?_
  refine e_if_ne C 112 (dk dX12_reckon 45 rfl) (by decide) (fun c17 => ?_) (fun c17 => ?_)
  · rw [if_neg c17] at h
    refine e_iconst C 1 (dk dX12_reckon 48 rfl) (by decide) ?_
    refine e_goto C 117 (dk dX12_reckon 49 rfl) (by decide) ?_
    obtain rfl := Option.some.inj h
    exact e_iret C B (nar1 _) (dk dX12_reckon 51 rfl)
  · rw [if_pos c17] at h
    refine e_iload_n C 2 (dk dX12_reckon 46 rfl) rfl rfl ?_
    refine e_if_eq C 116 (dk dX12_reckon 47 rfl) (by decide) (fun c18 => ?_) (fun c18 => ?_)
    · rw [if_pos c18] at h
      refine e_iconst C 0 (dk dX12_reckon 50 rfl) (by decide) ?_
      obtain rfl := Option.some.inj h
      exact e_iret C B (nar1 _) (dk dX12_reckon 51 rfl)
    · rw [if_neg c18] at h
      refine e_iconst C 1 (dk dX12_reckon 48 rfl) (by decide) ?_
      refine e_goto C 117 (dk dX12_reckon 49 rfl) (by decide) ?_
      obtain rfl := Option.some.inj h
      exact e_iret C B (nar1 _) (dk dX12_reckon 51 rfl)
set_option maxRecDepth 20000 in
theorem j_X12_valueNow_j49 {X : FX} {g : WC} {Xo : Nat → va_E} {n : Nat} {kd : Nat → Nat} (C : Cx X g RX12 cX12_valueNow 4) (K : KD n kd) {t : Nat} (ht : kd t = 13) (hR : x_R X = rm 1) {OK : Mem → Prop} (hx : ∀ s, OK s → EW X g (x_s X).heap.size n 4 (ent g Xo kd s) 0 0 124 [(0, .ref (g_N g + t))] []) {rec : Int32 → Int32 → Mem → Option (Mem)} (hrec : ∀ (x1 : Int32) (x2 : Int32) (M : Mem) (q : Mem), rec x1 x2 M = some q → OK q → EW X g (x_s X).heap.size n 4 (ent g Xo kd M) 0 0 4 [(0, .ref (g_N g + t)), (1, .int x1), (2, .int x2)] []) {x1 : Int32} {x2 : Int32} {y1 : Int32} {y2 : Int32} {M : Mem} (q : Mem) (h : J_X12_valueNow_j49 t rec x1 x2 y1 y2 M = some q) (hOK : OK q) : EW X g (x_s X).heap.size n 4 (ent g Xo kd M) 0 0 49 [(0, .ref (g_N g + t)), (1, .int x1), (2, .int x2)] [.int y2, .int y1, .ref (g_N g + (t + 19))] := by
  rw [J_X12_valueNow_j49] at h
  obtain ⟨M15, hM15, h⟩ := ob h
  refine m_ast C K (kd_X12_stack K ht) (dk dX12_valueNow_0 31 rfl) hM15 ?_
  refine e_iinc C [(1, .int (x1 + 1)), (0, .ref (g_N g + t)), (2, .int x2)] 1 1 (dk dX12_valueNow_0 32 rfl) rfl (by decide) (by decide) rfl ?_
  refine e_goto C 118 (dk dX12_valueNow_0 33 rfl) (by decide) ?_
  refine e_iinc C [(2, .int (x2 + 1)), (1, .int (x1 + 1)), (0, .ref (g_N g + t))] 2 1 (dk dX12_valueNow_1 13 rfl) rfl (by decide) (by decide) rfl ?_
  refine e_goto C 4 (dk dX12_valueNow_1 14 rfl) (by decide) ?_
  refine e_lv [2, 1, 0] rfl ?_
  exact hrec _ _ _ _ h hOK
set_option maxRecDepth 20000 in
theorem l_X12_valueNow_4 {X : FX} {g : WC} {Xo : Nat → va_E} {n : Nat} {kd : Nat → Nat} (C : Cx X g RX12 cX12_valueNow 4) (K : KD n kd) {t : Nat} (ht : kd t = 13) (hR : x_R X = rm 1) {OK : Mem → Prop} (hx : ∀ s, OK s → EW X g (x_s X).heap.size n 4 (ent g Xo kd s) 0 0 124 [(0, .ref (g_N g + t))] []) : ∀ (N9 : Nat) (x1 : Int32) (x2 : Int32) (M : Mem) (q : Mem), L_X12_valueNow_4 t N9 x1 x2 M = some q → OK q → EW X g (x_s X).heap.size n 4 (ent g Xo kd M) 0 0 4 [(0, .ref (g_N g + t)), (1, .int x1), (2, .int x2)] [] := by
  intro N9
  induction N9 with
  | zero =>
    intro x1 x2 M q h
    rw [L_X12_valueNow_4.eq_1] at h
    cases h
  | succ m9 ih =>
    intro x1 x2 M q h hOK
    rw [L_X12_valueNow_4.eq_2] at h
    refine e_iload_n C 2 (dk dX12_valueNow_0 4 rfl) rfl rfl ?_
    refine e_aload_n C 0 (dk dX12_valueNow_0 5 rfl) rfl rfl ?_
    refine gf_X12_told C K ht fl_X12_38 (dk dX12_valueNow_0 6 rfl) ?_
    refine e_bipush C 6 (dk dX12_valueNow_0 7 rfl) (by decide) ?_
    refine m_aldc C K (kd_X12_told K ht) 6 (dk dX12_valueNow_0 8 rfl) (by decide) (by decide) ?_
    refine e_icmp_ge C 124 (dk dX12_valueNow_0 9 rfl) (by decide) (fun c1 => ?_) (fun c1 => ?_)
    · rw [if_pos c1] at h
      obtain rfl := Option.some.inj h
      refine e_lv [0] rfl ?_
      exact hx _ hOK
    · rw [if_neg c1] at h
      refine e_aload_n C 0 (dk dX12_valueNow_0 10 rfl) rfl rfl ?_
      refine gf_X12_signs C K ht fl_X12_62 (dk dX12_valueNow_0 11 rfl) ?_
      refine e_iload_n C 2 (dk dX12_valueNow_0 12 rfl) rfl rfl ?_
      obtain ⟨v2, hv2, h⟩ := ob h
      refine m_ald C K (kd_X12_signs K ht) (dk dX12_valueNow_0 13 rfl) hv2 ?_
      refine e_istore_n C [(3, .int v2), (0, .ref (g_N g + t)), (1, .int x1), (2, .int x2)] (dk dX12_valueNow_0 14 rfl) rfl (by decide) rfl ?_
      refine e_iload_n C 0 (dk dX12_valueNow_0 15 rfl) rfl rfl ?_
      refine e_bipush C (-20) (dk dX12_valueNow_0 16 rfl) (by decide) ?_
      refine e_icmp_le C 56 (dk dX12_valueNow_0 17 rfl) (by decide) (fun c3 => ?_) (fun c3 => ?_)
      · rw [if_pos c3] at h
        refine e_iload_n C 0 (dk dX12_valueNow_0 34 rfl) rfl rfl ?_
        refine e_bipush C (-28) (dk dX12_valueNow_0 35 rfl) (by decide) ?_
        refine e_icmp_ne C 89 (dk dX12_valueNow_0 36 rfl) (by decide) (fun c4 => ?_) (fun c4 => ?_)
        · rw [if_neg c4] at h
          refine e_iinc C [(1, .int (x1 + (-1))), (3, .int v2), (0, .ref (g_N g + t)), (2, .int x2)] 2 (-1) (dk dX12_valueNow_0 54 rfl) rfl (by decide) (by decide) rfl ?_
          refine e_aload_n C 2 (dk dX12_valueNow_0 55 rfl) rfl rfl ?_
          refine gf_X12_stack C K ht fl_X12_92 (dk dX12_valueNow_0 56 rfl) ?_
          refine e_iload_n C 0 (dk dX12_valueNow_0 57 rfl) rfl rfl ?_
          refine e_iconst C 1 (dk dX12_valueNow_0 58 rfl) (by decide) ?_
          refine e_isub C (dk dX12_valueNow_0 59 rfl) ?_
          refine e_iload_n C 1 (dk dX12_valueNow_1 0 rfl) rfl rfl ?_
          refine e_aload_n C 2 (dk dX12_valueNow_1 1 rfl) rfl rfl ?_
          refine gf_X12_stack C K ht fl_X12_92 (dk dX12_valueNow_1 2 rfl) ?_
          refine e_iload_n C 0 (dk dX12_valueNow_1 3 rfl) rfl rfl ?_
          refine e_iconst C 1 (dk dX12_valueNow_1 4 rfl) (by decide) ?_
          refine e_isub C (dk dX12_valueNow_1 5 rfl) ?_
          obtain ⟨v5, hv5, h⟩ := ob h
          refine m_ald C K (kd_X12_stack K ht) (dk dX12_valueNow_1 6 rfl) hv5 ?_
          refine e_aload_n C 2 (dk dX12_valueNow_1 7 rfl) rfl rfl ?_
          refine gf_X12_stack C K ht fl_X12_92 (dk dX12_valueNow_1 8 rfl) ?_
          refine e_iload_n C 0 (dk dX12_valueNow_1 9 rfl) rfl rfl ?_
          obtain ⟨v6, hv6, h⟩ := ob h
          refine m_ald C K (kd_X12_stack K ht) (dk dX12_valueNow_1 10 rfl) hv6 ?_
          obtain ⟨q7, hq7, h⟩ := ob h
          refine e_callS C cal_X12_reckon sm_X12_reckon ml_X12_360 hR (by decide) (dk dX12_valueNow_1 11 rfl) (c_X12_reckon K hq7) ⟨Nat.zero_le _, Nat.zero_le _⟩ (Nat.le_of_ble_eq_true rfl) rfl ?_
          obtain ⟨M8, hM8, h⟩ := ob h
          refine m_ast C K (kd_X12_stack K ht) (dk dX12_valueNow_1 12 rfl) hM8 ?_
          refine e_iinc C [(2, .int (x2 + 1)), (1, .int (x1 + (-1))), (3, .int v2), (0, .ref (g_N g + t))] 3 1 (dk dX12_valueNow_1 13 rfl) rfl (by decide) (by decide) rfl ?_
          refine e_goto C 4 (dk dX12_valueNow_1 14 rfl) (by decide) ?_
          refine e_lv [3, 1, 0] rfl ?_
          exact ih _ _ _ _ h hOK
        · rw [if_pos c4] at h
          refine e_aload_n C 1 (dk dX12_valueNow_0 37 rfl) rfl rfl ?_
          refine gf_X12_stack C K ht fl_X12_92 (dk dX12_valueNow_0 38 rfl) ?_
          refine e_iload_n C 2 (dk dX12_valueNow_0 39 rfl) rfl rfl ?_
          refine e_iconst C 1 (dk dX12_valueNow_0 40 rfl) (by decide) ?_
          refine e_isub C (dk dX12_valueNow_0 41 rfl) ?_
          refine e_aload_n C 1 (dk dX12_valueNow_0 42 rfl) rfl rfl ?_
          refine gf_X12_stack C K ht fl_X12_92 (dk dX12_valueNow_0 43 rfl) ?_
          refine e_iload_n C 2 (dk dX12_valueNow_0 44 rfl) rfl rfl ?_
          refine e_iconst C 1 (dk dX12_valueNow_0 45 rfl) (by decide) ?_
          refine e_isub C (dk dX12_valueNow_0 46 rfl) ?_
          obtain ⟨v9, hv9, h⟩ := ob h
          refine m_ald C K (kd_X12_stack K ht) (dk dX12_valueNow_0 47 rfl) hv9 ?_
          suffices hm11 : EW X g (x_s X).heap.size n 4 (ent g Xo kd M) 0 0 85 [(3, .int v2), (0, .ref (g_N g + t)), (1, .int x1), (2, .int x2)] [.int (if v9 = 0 then (1 : Int32) else (0 : Int32)), .int (x1 - 1), .ref (g_N g + (t + 19))] from (by
            refine e_if_eq C 84 (dk dX12_valueNow_0 48 rfl) (by decide) (fun c10 => ?_) (fun c10 => ?_)
            · rw [show (if v9 = 0 then (1 : Int32) else (0 : Int32)) = (1 : Int32) from if_pos c10] at hm11
              refine e_iconst C 1 (dk dX12_valueNow_0 51 rfl) (by decide) ?_
              exact hm11
            · rw [show (if v9 = 0 then (1 : Int32) else (0 : Int32)) = (0 : Int32) from if_neg c10] at hm11
              refine e_iconst C 0 (dk dX12_valueNow_0 49 rfl) (by decide) ?_
              refine e_goto C 85 (dk dX12_valueNow_0 50 rfl) (by decide) ?_
              exact hm11)
          obtain ⟨M12, hM12, h⟩ := ob h
          refine m_ast C K (kd_X12_stack K ht) (dk dX12_valueNow_0 52 rfl) hM12 ?_
          refine e_goto C 118 (dk dX12_valueNow_0 53 rfl) (by decide) ?_
          refine e_iinc C [(2, .int (x2 + 1)), (3, .int v2), (0, .ref (g_N g + t)), (1, .int x1)] 3 1 (dk dX12_valueNow_1 13 rfl) rfl (by decide) (by decide) rfl ?_
          refine e_goto C 4 (dk dX12_valueNow_1 14 rfl) (by decide) ?_
          refine e_lv [2, 3, 0] rfl ?_
          exact ih _ _ _ _ h hOK
      · rw [if_neg c3] at h
        refine e_aload_n C 1 (dk dX12_valueNow_0 18 rfl) rfl rfl ?_
        refine gf_X12_stack C K ht fl_X12_92 (dk dX12_valueNow_0 19 rfl) ?_
        refine e_iload_n C 2 (dk dX12_valueNow_0 20 rfl) rfl rfl ?_
        refine e_iload_n C 0 (dk dX12_valueNow_0 21 rfl) rfl rfl ?_
        refine e_if_lt C 41 (dk dX12_valueNow_0 22 rfl) (by decide) (fun c13 => ?_) (fun c13 => ?_)
        · rw [if_pos c13] at h
          refine e_aload_n C 1 (dk dX12_valueNow_0 25 rfl) rfl rfl ?_
          refine gf_X12_asked C K ht fl_X12_89 (dk dX12_valueNow_0 26 rfl) ?_
          refine e_iconst C (-1) (dk dX12_valueNow_0 27 rfl) (by decide) ?_
          refine e_iload_n C 0 (dk dX12_valueNow_0 28 rfl) rfl rfl ?_
          refine e_isub C (dk dX12_valueNow_0 29 rfl) ?_
          obtain ⟨v14, hv14, h⟩ := ob h
          refine m_ald C K (kd_X12_asked K ht) (dk dX12_valueNow_0 30 rfl) hv14 ?_
          refine e_lv [1, 2, 3] rfl ?_
          exact j_X12_valueNow_j49 C K ht hR hx ih _ h hOK
        · rw [if_neg c13] at h
          refine e_iload_n C 0 (dk dX12_valueNow_0 23 rfl) rfl rfl ?_
          refine e_goto C 49 (dk dX12_valueNow_0 24 rfl) (by decide) ?_
          refine e_lv [1, 2, 3] rfl ?_
          exact j_X12_valueNow_j49 C K ht hR hx ih _ h hOK
set_option maxRecDepth 20000 in
theorem lb_X12_valueNow_4 {X : FX} {g : WC} {Xo : Nat → va_E} {n : Nat} {kd : Nat → Nat} (C : Cx X g RX12 cX12_valueNow 4) (K : KD n kd) {t : Nat} (ht : kd t = 13) (hR : x_R X = rm 1) {T9 : Type} {f9 : Mem → Option T9} {b9 : T9} (hx : ∀ s, f9 s = some b9 → EW X g (x_s X).heap.size n 4 (ent g Xo kd s) 0 0 124 [(0, .ref (g_N g + t))] []) {x1 : Int32} {x2 : Int32} {M : Mem} (h : (L_X12_valueNow_4 t FU x1 x2 M).bind f9 = some b9) : EW X g (x_s X).heap.size n 4 (ent g Xo kd M) 0 0 4 [(0, .ref (g_N g + t)), (1, .int x1), (2, .int x2)] [] := by
  obtain ⟨q, hq, h⟩ := ob h
  exact l_X12_valueNow_4 C K ht hR (OK := fun q => f9 q = some b9) hx FU x1 x2 M q hq h
set_option maxRecDepth 20000 in
theorem c_X12_valueNow {g : WC} {Xo : Nat → va_E} {n : Nat} {kd : Nat → Nat} (K : KD n kd) {t : Nat} (ht : kd t = 13) {M : Mem} {res : Int32 × Mem} (h : F_X12_valueNow t M = some res) : MC g yX12_valueNow cX12_valueNow 4 (some .int) 1 n [.ref (g_N g + t)] (ent g Xo kd M) (some (.int res.1)) (ent g Xo kd res.2) := by
  refine MC_of pn_X12 (Nat.le_of_ble_eq_true rfl) (fun X C B => ?_)
  have hR := B.1
  rw [F_X12_valueNow] at h
  refine e_iconst C 0 (dk dX12_valueNow_0 0 rfl) (by decide) ?_
  refine e_istore_n C [(1, .int 0), (0, .ref (g_N g + t))] (dk dX12_valueNow_0 1 rfl) rfl (by decide) rfl ?_
  refine e_iconst C 0 (dk dX12_valueNow_0 2 rfl) (by decide) ?_
  refine e_istore_n C [(2, .int 0), (1, .int 0), (0, .ref (g_N g + t))] (dk dX12_valueNow_0 3 rfl) rfl (by decide) rfl ?_
  refine e_lv [2, 1, 0] rfl ?_
  refine lb_X12_valueNow_4 C K ht hR (fun s17 h => ?_) h
  refine e_aload_n C 0 (dk dX12_valueNow_1 15 rfl) rfl rfl ?_
  refine gf_X12_stack C K ht fl_X12_92 (dk dX12_valueNow_1 16 rfl) ?_
  refine e_iconst C 0 (dk dX12_valueNow_1 17 rfl) (by decide) ?_
  refine m_aldc C K (kd_X12_stack K ht) 0 (dk dX12_valueNow_1 18 rfl) (by decide) (by decide) ?_
  obtain rfl := Option.some.inj h
  exact e_iret C B (nar1 _) (dk dX12_valueNow_1 19 rfl)
set_option maxRecDepth 20000 in
theorem l_X12_tellLots_7 {X : FX} {g : WC} {Xo : Nat → va_E} {n : Nat} {kd : Nat → Nat} (C : Cx X g RX12 cX12_tellLots 2) (K : KD n kd) {t : Nat} (ht : kd t = 13) (hR : x_R X = rm 2) {OK : Mem → Prop} (hx : ∀ s, OK s → EW X g (x_s X).heap.size n 2 (ent g Xo kd s) 0 0 59 [] []) : ∀ (N9 : Nat) (x1 : Int32) (M : Mem) (q : Mem), L_X12_tellLots_7 t N9 x1 M = some q → OK q → EW X g (x_s X).heap.size n 2 (ent g Xo kd M) 0 0 7 [(0, .ref (g_N g + t)), (1, .int x1)] [] := by
  intro N9
  induction N9 with
  | zero =>
    intro x1 M q h
    rw [L_X12_tellLots_7.eq_1] at h
    cases h
  | succ m9 ih =>
    intro x1 M q h hOK
    rw [L_X12_tellLots_7.eq_2] at h
    refine e_iload_n C 1 (dk dX12_tellLots 5 rfl) rfl rfl ?_
    refine e_aload_n C 0 (dk dX12_tellLots 6 rfl) rfl rfl ?_
    refine gf_X12_told C K ht fl_X12_38 (dk dX12_tellLots 7 rfl) ?_
    refine e_iconst C 3 (dk dX12_tellLots 8 rfl) (by decide) ?_
    refine m_aldc C K (kd_X12_told K ht) 3 (dk dX12_tellLots 9 rfl) (by decide) (by decide) ?_
    refine e_icmp_ge C 59 (dk dX12_tellLots 10 rfl) (by decide) (fun c1 => ?_) (fun c1 => ?_)
    · rw [if_pos c1] at h
      obtain rfl := Option.some.inj h
      refine e_lv [] rfl ?_
      exact hx _ hOK
    · rw [if_neg c1] at h
      refine e_aload_n C 0 (dk dX12_tellLots 11 rfl) rfl rfl ?_
      refine gf_X12_hoursOf C K ht fl_X12_95 (dk dX12_tellLots 12 rfl) ?_
      refine e_iload_n C 1 (dk dX12_tellLots 13 rfl) rfl rfl ?_
      refine e_aload_n C 0 (dk dX12_tellLots 14 rfl) rfl rfl ?_
      refine e_iload_n C 1 (dk dX12_tellLots 15 rfl) rfl rfl ?_
      obtain ⟨q2, hq2, h⟩ := ob h
      refine e_callV (ci := 12) C cal_X12_seenHours im_X12_seenHours se_X12_seenHours ml_X12_357 rfl hR (by decide) (dk dX12_tellLots 16 rfl) (K.1 _ (by rw [ht]; decide)) (ent_o12 ht) (c_X12_seenHours K ht hq2) ⟨Nat.zero_le _, Nat.zero_le _⟩ (Nat.le_of_ble_eq_true rfl) rfl ?_
      obtain ⟨M3, hM3, h⟩ := ob h
      refine m_ast C K (kd_X12_hoursOf K ht) (dk dX12_tellLots 17 rfl) hM3 ?_
      refine e_aload_n C 0 (dk dX12_tellLots 18 rfl) rfl rfl ?_
      refine e_dup C (dk dX12_tellLots 19 rfl) rfl ?_
      refine gf_X12_lots C K ht fl_X12_364 (dk dX12_tellLots 20 rfl) ?_
      refine e_aload_n C 0 (dk dX12_tellLots 21 rfl) rfl rfl ?_
      refine gf_X12_hoursOf C K ht fl_X12_95 (dk dX12_tellLots 22 rfl) ?_
      refine e_iload_n C 1 (dk dX12_tellLots 23 rfl) rfl rfl ?_
      obtain ⟨v4, hv4, h⟩ := ob h
      refine m_ald C K (kd_X12_hoursOf K ht) (dk dX12_tellLots 24 rfl) hv4 ?_
      suffices hm6 : EW X g (x_s X).heap.size n 2 (ent g Xo kd M3) 0 0 49 [(0, .ref (g_N g + t)), (1, .int x1)] [.int (if v4 = 0 then (0 : Int32) else ((1 : Int32) <<< (x1 &&& 31))), .int (M3 t 39), .ref (g_N g + t)] from (by
        refine e_if_eq C 48 (dk dX12_tellLots 25 rfl) (by decide) (fun c5 => ?_) (fun c5 => ?_)
        · rw [show (if v4 = 0 then (0 : Int32) else ((1 : Int32) <<< (x1 &&& 31))) = (0 : Int32) from if_pos c5] at hm6
          refine e_iconst C 0 (dk dX12_tellLots 30 rfl) (by decide) ?_
          exact hm6
        · rw [show (if v4 = 0 then (0 : Int32) else ((1 : Int32) <<< (x1 &&& 31))) = ((1 : Int32) <<< (x1 &&& 31)) from if_neg c5] at hm6
          refine e_iconst C 1 (dk dX12_tellLots 26 rfl) (by decide) ?_
          refine e_iload_n C 1 (dk dX12_tellLots 27 rfl) rfl rfl ?_
          refine e_ishl C (dk dX12_tellLots 28 rfl) ?_
          refine e_goto C 49 (dk dX12_tellLots 29 rfl) (by decide) ?_
          exact hm6)
      refine e_ior C (dk dX12_tellLots 31 rfl) ?_
      refine pf_X12_lots C K ht fl_X12_364 (dk dX12_tellLots 32 rfl) ?_
      refine e_iinc C [(1, .int (x1 + 1)), (0, .ref (g_N g + t))] 1 1 (dk dX12_tellLots 33 rfl) rfl (by decide) (by decide) rfl ?_
      refine e_goto C 7 (dk dX12_tellLots 34 rfl) (by decide) ?_
      refine e_lv [1, 0] rfl ?_
      exact ih _ _ _ h hOK
set_option maxRecDepth 20000 in
theorem lb_X12_tellLots_7 {X : FX} {g : WC} {Xo : Nat → va_E} {n : Nat} {kd : Nat → Nat} (C : Cx X g RX12 cX12_tellLots 2) (K : KD n kd) {t : Nat} (ht : kd t = 13) (hR : x_R X = rm 2) {T9 : Type} {f9 : Mem → Option T9} {b9 : T9} (hx : ∀ s, f9 s = some b9 → EW X g (x_s X).heap.size n 2 (ent g Xo kd s) 0 0 59 [] []) {x1 : Int32} {M : Mem} (h : (L_X12_tellLots_7 t FU x1 M).bind f9 = some b9) : EW X g (x_s X).heap.size n 2 (ent g Xo kd M) 0 0 7 [(0, .ref (g_N g + t)), (1, .int x1)] [] := by
  obtain ⟨q, hq, h⟩ := ob h
  exact l_X12_tellLots_7 C K ht hR (OK := fun q => f9 q = some b9) hx FU x1 M q hq h
set_option maxRecDepth 20000 in
theorem c_X12_tellLots {g : WC} {Xo : Nat → va_E} {n : Nat} {kd : Nat → Nat} (K : KD n kd) {t : Nat} (ht : kd t = 13) {M : Mem} {res : Mem} (h : F_X12_tellLots t M = some res) : MC g yX12_tellLots cX12_tellLots 2 none 2 n [.ref (g_N g + t)] (ent g Xo kd M) none (ent g Xo kd res) := by
  refine MC_of pn_X12 (Nat.le_of_ble_eq_true rfl) (fun X C B => ?_)
  have hR := B.1
  rw [F_X12_tellLots] at h
  refine e_aload_n C 0 (dk dX12_tellLots 0 rfl) rfl rfl ?_
  refine e_iconst C 0 (dk dX12_tellLots 1 rfl) (by decide) ?_
  refine pf_X12_lots C K ht fl_X12_364 (dk dX12_tellLots 2 rfl) ?_
  refine e_iconst C 0 (dk dX12_tellLots 3 rfl) (by decide) ?_
  refine e_istore_n C [(1, .int 0), (0, .ref (g_N g + t))] (dk dX12_tellLots 4 rfl) rfl (by decide) rfl ?_
  refine e_lv [1, 0] rfl ?_
  refine lb_X12_tellLots_7 C K ht hR (fun s8 h => ?_) h
  obtain rfl := Option.some.inj h
  exact e_vret C B (dk dX12_tellLots 35 rfl)
set_option maxRecDepth 20000 in
theorem l_X12_firstStreet_2 {X : FX} {g : WC} {Xo : Nat → va_E} {n : Nat} {kd : Nat → Nat} (C : Cx X g RX12 cX12_firstStreet 3) (K : KD n kd) {t : Nat} (ht : kd t = 13) {x1 : Int32} {M : Mem} (hR : x_R X = rm 1) {OK : Sum (Int32) (Int32) → Prop} (hB : ∀ v, OK (Sum.inl v) → Bx X g (some .int) 1 n (some (.int v)) (ent g Xo kd M)) (hx : ∀ s, OK (Sum.inr s) → EW X g (x_s X).heap.size n 3 (ent g Xo kd M) 0 0 21 [(0, .ref (g_N g + t)), (1, .int x1), (2, .int s)] []) : ∀ (N9 : Nat) (x2 : Int32) (q : Sum (Int32) (Int32)), L_X12_firstStreet_2 t x1 M N9 x2 = some q → OK q → EW X g (x_s X).heap.size n 3 (ent g Xo kd M) 0 0 2 [(0, .ref (g_N g + t)), (1, .int x1), (2, .int x2)] [] := by
  intro N9
  induction N9 with
  | zero =>
    intro x2 q h
    rw [L_X12_firstStreet_2.eq_1] at h
    cases h
  | succ m9 ih =>
    intro x2 q h hOK
    rw [L_X12_firstStreet_2.eq_2] at h
    refine e_iload_n C 2 (dk dX12_firstStreet 2 rfl) rfl rfl ?_
    refine e_bipush C 6 (dk dX12_firstStreet 3 rfl) (by decide) ?_
    refine e_icmp_ge C 34 (dk dX12_firstStreet 4 rfl) (by decide) (fun c1 => ?_) (fun c1 => ?_)
    · rw [if_pos c1] at h
      refine e_iconst C 0 (dk dX12_firstStreet 19 rfl) (by decide) ?_
      obtain rfl := Option.some.inj h
      exact e_iret C (hB _ hOK) (nar1 _) (dk dX12_firstStreet 20 rfl)
    · rw [if_neg c1] at h
      refine e_aload_n C 0 (dk dX12_firstStreet 5 rfl) rfl rfl ?_
      refine gf_X12_hoursOf C K ht fl_X12_95 (dk dX12_firstStreet 6 rfl) ?_
      refine e_iload_n C 1 (dk dX12_firstStreet 7 rfl) rfl rfl ?_
      obtain ⟨v2, hv2, h⟩ := ob h
      refine m_ald C K (kd_X12_hoursOf K ht) (dk dX12_firstStreet 8 rfl) hv2 ?_
      refine e_iload_n C 2 (dk dX12_firstStreet 9 rfl) rfl rfl ?_
      refine e_callS C cal_X12_isOf sm_X12_isOf ml_X12_287 hR (by decide) (dk dX12_firstStreet 10 rfl) (c_X12_isOf K (rfl : F_X12_isOf v2 x2 = _)) ⟨Nat.zero_le _, Nat.zero_le _⟩ (Nat.le_of_ble_eq_true rfl) rfl ?_
      refine e_if_eq C 28 (dk dX12_firstStreet 11 rfl) (by decide) (fun c3 => ?_) (fun c3 => ?_)
      · rw [if_pos c3] at h
        refine e_iinc C [(2, .int (x2 + 1)), (0, .ref (g_N g + t)), (1, .int x1)] 2 1 (dk dX12_firstStreet 17 rfl) rfl (by decide) (by decide) rfl ?_
        refine e_goto C 2 (dk dX12_firstStreet 18 rfl) (by decide) ?_
        refine e_lv [1, 2, 0] rfl ?_
        exact ih _ _ h hOK
      · rw [if_neg c3] at h
        obtain rfl := Option.some.inj h
        exact hx _ hOK
set_option maxRecDepth 20000 in
theorem lb_X12_firstStreet_2 {X : FX} {g : WC} {Xo : Nat → va_E} {n : Nat} {kd : Nat → Nat} (C : Cx X g RX12 cX12_firstStreet 3) (K : KD n kd) {t : Nat} (ht : kd t = 13) {x1 : Int32} {M : Mem} (hR : x_R X = rm 1) {T9 : Type} {f9 : Sum (Int32) (Int32) → Option T9} {b9 : T9} (hB : ∀ v, f9 (Sum.inl v) = some b9 → Bx X g (some .int) 1 n (some (.int v)) (ent g Xo kd M)) (hx : ∀ s, f9 (Sum.inr s) = some b9 → EW X g (x_s X).heap.size n 3 (ent g Xo kd M) 0 0 21 [(0, .ref (g_N g + t)), (1, .int x1), (2, .int s)] []) {x2 : Int32} (h : (L_X12_firstStreet_2 t x1 M FU x2).bind f9 = some b9) : EW X g (x_s X).heap.size n 3 (ent g Xo kd M) 0 0 2 [(0, .ref (g_N g + t)), (1, .int x1), (2, .int x2)] [] := by
  obtain ⟨q, hq, h⟩ := ob h
  exact l_X12_firstStreet_2 C K ht hR (OK := fun q => f9 q = some b9) hB hx FU x2 q hq h
set_option maxRecDepth 20000 in
theorem c_X12_firstStreet {g : WC} {Xo : Nat → va_E} {n : Nat} {kd : Nat → Nat} (K : KD n kd) {t : Nat} {p0 : Int32} (ht : kd t = 13) {M : Mem} {res : Int32} (h : F_X12_firstStreet t p0 M = some res) : MC g yX12_firstStreet cX12_firstStreet 3 (some .int) 1 n [.ref (g_N g + t), .int p0] (ent g Xo kd M) (some (.int res)) (ent g Xo kd M) := by
  refine MC_of pn_X12 (Nat.le_of_ble_eq_true rfl) (fun X C B => ?_)
  have hR := B.1
  rw [F_X12_firstStreet] at h
  refine e_iconst C 0 (dk dX12_firstStreet 0 rfl) (by decide) ?_
  refine e_istore_n C [(2, .int 0), (0, .ref (g_N g + t)), (1, .int p0)] (dk dX12_firstStreet 1 rfl) rfl (by decide) rfl ?_
  refine e_lv [1, 2, 0] rfl ?_
  refine lb_X12_firstStreet_2 C K ht hR (fun v h => ?_) (fun s5 h => ?_) h
  · obtain rfl := Option.some.inj (show some v = some _ from h)
    exact B
  dsimp only [Sum.elim_inr] at h
  refine e_aload_n C 0 (dk dX12_firstStreet 12 rfl) rfl rfl ?_
  refine e_iload_n C 1 (dk dX12_firstStreet 13 rfl) rfl rfl ?_
  refine e_iload_n C 2 (dk dX12_firstStreet 14 rfl) rfl rfl ?_
  obtain ⟨q6, hq6, h⟩ := ob h
  refine e_callV (ci := 12) C cal_X12_streetOf im_X12_streetOf se_X12_streetOf ml_X12_354 rfl hR (by decide) (dk dX12_firstStreet 15 rfl) (K.1 _ (by rw [ht]; decide)) (ent_o12 ht) (c_X12_streetOf K ht hq6) ⟨Nat.zero_le _, Nat.zero_le _⟩ (Nat.le_of_ble_eq_true rfl) rfl ?_
  obtain rfl := Option.some.inj h
  exact e_iret C B (nar1 _) (dk dX12_firstStreet 16 rfl)
set_option maxRecDepth 20000 in
theorem j_X12_bidOf_j177 {X : FX} {g : WC} {Xo : Nat → va_E} {n : Nat} {kd : Nat → Nat} (C : Cx X g RX12 cX12_bidOf 5) (K : KD n kd) {t : Nat} (ht : kd t = 13) (hR : x_R X = rm 2) {x1 : Int32} {x4 : Int32} {M : Mem} {res : Int32 × Mem} (h : J_X12_bidOf_j177 t x1 x4 M = some res) (B : Bx X g (some .int) 2 n (some (.int res.1)) (ent g Xo kd res.2)) : EW X g (x_s X).heap.size n 5 (ent g Xo kd M) 0 0 177 [(0, .ref (g_N g + t)), (1, .int x1), (4, .int x4)] [] := by
  rw [J_X12_bidOf_j177] at h
  refine e_iconst C 0 (dk dX12_bidOf_1 50 rfl) (by decide) ?_
  refine e_aload_n C 0 (dk dX12_bidOf_1 51 rfl) rfl rfl ?_
  refine gf_X12_purse C K ht fl_X12_75 (dk dX12_bidOf_1 52 rfl) ?_
  refine e_iload_n C 1 (dk dX12_bidOf_1 53 rfl) rfl rfl ?_
  obtain ⟨v8, hv8, h⟩ := ob h
  refine m_ald C K (kd_X12_purse K ht) (dk dX12_bidOf_1 54 rfl) hv8 ?_
  refine e_iload C 2 (dk dX12_bidOf_1 55 rfl) rfl ?_
  refine e_mmin C hR ml_X12_193 (dk dX12_bidOf_1 56 rfl) (Nat.le_of_ble_eq_true rfl) ?_
  refine e_mmax C hR ml_X12_375 (dk dX12_bidOf_1 57 rfl) (Nat.le_of_ble_eq_true rfl) ?_
  obtain rfl := Option.some.inj h
  exact e_iret C B (nar1 _) (dk dX12_bidOf_1 58 rfl)
set_option maxRecDepth 20000 in
theorem j_X12_bidOf_j22 {X : FX} {g : WC} {Xo : Nat → va_E} {n : Nat} {kd : Nat → Nat} (C : Cx X g RX12 cX12_bidOf 5) (K : KD n kd) {t : Nat} (ht : kd t = 13) (hR : x_R X = rm 2) {x1 : Int32} {x2 : Int32} {M : Mem} {res : Int32 × Mem} (h : J_X12_bidOf_j22 t x1 x2 M = some res) (B : Bx X g (some .int) 2 n (some (.int res.1)) (ent g Xo kd res.2)) : EW X g (x_s X).heap.size n 5 (ent g Xo kd M) 0 0 22 [(0, .ref (g_N g + t)), (1, .int x1), (2, .int x2)] [] := by
  rw [J_X12_bidOf_j22] at h
  refine e_aload_n C 0 (dk dX12_bidOf_0 14 rfl) rfl rfl ?_
  refine gf_X12_knows C K ht fl_X12_78 (dk dX12_bidOf_0 15 rfl) ?_
  refine e_iload_n C 1 (dk dX12_bidOf_0 16 rfl) rfl rfl ?_
  obtain ⟨v2, hv2, h⟩ := ob h
  refine m_ald C K (kd_X12_knows K ht) (dk dX12_bidOf_0 17 rfl) hv2 ?_
  refine e_iload_n C 2 (dk dX12_bidOf_0 18 rfl) rfl rfl ?_
  refine e_ishr C (dk dX12_bidOf_0 19 rfl) ?_
  refine e_iconst C 1 (dk dX12_bidOf_0 20 rfl) (by decide) ?_
  refine e_iand C (dk dX12_bidOf_0 21 rfl) ?_
  refine e_istore_n C [(3, .int ((v2 >>> (x2 &&& 31)) &&& 1)), (0, .ref (g_N g + t)), (1, .int x1), (2, .int x2)] (dk dX12_bidOf_0 22 rfl) rfl (by decide) rfl ?_
  refine e_iload_n C 2 (dk dX12_bidOf_0 23 rfl) rfl rfl ?_
  refine e_iload_n C 3 (dk dX12_bidOf_0 24 rfl) rfl rfl ?_
  suffices hm4 : EW X g (x_s X).heap.size n 5 (ent g Xo kd M) 0 0 44 [(3, .int ((v2 >>> (x2 &&& 31)) &&& 1)), (0, .ref (g_N g + t)), (1, .int x1), (2, .int x2)] [.int (if x1 = x2 then (20 : Int32) else (3 : Int32))] from (by
    refine e_icmp_ne C 43 (dk dX12_bidOf_0 25 rfl) (by decide) (fun c3 => ?_) (fun c3 => ?_)
    · rw [show (if x1 = x2 then (20 : Int32) else (3 : Int32)) = (3 : Int32) from if_neg c3] at hm4
      refine e_iconst C 3 (dk dX12_bidOf_0 28 rfl) (by decide) ?_
      exact hm4
    · rw [show (if x1 = x2 then (20 : Int32) else (3 : Int32)) = (20 : Int32) from if_pos c3] at hm4
      refine e_bipush C 20 (dk dX12_bidOf_0 26 rfl) (by decide) ?_
      refine e_goto C 44 (dk dX12_bidOf_0 27 rfl) (by decide) ?_
      exact hm4)
  refine e_iconst C 5 (dk dX12_bidOf_0 29 rfl) (by decide) ?_
  refine e_aload_n C 1 (dk dX12_bidOf_0 30 rfl) rfl rfl ?_
  refine gf_X12_hoursOf C K ht fl_X12_95 (dk dX12_bidOf_0 31 rfl) ?_
  refine e_iload_n C 3 (dk dX12_bidOf_0 32 rfl) rfl rfl ?_
  obtain ⟨v5, hv5, h⟩ := ob h
  refine m_ald C K (kd_X12_hoursOf K ht) (dk dX12_bidOf_0 33 rfl) hv5 ?_
  obtain ⟨q6, hq6, h⟩ := ob h
  refine e_callS C cal_X12_bitsOf sm_X12_bitsOf ml_X12_366 hR (by decide) (dk dX12_bidOf_0 34 rfl) (c_X12_bitsOf K hq6) ⟨Nat.zero_le _, Nat.zero_le _⟩ (Nat.le_of_ble_eq_true rfl) rfl ?_
  refine e_imul C (dk dX12_bidOf_0 35 rfl) ?_
  refine e_iadd C (dk dX12_bidOf_0 36 rfl) ?_
  refine e_bipush C 9 (dk dX12_bidOf_0 37 rfl) (by decide) ?_
  refine e_iload_n C 0 (dk dX12_bidOf_0 38 rfl) rfl rfl ?_
  refine e_imul C (dk dX12_bidOf_0 39 rfl) ?_
  refine e_isub C (dk dX12_bidOf_0 40 rfl) ?_
  refine e_istore C [(4, .int (((if x1 = x2 then (20 : Int32) else (3 : Int32)) + (5 * q6)) - (9 * ((v2 >>> (x2 &&& 31)) &&& 1)))), (3, .int ((v2 >>> (x2 &&& 31)) &&& 1)), (0, .ref (g_N g + t)), (1, .int x1), (2, .int x2)] (dk dX12_bidOf_0 41 rfl) (by decide) rfl ?_
  refine e_aload_n C 2 (dk dX12_bidOf_0 42 rfl) rfl rfl ?_
  refine gf_X12_told C K ht fl_X12_38 (dk dX12_bidOf_0 43 rfl) ?_
  refine e_bipush C 6 (dk dX12_bidOf_0 44 rfl) (by decide) ?_
  refine m_aldc C K (kd_X12_told K ht) 6 (dk dX12_bidOf_0 45 rfl) (by decide) (by decide) ?_
  refine e_if_le C 177 (dk dX12_bidOf_0 46 rfl) (by decide) (fun c7 => ?_) (fun c7 => ?_)
  · rw [if_pos c7] at h
    refine e_lv [2, 3, 0] rfl ?_
    exact j_X12_bidOf_j177 C K ht hR h B
  · rw [if_neg c7] at h
    refine e_aload_n C 2 (dk dX12_bidOf_0 47 rfl) rfl rfl ?_
    refine gf_X12_asked C K ht fl_X12_89 (dk dX12_bidOf_0 48 rfl) ?_
    refine e_iconst C 0 (dk dX12_bidOf_0 49 rfl) (by decide) ?_
    refine e_iload_n C 3 (dk dX12_bidOf_0 50 rfl) rfl rfl ?_
    refine e_iload_n C 4 (dk dX12_bidOf_0 51 rfl) rfl rfl ?_
    suffices hm10 : EW X g (x_s X).heap.size n 5 (ent g Xo kd M) 0 0 88 [(4, .int (((if x1 = x2 then (20 : Int32) else (3 : Int32)) + (5 * q6)) - (9 * ((v2 >>> (x2 &&& 31)) &&& 1)))), (3, .int ((v2 >>> (x2 &&& 31)) &&& 1)), (0, .ref (g_N g + t)), (1, .int x1), (2, .int x2)] [.int (if x1 = x2 then (1 : Int32) else (0 : Int32)), .int 0, .ref (g_N g + (t + 18))] from (by
      refine e_icmp_ne C 87 (dk dX12_bidOf_0 52 rfl) (by decide) (fun c9 => ?_) (fun c9 => ?_)
      · rw [show (if x1 = x2 then (1 : Int32) else (0 : Int32)) = (0 : Int32) from if_neg c9] at hm10
        refine e_iconst C 0 (dk dX12_bidOf_0 55 rfl) (by decide) ?_
        exact hm10
      · rw [show (if x1 = x2 then (1 : Int32) else (0 : Int32)) = (1 : Int32) from if_pos c9] at hm10
        refine e_iconst C 1 (dk dX12_bidOf_0 53 rfl) (by decide) ?_
        refine e_goto C 88 (dk dX12_bidOf_0 54 rfl) (by decide) ?_
        exact hm10)
    obtain ⟨M11, hM11, h⟩ := ob h
    refine m_ast C K (kd_X12_asked K ht) (dk dX12_bidOf_0 56 rfl) hM11 ?_
    refine e_aload_n C 2 (dk dX12_bidOf_0 57 rfl) rfl rfl ?_
    refine gf_X12_asked C K ht fl_X12_89 (dk dX12_bidOf_0 58 rfl) ?_
    refine e_iconst C 1 (dk dX12_bidOf_0 59 rfl) (by decide) ?_
    refine e_aload_n C 2 (dk dX12_bidOf_1 0 rfl) rfl rfl ?_
    refine gf_X12_purse C K ht fl_X12_75 (dk dX12_bidOf_1 1 rfl) ?_
    refine e_iload_n C 3 (dk dX12_bidOf_1 2 rfl) rfl rfl ?_
    obtain ⟨v12, hv12, h⟩ := ob h
    refine m_ald C K (kd_X12_purse K ht) (dk dX12_bidOf_1 3 rfl) hv12 ?_
    obtain ⟨M13, hM13, h⟩ := ob h
    refine m_ast C K (kd_X12_asked K ht) (dk dX12_bidOf_1 4 rfl) hM13 ?_
    refine e_aload_n C 2 (dk dX12_bidOf_1 5 rfl) rfl rfl ?_
    refine gf_X12_asked C K ht fl_X12_89 (dk dX12_bidOf_1 6 rfl) ?_
    refine e_iconst C 2 (dk dX12_bidOf_1 7 rfl) (by decide) ?_
    refine e_aload_n C 2 (dk dX12_bidOf_1 8 rfl) rfl rfl ?_
    refine gf_X12_purse C K ht fl_X12_75 (dk dX12_bidOf_1 9 rfl) ?_
    refine e_iload_n C 4 (dk dX12_bidOf_1 10 rfl) rfl rfl ?_
    obtain ⟨v14, hv14, h⟩ := ob h
    refine m_ald C K (kd_X12_purse K ht) (dk dX12_bidOf_1 11 rfl) hv14 ?_
    obtain ⟨M15, hM15, h⟩ := ob h
    refine m_ast C K (kd_X12_asked K ht) (dk dX12_bidOf_1 12 rfl) hM15 ?_
    refine e_aload_n C 2 (dk dX12_bidOf_1 13 rfl) rfl rfl ?_
    refine gf_X12_asked C K ht fl_X12_89 (dk dX12_bidOf_1 14 rfl) ?_
    refine e_iconst C 3 (dk dX12_bidOf_1 15 rfl) (by decide) ?_
    refine e_iload_n C 1 (dk dX12_bidOf_1 16 rfl) rfl rfl ?_
    obtain ⟨M16, hM16, h⟩ := ob h
    refine m_ast C K (kd_X12_asked K ht) (dk dX12_bidOf_1 17 rfl) hM16 ?_
    refine e_aload_n C 2 (dk dX12_bidOf_1 18 rfl) rfl rfl ?_
    refine gf_X12_asked C K ht fl_X12_89 (dk dX12_bidOf_1 19 rfl) ?_
    refine e_iconst C 4 (dk dX12_bidOf_1 20 rfl) (by decide) ?_
    refine e_aload_n C 2 (dk dX12_bidOf_1 21 rfl) rfl rfl ?_
    refine gf_X12_hoursOf C K ht fl_X12_95 (dk dX12_bidOf_1 22 rfl) ?_
    refine e_iload_n C 4 (dk dX12_bidOf_1 23 rfl) rfl rfl ?_
    obtain ⟨v17, hv17, h⟩ := ob h
    refine m_ald C K (kd_X12_hoursOf K ht) (dk dX12_bidOf_1 24 rfl) hv17 ?_
    obtain ⟨q18, hq18, h⟩ := ob h
    refine e_callS C cal_X12_bitsOf sm_X12_bitsOf ml_X12_366 hR (by decide) (dk dX12_bidOf_1 25 rfl) (c_X12_bitsOf K hq18) ⟨Nat.zero_le _, Nat.zero_le _⟩ (Nat.le_of_ble_eq_true rfl) rfl ?_
    obtain ⟨M19, hM19, h⟩ := ob h
    refine m_ast C K (kd_X12_asked K ht) (dk dX12_bidOf_1 26 rfl) hM19 ?_
    refine e_aload_n C 2 (dk dX12_bidOf_1 27 rfl) rfl rfl ?_
    refine gf_X12_asked C K ht fl_X12_89 (dk dX12_bidOf_1 28 rfl) ?_
    refine e_iconst C 5 (dk dX12_bidOf_1 29 rfl) (by decide) ?_
    refine e_aload_n C 2 (dk dX12_bidOf_1 30 rfl) rfl rfl ?_
    refine e_iload_n C 4 (dk dX12_bidOf_1 31 rfl) rfl rfl ?_
    obtain ⟨q20, hq20, h⟩ := ob h
    refine e_callV (ci := 12) C cal_X12_firstStreet im_X12_firstStreet se_X12_firstStreet ml_X12_369 rfl hR (by decide) (dk dX12_bidOf_1 32 rfl) (K.1 _ (by rw [ht]; decide)) (ent_o12 ht) (c_X12_firstStreet K ht hq20) ⟨Nat.zero_le _, Nat.zero_le _⟩ (Nat.le_of_ble_eq_true rfl) rfl ?_
    obtain ⟨M21, hM21, h⟩ := ob h
    refine m_ast C K (kd_X12_asked K ht) (dk dX12_bidOf_1 33 rfl) hM21 ?_
    refine e_aload_n C 2 (dk dX12_bidOf_1 34 rfl) rfl rfl ?_
    refine gf_X12_asked C K ht fl_X12_89 (dk dX12_bidOf_1 35 rfl) ?_
    refine e_bipush C 6 (dk dX12_bidOf_1 36 rfl) (by decide) ?_
    refine e_aload_n C 2 (dk dX12_bidOf_1 37 rfl) rfl rfl ?_
    refine gf_X12_lots C K ht fl_X12_364 (dk dX12_bidOf_1 38 rfl) ?_
    obtain ⟨q22, hq22, h⟩ := ob h
    refine e_callS C cal_X12_bitsOf sm_X12_bitsOf ml_X12_366 hR (by decide) (dk dX12_bidOf_1 39 rfl) (c_X12_bitsOf K hq22) ⟨Nat.zero_le _, Nat.zero_le _⟩ (Nat.le_of_ble_eq_true rfl) rfl ?_
    obtain ⟨M23, hM23, h⟩ := ob h
    refine m_ast C K (kd_X12_asked K ht) (dk dX12_bidOf_1 40 rfl) hM23 ?_
    refine e_aload_n C 2 (dk dX12_bidOf_1 41 rfl) rfl rfl ?_
    refine gf_X12_asked C K ht fl_X12_89 (dk dX12_bidOf_1 42 rfl) ?_
    refine e_bipush C 7 (dk dX12_bidOf_1 43 rfl) (by decide) ?_
    refine e_aload_n C 2 (dk dX12_bidOf_1 44 rfl) rfl rfl ?_
    refine gf_X12_night C K ht fl_X12_331 (dk dX12_bidOf_1 45 rfl) ?_
    obtain ⟨M24, hM24, h⟩ := ob h
    refine m_ast C K (kd_X12_asked K ht) (dk dX12_bidOf_1 46 rfl) hM24 ?_
    refine e_aload_n C 2 (dk dX12_bidOf_1 47 rfl) rfl rfl ?_
    obtain ⟨q25, hq25, h⟩ := ob h
    refine e_callV (ci := 12) C cal_X12_valueNow im_X12_valueNow se_X12_valueNow ml_X12_372 rfl hR (by decide) (dk dX12_bidOf_1 48 rfl) (K.1 _ (by rw [ht]; decide)) (ent_o12 ht) (c_X12_valueNow K ht hq25) ⟨Nat.zero_le _, Nat.zero_le _⟩ (Nat.le_of_ble_eq_true rfl) rfl ?_
    refine e_istore C [(4, .int q25.1), (3, .int ((v2 >>> (x2 &&& 31)) &&& 1)), (0, .ref (g_N g + t)), (1, .int x1), (2, .int x2)] (dk dX12_bidOf_1 49 rfl) (by decide) rfl ?_
    refine e_lv [2, 3, 0] rfl ?_
    exact j_X12_bidOf_j177 C K ht hR h B
set_option maxRecDepth 20000 in
theorem c_X12_bidOf {g : WC} {Xo : Nat → va_E} {n : Nat} {kd : Nat → Nat} (K : KD n kd) {t : Nat} {p0 : Int32} {p1 : Int32} (ht : kd t = 13) {M : Mem} {res : Int32 × Mem} (h : F_X12_bidOf t p0 p1 M = some res) : MC g yX12_bidOf cX12_bidOf 5 (some .int) 2 n [.ref (g_N g + t), .int p0, .int p1] (ent g Xo kd M) (some (.int res.1)) (ent g Xo kd res.2) := by
  refine MC_of pn_X12 (Nat.le_of_ble_eq_true rfl) (fun X C B => ?_)
  have hR := B.1
  rw [F_X12_bidOf] at h
  refine e_iload_n C 1 (dk dX12_bidOf_0 0 rfl) rfl rfl ?_
  refine e_iload_n C 2 (dk dX12_bidOf_0 1 rfl) rfl rfl ?_
  refine e_icmp_ne C 22 (dk dX12_bidOf_0 2 rfl) (by decide) (fun c1 => ?_) (fun c1 => ?_)
  · rw [if_neg c1] at h
    exact j_X12_bidOf_j22 C K ht hR h B
  · rw [if_pos c1] at h
    refine e_aload_n C 0 (dk dX12_bidOf_0 3 rfl) rfl rfl ?_
    refine gf_X12_bishop C K ht fl_X12_48 (dk dX12_bidOf_0 4 rfl) ?_
    refine e_iload_n C 1 (dk dX12_bidOf_0 5 rfl) rfl rfl ?_
    obtain ⟨v26, hv26, h⟩ := ob h
    refine m_ald C K (kd_X12_bishop K ht) (dk dX12_bidOf_0 6 rfl) hv26 ?_
    refine e_iconst C 1 (dk dX12_bidOf_0 7 rfl) (by decide) ?_
    refine e_icmp_ne C 22 (dk dX12_bidOf_0 8 rfl) (by decide) (fun c27 => ?_) (fun c27 => ?_)
    · rw [if_neg c27] at h
      exact j_X12_bidOf_j22 C K ht hR h B
    · rw [if_pos c27] at h
      refine e_aload_n C 0 (dk dX12_bidOf_0 9 rfl) rfl rfl ?_
      refine gf_X12_purse C K ht fl_X12_75 (dk dX12_bidOf_0 10 rfl) ?_
      refine e_iload_n C 1 (dk dX12_bidOf_0 11 rfl) rfl rfl ?_
      obtain ⟨v28, hv28, h⟩ := ob h
      refine m_ald C K (kd_X12_purse K ht) (dk dX12_bidOf_0 12 rfl) hv28 ?_
      obtain rfl := Option.some.inj h
      exact e_iret C B (nar1 _) (dk dX12_bidOf_0 13 rfl)
set_option maxRecDepth 20000 in
theorem l_X12_sell_10 {X : FX} {g : WC} {Xo : Nat → va_E} {n : Nat} {kd : Nat → Nat} (C : Cx X g RX12 cX12_sell 7) (K : KD n kd) {t : Nat} (ht : kd t = 13) {x1 : Int32} (hR : x_R X = rm 3) {OK : Int32 × Int32 × Int32 × Mem → Prop} (hx : ∀ s, OK s → EW X g (x_s X).heap.size n 7 (ent g Xo kd s.2.2.2) 0 0 63 [(0, .ref (g_N g + t)), (1, .int x1), (2, .int s.1), (3, .int s.2.1), (4, .int s.2.2.1)] []) : ∀ (N9 : Nat) (x2 : Int32) (x3 : Int32) (x4 : Int32) (x5 : Int32) (M : Mem) (q : Int32 × Int32 × Int32 × Mem), L_X12_sell_10 t x1 N9 x2 x3 x4 x5 M = some q → OK q → EW X g (x_s X).heap.size n 7 (ent g Xo kd M) 0 0 10 [(0, .ref (g_N g + t)), (1, .int x1), (2, .int x2), (3, .int x3), (4, .int x4), (5, .int x5)] [] := by
  intro N9
  induction N9 with
  | zero =>
    intro x2 x3 x4 x5 M q h
    rw [L_X12_sell_10.eq_1] at h
    cases h
  | succ m9 ih =>
    intro x2 x3 x4 x5 M q h hOK
    rw [L_X12_sell_10.eq_2] at h
    refine e_iload C 5 (dk dX12_sell_0 8 rfl) rfl ?_
    refine e_aload_n C 0 (dk dX12_sell_0 9 rfl) rfl rfl ?_
    refine gf_X12_told C K ht fl_X12_38 (dk dX12_sell_0 10 rfl) ?_
    refine e_iconst C 3 (dk dX12_sell_0 11 rfl) (by decide) ?_
    refine m_aldc C K (kd_X12_told K ht) 3 (dk dX12_sell_0 12 rfl) (by decide) (by decide) ?_
    refine e_icmp_ge C 63 (dk dX12_sell_0 13 rfl) (by decide) (fun c1 => ?_) (fun c1 => ?_)
    · rw [if_pos c1] at h
      obtain rfl := Option.some.inj h
      refine e_lv [0, 1, 2, 3, 4] rfl ?_
      exact hx _ hOK
    · rw [if_neg c1] at h
      refine e_aload_n C 0 (dk dX12_sell_0 14 rfl) rfl rfl ?_
      refine e_iload C 5 (dk dX12_sell_0 15 rfl) rfl ?_
      refine e_iload_n C 1 (dk dX12_sell_0 16 rfl) rfl rfl ?_
      obtain ⟨q2, hq2, h⟩ := ob h
      refine e_callV (ci := 12) C cal_X12_bidOf im_X12_bidOf se_X12_bidOf ml_X12_378 rfl hR (by decide) (dk dX12_sell_0 17 rfl) (K.1 _ (by rw [ht]; decide)) (ent_o12 ht) (c_X12_bidOf K ht hq2) ⟨Nat.zero_le _, Nat.zero_le _⟩ (Nat.le_of_ble_eq_true rfl) rfl ?_
      refine e_istore C [(6, .int q2.1), (0, .ref (g_N g + t)), (1, .int x1), (2, .int x2), (3, .int x3), (4, .int x4), (5, .int x5)] (dk dX12_sell_0 18 rfl) (by decide) rfl ?_
      refine e_iload C 0 (dk dX12_sell_0 19 rfl) rfl ?_
      refine e_iload_n C 4 (dk dX12_sell_0 20 rfl) rfl rfl ?_
      refine e_icmp_le C 48 (dk dX12_sell_0 21 rfl) (by decide) (fun c3 => ?_) (fun c3 => ?_)
      · rw [if_pos c3] at h
        refine e_iload C 5 (dk dX12_sell_0 29 rfl) rfl ?_
        refine e_iload C 0 (dk dX12_sell_0 30 rfl) rfl ?_
        refine e_mmax C hR ml_X12_375 (dk dX12_sell_0 31 rfl) (Nat.le_of_ble_eq_true rfl) ?_
        refine e_istore C [(4, .int (imax x4 q2.1)), (6, .int q2.1), (0, .ref (g_N g + t)), (1, .int x1), (2, .int x2), (3, .int x3), (5, .int x5)] (dk dX12_sell_0 32 rfl) (by decide) rfl ?_
        refine e_iinc C [(5, .int (x5 + 1)), (4, .int (imax x4 q2.1)), (6, .int q2.1), (0, .ref (g_N g + t)), (1, .int x1), (2, .int x2), (3, .int x3)] 6 1 (dk dX12_sell_0 33 rfl) rfl (by decide) (by decide) rfl ?_
        refine e_goto C 10 (dk dX12_sell_0 34 rfl) (by decide) ?_
        refine e_lv [3, 4, 5, 6, 1, 0] rfl ?_
        exact ih _ _ _ _ _ _ h hOK
      · rw [if_neg c3] at h
        refine e_iload_n C 4 (dk dX12_sell_0 22 rfl) rfl rfl ?_
        refine e_istore C [(4, .int x3), (6, .int q2.1), (0, .ref (g_N g + t)), (1, .int x1), (2, .int x2), (3, .int x3), (5, .int x5)] (dk dX12_sell_0 23 rfl) (by decide) rfl ?_
        refine e_iload C 1 (dk dX12_sell_0 24 rfl) rfl ?_
        refine e_istore_n C [(3, .int q2.1), (4, .int x3), (6, .int q2.1), (0, .ref (g_N g + t)), (1, .int x1), (2, .int x2), (5, .int x5)] (dk dX12_sell_0 25 rfl) rfl (by decide) rfl ?_
        refine e_iload C 6 (dk dX12_sell_0 26 rfl) rfl ?_
        refine e_istore_n C [(2, .int x5), (3, .int q2.1), (4, .int x3), (6, .int q2.1), (0, .ref (g_N g + t)), (1, .int x1), (5, .int x5)] (dk dX12_sell_0 27 rfl) rfl (by decide) rfl ?_
        refine e_goto C 57 (dk dX12_sell_0 28 rfl) (by decide) ?_
        refine e_iinc C [(5, .int (x5 + 1)), (2, .int x5), (3, .int q2.1), (4, .int x3), (6, .int q2.1), (0, .ref (g_N g + t)), (1, .int x1)] 6 1 (dk dX12_sell_0 33 rfl) rfl (by decide) (by decide) rfl ?_
        refine e_goto C 10 (dk dX12_sell_0 34 rfl) (by decide) ?_
        refine e_lv [5, 6, 1, 2, 3, 0] rfl ?_
        exact ih _ _ _ _ _ _ h hOK
set_option maxRecDepth 20000 in
theorem lb_X12_sell_10 {X : FX} {g : WC} {Xo : Nat → va_E} {n : Nat} {kd : Nat → Nat} (C : Cx X g RX12 cX12_sell 7) (K : KD n kd) {t : Nat} (ht : kd t = 13) {x1 : Int32} (hR : x_R X = rm 3) {T9 : Type} {f9 : Int32 × Int32 × Int32 × Mem → Option T9} {b9 : T9} (hx : ∀ s, f9 s = some b9 → EW X g (x_s X).heap.size n 7 (ent g Xo kd s.2.2.2) 0 0 63 [(0, .ref (g_N g + t)), (1, .int x1), (2, .int s.1), (3, .int s.2.1), (4, .int s.2.2.1)] []) {x2 : Int32} {x3 : Int32} {x4 : Int32} {x5 : Int32} {M : Mem} (h : (L_X12_sell_10 t x1 FU x2 x3 x4 x5 M).bind f9 = some b9) : EW X g (x_s X).heap.size n 7 (ent g Xo kd M) 0 0 10 [(0, .ref (g_N g + t)), (1, .int x1), (2, .int x2), (3, .int x3), (4, .int x4), (5, .int x5)] [] := by
  obtain ⟨q, hq, h⟩ := ob h
  exact l_X12_sell_10 C K ht hR (OK := fun q => f9 q = some b9) hx FU x2 x3 x4 x5 M q hq h
set_option maxRecDepth 20000 in
theorem j_X12_sell_j76 {X : FX} {g : WC} {Xo : Nat → va_E} {n : Nat} {kd : Nat → Nat} (C : Cx X g RX12 cX12_sell 7) (K : KD n kd) {t : Nat} (ht : kd t = 13) (hR : x_R X = rm 3) {M : Mem} {res : Mem} (h : J_X12_sell_j76 t M = some res) (B : Bx X g none 3 n none (ent g Xo kd res)) : EW X g (x_s X).heap.size n 7 (ent g Xo kd M) 0 0 76 [(0, .ref (g_N g + t))] [] := by
  rw [J_X12_sell_j76] at h
  refine e_aload_n C 0 (dk dX12_sell_0 42 rfl) rfl rfl ?_
  refine e_dup C (dk dX12_sell_0 43 rfl) rfl ?_
  refine gf_X12_darkness C K ht fl_X12_333 (dk dX12_sell_0 44 rfl) ?_
  refine e_iconst C 1 (dk dX12_sell_0 45 rfl) (by decide) ?_
  refine e_iadd C (dk dX12_sell_0 46 rfl) ?_
  refine pf_X12_darkness C K ht fl_X12_333 (dk dX12_sell_0 47 rfl) ?_
  obtain rfl := Option.some.inj h
  exact e_vret C B (dk dX12_sell_0 48 rfl)
set_option maxRecDepth 20000 in
theorem c_X12_sell {g : WC} {Xo : Nat → va_E} {n : Nat} {kd : Nat → Nat} (K : KD n kd) {t : Nat} {p0 : Int32} (ht : kd t = 13) {M : Mem} {res : Mem} (h : F_X12_sell t p0 M = some res) : MC g yX12_sell cX12_sell 7 none 3 n [.ref (g_N g + t), .int p0] (ent g Xo kd M) none (ent g Xo kd res) := by
  refine MC_of pn_X12 (Nat.le_of_ble_eq_true rfl) (fun X C B => ?_)
  have hR := B.1
  rw [F_X12_sell] at h
  refine e_iconst C (-1) (dk dX12_sell_0 0 rfl) (by decide) ?_
  refine e_istore_n C [(2, .int (-1)), (0, .ref (g_N g + t)), (1, .int p0)] (dk dX12_sell_0 1 rfl) rfl (by decide) rfl ?_
  refine e_iconst C 0 (dk dX12_sell_0 2 rfl) (by decide) ?_
  refine e_istore_n C [(3, .int 0), (2, .int (-1)), (0, .ref (g_N g + t)), (1, .int p0)] (dk dX12_sell_0 3 rfl) rfl (by decide) rfl ?_
  refine e_iconst C 0 (dk dX12_sell_0 4 rfl) (by decide) ?_
  refine e_istore C [(4, .int 0), (3, .int 0), (2, .int (-1)), (0, .ref (g_N g + t)), (1, .int p0)] (dk dX12_sell_0 5 rfl) (by decide) rfl ?_
  refine e_iconst C 0 (dk dX12_sell_0 6 rfl) (by decide) ?_
  refine e_istore C [(5, .int 0), (4, .int 0), (3, .int 0), (2, .int (-1)), (0, .ref (g_N g + t)), (1, .int p0)] (dk dX12_sell_0 7 rfl) (by decide) rfl ?_
  refine e_lv [4, 5, 3, 2, 1, 0] rfl ?_
  refine lb_X12_sell_10 C K ht hR (fun s5 h => ?_) h
  refine e_iload_n C 2 (dk dX12_sell_0 35 rfl) rfl rfl ?_
  refine e_iconst C (-1) (dk dX12_sell_0 36 rfl) (by decide) ?_
  refine e_icmp_eq C 76 (dk dX12_sell_0 37 rfl) (by decide) (fun c6 => ?_) (fun c6 => ?_)
  · rw [if_pos c6] at h
    refine e_lv [0] rfl ?_
    exact j_X12_sell_j76 C K ht hR h B
  · rw [if_neg c6] at h
    refine e_iload_n C 3 (dk dX12_sell_0 38 rfl) rfl rfl ?_
    refine e_aload_n C 0 (dk dX12_sell_0 39 rfl) rfl rfl ?_
    refine gf_X12_held C K ht fl_X12_153 (dk dX12_sell_0 40 rfl) ?_
    refine e_icmp_ge C 87 (dk dX12_sell_0 41 rfl) (by decide) (fun c7 => ?_) (fun c7 => ?_)
    · rw [if_pos c7] at h
      refine e_aload_n C 0 (dk dX12_sell_0 49 rfl) rfl rfl ?_
      refine gf_X12_buyers C K ht fl_X12_98 (dk dX12_sell_0 50 rfl) ?_
      refine e_iload_n C 1 (dk dX12_sell_0 51 rfl) rfl rfl ?_
      refine e_iload_n C 2 (dk dX12_sell_0 52 rfl) rfl rfl ?_
      obtain ⟨M8, hM8, h⟩ := ob h
      refine m_ast C K (kd_X12_buyers K ht) (dk dX12_sell_0 53 rfl) hM8 ?_
      refine e_aload_n C 0 (dk dX12_sell_0 54 rfl) rfl rfl ?_
      refine gf_X12_prices C K ht fl_X12_101 (dk dX12_sell_0 55 rfl) ?_
      refine e_iload_n C 1 (dk dX12_sell_0 56 rfl) rfl rfl ?_
      refine e_iload C 4 (dk dX12_sell_0 57 rfl) rfl ?_
      refine e_aload_n C 0 (dk dX12_sell_0 58 rfl) rfl rfl ?_
      refine gf_X12_held C K ht fl_X12_153 (dk dX12_sell_0 59 rfl) ?_
      refine e_mmax C hR ml_X12_375 (dk dX12_sell_1 0 rfl) (Nat.le_of_ble_eq_true rfl) ?_
      obtain ⟨M9, hM9, h⟩ := ob h
      refine m_ast C K (kd_X12_prices K ht) (dk dX12_sell_1 1 rfl) hM9 ?_
      refine e_aload_n C 0 (dk dX12_sell_1 2 rfl) rfl rfl ?_
      refine gf_X12_purse C K ht fl_X12_75 (dk dX12_sell_1 3 rfl) ?_
      refine e_iload_n C 2 (dk dX12_sell_1 4 rfl) rfl rfl ?_
      refine e_dup2 C (dk dX12_sell_1 5 rfl) rfl rfl ?_
      obtain ⟨v10, hv10, h⟩ := ob h
      refine m_ald C K (kd_X12_purse K ht) (dk dX12_sell_1 6 rfl) hv10 ?_
      refine e_aload_n C 0 (dk dX12_sell_1 7 rfl) rfl rfl ?_
      refine gf_X12_prices C K ht fl_X12_101 (dk dX12_sell_1 8 rfl) ?_
      refine e_iload_n C 1 (dk dX12_sell_1 9 rfl) rfl rfl ?_
      obtain ⟨v11, hv11, h⟩ := ob h
      refine m_ald C K (kd_X12_prices K ht) (dk dX12_sell_1 10 rfl) hv11 ?_
      refine e_isub C (dk dX12_sell_1 11 rfl) ?_
      obtain ⟨M12, hM12, h⟩ := ob h
      refine m_ast C K (kd_X12_purse K ht) (dk dX12_sell_1 12 rfl) hM12 ?_
      refine e_aload_n C 0 (dk dX12_sell_1 13 rfl) rfl rfl ?_
      refine e_dup C (dk dX12_sell_1 14 rfl) rfl ?_
      refine gf_X12_soldMany C K ht fl_X12_381 (dk dX12_sell_1 15 rfl) ?_
      refine e_iconst C 1 (dk dX12_sell_1 16 rfl) (by decide) ?_
      refine e_iadd C (dk dX12_sell_1 17 rfl) ?_
      refine pf_X12_soldMany C K ht fl_X12_381 (dk dX12_sell_1 18 rfl) ?_
      refine e_iload_n C 2 (dk dX12_sell_1 19 rfl) rfl rfl ?_
      refine e_iload_n C 1 (dk dX12_sell_1 20 rfl) rfl rfl ?_
      refine e_icmp_eq C 151 (dk dX12_sell_1 21 rfl) (by decide) (fun c13 => ?_) (fun c13 => ?_)
      · rw [if_pos c13] at h
        obtain rfl := Option.some.inj h
        exact e_vret C B (dk dX12_sell_1 32 rfl)
      · rw [if_neg c13] at h
        refine e_aload_n C 0 (dk dX12_sell_1 22 rfl) rfl rfl ?_
        refine gf_X12_knows C K ht fl_X12_78 (dk dX12_sell_1 23 rfl) ?_
        refine e_iload_n C 2 (dk dX12_sell_1 24 rfl) rfl rfl ?_
        refine e_dup2 C (dk dX12_sell_1 25 rfl) rfl rfl ?_
        obtain ⟨v14, hv14, h⟩ := ob h
        refine m_ald C K (kd_X12_knows K ht) (dk dX12_sell_1 26 rfl) hv14 ?_
        refine e_iconst C 1 (dk dX12_sell_1 27 rfl) (by decide) ?_
        refine e_iload_n C 1 (dk dX12_sell_1 28 rfl) rfl rfl ?_
        refine e_ishl C (dk dX12_sell_1 29 rfl) ?_
        refine e_ior C (dk dX12_sell_1 30 rfl) ?_
        obtain ⟨M15, hM15, h⟩ := ob h
        refine m_ast C K (kd_X12_knows K ht) (dk dX12_sell_1 31 rfl) hM15 ?_
        obtain rfl := Option.some.inj h
        exact e_vret C B (dk dX12_sell_1 32 rfl)
    · rw [if_neg c7] at h
      refine e_lv [0] rfl ?_
      exact j_X12_sell_j76 C K ht hR h B
set_option maxRecDepth 20000 in
theorem l_X12_aNight_11 {X : FX} {g : WC} {Xo : Nat → va_E} {n : Nat} {kd : Nat → Nat} (C : Cx X g RX12 cX12_aNight 2) (K : KD n kd) {t : Nat} (ht : kd t = 13) (hR : x_R X = rm 4) {OK : Mem → Prop} (hx : ∀ s, OK s → EW X g (x_s X).heap.size n 2 (ent g Xo kd s) 0 0 37 [(0, .ref (g_N g + t))] []) : ∀ (N9 : Nat) (x1 : Int32) (M : Mem) (q : Mem), L_X12_aNight_11 t N9 x1 M = some q → OK q → EW X g (x_s X).heap.size n 2 (ent g Xo kd M) 0 0 11 [(0, .ref (g_N g + t)), (1, .int x1)] [] := by
  intro N9
  induction N9 with
  | zero =>
    intro x1 M q h
    rw [L_X12_aNight_11.eq_1] at h
    cases h
  | succ m9 ih =>
    intro x1 M q h hOK
    rw [L_X12_aNight_11.eq_2] at h
    refine e_iload_n C 1 (dk dX12_aNight 7 rfl) rfl rfl ?_
    refine e_bipush C 7 (dk dX12_aNight 8 rfl) (by decide) ?_
    refine e_icmp_ge C 37 (dk dX12_aNight 9 rfl) (by decide) (fun c2 => ?_) (fun c2 => ?_)
    · rw [if_pos c2] at h
      obtain rfl := Option.some.inj h
      refine e_lv [0] rfl ?_
      exact hx _ hOK
    · rw [if_neg c2] at h
      refine e_aload_n C 0 (dk dX12_aNight 10 rfl) rfl rfl ?_
      refine gf_X12_buyers C K ht fl_X12_98 (dk dX12_aNight 11 rfl) ?_
      refine e_iload_n C 1 (dk dX12_aNight 12 rfl) rfl rfl ?_
      refine e_iconst C (-1) (dk dX12_aNight 13 rfl) (by decide) ?_
      obtain ⟨M3, hM3, h⟩ := ob h
      refine m_ast C K (kd_X12_buyers K ht) (dk dX12_aNight 14 rfl) hM3 ?_
      refine e_aload_n C 0 (dk dX12_aNight 15 rfl) rfl rfl ?_
      refine gf_X12_prices C K ht fl_X12_101 (dk dX12_aNight 16 rfl) ?_
      refine e_iload_n C 1 (dk dX12_aNight 17 rfl) rfl rfl ?_
      refine e_iconst C (-1) (dk dX12_aNight 18 rfl) (by decide) ?_
      obtain ⟨M4, hM4, h⟩ := ob h
      refine m_ast C K (kd_X12_prices K ht) (dk dX12_aNight 19 rfl) hM4 ?_
      refine e_iinc C [(1, .int (x1 + 1)), (0, .ref (g_N g + t))] 1 1 (dk dX12_aNight 20 rfl) rfl (by decide) (by decide) rfl ?_
      refine e_goto C 11 (dk dX12_aNight 21 rfl) (by decide) ?_
      refine e_lv [1, 0] rfl ?_
      exact ih _ _ _ h hOK
set_option maxRecDepth 20000 in
theorem lb_X12_aNight_11 {X : FX} {g : WC} {Xo : Nat → va_E} {n : Nat} {kd : Nat → Nat} (C : Cx X g RX12 cX12_aNight 2) (K : KD n kd) {t : Nat} (ht : kd t = 13) (hR : x_R X = rm 4) {T9 : Type} {f9 : Mem → Option T9} {b9 : T9} (hx : ∀ s, f9 s = some b9 → EW X g (x_s X).heap.size n 2 (ent g Xo kd s) 0 0 37 [(0, .ref (g_N g + t))] []) {x1 : Int32} {M : Mem} (h : (L_X12_aNight_11 t FU x1 M).bind f9 = some b9) : EW X g (x_s X).heap.size n 2 (ent g Xo kd M) 0 0 11 [(0, .ref (g_N g + t)), (1, .int x1)] [] := by
  obtain ⟨q, hq, h⟩ := ob h
  exact l_X12_aNight_11 C K ht hR (OK := fun q => f9 q = some b9) hx FU x1 M q hq h
set_option maxRecDepth 20000 in
theorem l_X12_aNight_39 {X : FX} {g : WC} {Xo : Nat → va_E} {n : Nat} {kd : Nat → Nat} (C : Cx X g RX12 cX12_aNight 2) (K : KD n kd) {t : Nat} (ht : kd t = 13) (hR : x_R X = rm 4) {OK : Mem → Prop} (hx : ∀ s, OK s → EW X g (x_s X).heap.size n 2 (ent g Xo kd s) 0 0 71 [(0, .ref (g_N g + t))] []) : ∀ (N9 : Nat) (x1 : Int32) (M : Mem) (q : Mem), L_X12_aNight_39 t N9 x1 M = some q → OK q → EW X g (x_s X).heap.size n 2 (ent g Xo kd M) 0 0 39 [(0, .ref (g_N g + t)), (1, .int x1)] [] := by
  intro N9
  induction N9 with
  | zero =>
    intro x1 M q h
    rw [L_X12_aNight_39.eq_1] at h
    cases h
  | succ m9 ih =>
    intro x1 M q h hOK
    rw [L_X12_aNight_39.eq_2] at h
    refine e_iload_n C 1 (dk dX12_aNight 24 rfl) rfl rfl ?_
    refine e_aload_n C 0 (dk dX12_aNight 25 rfl) rfl rfl ?_
    refine gf_X12_told C K ht fl_X12_38 (dk dX12_aNight 26 rfl) ?_
    refine e_iconst C 3 (dk dX12_aNight 27 rfl) (by decide) ?_
    refine m_aldc C K (kd_X12_told K ht) 3 (dk dX12_aNight 28 rfl) (by decide) (by decide) ?_
    refine e_icmp_ge C 71 (dk dX12_aNight 29 rfl) (by decide) (fun c7 => ?_) (fun c7 => ?_)
    · rw [if_pos c7] at h
      obtain rfl := Option.some.inj h
      refine e_lv [0] rfl ?_
      exact hx _ hOK
    · rw [if_neg c7] at h
      refine e_aload_n C 0 (dk dX12_aNight 30 rfl) rfl rfl ?_
      refine gf_X12_lots C K ht fl_X12_364 (dk dX12_aNight 31 rfl) ?_
      refine e_iload_n C 1 (dk dX12_aNight 32 rfl) rfl rfl ?_
      refine e_callS C cal_X12_isOf sm_X12_isOf ml_X12_287 hR (by decide) (dk dX12_aNight 33 rfl) (c_X12_isOf K (rfl : F_X12_isOf (M t 39) x1 = _)) ⟨Nat.zero_le _, Nat.zero_le _⟩ (Nat.le_of_ble_eq_true rfl) rfl ?_
      refine e_if_eq C 65 (dk dX12_aNight 34 rfl) (by decide) (fun c8 => ?_) (fun c8 => ?_)
      · rw [if_pos c8] at h
        refine e_iinc C [(1, .int (x1 + 1)), (0, .ref (g_N g + t))] 1 1 (dk dX12_aNight 38 rfl) rfl (by decide) (by decide) rfl ?_
        refine e_goto C 39 (dk dX12_aNight 39 rfl) (by decide) ?_
        refine e_lv [1, 0] rfl ?_
        exact ih _ _ _ h hOK
      · rw [if_neg c8] at h
        refine e_aload_n C 0 (dk dX12_aNight 35 rfl) rfl rfl ?_
        refine e_iload_n C 1 (dk dX12_aNight 36 rfl) rfl rfl ?_
        obtain ⟨q9, hq9, h⟩ := ob h
        refine e_callV (ci := 12) C cal_X12_sell im_X12_sell se_X12_sell ml_X12_387 rfl hR (by decide) (dk dX12_aNight 37 rfl) (K.1 _ (by rw [ht]; decide)) (ent_o12 ht) (c_X12_sell K ht hq9) ⟨Nat.zero_le _, Nat.zero_le _⟩ (Nat.le_of_ble_eq_true rfl) rfl ?_
        refine e_iinc C [(1, .int (x1 + 1)), (0, .ref (g_N g + t))] 1 1 (dk dX12_aNight 38 rfl) rfl (by decide) (by decide) rfl ?_
        refine e_goto C 39 (dk dX12_aNight 39 rfl) (by decide) ?_
        refine e_lv [1, 0] rfl ?_
        exact ih _ _ _ h hOK
set_option maxRecDepth 20000 in
theorem lb_X12_aNight_39 {X : FX} {g : WC} {Xo : Nat → va_E} {n : Nat} {kd : Nat → Nat} (C : Cx X g RX12 cX12_aNight 2) (K : KD n kd) {t : Nat} (ht : kd t = 13) (hR : x_R X = rm 4) {T9 : Type} {f9 : Mem → Option T9} {b9 : T9} (hx : ∀ s, f9 s = some b9 → EW X g (x_s X).heap.size n 2 (ent g Xo kd s) 0 0 71 [(0, .ref (g_N g + t))] []) {x1 : Int32} {M : Mem} (h : (L_X12_aNight_39 t FU x1 M).bind f9 = some b9) : EW X g (x_s X).heap.size n 2 (ent g Xo kd M) 0 0 39 [(0, .ref (g_N g + t)), (1, .int x1)] [] := by
  obtain ⟨q, hq, h⟩ := ob h
  exact l_X12_aNight_39 C K ht hR (OK := fun q => f9 q = some b9) hx FU x1 M q hq h
set_option maxRecDepth 20000 in
theorem c_X12_aNight {g : WC} {Xo : Nat → va_E} {n : Nat} {kd : Nat → Nat} (K : KD n kd) {t : Nat} (ht : kd t = 13) {M : Mem} {res : Mem} (h : F_X12_aNight t M = some res) : MC g yX12_aNight cX12_aNight 2 none 4 n [.ref (g_N g + t)] (ent g Xo kd M) none (ent g Xo kd res) := by
  refine MC_of pn_X12 (Nat.le_of_ble_eq_true rfl) (fun X C B => ?_)
  have hR := B.1
  rw [F_X12_aNight] at h
  refine e_aload_n C 0 (dk dX12_aNight 0 rfl) rfl rfl ?_
  obtain ⟨q1, hq1, h⟩ := ob h
  refine e_callV (ci := 12) C cal_X12_tellLots im_X12_tellLots se_X12_tellLots ml_X12_384 rfl hR (by decide) (dk dX12_aNight 1 rfl) (K.1 _ (by rw [ht]; decide)) (ent_o12 ht) (c_X12_tellLots K ht hq1) ⟨Nat.zero_le _, Nat.zero_le _⟩ (Nat.le_of_ble_eq_true rfl) rfl ?_
  refine e_aload_n C 0 (dk dX12_aNight 2 rfl) rfl rfl ?_
  refine e_iconst C 0 (dk dX12_aNight 3 rfl) (by decide) ?_
  refine pf_X12_soldMany C K ht fl_X12_381 (dk dX12_aNight 4 rfl) ?_
  refine e_iconst C 0 (dk dX12_aNight 5 rfl) (by decide) ?_
  refine e_istore_n C [(1, .int 0), (0, .ref (g_N g + t))] (dk dX12_aNight 6 rfl) rfl (by decide) rfl ?_
  refine e_lv [1, 0] rfl ?_
  refine lb_X12_aNight_11 C K ht hR (fun s6 h => ?_) h
  refine e_iconst C 0 (dk dX12_aNight 22 rfl) (by decide) ?_
  refine e_istore_n C [(1, .int 0), (0, .ref (g_N g + t))] (dk dX12_aNight 23 rfl) rfl (by decide) rfl ?_
  refine e_lv [1, 0] rfl ?_
  refine lb_X12_aNight_39 C K ht hR (fun s11 h => ?_) h
  refine e_aload_n C 0 (dk dX12_aNight 40 rfl) rfl rfl ?_
  refine e_iconst C 0 (dk dX12_aNight 41 rfl) (by decide) ?_
  refine pf_X12_bribing C K ht fl_X12_336 (dk dX12_aNight 42 rfl) ?_
  refine e_aload_n C 0 (dk dX12_aNight 43 rfl) rfl rfl ?_
  refine e_dup C (dk dX12_aNight 44 rfl) rfl ?_
  refine gf_X12_night C K ht fl_X12_331 (dk dX12_aNight 45 rfl) ?_
  refine e_iconst C 1 (dk dX12_aNight 46 rfl) (by decide) ?_
  refine e_iadd C (dk dX12_aNight 47 rfl) ?_
  refine pf_X12_night C K ht fl_X12_331 (dk dX12_aNight 48 rfl) ?_
  obtain rfl := Option.some.inj h
  exact e_vret C B (dk dX12_aNight 49 rfl)
set_option maxRecDepth 20000 in
theorem l_X12_goOn_2 {X : FX} {g : WC} {Xo : Nat → va_E} {n : Nat} {kd : Nat → Nat} (C : Cx X g RX12 cX12_goOn 3) (K : KD n kd) {t : Nat} (ht : kd t = 13) {x1 : Int32} (hR : x_R X = rm 5) {OK : Mem → Prop} (hx : ∀ s, OK s → EW X g (x_s X).heap.size n 3 (ent g Xo kd s) 0 0 17 [] []) : ∀ (N9 : Nat) (x2 : Int32) (M : Mem) (q : Mem), L_X12_goOn_2 t x1 N9 x2 M = some q → OK q → EW X g (x_s X).heap.size n 3 (ent g Xo kd M) 0 0 2 [(0, .ref (g_N g + t)), (1, .int x1), (2, .int x2)] [] := by
  intro N9
  induction N9 with
  | zero =>
    intro x2 M q h
    rw [L_X12_goOn_2.eq_1] at h
    cases h
  | succ m9 ih =>
    intro x2 M q h hOK
    rw [L_X12_goOn_2.eq_2] at h
    refine e_iload_n C 2 (dk dX12_goOn 2 rfl) rfl rfl ?_
    refine e_iload_n C 1 (dk dX12_goOn 3 rfl) rfl rfl ?_
    refine e_icmp_ge C 17 (dk dX12_goOn 4 rfl) (by decide) (fun c1 => ?_) (fun c1 => ?_)
    · rw [if_pos c1] at h
      obtain rfl := Option.some.inj h
      refine e_lv [] rfl ?_
      exact hx _ hOK
    · rw [if_neg c1] at h
      refine e_aload_n C 0 (dk dX12_goOn 5 rfl) rfl rfl ?_
      obtain ⟨q2, hq2, h⟩ := ob h
      refine e_callV (ci := 12) C cal_X12_aNight im_X12_aNight se_X12_aNight ml_X12_390 rfl hR (by decide) (dk dX12_goOn 6 rfl) (K.1 _ (by rw [ht]; decide)) (ent_o12 ht) (c_X12_aNight K ht hq2) ⟨Nat.zero_le _, Nat.zero_le _⟩ (Nat.le_of_ble_eq_true rfl) rfl ?_
      refine e_iinc C [(2, .int (x2 + 1)), (0, .ref (g_N g + t)), (1, .int x1)] 2 1 (dk dX12_goOn 7 rfl) rfl (by decide) (by decide) rfl ?_
      refine e_goto C 2 (dk dX12_goOn 8 rfl) (by decide) ?_
      refine e_lv [1, 2, 0] rfl ?_
      exact ih _ _ _ h hOK
set_option maxRecDepth 20000 in
theorem lb_X12_goOn_2 {X : FX} {g : WC} {Xo : Nat → va_E} {n : Nat} {kd : Nat → Nat} (C : Cx X g RX12 cX12_goOn 3) (K : KD n kd) {t : Nat} (ht : kd t = 13) {x1 : Int32} (hR : x_R X = rm 5) {T9 : Type} {f9 : Mem → Option T9} {b9 : T9} (hx : ∀ s, f9 s = some b9 → EW X g (x_s X).heap.size n 3 (ent g Xo kd s) 0 0 17 [] []) {x2 : Int32} {M : Mem} (h : (L_X12_goOn_2 t x1 FU x2 M).bind f9 = some b9) : EW X g (x_s X).heap.size n 3 (ent g Xo kd M) 0 0 2 [(0, .ref (g_N g + t)), (1, .int x1), (2, .int x2)] [] := by
  obtain ⟨q, hq, h⟩ := ob h
  exact l_X12_goOn_2 C K ht hR (OK := fun q => f9 q = some b9) hx FU x2 M q hq h
set_option maxRecDepth 20000 in
theorem c_X12_goOn {g : WC} {Xo : Nat → va_E} {n : Nat} {kd : Nat → Nat} (K : KD n kd) {t : Nat} {p0 : Int32} (ht : kd t = 13) {M : Mem} {res : Mem} (h : F_X12_goOn t p0 M = some res) : MC g yX12_goOn cX12_goOn 3 none 5 n [.ref (g_N g + t), .int p0] (ent g Xo kd M) none (ent g Xo kd res) := by
  refine MC_of pn_X12 (Nat.le_of_ble_eq_true rfl) (fun X C B => ?_)
  have hR := B.1
  rw [F_X12_goOn] at h
  refine e_iconst C 0 (dk dX12_goOn 0 rfl) (by decide) ?_
  refine e_istore_n C [(2, .int 0), (0, .ref (g_N g + t)), (1, .int p0)] (dk dX12_goOn 1 rfl) rfl (by decide) rfl ?_
  refine e_lv [1, 2, 0] rfl ?_
  refine lb_X12_goOn_2 C K ht hR (fun s4 h => ?_) h
  obtain rfl := Option.some.inj h
  exact e_vret C B (dk dX12_goOn 9 rfl)
set_option maxRecDepth 20000 in
theorem l_X12_allCoins_4 {X : FX} {g : WC} {Xo : Nat → va_E} {n : Nat} {kd : Nat → Nat} (C : Cx X g RX12 cX12_allCoins 3) (K : KD n kd) {t : Nat} (ht : kd t = 13) {M : Mem} (hR : x_R X = rm 0) {OK : Int32 → Prop} (hx : ∀ s, OK s → EW X g (x_s X).heap.size n 3 (ent g Xo kd M) 0 0 29 [(1, .int s)] []) : ∀ (N9 : Nat) (x1 : Int32) (x2 : Int32) (q : Int32), L_X12_allCoins_4 t M N9 x1 x2 = some q → OK q → EW X g (x_s X).heap.size n 3 (ent g Xo kd M) 0 0 4 [(0, .ref (g_N g + t)), (1, .int x1), (2, .int x2)] [] := by
  intro N9
  induction N9 with
  | zero =>
    intro x1 x2 q h
    rw [L_X12_allCoins_4.eq_1] at h
    cases h
  | succ m9 ih =>
    intro x1 x2 q h hOK
    rw [L_X12_allCoins_4.eq_2] at h
    refine e_iload_n C 2 (dk dX12_allCoins 4 rfl) rfl rfl ?_
    refine e_aload_n C 0 (dk dX12_allCoins 5 rfl) rfl rfl ?_
    refine gf_X12_told C K ht fl_X12_38 (dk dX12_allCoins 6 rfl) ?_
    refine e_iconst C 3 (dk dX12_allCoins 7 rfl) (by decide) ?_
    refine m_aldc C K (kd_X12_told K ht) 3 (dk dX12_allCoins 8 rfl) (by decide) (by decide) ?_
    refine e_icmp_ge C 29 (dk dX12_allCoins 9 rfl) (by decide) (fun c1 => ?_) (fun c1 => ?_)
    · rw [if_pos c1] at h
      obtain rfl := Option.some.inj h
      refine e_lv [1] rfl ?_
      exact hx _ hOK
    · rw [if_neg c1] at h
      refine e_iload_n C 1 (dk dX12_allCoins 10 rfl) rfl rfl ?_
      refine e_aload_n C 0 (dk dX12_allCoins 11 rfl) rfl rfl ?_
      refine gf_X12_purse C K ht fl_X12_75 (dk dX12_allCoins 12 rfl) ?_
      refine e_iload_n C 2 (dk dX12_allCoins 13 rfl) rfl rfl ?_
      obtain ⟨v2, hv2, h⟩ := ob h
      refine m_ald C K (kd_X12_purse K ht) (dk dX12_allCoins 14 rfl) hv2 ?_
      refine e_iadd C (dk dX12_allCoins 15 rfl) ?_
      refine e_istore_n C [(1, .int (x1 + v2)), (0, .ref (g_N g + t)), (2, .int x2)] (dk dX12_allCoins 16 rfl) rfl (by decide) rfl ?_
      refine e_iinc C [(2, .int (x2 + 1)), (1, .int (x1 + v2)), (0, .ref (g_N g + t))] 2 1 (dk dX12_allCoins 17 rfl) rfl (by decide) (by decide) rfl ?_
      refine e_goto C 4 (dk dX12_allCoins 18 rfl) (by decide) ?_
      refine e_lv [2, 1, 0] rfl ?_
      exact ih _ _ _ h hOK
set_option maxRecDepth 20000 in
theorem lb_X12_allCoins_4 {X : FX} {g : WC} {Xo : Nat → va_E} {n : Nat} {kd : Nat → Nat} (C : Cx X g RX12 cX12_allCoins 3) (K : KD n kd) {t : Nat} (ht : kd t = 13) {M : Mem} (hR : x_R X = rm 0) {T9 : Type} {f9 : Int32 → Option T9} {b9 : T9} (hx : ∀ s, f9 s = some b9 → EW X g (x_s X).heap.size n 3 (ent g Xo kd M) 0 0 29 [(1, .int s)] []) {x1 : Int32} {x2 : Int32} (h : (L_X12_allCoins_4 t M FU x1 x2).bind f9 = some b9) : EW X g (x_s X).heap.size n 3 (ent g Xo kd M) 0 0 4 [(0, .ref (g_N g + t)), (1, .int x1), (2, .int x2)] [] := by
  obtain ⟨q, hq, h⟩ := ob h
  exact l_X12_allCoins_4 C K ht hR (OK := fun q => f9 q = some b9) hx FU x1 x2 q hq h
set_option maxRecDepth 20000 in
theorem c_X12_allCoins {g : WC} {Xo : Nat → va_E} {n : Nat} {kd : Nat → Nat} (K : KD n kd) {t : Nat} (ht : kd t = 13) {M : Mem} {res : Int32} (h : F_X12_allCoins t M = some res) : MC g yX12_allCoins cX12_allCoins 3 (some .int) 0 n [.ref (g_N g + t)] (ent g Xo kd M) (some (.int res)) (ent g Xo kd M) := by
  refine MC_of pn_X12 (Nat.le_of_ble_eq_true rfl) (fun X C B => ?_)
  have hR := B.1
  rw [F_X12_allCoins] at h
  refine e_iconst C 0 (dk dX12_allCoins 0 rfl) (by decide) ?_
  refine e_istore_n C [(1, .int 0), (0, .ref (g_N g + t))] (dk dX12_allCoins 1 rfl) rfl (by decide) rfl ?_
  refine e_iconst C 0 (dk dX12_allCoins 2 rfl) (by decide) ?_
  refine e_istore_n C [(2, .int 0), (1, .int 0), (0, .ref (g_N g + t))] (dk dX12_allCoins 3 rfl) rfl (by decide) rfl ?_
  refine e_lv [2, 1, 0] rfl ?_
  refine lb_X12_allCoins_4 C K ht hR (fun s4 h => ?_) h
  refine e_iload_n C 0 (dk dX12_allCoins 19 rfl) rfl rfl ?_
  obtain rfl := Option.some.inj h
  exact e_iret C B (nar1 _) (dk dX12_allCoins 20 rfl)
