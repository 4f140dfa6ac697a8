set_option maxRecDepth 20000 in
theorem l_X12_given_76 {X : FX} {g : WC} {Xo : Nat → va_E} {n : Nat} {kd : Nat → Nat} (C : Cx X g RX12 cX12_given 6) (K : KD n kd) {t : Nat} (ht : kd t = 13) {x1 : Int32} {x2 : Int32} {x4 : Int32} (hR : x_R X = rm 5) {OK : Int32 × Mem → Prop} (hx : ∀ s, OK s → EW X g (x_s X).heap.size n 6 (ent g Xo kd s.2) 0 0 126 [(0, .ref (g_N g + t)), (1, .int x1), (2, .int x2), (3, .int s.1), (4, .int x4)] []) : ∀ (N9 : Nat) (x3 : Int32) (x5 : Int32) (M : Mem) (q : Int32 × Mem), L_X12_given_76 t x1 x2 x4 N9 x3 x5 M = some q → OK q → EW X g (x_s X).heap.size n 6 (ent g Xo kd M) 0 0 76 [(0, .ref (g_N g + t)), (1, .int x1), (2, .int x2), (3, .int x3), (4, .int x4), (5, .int x5)] [] := by
  intro N9
  induction N9 with
  | zero =>
    intro x3 x5 M q h
    rw [L_X12_given_76.eq_1] at h
    cases h
  | succ m9 ih =>
    intro x3 x5 M q h hOK
    rw [L_X12_given_76.eq_2] at h
    refine e_iload C 5 (dk dX12_given_0 49 rfl) rfl ?_
    refine e_if_lt C 126 (dk dX12_given_0 50 rfl) (by decide) (fun c6 => ?_) (fun c6 => ?_)
    · rw [if_pos c6] at h
      obtain rfl := Option.some.inj h
      refine e_lv [0, 1, 2, 3, 4] rfl ?_
      exact hx _ hOK
    · rw [if_neg c6] at h
      refine e_aload_n C 0 (dk dX12_given_0 51 rfl) rfl rfl ?_
      refine e_iload C 5 (dk dX12_given_0 52 rfl) rfl ?_
      refine e_iload C 4 (dk dX12_given_0 53 rfl) rfl ?_
      refine e_iload_n C 2 (dk dX12_given_0 54 rfl) rfl rfl ?_
      obtain ⟨q7, hq7, h⟩ := ob h
      refine e_callV (ci := 12) C cal_X12_mayHave im_X12_mayHave se_X12_mayHave ml_X12_447 rfl hR (by decide) (dk dX12_given_0 55 rfl) (K.1 _ (by rw [ht]; decide)) (ent_o12 ht) (c_X12_mayHave K ht hq7) ⟨Nat.zero_le _, Nat.zero_le _⟩ (Nat.le_of_ble_eq_true rfl) rfl ?_
      refine e_if_eq C 120 (dk dX12_given_0 56 rfl) (by decide) (fun c8 => ?_) (fun c8 => ?_)
      · rw [if_pos c8] at h
        refine e_iinc C [(5, .int (x5 + (-1))), (0, .ref (g_N g + t)), (1, .int x1), (2, .int x2), (3, .int x3), (4, .int x4)] 5 (-1) (dk dX12_given_1 13 rfl) rfl (by decide) (by decide) rfl ?_
        refine e_goto C 76 (dk dX12_given_1 14 rfl) (by decide) ?_
        refine e_lv [1, 2, 3, 4, 5, 0] rfl ?_
        exact ih _ _ _ _ h hOK
      · rw [if_neg c8] at h
        refine e_aload_n C 0 (dk dX12_given_0 57 rfl) rfl rfl ?_
        refine e_iload C 4 (dk dX12_given_0 58 rfl) rfl ?_
        refine e_iload_n C 2 (dk dX12_given_0 59 rfl) rfl rfl ?_
        refine e_iload C 5 (dk dX12_given_1 0 rfl) rfl ?_
        obtain ⟨q9, hq9, h⟩ := ob h
        refine e_callV (ci := 12) C cal_X12_with im_X12_with se_X12_with ml_X12_444 rfl hR (by decide) (dk dX12_given_1 1 rfl) (K.1 _ (by rw [ht]; decide)) (ent_o12 ht) (c_X12_with K ht hq9) ⟨Nat.zero_le _, Nat.zero_le _⟩ (Nat.le_of_ble_eq_true rfl) rfl ?_
        refine e_aload_n C 0 (dk dX12_given_1 2 rfl) rfl rfl ?_
        refine gf_X12_mostBy C K ht fl_X12_110 (dk dX12_given_1 3 rfl) ?_
        refine e_iload C 4 (dk dX12_given_1 4 rfl) rfl ?_
        refine e_bipush C 7 (dk dX12_given_1 5 rfl) (by decide) ?_
        refine e_ishl C (dk dX12_given_1 6 rfl) ?_
        refine e_iload_n C 2 (dk dX12_given_1 7 rfl) rfl rfl ?_
        refine e_iadd C (dk dX12_given_1 8 rfl) ?_
        obtain ⟨v10, hv10, h⟩ := ob h
        refine m_ald C K (kd_X12_mostBy K ht) (dk dX12_given_1 9 rfl) hv10 ?_
        refine e_icmp_ne C 120 (dk dX12_given_1 10 rfl) (by decide) (fun c11 => ?_) (fun c11 => ?_)
        · rw [if_neg c11] at h
          refine e_iinc C [(5, .int (x5 + (-1))), (0, .ref (g_N g + t)), (1, .int x1), (2, .int x2), (3, .int x3), (4, .int x4)] 5 (-1) (dk dX12_given_1 13 rfl) rfl (by decide) (by decide) rfl ?_
          refine e_goto C 76 (dk dX12_given_1 14 rfl) (by decide) ?_
          refine e_lv [1, 2, 3, 4, 5, 0] rfl ?_
          exact ih _ _ _ _ h hOK
        · rw [if_pos c11] at h
          refine e_iload C 5 (dk dX12_given_1 11 rfl) rfl ?_
          refine e_istore_n C [(3, .int x5), (0, .ref (g_N g + t)), (1, .int x1), (2, .int x2), (4, .int x4), (5, .int x5)] (dk dX12_given_1 12 rfl) rfl (by decide) rfl ?_
          refine e_iinc C [(5, .int (x5 + (-1))), (3, .int x5), (0, .ref (g_N g + t)), (1, .int x1), (2, .int x2), (4, .int x4)] 5 (-1) (dk dX12_given_1 13 rfl) rfl (by decide) (by decide) rfl ?_
          refine e_goto C 76 (dk dX12_given_1 14 rfl) (by decide) ?_
          refine e_lv [2, 3, 4, 1, 5, 0] rfl ?_
          exact ih _ _ _ _ h hOK
set_option maxRecDepth 20000 in
theorem lb_X12_given_76 {X : FX} {g : WC} {Xo : Nat → va_E} {n : Nat} {kd : Nat → Nat} (C : Cx X g RX12 cX12_given 6) (K : KD n kd) {t : Nat} (ht : kd t = 13) {x1 : Int32} {x2 : Int32} {x4 : Int32} (hR : x_R X = rm 5) {T9 : Type} {f9 : Int32 × Mem → Option T9} {b9 : T9} (hx : ∀ s, f9 s = some b9 → EW X g (x_s X).heap.size n 6 (ent g Xo kd s.2) 0 0 126 [(0, .ref (g_N g + t)), (1, .int x1), (2, .int x2), (3, .int s.1), (4, .int x4)] []) {x3 : Int32} {x5 : Int32} {M : Mem} (h : (L_X12_given_76 t x1 x2 x4 FU x3 x5 M).bind f9 = some b9) : EW X g (x_s X).heap.size n 6 (ent g Xo kd M) 0 0 76 [(0, .ref (g_N g + t)), (1, .int x1), (2, .int x2), (3, .int x3), (4, .int x4), (5, .int x5)] [] := by
  obtain ⟨q, hq, h⟩ := ob h
  exact l_X12_given_76 C K ht hR (OK := fun q => f9 q = some b9) hx FU x3 x5 M q hq h
set_option maxRecDepth 20000 in
theorem l_X12_given_58 {X : FX} {g : WC} {Xo : Nat → va_E} {n : Nat} {kd : Nat → Nat} (C : Cx X g RX12 cX12_given 6) (K : KD n kd) {t : Nat} (ht : kd t = 13) {x1 : Int32} (hR : x_R X = rm 5) {OK : Int32 × Mem → Prop} (hx : ∀ s, OK s → EW X g (x_s X).heap.size n 6 (ent g Xo kd s.2) 0 0 147 [(3, .int s.1)] []) : ∀ (N9 : Nat) (x2 : Int32) (x3 : Int32) (x4 : Int32) (M : Mem) (q : Int32 × Mem), L_X12_given_58 t x1 N9 x2 x3 x4 M = some q → OK q → EW X g (x_s X).heap.size n 6 (ent g Xo kd M) 0 0 58 [(0, .ref (g_N g + t)), (1, .int x1), (2, .int x2), (3, .int x3), (4, .int x4)] [] := by
  intro N9
  induction N9 with
  | zero =>
    intro x2 x3 x4 M q h
    rw [L_X12_given_58.eq_1] at h
    cases h
  | succ m9 ih =>
    intro x2 x3 x4 M q h hOK
    rw [L_X12_given_58.eq_2] at h
    refine e_iload C 4 (dk dX12_given_0 37 rfl) rfl ?_
    refine e_iload_n C 1 (dk dX12_given_0 38 rfl) rfl rfl ?_
    refine e_icmp_gt C 147 (dk dX12_given_0 39 rfl) (by decide) (fun c5 => ?_) (fun c5 => ?_)
    · rw [if_pos c5] at h
      obtain rfl := Option.some.inj h
      refine e_lv [3] rfl ?_
      exact hx _ hOK
    · rw [if_neg c5] at h
      refine e_iconst C (-1) (dk dX12_given_0 40 rfl) (by decide) ?_
      refine e_istore_n C [(3, .int (-1)), (0, .ref (g_N g + t)), (1, .int x1), (2, .int x2), (4, .int x4)] (dk dX12_given_0 41 rfl) rfl (by decide) rfl ?_
      refine e_aload_n C 1 (dk dX12_given_0 42 rfl) rfl rfl ?_
      refine gf_X12_told C K ht fl_X12_38 (dk dX12_given_0 43 rfl) ?_
      refine e_iconst C 3 (dk dX12_given_0 44 rfl) (by decide) ?_
      refine m_aldc C K (kd_X12_told K ht) 3 (dk dX12_given_0 45 rfl) (by decide) (by decide) ?_
      refine e_iconst C 1 (dk dX12_given_0 46 rfl) (by decide) ?_
      refine e_isub C (dk dX12_given_0 47 rfl) ?_
      refine e_istore C [(5, .int ((M (t + 3) 3) - 1)), (3, .int (-1)), (0, .ref (g_N g + t)), (1, .int x1), (2, .int x2), (4, .int x4)] (dk dX12_given_0 48 rfl) (by decide) rfl ?_
      refine e_lv [2, 3, 4, 1, 5, 0] rfl ?_
      refine lb_X12_given_76 C K ht hR (fun s13 h => ?_) h
      refine e_iload_n C 2 (dk dX12_given_1 15 rfl) rfl rfl ?_
      refine e_iload_n C 3 (dk dX12_given_1 16 rfl) rfl rfl ?_
      refine e_iconst C (-1) (dk dX12_given_1 17 rfl) (by decide) ?_
      suffices hm15 : EW X g (x_s X).heap.size n 6 (ent g Xo kd s13.2) 0 0 139 [(0, .ref (g_N g + t)), (1, .int x1), (2, .int x2), (3, .int s13.1), (4, .int x4)] [.int (if s13.1 = (-1) then (0 : Int32) else ((1 : Int32) <<< (s13.1 &&& 31))), .int x2] from (by
        refine e_icmp_ne C 136 (dk dX12_given_1 18 rfl) (by decide) (fun c14 => ?_) (fun c14 => ?_)
        · rw [show (if s13.1 = (-1) then (0 : Int32) else ((1 : Int32) <<< (s13.1 &&& 31))) = ((1 : Int32) <<< (s13.1 &&& 31)) from if_neg c14] at hm15
          refine e_iconst C 1 (dk dX12_given_1 21 rfl) (by decide) ?_
          refine e_iload_n C 3 (dk dX12_given_1 22 rfl) rfl rfl ?_
          refine e_ishl C (dk dX12_given_1 23 rfl) ?_
          exact hm15
        · rw [show (if s13.1 = (-1) then (0 : Int32) else ((1 : Int32) <<< (s13.1 &&& 31))) = (0 : Int32) from if_pos c14] at hm15
          refine e_iconst C 0 (dk dX12_given_1 19 rfl) (by decide) ?_
          refine e_goto C 139 (dk dX12_given_1 20 rfl) (by decide) ?_
          exact hm15)
      refine e_ior C (dk dX12_given_1 24 rfl) ?_
      refine e_istore_n C [(2, .int (x2 ||| (if s13.1 = (-1) then (0 : Int32) else ((1 : Int32) <<< (s13.1 &&& 31))))), (0, .ref (g_N g + t)), (1, .int x1), (3, .int s13.1), (4, .int x4)] (dk dX12_given_1 25 rfl) rfl (by decide) rfl ?_
      refine e_iinc C [(4, .int (x4 + 1)), (2, .int (x2 ||| (if s13.1 = (-1) then (0 : Int32) else ((1 : Int32) <<< (s13.1 &&& 31))))), (0, .ref (g_N g + t)), (1, .int x1), (3, .int s13.1)] 4 1 (dk dX12_given_1 26 rfl) rfl (by decide) (by decide) rfl ?_
      refine e_goto C 58 (dk dX12_given_1 27 rfl) (by decide) ?_
      refine e_lv [2, 3, 1, 4, 0] rfl ?_
      exact ih _ _ _ _ _ h hOK
set_option maxRecDepth 20000 in
theorem lb_X12_given_58 {X : FX} {g : WC} {Xo : Nat → va_E} {n : Nat} {kd : Nat → Nat} (C : Cx X g RX12 cX12_given 6) (K : KD n kd) {t : Nat} (ht : kd t = 13) {x1 : Int32} (hR : x_R X = rm 5) {T9 : Type} {f9 : Int32 × Mem → Option T9} {b9 : T9} (hx : ∀ s, f9 s = some b9 → EW X g (x_s X).heap.size n 6 (ent g Xo kd s.2) 0 0 147 [(3, .int s.1)] []) {x2 : Int32} {x3 : Int32} {x4 : Int32} {M : Mem} (h : (L_X12_given_58 t x1 FU x2 x3 x4 M).bind f9 = some b9) : EW X g (x_s X).heap.size n 6 (ent g Xo kd M) 0 0 58 [(0, .ref (g_N g + t)), (1, .int x1), (2, .int x2), (3, .int x3), (4, .int x4)] [] := by
  obtain ⟨q, hq, h⟩ := ob h
  exact l_X12_given_58 C K ht hR (OK := fun q => f9 q = some b9) hx FU x2 x3 x4 M q hq h
set_option maxRecDepth 20000 in
theorem c_X12_given {g : WC} {Xo : Nat → va_E} {n : Nat} {kd : Nat → Nat} (K : KD n kd) {t : Nat} {p0 : Int32} (ht : kd t = 13) {M : Mem} {res : Int32 × Mem} (h : F_X12_given t p0 M = some res) : MC g yX12_given cX12_given 6 (some .int) 5 n [.ref (g_N g + t), .int p0] (ent g Xo kd M) (some (.int res.1)) (ent g Xo kd res.2) := by
  refine MC_of pn_X12 (Nat.le_of_ble_eq_true rfl) (fun X C B => ?_)
  have hR := B.1
  rw [F_X12_given] at h
  refine e_aload_n C 0 (dk dX12_given_0 0 rfl) rfl rfl ?_
  refine e_iconst C 0 (dk dX12_given_0 1 rfl) (by decide) ?_
  refine pf_X12_code C K ht fl_X12_156 (dk dX12_given_0 2 rfl) ?_
  refine e_iload_n C 1 (dk dX12_given_0 3 rfl) rfl rfl ?_
  refine e_i2l C (dk dX12_given_0 4 rfl) ?_
  refine e_ldc2 C kl_X12_451 (dk dX12_given_0 5 rfl) ?_
  refine e_aload_n C 0 (dk dX12_given_0 6 rfl) rfl rfl ?_
  refine gf_X12_told C K ht fl_X12_38 (dk dX12_given_0 7 rfl) ?_
  refine e_iconst C 3 (dk dX12_given_0 8 rfl) (by decide) ?_
  refine m_aldc C K (kd_X12_told K ht) 3 (dk dX12_given_0 9 rfl) (by decide) (by decide) ?_
  refine e_iconst C 1 (dk dX12_given_0 10 rfl) (by decide) ?_
  refine e_isub C (dk dX12_given_0 11 rfl) ?_
  refine e_i2l C (dk dX12_given_0 12 rfl) ?_
  refine e_callS C cal_X12_isIn sm_X12_isIn ml_X12_159 hR (by decide) (dk dX12_given_0 13 rfl) (c_X12_isIn K (rfl : F_X12_isIn p0.toInt64 (-1) ((((up M t 2 0) (t + 3) 3) - 1).toInt64) = _)) ⟨Nat.zero_le _, Nat.zero_le _⟩ (Nat.le_of_ble_eq_true rfl) rfl ?_
  refine e_if_ne C 31 (dk dX12_given_0 14 rfl) (by decide) (fun c1 => ?_) (fun c1 => ?_)
  · rw [if_neg c1] at h
    refine e_aload_n C 0 (dk dX12_given_0 19 rfl) rfl rfl ?_
    obtain ⟨q2, hq2, h⟩ := ob h
    refine e_callV (ci := 12) C cal_X12_tellLots im_X12_tellLots se_X12_tellLots ml_X12_384 rfl hR (by decide) (dk dX12_given_0 20 rfl) (K.1 _ (by rw [ht]; decide)) (ent_o12 ht) (c_X12_tellLots K ht hq2) ⟨Nat.zero_le _, Nat.zero_le _⟩ (Nat.le_of_ble_eq_true rfl) rfl ?_
    refine e_aload_n C 0 (dk dX12_given_0 21 rfl) rfl rfl ?_
    obtain ⟨q3, hq3, h⟩ := ob h
    refine e_callV (ci := 12) C cal_X12_tellMost im_X12_tellMost se_X12_tellMost ml_X12_453 rfl hR (by decide) (dk dX12_given_0 22 rfl) (K.1 _ (by rw [ht]; decide)) (ent_o12 ht) (c_X12_tellMost K ht hq3) ⟨Nat.zero_le _, Nat.zero_le _⟩ (Nat.le_of_ble_eq_true rfl) rfl ?_
    refine e_iload_n C 1 (dk dX12_given_0 23 rfl) rfl rfl ?_
    refine e_iconst C (-1) (dk dX12_given_0 24 rfl) (by decide) ?_
    refine e_icmp_ne C 51 (dk dX12_given_0 25 rfl) (by decide) (fun c4 => ?_) (fun c4 => ?_)
    · rw [if_neg c4] at h
      refine e_iconst C 0 (dk dX12_given_0 31 rfl) (by decide) ?_
      refine e_istore_n C [(2, .int 0), (0, .ref (g_N g + t)), (1, .int p0)] (dk dX12_given_0 32 rfl) rfl (by decide) rfl ?_
      refine e_iconst C (-1) (dk dX12_given_0 33 rfl) (by decide) ?_
      refine e_istore_n C [(3, .int (-1)), (2, .int 0), (0, .ref (g_N g + t)), (1, .int p0)] (dk dX12_given_0 34 rfl) rfl (by decide) rfl ?_
      refine e_iconst C 0 (dk dX12_given_0 35 rfl) (by decide) ?_
      refine e_istore C [(4, .int 0), (3, .int (-1)), (2, .int 0), (0, .ref (g_N g + t)), (1, .int p0)] (dk dX12_given_0 36 rfl) (by decide) rfl ?_
      refine e_lv [3, 4, 2, 1, 0] rfl ?_
      refine lb_X12_given_58 C K ht hR (fun s17 h => ?_) h
      refine e_iload_n C 0 (dk dX12_given_1 28 rfl) rfl rfl ?_
      obtain rfl := Option.some.inj h
      exact e_iret C B (nar1 _) (dk dX12_given_1 29 rfl)
    · rw [if_pos c4] at h
      refine e_aload_n C 0 (dk dX12_given_0 26 rfl) rfl rfl ?_
      refine gf_X12_mostBy C K ht fl_X12_110 (dk dX12_given_0 27 rfl) ?_
      refine e_iconst C 0 (dk dX12_given_0 28 rfl) (by decide) ?_
      refine m_aldc C K (kd_X12_mostBy K ht) 0 (dk dX12_given_0 29 rfl) (by decide) (by decide) ?_
      obtain rfl := Option.some.inj h
      exact e_iret C B (nar1 _) (dk dX12_given_0 30 rfl)
  · rw [if_pos c1] at h
    refine e_aload_n C 0 (dk dX12_given_0 15 rfl) rfl rfl ?_
    refine e_iconst C 1 (dk dX12_given_0 16 rfl) (by decide) ?_
    refine e_callV (ci := 12) C cal_X12_fail im_X12_fail se_X12_fail ml_X12_318 rfl hR (by decide) (dk dX12_given_0 17 rfl) (K.1 _ (by rw [ht]; decide)) (ent_o12 ht) (c_X12_fail K ht (rfl : F_X12_fail t 1 (up M t 2 0) = _)) ⟨Nat.zero_le _, Nat.zero_le _⟩ (Nat.le_of_ble_eq_true rfl) rfl ?_
    obtain rfl := Option.some.inj h
    exact e_iret C B (nar1 _) (dk dX12_given_0 18 rfl)
set_option maxRecDepth 20000 in
theorem j_X12_gossip_j69 {X : FX} {g : WC} {Xo : Nat → va_E} {n : Nat} {kd : Nat → Nat} (C : Cx X g RX12 cX12_gossip 5) (K : KD n kd) {t : Nat} (ht : kd t = 13) {x1 : Int32} {x3 : Int32} {M : Mem} (hR : x_R X = rm 2) {OK : Int32 → Prop} (hx : ∀ s, OK s → EW X g (x_s X).heap.size n 5 (ent g Xo kd M) 0 0 77 [(0, .ref (g_N g + t)), (1, .int x1), (2, .int s), (3, .int x3)] []) {rec : Int32 → Int32 → Option (Int32)} (hrec : ∀ (x2 : Int32) (x4 : Int32) (q : Int32), rec x2 x4 = some q → OK q → EW X g (x_s X).heap.size n 5 (ent g Xo kd M) 0 0 37 [(0, .ref (g_N g + t)), (1, .int x1), (2, .int x2), (3, .int x3), (4, .int x4)] []) {x4 : Int32} {y0 : Int32} {y1 : Int32} (q : Int32) (h : J_X12_gossip_j69 t rec x1 x3 x4 y0 y1 M = some q) (hOK : OK q) : EW X g (x_s X).heap.size n 5 (ent g Xo kd M) 0 0 69 [(0, .ref (g_N g + t)), (1, .int x1), (3, .int x3), (4, .int x4)] [.int y1, .int y0] := by
  rw [J_X12_gossip_j69] at h
  refine e_ior C (dk dX12_gossip 40 rfl) ?_
  refine e_istore_n C [(2, .int (y0 ||| y1)), (0, .ref (g_N g + t)), (1, .int x1), (3, .int x3), (4, .int x4)] (dk dX12_gossip 41 rfl) rfl (by decide) rfl ?_
  refine e_iinc C [(4, .int (x4 + 1)), (2, .int (y0 ||| y1)), (0, .ref (g_N g + t)), (1, .int x1), (3, .int x3)] 4 1 (dk dX12_gossip 42 rfl) rfl (by decide) (by decide) rfl ?_
  refine e_goto C 37 (dk dX12_gossip 43 rfl) (by decide) ?_
  refine e_lv [2, 3, 1, 4, 0] rfl ?_
  exact hrec _ _ _ h hOK
set_option maxRecDepth 20000 in
theorem l_X12_gossip_37 {X : FX} {g : WC} {Xo : Nat → va_E} {n : Nat} {kd : Nat → Nat} (C : Cx X g RX12 cX12_gossip 5) (K : KD n kd) {t : Nat} (ht : kd t = 13) {x1 : Int32} {x3 : Int32} {M : Mem} (hR : x_R X = rm 2) {OK : Int32 → Prop} (hx : ∀ s, OK s → EW X g (x_s X).heap.size n 5 (ent g Xo kd M) 0 0 77 [(0, .ref (g_N g + t)), (1, .int x1), (2, .int s), (3, .int x3)] []) : ∀ (N9 : Nat) (x2 : Int32) (x4 : Int32) (q : Int32), L_X12_gossip_37 t x1 x3 M N9 x2 x4 = some q → OK q → EW X g (x_s X).heap.size n 5 (ent g Xo kd M) 0 0 37 [(0, .ref (g_N g + t)), (1, .int x1), (2, .int x2), (3, .int x3), (4, .int x4)] [] := by
  intro N9
  induction N9 with
  | zero =>
    intro x2 x4 q h
    rw [L_X12_gossip_37.eq_1] at h
    cases h
  | succ m9 ih =>
    intro x2 x4 q h hOK
    rw [L_X12_gossip_37.eq_2] at h
    refine e_iload C 4 (dk dX12_gossip 23 rfl) rfl ?_
    refine e_aload_n C 0 (dk dX12_gossip 24 rfl) rfl rfl ?_
    refine gf_X12_told C K ht fl_X12_38 (dk dX12_gossip 25 rfl) ?_
    refine e_iconst C 3 (dk dX12_gossip 26 rfl) (by decide) ?_
    refine m_aldc C K (kd_X12_told K ht) 3 (dk dX12_gossip 27 rfl) (by decide) (by decide) ?_
    refine e_icmp_ge C 77 (dk dX12_gossip 28 rfl) (by decide) (fun c4 => ?_) (fun c4 => ?_)
    · rw [if_pos c4] at h
      obtain rfl := Option.some.inj h
      refine e_lv [0, 1, 2, 3] rfl ?_
      exact hx _ hOK
    · rw [if_neg c4] at h
      refine e_iload_n C 2 (dk dX12_gossip 29 rfl) rfl rfl ?_
      refine e_iload_n C 2 (dk dX12_gossip 30 rfl) rfl rfl ?_
      refine e_iload C 4 (dk dX12_gossip 31 rfl) rfl ?_
      refine e_callS C cal_X12_isOf sm_X12_isOf ml_X12_287 hR (by decide) (dk dX12_gossip 32 rfl) (c_X12_isOf K (rfl : F_X12_isOf x2 x4 = _)) ⟨Nat.zero_le _, Nat.zero_le _⟩ (Nat.le_of_ble_eq_true rfl) rfl ?_
      refine e_if_eq C 68 (dk dX12_gossip 33 rfl) (by decide) (fun c5 => ?_) (fun c5 => ?_)
      · rw [if_pos c5] at h
        refine e_iconst C 0 (dk dX12_gossip 39 rfl) (by decide) ?_
        refine e_lv [0, 1, 3, 4] rfl ?_
        exact j_X12_gossip_j69 C K ht hR hx ih _ h hOK
      · rw [if_neg c5] at h
        refine e_aload_n C 0 (dk dX12_gossip 34 rfl) rfl rfl ?_
        refine gf_X12_knows C K ht fl_X12_78 (dk dX12_gossip 35 rfl) ?_
        refine e_iload C 4 (dk dX12_gossip 36 rfl) rfl ?_
        obtain ⟨v6, hv6, h⟩ := ob h
        refine m_ald C K (kd_X12_knows K ht) (dk dX12_gossip 37 rfl) hv6 ?_
        refine e_goto C 69 (dk dX12_gossip 38 rfl) (by decide) ?_
        refine e_lv [0, 1, 3, 4] rfl ?_
        exact j_X12_gossip_j69 C K ht hR hx ih _ h hOK
set_option maxRecDepth 20000 in
theorem lb_X12_gossip_37 {X : FX} {g : WC} {Xo : Nat → va_E} {n : Nat} {kd : Nat → Nat} (C : Cx X g RX12 cX12_gossip 5) (K : KD n kd) {t : Nat} (ht : kd t = 13) {x1 : Int32} {x3 : Int32} {M : Mem} (hR : x_R X = rm 2) {T9 : Type} {f9 : Int32 → Option T9} {b9 : T9} (hx : ∀ s, f9 s = some b9 → EW X g (x_s X).heap.size n 5 (ent g Xo kd M) 0 0 77 [(0, .ref (g_N g + t)), (1, .int x1), (2, .int s), (3, .int x3)] []) {x2 : Int32} {x4 : Int32} (h : (L_X12_gossip_37 t x1 x3 M FU x2 x4).bind f9 = some b9) : EW X g (x_s X).heap.size n 5 (ent g Xo kd M) 0 0 37 [(0, .ref (g_N g + t)), (1, .int x1), (2, .int x2), (3, .int x3), (4, .int x4)] [] := by
  obtain ⟨q, hq, h⟩ := ob h
  exact l_X12_gossip_37 C K ht hR (OK := fun q => f9 q = some b9) hx FU x2 x4 q hq h
set_option maxRecDepth 20000 in
theorem l_X12_gossip_28 {X : FX} {g : WC} {Xo : Nat → va_E} {n : Nat} {kd : Nat → Nat} (C : Cx X g RX12 cX12_gossip 5) (K : KD n kd) {t : Nat} (ht : kd t = 13) {x1 : Int32} {M : Mem} (hR : x_R X = rm 2) {OK : Int32 → Prop} (hx : ∀ s, OK s → EW X g (x_s X).heap.size n 5 (ent g Xo kd M) 0 0 83 [(1, .int x1), (2, .int s)] []) : ∀ (N9 : Nat) (x2 : Int32) (x3 : Int32) (q : Int32), L_X12_gossip_28 t x1 M N9 x2 x3 = some q → OK q → EW X g (x_s X).heap.size n 5 (ent g Xo kd M) 0 0 28 [(0, .ref (g_N g + t)), (1, .int x1), (2, .int x2), (3, .int x3)] [] := by
  intro N9
  induction N9 with
  | zero =>
    intro x2 x3 q h
    rw [L_X12_gossip_28.eq_1] at h
    cases h
  | succ m9 ih =>
    intro x2 x3 q h hOK
    rw [L_X12_gossip_28.eq_2] at h
    refine e_iload_n C 3 (dk dX12_gossip 18 rfl) rfl rfl ?_
    refine e_bipush C 7 (dk dX12_gossip 19 rfl) (by decide) ?_
    refine e_icmp_ge C 83 (dk dX12_gossip 20 rfl) (by decide) (fun c3 => ?_) (fun c3 => ?_)
    · rw [if_pos c3] at h
      obtain rfl := Option.some.inj h
      refine e_lv [1, 2] rfl ?_
      exact hx _ hOK
    · rw [if_neg c3] at h
      refine e_iconst C 0 (dk dX12_gossip 21 rfl) (by decide) ?_
      refine e_istore C [(4, .int 0), (0, .ref (g_N g + t)), (1, .int x1), (2, .int x2), (3, .int x3)] (dk dX12_gossip 22 rfl) (by decide) rfl ?_
      refine e_lv [1, 2, 3, 4, 0] rfl ?_
      refine lb_X12_gossip_37 C K ht hR (fun s8 h => ?_) h
      refine e_iinc C [(3, .int (x3 + 1)), (0, .ref (g_N g + t)), (1, .int x1), (2, .int s8)] 3 1 (dk dX12_gossip 44 rfl) rfl (by decide) (by decide) rfl ?_
      refine e_goto C 28 (dk dX12_gossip 45 rfl) (by decide) ?_
      refine e_lv [1, 2, 3, 0] rfl ?_
      exact ih _ _ _ h hOK
set_option maxRecDepth 20000 in
theorem lb_X12_gossip_28 {X : FX} {g : WC} {Xo : Nat → va_E} {n : Nat} {kd : Nat → Nat} (C : Cx X g RX12 cX12_gossip 5) (K : KD n kd) {t : Nat} (ht : kd t = 13) {x1 : Int32} {M : Mem} (hR : x_R X = rm 2) {T9 : Type} {f9 : Int32 → Option T9} {b9 : T9} (hx : ∀ s, f9 s = some b9 → EW X g (x_s X).heap.size n 5 (ent g Xo kd M) 0 0 83 [(1, .int x1), (2, .int s)] []) {x2 : Int32} {x3 : Int32} (h : (L_X12_gossip_28 t x1 M FU x2 x3).bind f9 = some b9) : EW X g (x_s X).heap.size n 5 (ent g Xo kd M) 0 0 28 [(0, .ref (g_N g + t)), (1, .int x1), (2, .int x2), (3, .int x3)] [] := by
  obtain ⟨q, hq, h⟩ := ob h
  exact l_X12_gossip_28 C K ht hR (OK := fun q => f9 q = some b9) hx FU x2 x3 q hq h
set_option maxRecDepth 20000 in
theorem c_X12_gossip {g : WC} {Xo : Nat → va_E} {n : Nat} {kd : Nat → Nat} (K : KD n kd) {t : Nat} {p0 : Int32} (ht : kd t = 13) {M : Mem} {res : Int32 × Mem} (h : F_X12_gossip t p0 M = some res) : MC g yX12_gossip cX12_gossip 5 (some .int) 2 n [.ref (g_N g + t), .int p0] (ent g Xo kd M) (some (.int res.1)) (ent g Xo kd res.2) := by
  refine MC_of pn_X12 (Nat.le_of_ble_eq_true rfl) (fun X C B => ?_)
  have hR := B.1
  rw [F_X12_gossip] at h
  refine e_aload_n C 0 (dk dX12_gossip 0 rfl) rfl rfl ?_
  refine e_iconst C 0 (dk dX12_gossip 1 rfl) (by decide) ?_
  refine pf_X12_code C K ht fl_X12_156 (dk dX12_gossip 2 rfl) ?_
  refine e_aload_n C 0 (dk dX12_gossip 3 rfl) rfl rfl ?_
  refine e_iload_n C 1 (dk dX12_gossip 4 rfl) rfl rfl ?_
  refine e_callV (ci := 12) C cal_X12_isPerson im_X12_isPerson se_X12_isPerson ml_X12_399 rfl hR (by decide) (dk dX12_gossip 5 rfl) (K.1 _ (by rw [ht]; decide)) (ent_o12 ht) (c_X12_isPerson K ht (rfl : F_X12_isPerson t p0 (up M t 2 0) = _)) ⟨Nat.zero_le _, Nat.zero_le _⟩ (Nat.le_of_ble_eq_true rfl) rfl ?_
  refine e_if_ne C 19 (dk dX12_gossip 6 rfl) (by decide) (fun c1 => ?_) (fun c1 => ?_)
  · rw [if_neg c1] at h
    refine e_aload_n C 0 (dk dX12_gossip 11 rfl) rfl rfl ?_
    refine gf_X12_knows C K ht fl_X12_78 (dk dX12_gossip 12 rfl) ?_
    refine e_iload_n C 1 (dk dX12_gossip 13 rfl) rfl rfl ?_
    obtain ⟨v2, hv2, h⟩ := ob h
    refine m_ald C K (kd_X12_knows K ht) (dk dX12_gossip 14 rfl) hv2 ?_
    refine e_istore_n C [(2, .int v2), (0, .ref (g_N g + t)), (1, .int p0)] (dk dX12_gossip 15 rfl) rfl (by decide) rfl ?_
    refine e_iconst C 0 (dk dX12_gossip 16 rfl) (by decide) ?_
    refine e_istore_n C [(3, .int 0), (2, .int v2), (0, .ref (g_N g + t)), (1, .int p0)] (dk dX12_gossip 17 rfl) rfl (by decide) rfl ?_
    refine e_lv [2, 3, 1, 0] rfl ?_
    refine lb_X12_gossip_28 C K ht hR (fun s10 h => ?_) h
    refine e_iload_n C 1 (dk dX12_gossip 46 rfl) rfl rfl ?_
    refine e_iconst C 1 (dk dX12_gossip 47 rfl) (by decide) ?_
    refine e_iload_n C 0 (dk dX12_gossip 48 rfl) rfl rfl ?_
    refine e_ishl C (dk dX12_gossip 49 rfl) ?_
    refine e_iconst C (-1) (dk dX12_gossip 50 rfl) (by decide) ?_
    refine e_ixor C (dk dX12_gossip 51 rfl) ?_
    refine e_iand C (dk dX12_gossip 52 rfl) ?_
    obtain rfl := Option.some.inj h
    exact e_iret C B (nar1 _) (dk dX12_gossip 53 rfl)
  · rw [if_pos c1] at h
    refine e_aload_n C 0 (dk dX12_gossip 7 rfl) rfl rfl ?_
    refine e_iconst C 1 (dk dX12_gossip 8 rfl) (by decide) ?_
    refine e_callV (ci := 12) C cal_X12_fail im_X12_fail se_X12_fail ml_X12_318 rfl hR (by decide) (dk dX12_gossip 9 rfl) (K.1 _ (by rw [ht]; decide)) (ent_o12 ht) (c_X12_fail K ht (rfl : F_X12_fail t 1 (up M t 2 0) = _)) ⟨Nat.zero_le _, Nat.zero_le _⟩ (Nat.le_of_ble_eq_true rfl) rfl ?_
    obtain rfl := Option.some.inj h
    exact e_iret C B (nar1 _) (dk dX12_gossip 10 rfl)
set_option maxRecDepth 20000 in
theorem l_X12_knowers_4 {X : FX} {g : WC} {Xo : Nat → va_E} {n : Nat} {kd : Nat → Nat} (C : Cx X g RX12 cX12_knowers 4) (K : KD n kd) {t : Nat} (ht : kd t = 13) {x1 : Int32} {M : Mem} (hR : x_R X = rm 1) {OK : Int32 → Prop} (hx : ∀ s, OK s → EW X g (x_s X).heap.size n 4 (ent g Xo kd M) 0 0 43 [(2, .int s)] []) : ∀ (N9 : Nat) (x2 : Int32) (x3 : Int32) (q : Int32), L_X12_knowers_4 t x1 M N9 x2 x3 = some q → OK q → EW X g (x_s X).heap.size n 4 (ent g Xo kd M) 0 0 4 [(0, .ref (g_N g + t)), (1, .int x1), (2, .int x2), (3, .int x3)] [] := by
  intro N9
  induction N9 with
  | zero =>
    intro x2 x3 q h
    rw [L_X12_knowers_4.eq_1] at h
    cases h
  | succ m9 ih =>
    intro x2 x3 q h hOK
    rw [L_X12_knowers_4.eq_2] at h
    refine e_iload_n C 3 (dk dX12_knowers 4 rfl) rfl rfl ?_
    refine e_aload_n C 0 (dk dX12_knowers 5 rfl) rfl rfl ?_
    refine gf_X12_told C K ht fl_X12_38 (dk dX12_knowers 6 rfl) ?_
    refine e_iconst C 3 (dk dX12_knowers 7 rfl) (by decide) ?_
    refine m_aldc C K (kd_X12_told K ht) 3 (dk dX12_knowers 8 rfl) (by decide) (by decide) ?_
    refine e_icmp_ge C 43 (dk dX12_knowers 9 rfl) (by decide) (fun c1 => ?_) (fun c1 => ?_)
    · rw [if_pos c1] at h
      obtain rfl := Option.some.inj h
      refine e_lv [2] rfl ?_
      exact hx _ hOK
    · rw [if_neg c1] at h
      refine e_iload_n C 2 (dk dX12_knowers 10 rfl) rfl rfl ?_
      refine e_aload_n C 0 (dk dX12_knowers 11 rfl) rfl rfl ?_
      refine gf_X12_knows C K ht fl_X12_78 (dk dX12_knowers 12 rfl) ?_
      refine e_iload_n C 3 (dk dX12_knowers 13 rfl) rfl rfl ?_
      obtain ⟨v2, hv2, h⟩ := ob h
      refine m_ald C K (kd_X12_knows K ht) (dk dX12_knowers 14 rfl) hv2 ?_
      refine e_iload_n C 1 (dk dX12_knowers 15 rfl) rfl rfl ?_
      refine e_callS C cal_X12_isOf sm_X12_isOf ml_X12_287 hR (by decide) (dk dX12_knowers 16 rfl) (c_X12_isOf K (rfl : F_X12_isOf v2 x1 = _)) ⟨Nat.zero_le _, Nat.zero_le _⟩ (Nat.le_of_ble_eq_true rfl) rfl ?_
      suffices hm4 : EW X g (x_s X).heap.size n 4 (ent g Xo kd M) 0 0 35 [(0, .ref (g_N g + t)), (1, .int x1), (2, .int x2), (3, .int x3)] [.int (if (bi (F_X12_isOf v2 x1)) = 0 then (0 : Int32) else ((1 : Int32) <<< (x3 &&& 31))), .int x2] from (by
        refine e_if_eq C 34 (dk dX12_knowers 17 rfl) (by decide) (fun c3 => ?_) (fun c3 => ?_)
        · rw [show (if (bi (F_X12_isOf v2 x1)) = 0 then (0 : Int32) else ((1 : Int32) <<< (x3 &&& 31))) = (0 : Int32) from if_pos c3] at hm4
          refine e_iconst C 0 (dk dX12_knowers 22 rfl) (by decide) ?_
          exact hm4
        · rw [show (if (bi (F_X12_isOf v2 x1)) = 0 then (0 : Int32) else ((1 : Int32) <<< (x3 &&& 31))) = ((1 : Int32) <<< (x3 &&& 31)) from if_neg c3] at hm4
          refine e_iconst C 1 (dk dX12_knowers 18 rfl) (by decide) ?_
          refine e_iload_n C 3 (dk dX12_knowers 19 rfl) rfl rfl ?_
          refine e_ishl C (dk dX12_knowers 20 rfl) ?_
          refine e_goto C 35 (dk dX12_knowers 21 rfl) (by decide) ?_
          exact hm4)
      refine e_ior C (dk dX12_knowers 23 rfl) ?_
      refine e_istore_n C [(2, .int (x2 ||| (if (bi (F_X12_isOf v2 x1)) = 0 then (0 : Int32) else ((1 : Int32) <<< (x3 &&& 31))))), (0, .ref (g_N g + t)), (1, .int x1), (3, .int x3)] (dk dX12_knowers 24 rfl) rfl (by decide) rfl ?_
      refine e_iinc C [(3, .int (x3 + 1)), (2, .int (x2 ||| (if (bi (F_X12_isOf v2 x1)) = 0 then (0 : Int32) else ((1 : Int32) <<< (x3 &&& 31))))), (0, .ref (g_N g + t)), (1, .int x1)] 3 1 (dk dX12_knowers 25 rfl) rfl (by decide) (by decide) rfl ?_
      refine e_goto C 4 (dk dX12_knowers 26 rfl) (by decide) ?_
      refine e_lv [2, 3, 1, 0] rfl ?_
      exact ih _ _ _ h hOK
set_option maxRecDepth 20000 in
theorem lb_X12_knowers_4 {X : FX} {g : WC} {Xo : Nat → va_E} {n : Nat} {kd : Nat → Nat} (C : Cx X g RX12 cX12_knowers 4) (K : KD n kd) {t : Nat} (ht : kd t = 13) {x1 : Int32} {M : Mem} (hR : x_R X = rm 1) {T9 : Type} {f9 : Int32 → Option T9} {b9 : T9} (hx : ∀ s, f9 s = some b9 → EW X g (x_s X).heap.size n 4 (ent g Xo kd M) 0 0 43 [(2, .int s)] []) {x2 : Int32} {x3 : Int32} (h : (L_X12_knowers_4 t x1 M FU x2 x3).bind f9 = some b9) : EW X g (x_s X).heap.size n 4 (ent g Xo kd M) 0 0 4 [(0, .ref (g_N g + t)), (1, .int x1), (2, .int x2), (3, .int x3)] [] := by
  obtain ⟨q, hq, h⟩ := ob h
  exact l_X12_knowers_4 C K ht hR (OK := fun q => f9 q = some b9) hx FU x2 x3 q hq h
set_option maxRecDepth 20000 in
theorem c_X12_knowers {g : WC} {Xo : Nat → va_E} {n : Nat} {kd : Nat → Nat} (K : KD n kd) {t : Nat} {p0 : Int32} (ht : kd t = 13) {M : Mem} {res : Int32} (h : F_X12_knowers t p0 M = some res) : MC g yX12_knowers cX12_knowers 4 (some .int) 1 n [.ref (g_N g + t), .int p0] (ent g Xo kd M) (some (.int res)) (ent g Xo kd M) := by
  refine MC_of pn_X12 (Nat.le_of_ble_eq_true rfl) (fun X C B => ?_)
  have hR := B.1
  rw [F_X12_knowers] at h
  refine e_iconst C 0 (dk dX12_knowers 0 rfl) (by decide) ?_
  refine e_istore_n C [(2, .int 0), (0, .ref (g_N g + t)), (1, .int p0)] (dk dX12_knowers 1 rfl) rfl (by decide) rfl ?_
  refine e_iconst C 0 (dk dX12_knowers 2 rfl) (by decide) ?_
  refine e_istore_n C [(3, .int 0), (2, .int 0), (0, .ref (g_N g + t)), (1, .int p0)] (dk dX12_knowers 3 rfl) rfl (by decide) rfl ?_
  refine e_lv [2, 3, 1, 0] rfl ?_
  refine lb_X12_knowers_4 C K ht hR (fun s6 h => ?_) h
  refine e_iload_n C 0 (dk dX12_knowers 27 rfl) rfl rfl ?_
  obtain rfl := Option.some.inj h
  exact e_iret C B (nar1 _) (dk dX12_knowers 28 rfl)
set_option maxRecDepth 20000 in
theorem j_X12_most_j14 {X : FX} {g : WC} {Xo : Nat → va_E} {n : Nat} {kd : Nat → Nat} (C : Cx X g RX12 cX12_most 6) (K : KD n kd) {t : Nat} (ht : kd t = 13) (hR : x_R X = rm 2) {M : Mem} {res : Int32 × Mem} (h : J_X12_most_j14 t M = some res) (B : Bx X g (some .int) 2 n (some (.int res.1)) (ent g Xo kd res.2)) : EW X g (x_s X).heap.size n 6 (ent g Xo kd M) 0 0 14 [(0, .ref (g_N g + t))] [] := by
  rw [J_X12_most_j14] at h
  refine e_aload_n C 0 (dk dX12_most 8 rfl) rfl rfl ?_
  refine e_iconst C 1 (dk dX12_most 9 rfl) (by decide) ?_
  refine e_callV (ci := 12) C cal_X12_fail im_X12_fail se_X12_fail ml_X12_318 rfl hR (by decide) (dk dX12_most 10 rfl) (K.1 _ (by rw [ht]; decide)) (ent_o12 ht) (c_X12_fail K ht (rfl : F_X12_fail t 1 M = _)) ⟨Nat.zero_le _, Nat.zero_le _⟩ (Nat.le_of_ble_eq_true rfl) rfl ?_
  obtain rfl := Option.some.inj h
  exact e_iret C B (nar1 _) (dk dX12_most 11 rfl)
set_option maxRecDepth 20000 in
theorem j_X12_most_j61 {X : FX} {g : WC} {Xo : Nat → va_E} {n : Nat} {kd : Nat → Nat} (C : Cx X g RX12 cX12_most 6) (K : KD n kd) {t : Nat} (ht : kd t = 13) {x1 : Int32} {M : Mem} (hR : x_R X = rm 2) {OK : Int32 → Prop} (hx : ∀ s, OK s → EW X g (x_s X).heap.size n 6 (ent g Xo kd M) 0 0 84 [(2, .int s)] []) {rec : Int32 → Int32 → Int32 → Option (Int32)} (hrec : ∀ (x2 : Int32) (x3 : Int32) (x4 : Int32) (q : Int32), rec x2 x3 x4 = some q → OK q → EW X g (x_s X).heap.size n 6 (ent g Xo kd M) 0 0 27 [(0, .ref (g_N g + t)), (1, .int x1), (2, .int x2), (3, .int x3), (4, .int x4)] []) {x2 : Int32} {x3 : Int32} {x4 : Int32} {y0 : Int32} (q : Int32) (h : J_X12_most_j61 t rec x1 x2 x3 x4 y0 M = some q) (hOK : OK q) : EW X g (x_s X).heap.size n 6 (ent g Xo kd M) 0 0 61 [(0, .ref (g_N g + t)), (1, .int x1), (2, .int x2), (3, .int x3), (4, .int x4)] [.int y0] := by
  rw [J_X12_most_j61] at h
  refine e_istore C [(5, .int y0), (0, .ref (g_N g + t)), (1, .int x1), (2, .int x2), (3, .int x3), (4, .int x4)] (dk dX12_most 35 rfl) (by decide) rfl ?_
  refine e_iload C 0 (dk dX12_most 36 rfl) rfl ?_
  refine e_iload_n C 4 (dk dX12_most 37 rfl) rfl rfl ?_
  refine e_icmp_gt C 72 (dk dX12_most 38 rfl) (by decide) (fun c6 => ?_) (fun c6 => ?_)
  · rw [if_pos c6] at h
    refine e_iload C 5 (dk dX12_most 40 rfl) rfl ?_
    refine e_istore_n C [(2, .int x4), (5, .int y0), (0, .ref (g_N g + t)), (1, .int x1), (3, .int x3), (4, .int x4)] (dk dX12_most 41 rfl) rfl (by decide) rfl ?_
    refine e_iload C 1 (dk dX12_most 42 rfl) rfl ?_
    refine e_istore_n C [(3, .int y0), (2, .int x4), (5, .int y0), (0, .ref (g_N g + t)), (1, .int x1), (4, .int x4)] (dk dX12_most 43 rfl) rfl (by decide) rfl ?_
    refine e_iinc C [(4, .int (x4 + 1)), (3, .int y0), (2, .int x4), (5, .int y0), (0, .ref (g_N g + t)), (1, .int x1)] 5 1 (dk dX12_most 44 rfl) rfl (by decide) (by decide) rfl ?_
    refine e_goto C 27 (dk dX12_most 45 rfl) (by decide) ?_
    refine e_lv [4, 5, 2, 1, 0] rfl ?_
    exact hrec _ _ _ _ h hOK
  · rw [if_neg c6] at h
    refine e_goto C 78 (dk dX12_most 39 rfl) (by decide) ?_
    refine e_iinc C [(4, .int (x4 + 1)), (5, .int y0), (0, .ref (g_N g + t)), (1, .int x1), (2, .int x2), (3, .int x3)] 5 1 (dk dX12_most 44 rfl) rfl (by decide) (by decide) rfl ?_
    refine e_goto C 27 (dk dX12_most 45 rfl) (by decide) ?_
    refine e_lv [2, 3, 4, 5, 0] rfl ?_
    exact hrec _ _ _ _ h hOK
set_option maxRecDepth 20000 in
theorem l_X12_most_27 {X : FX} {g : WC} {Xo : Nat → va_E} {n : Nat} {kd : Nat → Nat} (C : Cx X g RX12 cX12_most 6) (K : KD n kd) {t : Nat} (ht : kd t = 13) {x1 : Int32} {M : Mem} (hR : x_R X = rm 2) {OK : Int32 → Prop} (hx : ∀ s, OK s → EW X g (x_s X).heap.size n 6 (ent g Xo kd M) 0 0 84 [(2, .int s)] []) : ∀ (N9 : Nat) (x2 : Int32) (x3 : Int32) (x4 : Int32) (q : Int32), L_X12_most_27 t x1 M N9 x2 x3 x4 = some q → OK q → EW X g (x_s X).heap.size n 6 (ent g Xo kd M) 0 0 27 [(0, .ref (g_N g + t)), (1, .int x1), (2, .int x2), (3, .int x3), (4, .int x4)] [] := by
  intro N9
  induction N9 with
  | zero =>
    intro x2 x3 x4 q h
    rw [L_X12_most_27.eq_1] at h
    cases h
  | succ m9 ih =>
    intro x2 x3 x4 q h hOK
    rw [L_X12_most_27.eq_2] at h
    refine e_iload C 4 (dk dX12_most 18 rfl) rfl ?_
    refine e_aload_n C 0 (dk dX12_most 19 rfl) rfl rfl ?_
    refine gf_X12_told C K ht fl_X12_38 (dk dX12_most 20 rfl) ?_
    refine e_iconst C 3 (dk dX12_most 21 rfl) (by decide) ?_
    refine m_aldc C K (kd_X12_told K ht) 3 (dk dX12_most 22 rfl) (by decide) (by decide) ?_
    refine e_icmp_ge C 84 (dk dX12_most 23 rfl) (by decide) (fun c3 => ?_) (fun c3 => ?_)
    · rw [if_pos c3] at h
      obtain rfl := Option.some.inj h
      refine e_lv [2] rfl ?_
      exact hx _ hOK
    · rw [if_neg c3] at h
      refine e_iload_n C 1 (dk dX12_most 24 rfl) rfl rfl ?_
      refine e_if_ne C 54 (dk dX12_most 25 rfl) (by decide) (fun c4 => ?_) (fun c4 => ?_)
      · rw [if_neg c4] at h
        refine e_aload_n C 0 (dk dX12_most 31 rfl) rfl rfl ?_
        refine gf_X12_purse C K ht fl_X12_75 (dk dX12_most 32 rfl) ?_
        refine e_iload C 4 (dk dX12_most 33 rfl) rfl ?_
        obtain ⟨v5, hv5, h⟩ := ob h
        refine m_ald C K (kd_X12_purse K ht) (dk dX12_most 34 rfl) hv5 ?_
        exact j_X12_most_j61 C K ht hR hx ih _ h hOK
      · rw [if_pos c4] at h
        refine e_aload_n C 0 (dk dX12_most 26 rfl) rfl rfl ?_
        refine e_iload C 4 (dk dX12_most 27 rfl) rfl ?_
        obtain ⟨q7, hq7, h⟩ := ob h
        refine e_callV (ci := 12) C cal_X12_knowers im_X12_knowers se_X12_knowers ml_X12_456 rfl hR (by decide) (dk dX12_most 28 rfl) (K.1 _ (by rw [ht]; decide)) (ent_o12 ht) (c_X12_knowers K ht hq7) ⟨Nat.zero_le _, Nat.zero_le _⟩ (Nat.le_of_ble_eq_true rfl) rfl ?_
        obtain ⟨q8, hq8, h⟩ := ob h
        refine e_callS C cal_X12_bitsOf sm_X12_bitsOf ml_X12_366 hR (by decide) (dk dX12_most 29 rfl) (c_X12_bitsOf K hq8) ⟨Nat.zero_le _, Nat.zero_le _⟩ (Nat.le_of_ble_eq_true rfl) rfl ?_
        refine e_goto C 61 (dk dX12_most 30 rfl) (by decide) ?_
        exact j_X12_most_j61 C K ht hR hx ih _ h hOK
set_option maxRecDepth 20000 in
theorem lb_X12_most_27 {X : FX} {g : WC} {Xo : Nat → va_E} {n : Nat} {kd : Nat → Nat} (C : Cx X g RX12 cX12_most 6) (K : KD n kd) {t : Nat} (ht : kd t = 13) {x1 : Int32} {M : Mem} (hR : x_R X = rm 2) {T9 : Type} {f9 : Int32 → Option T9} {b9 : T9} (hx : ∀ s, f9 s = some b9 → EW X g (x_s X).heap.size n 6 (ent g Xo kd M) 0 0 84 [(2, .int s)] []) {x2 : Int32} {x3 : Int32} {x4 : Int32} (h : (L_X12_most_27 t x1 M FU x2 x3 x4).bind f9 = some b9) : EW X g (x_s X).heap.size n 6 (ent g Xo kd M) 0 0 27 [(0, .ref (g_N g + t)), (1, .int x1), (2, .int x2), (3, .int x3), (4, .int x4)] [] := by
  obtain ⟨q, hq, h⟩ := ob h
  exact l_X12_most_27 C K ht hR (OK := fun q => f9 q = some b9) hx FU x2 x3 x4 q hq h
set_option maxRecDepth 20000 in
theorem c_X12_most {g : WC} {Xo : Nat → va_E} {n : Nat} {kd : Nat → Nat} (K : KD n kd) {t : Nat} {p0 : Int32} (ht : kd t = 13) {M : Mem} {res : Int32 × Mem} (h : F_X12_most t p0 M = some res) : MC g yX12_most cX12_most 6 (some .int) 2 n [.ref (g_N g + t), .int p0] (ent g Xo kd M) (some (.int res.1)) (ent g Xo kd res.2) := by
  refine MC_of pn_X12 (Nat.le_of_ble_eq_true rfl) (fun X C B => ?_)
  have hR := B.1
  rw [F_X12_most] at h
  refine e_aload_n C 0 (dk dX12_most 0 rfl) rfl rfl ?_
  refine e_iconst C 0 (dk dX12_most 1 rfl) (by decide) ?_
  refine pf_X12_code C K ht fl_X12_156 (dk dX12_most 2 rfl) ?_
  refine e_iload_n C 1 (dk dX12_most 3 rfl) rfl rfl ?_
  refine e_if_lt C 14 (dk dX12_most 4 rfl) (by decide) (fun c1 => ?_) (fun c1 => ?_)
  · rw [if_pos c1] at h
    refine e_lv [0] rfl ?_
    exact j_X12_most_j14 C K ht hR h B
  · rw [if_neg c1] at h
    refine e_iload_n C 1 (dk dX12_most 5 rfl) rfl rfl ?_
    refine e_iconst C 1 (dk dX12_most 6 rfl) (by decide) ?_
    refine e_icmp_le C 20 (dk dX12_most 7 rfl) (by decide) (fun c2 => ?_) (fun c2 => ?_)
    · rw [if_pos c2] at h
      refine e_iconst C (-1) (dk dX12_most 12 rfl) (by decide) ?_
      refine e_istore_n C [(2, .int (-1)), (0, .ref (g_N g + t)), (1, .int p0)] (dk dX12_most 13 rfl) rfl (by decide) rfl ?_
      refine e_iconst C (-1) (dk dX12_most 14 rfl) (by decide) ?_
      refine e_istore_n C [(3, .int (-1)), (2, .int (-1)), (0, .ref (g_N g + t)), (1, .int p0)] (dk dX12_most 15 rfl) rfl (by decide) rfl ?_
      refine e_iconst C 0 (dk dX12_most 16 rfl) (by decide) ?_
      refine e_istore C [(4, .int 0), (3, .int (-1)), (2, .int (-1)), (0, .ref (g_N g + t)), (1, .int p0)] (dk dX12_most 17 rfl) (by decide) rfl ?_
      refine e_lv [3, 4, 2, 1, 0] rfl ?_
      refine lb_X12_most_27 C K ht hR (fun s10 h => ?_) h
      refine e_iload_n C 0 (dk dX12_most 46 rfl) rfl rfl ?_
      obtain rfl := Option.some.inj h
      exact e_iret C B (nar1 _) (dk dX12_most 47 rfl)
    · rw [if_neg c2] at h
      refine e_lv [0] rfl ?_
      exact j_X12_most_j14 C K ht hR h B
set_option maxRecDepth 20000 in
theorem c_X12_unknown {g : WC} {Xo : Nat → va_E} {n : Nat} {kd : Nat → Nat} (K : KD n kd) {t : Nat} {p0 : Int32} (ht : kd t = 13) {M : Mem} {res : Int32 × Mem} (h : F_X12_unknown t p0 M = some res) : MC g yX12_unknown cX12_unknown 2 (some .int) 2 n [.ref (g_N g + t), .int p0] (ent g Xo kd M) (some (.int res.1)) (ent g Xo kd res.2) := by
  refine MC_of pn_X12 (Nat.le_of_ble_eq_true rfl) (fun X C B => ?_)
  have hR := B.1
  rw [F_X12_unknown] at h
  refine e_aload_n C 0 (dk dX12_unknown 0 rfl) rfl rfl ?_
  refine e_iconst C 0 (dk dX12_unknown 1 rfl) (by decide) ?_
  refine pf_X12_code C K ht fl_X12_156 (dk dX12_unknown 2 rfl) ?_
  refine e_aload_n C 0 (dk dX12_unknown 3 rfl) rfl rfl ?_
  refine e_iload_n C 1 (dk dX12_unknown 4 rfl) rfl rfl ?_
  refine e_callV (ci := 12) C cal_X12_isPerson im_X12_isPerson se_X12_isPerson ml_X12_399 rfl hR (by decide) (dk dX12_unknown 5 rfl) (K.1 _ (by rw [ht]; decide)) (ent_o12 ht) (c_X12_isPerson K ht (rfl : F_X12_isPerson t p0 (up M t 2 0) = _)) ⟨Nat.zero_le _, Nat.zero_le _⟩ (Nat.le_of_ble_eq_true rfl) rfl ?_
  refine e_if_eq C 40 (dk dX12_unknown 6 rfl) (by decide) (fun c1 => ?_) (fun c1 => ?_)
  · rw [if_pos c1] at h
    refine e_aload_n C 0 (dk dX12_unknown 28 rfl) rfl rfl ?_
    refine e_iconst C 1 (dk dX12_unknown 29 rfl) (by decide) ?_
    refine e_callV (ci := 12) C cal_X12_fail im_X12_fail se_X12_fail ml_X12_318 rfl hR (by decide) (dk dX12_unknown 30 rfl) (K.1 _ (by rw [ht]; decide)) (ent_o12 ht) (c_X12_fail K ht (rfl : F_X12_fail t 1 (up M t 2 0) = _)) ⟨Nat.zero_le _, Nat.zero_le _⟩ (Nat.le_of_ble_eq_true rfl) rfl ?_
    obtain rfl := Option.some.inj h
    exact e_iret C B (nar1 _) (dk dX12_unknown 31 rfl)
  · rw [if_neg c1] at h
    refine e_iconst C 1 (dk dX12_unknown 7 rfl) (by decide) ?_
    refine e_aload_n C 0 (dk dX12_unknown 8 rfl) rfl rfl ?_
    refine gf_X12_told C K ht fl_X12_38 (dk dX12_unknown 9 rfl) ?_
    refine e_iconst C 3 (dk dX12_unknown 10 rfl) (by decide) ?_
    refine m_aldc C K (kd_X12_told K ht) 3 (dk dX12_unknown 11 rfl) (by decide) (by decide) ?_
    refine e_ishl C (dk dX12_unknown 12 rfl) ?_
    refine e_iconst C 1 (dk dX12_unknown 13 rfl) (by decide) ?_
    refine e_isub C (dk dX12_unknown 14 rfl) ?_
    refine e_aload_n C 0 (dk dX12_unknown 15 rfl) rfl rfl ?_
    refine e_iload_n C 1 (dk dX12_unknown 16 rfl) rfl rfl ?_
    obtain ⟨q2, hq2, h⟩ := ob h
    refine e_callV (ci := 12) C cal_X12_knowers im_X12_knowers se_X12_knowers ml_X12_456 rfl hR (by decide) (dk dX12_unknown 17 rfl) (K.1 _ (by rw [ht]; decide)) (ent_o12 ht) (c_X12_knowers K ht hq2) ⟨Nat.zero_le _, Nat.zero_le _⟩ (Nat.le_of_ble_eq_true rfl) rfl ?_
    refine e_iconst C (-1) (dk dX12_unknown 18 rfl) (by decide) ?_
    refine e_ixor C (dk dX12_unknown 19 rfl) ?_
    refine e_iand C (dk dX12_unknown 20 rfl) ?_
    refine e_iconst C 1 (dk dX12_unknown 21 rfl) (by decide) ?_
    refine e_iload_n C 1 (dk dX12_unknown 22 rfl) rfl rfl ?_
    refine e_ishl C (dk dX12_unknown 23 rfl) ?_
    refine e_iconst C (-1) (dk dX12_unknown 24 rfl) (by decide) ?_
    refine e_ixor C (dk dX12_unknown 25 rfl) ?_
    refine e_iand C (dk dX12_unknown 26 rfl) ?_
    refine e_goto C 45 (dk dX12_unknown 27 rfl) (by decide) ?_
    obtain rfl := Option.some.inj h
    exact e_iret C B (nar1 _) (dk dX12_unknown 31 rfl)
set_option maxRecDepth 20000 in
theorem j_X12_tell_j40 {X : FX} {g : WC} {Xo : Nat → va_E} {n : Nat} {kd : Nat → Nat} (C : Cx X g RX12 cX12_tell 4) (K : KD n kd) {t : Nat} (ht : kd t = 13) (hR : x_R X = rm 2) {M : Mem} {res : Int32 × Mem} (h : J_X12_tell_j40 t M = some res) (B : Bx X g (some .int) 2 n (some (.int res.1)) (ent g Xo kd res.2)) : EW X g (x_s X).heap.size n 4 (ent g Xo kd M) 0 0 40 [(0, .ref (g_N g + t))] [] := by
  rw [J_X12_tell_j40] at h
  refine e_aload_n C 0 (dk dX12_tell 21 rfl) rfl rfl ?_
  refine e_iconst C 2 (dk dX12_tell 22 rfl) (by decide) ?_
  obtain ⟨q3, hq3, h⟩ := ob h
  refine e_callV (ci := 12) C cal_X12_refuse im_X12_refuse se_X12_refuse ml_X12_408 rfl hR (by decide) (dk dX12_tell 23 rfl) (K.1 _ (by rw [ht]; decide)) (ent_o12 ht) (c_X12_refuse K ht hq3) ⟨Nat.zero_le _, Nat.zero_le _⟩ (Nat.le_of_ble_eq_true rfl) rfl ?_
  obtain rfl := Option.some.inj h
  exact e_iret C B (nar1 _) (dk dX12_tell 24 rfl)
set_option maxRecDepth 20000 in
theorem c_X12_tell {g : WC} {Xo : Nat → va_E} {n : Nat} {kd : Nat → Nat} (K : KD n kd) {t : Nat} {p0 : Int32} {p1 : Int32} {p2 : Int32} (ht : kd t = 13) {M : Mem} {res : Int32 × Mem} (h : F_X12_tell t p0 p1 p2 M = some res) : MC g yX12_tell cX12_tell 4 (some .int) 2 n [.ref (g_N g + t), .int p0, .int p1, .int p2] (ent g Xo kd M) (some (.int res.1)) (ent g Xo kd res.2) := by
  refine MC_of pn_X12 (Nat.le_of_ble_eq_true rfl) (fun X C B => ?_)
  have hR := B.1
  rw [F_X12_tell] at h
  refine e_aload_n C 0 (dk dX12_tell 0 rfl) rfl rfl ?_
  refine e_iconst C 0 (dk dX12_tell 1 rfl) (by decide) ?_
  refine pf_X12_code C K ht fl_X12_156 (dk dX12_tell 2 rfl) ?_
  refine e_aload_n C 0 (dk dX12_tell 3 rfl) rfl rfl ?_
  refine e_iload_n C 1 (dk dX12_tell 4 rfl) rfl rfl ?_
  refine e_callV (ci := 12) C cal_X12_isPerson im_X12_isPerson se_X12_isPerson ml_X12_399 rfl hR (by decide) (dk dX12_tell 5 rfl) (K.1 _ (by rw [ht]; decide)) (ent_o12 ht) (c_X12_isPerson K ht (rfl : F_X12_isPerson t p0 (up M t 2 0) = _)) ⟨Nat.zero_le _, Nat.zero_le _⟩ (Nat.le_of_ble_eq_true rfl) rfl ?_
  refine e_if_ne C 19 (dk dX12_tell 6 rfl) (by decide) (fun c1 => ?_) (fun c1 => ?_)
  · rw [if_neg c1] at h
    refine e_aload_n C 0 (dk dX12_tell 11 rfl) rfl rfl ?_
    refine gf_X12_tellings C K ht fl_X12_342 (dk dX12_tell 12 rfl) ?_
    refine e_bipush C 8 (dk dX12_tell 13 rfl) (by decide) ?_
    refine e_icmp_eq C 40 (dk dX12_tell 14 rfl) (by decide) (fun c2 => ?_) (fun c2 => ?_)
    · rw [if_pos c2] at h
      refine e_lv [0] rfl ?_
      exact j_X12_tell_j40 C K ht hR h B
    · rw [if_neg c2] at h
      refine e_iload_n C 2 (dk dX12_tell 15 rfl) rfl rfl ?_
      refine e_i2l C (dk dX12_tell 16 rfl) ?_
      refine e_lconst C 1 (dk dX12_tell 17 rfl) (by decide) ?_
      refine e_ldc2 C kl_X12_459 (dk dX12_tell 18 rfl) ?_
      refine e_callS C cal_X12_isIn sm_X12_isIn ml_X12_159 hR (by decide) (dk dX12_tell 19 rfl) (c_X12_isIn K (rfl : F_X12_isIn p1.toInt64 1 12 = _)) ⟨Nat.zero_le _, Nat.zero_le _⟩ (Nat.le_of_ble_eq_true rfl) rfl ?_
      refine e_if_ne C 46 (dk dX12_tell 20 rfl) (by decide) (fun c4 => ?_) (fun c4 => ?_)
      · rw [if_neg c4] at h
        refine e_aload_n C 0 (dk dX12_tell 25 rfl) rfl rfl ?_
        refine gf_X12_toldPerson C K ht fl_X12_113 (dk dX12_tell 26 rfl) ?_
        refine e_aload_n C 0 (dk dX12_tell 27 rfl) rfl rfl ?_
        refine gf_X12_tellings C K ht fl_X12_342 (dk dX12_tell 28 rfl) ?_
        refine e_iload_n C 1 (dk dX12_tell 29 rfl) rfl rfl ?_
        obtain ⟨M5, hM5, h⟩ := ob h
        refine m_ast C K (kd_X12_toldPerson K ht) (dk dX12_tell 30 rfl) hM5 ?_
        refine e_aload_n C 0 (dk dX12_tell 31 rfl) rfl rfl ?_
        refine gf_X12_toldIn C K ht fl_X12_116 (dk dX12_tell 32 rfl) ?_
        refine e_aload_n C 0 (dk dX12_tell 33 rfl) rfl rfl ?_
        refine gf_X12_tellings C K ht fl_X12_342 (dk dX12_tell 34 rfl) ?_
        refine e_iload_n C 2 (dk dX12_tell 35 rfl) rfl rfl ?_
        obtain ⟨M6, hM6, h⟩ := ob h
        refine m_ast C K (kd_X12_toldIn K ht) (dk dX12_tell 36 rfl) hM6 ?_
        refine e_aload_n C 0 (dk dX12_tell 37 rfl) rfl rfl ?_
        refine gf_X12_toldSeen C K ht fl_X12_122 (dk dX12_tell 38 rfl) ?_
        refine e_aload_n C 0 (dk dX12_tell 39 rfl) rfl rfl ?_
        refine gf_X12_tellings C K ht fl_X12_342 (dk dX12_tell 40 rfl) ?_
        refine e_iload_n C 3 (dk dX12_tell 41 rfl) rfl rfl ?_
        obtain ⟨M7, hM7, h⟩ := ob h
        refine m_zst C K (kd_X12_toldSeen K ht) (dk dX12_tell 42 rfl) hM7 ?_
        refine e_aload_n C 0 (dk dX12_tell 43 rfl) rfl rfl ?_
        refine e_dup C (dk dX12_tell 44 rfl) rfl ?_
        refine gf_X12_tellings C K ht fl_X12_342 (dk dX12_tell 45 rfl) ?_
        refine e_iconst C 1 (dk dX12_tell 46 rfl) (by decide) ?_
        refine e_iadd C (dk dX12_tell 47 rfl) ?_
        refine pf_X12_tellings C K ht fl_X12_342 (dk dX12_tell 48 rfl) ?_
        refine e_aload_n C 0 (dk dX12_tell 49 rfl) rfl rfl ?_
        refine gf_X12_tellings C K ht fl_X12_342 (dk dX12_tell 50 rfl) ?_
        obtain rfl := Option.some.inj h
        exact e_iret C B (nar1 _) (dk dX12_tell 51 rfl)
      · rw [if_pos c4] at h
        refine e_lv [0] rfl ?_
        exact j_X12_tell_j40 C K ht hR h B
  · rw [if_pos c1] at h
    refine e_aload_n C 0 (dk dX12_tell 7 rfl) rfl rfl ?_
    refine e_iconst C 1 (dk dX12_tell 8 rfl) (by decide) ?_
    refine e_callV (ci := 12) C cal_X12_fail im_X12_fail se_X12_fail ml_X12_318 rfl hR (by decide) (dk dX12_tell 9 rfl) (K.1 _ (by rw [ht]; decide)) (ent_o12 ht) (c_X12_fail K ht (rfl : F_X12_fail t 1 (up M t 2 0) = _)) ⟨Nat.zero_le _, Nat.zero_le _⟩ (Nat.le_of_ble_eq_true rfl) rfl ?_
    obtain rfl := Option.some.inj h
    exact e_iret C B (nar1 _) (dk dX12_tell 10 rfl)
set_option maxRecDepth 20000 in
theorem l_X12_isAsTold_29 {X : FX} {g : WC} {Xo : Nat → va_E} {n : Nat} {kd : Nat → Nat} (C : Cx X g RX12 cX12_isAsTold 4) (K : KD n kd) {t : Nat} (ht : kd t = 13) {x2 : Int32} {M : Mem} (hR : x_R X = rm 5) {OK : Int32 → Prop} (hx : ∀ s, OK s → EW X g (x_s X).heap.size n 4 (ent g Xo kd M) 0 0 85 [(0, .ref (g_N g + t)), (1, .int s), (2, .int x2)] []) : ∀ (N9 : Nat) (x1 : Int32) (x3 : Int32) (q : Int32), L_X12_isAsTold_29 t x2 M N9 x1 x3 = some q → OK q → EW X g (x_s X).heap.size n 4 (ent g Xo kd M) 0 0 29 [(0, .ref (g_N g + t)), (1, .int x1), (2, .int x2), (3, .int x3)] [] := by
  intro N9
  induction N9 with
  | zero =>
    intro x1 x3 q h
    rw [L_X12_isAsTold_29.eq_1] at h
    cases h
  | succ m9 ih =>
    intro x1 x3 q h hOK
    rw [L_X12_isAsTold_29.eq_2] at h
    refine e_iload_n C 3 (dk dX12_isAsTold 18 rfl) rfl rfl ?_
    refine e_aload_n C 0 (dk dX12_isAsTold 19 rfl) rfl rfl ?_
    refine gf_X12_tellings C K ht fl_X12_342 (dk dX12_isAsTold 20 rfl) ?_
    refine e_icmp_ge C 85 (dk dX12_isAsTold 21 rfl) (by decide) (fun c5 => ?_) (fun c5 => ?_)
    · rw [if_pos c5] at h
      obtain rfl := Option.some.inj h
      refine e_lv [0, 1, 2] rfl ?_
      exact hx _ hOK
    · rw [if_neg c5] at h
      refine e_iload_n C 1 (dk dX12_isAsTold 22 rfl) rfl rfl ?_
      refine e_if_eq C 77 (dk dX12_isAsTold 23 rfl) (by decide) (fun c6 => ?_) (fun c6 => ?_)
      · rw [if_pos c6] at h
        refine e_iconst C 0 (dk dX12_isAsTold 44 rfl) (by decide) ?_
        refine e_istore_n C [(1, .int 0), (0, .ref (g_N g + t)), (2, .int x2), (3, .int x3)] (dk dX12_isAsTold 45 rfl) rfl (by decide) rfl ?_
        refine e_iinc C [(3, .int (x3 + 1)), (1, .int 0), (0, .ref (g_N g + t)), (2, .int x2)] 3 1 (dk dX12_isAsTold 46 rfl) rfl (by decide) (by decide) rfl ?_
        refine e_goto C 29 (dk dX12_isAsTold 47 rfl) (by decide) ?_
        refine e_lv [2, 1, 3, 0] rfl ?_
        exact ih _ _ _ h hOK
      · rw [if_neg c6] at h
        refine e_aload_n C 0 (dk dX12_isAsTold 24 rfl) rfl rfl ?_
        refine gf_X12_toldIn C K ht fl_X12_116 (dk dX12_isAsTold 25 rfl) ?_
        refine e_iload_n C 3 (dk dX12_isAsTold 26 rfl) rfl rfl ?_
        obtain ⟨v7, hv7, h⟩ := ob h
        refine m_ald C K (kd_X12_toldIn K ht) (dk dX12_isAsTold 27 rfl) hv7 ?_
        refine e_iload_n C 2 (dk dX12_isAsTold 28 rfl) rfl rfl ?_
        refine e_icmp_ne C 73 (dk dX12_isAsTold 29 rfl) (by decide) (fun c8 => ?_) (fun c8 => ?_)
        · rw [if_neg c8] at h
          refine e_iconst C 1 (dk dX12_isAsTold 42 rfl) (by decide) ?_
          refine e_goto C 78 (dk dX12_isAsTold 43 rfl) (by decide) ?_
          refine e_istore_n C [(1, .int 1), (0, .ref (g_N g + t)), (2, .int x2), (3, .int x3)] (dk dX12_isAsTold 45 rfl) rfl (by decide) rfl ?_
          refine e_iinc C [(3, .int (x3 + 1)), (1, .int 1), (0, .ref (g_N g + t)), (2, .int x2)] 3 1 (dk dX12_isAsTold 46 rfl) rfl (by decide) (by decide) rfl ?_
          refine e_goto C 29 (dk dX12_isAsTold 47 rfl) (by decide) ?_
          refine e_lv [2, 1, 3, 0] rfl ?_
          exact ih _ _ _ h hOK
        · rw [if_pos c8] at h
          refine e_aload_n C 0 (dk dX12_isAsTold 30 rfl) rfl rfl ?_
          refine gf_X12_lots C K ht fl_X12_364 (dk dX12_isAsTold 31 rfl) ?_
          refine e_aload_n C 0 (dk dX12_isAsTold 32 rfl) rfl rfl ?_
          refine gf_X12_toldPerson C K ht fl_X12_113 (dk dX12_isAsTold 33 rfl) ?_
          refine e_iload_n C 3 (dk dX12_isAsTold 34 rfl) rfl rfl ?_
          obtain ⟨v9, hv9, h⟩ := ob h
          refine m_ald C K (kd_X12_toldPerson K ht) (dk dX12_isAsTold 35 rfl) hv9 ?_
          refine e_callS C cal_X12_isOf sm_X12_isOf ml_X12_287 hR (by decide) (dk dX12_isAsTold 36 rfl) (c_X12_isOf K (rfl : F_X12_isOf (M t 39) v9 = _)) ⟨Nat.zero_le _, Nat.zero_le _⟩ (Nat.le_of_ble_eq_true rfl) rfl ?_
          refine e_aload_n C 0 (dk dX12_isAsTold 37 rfl) rfl rfl ?_
          refine gf_X12_toldSeen C K ht fl_X12_122 (dk dX12_isAsTold 38 rfl) ?_
          refine e_iload_n C 3 (dk dX12_isAsTold 39 rfl) rfl rfl ?_
          obtain ⟨v10, hv10, h⟩ := ob h
          refine m_zld C K (kd_X12_toldSeen K ht) (dk dX12_isAsTold 40 rfl) hv10 ?_
          refine e_icmp_ne C 77 (dk dX12_isAsTold 41 rfl) (by decide) (fun c11 => ?_) (fun c11 => ?_)
          · rw [if_neg c11] at h
            refine e_iconst C 0 (dk dX12_isAsTold 44 rfl) (by decide) ?_
            refine e_istore_n C [(1, .int 0), (0, .ref (g_N g + t)), (2, .int x2), (3, .int x3)] (dk dX12_isAsTold 45 rfl) rfl (by decide) rfl ?_
            refine e_iinc C [(3, .int (x3 + 1)), (1, .int 0), (0, .ref (g_N g + t)), (2, .int x2)] 3 1 (dk dX12_isAsTold 46 rfl) rfl (by decide) (by decide) rfl ?_
            refine e_goto C 29 (dk dX12_isAsTold 47 rfl) (by decide) ?_
            refine e_lv [2, 1, 3, 0] rfl ?_
            exact ih _ _ _ h hOK
          · rw [if_pos c11] at h
            refine e_iconst C 1 (dk dX12_isAsTold 42 rfl) (by decide) ?_
            refine e_goto C 78 (dk dX12_isAsTold 43 rfl) (by decide) ?_
            refine e_istore_n C [(1, .int 1), (0, .ref (g_N g + t)), (2, .int x2), (3, .int x3)] (dk dX12_isAsTold 45 rfl) rfl (by decide) rfl ?_
            refine e_iinc C [(3, .int (x3 + 1)), (1, .int 1), (0, .ref (g_N g + t)), (2, .int x2)] 3 1 (dk dX12_isAsTold 46 rfl) rfl (by decide) (by decide) rfl ?_
            refine e_goto C 29 (dk dX12_isAsTold 47 rfl) (by decide) ?_
            refine e_lv [2, 1, 3, 0] rfl ?_
            exact ih _ _ _ h hOK
set_option maxRecDepth 20000 in
theorem lb_X12_isAsTold_29 {X : FX} {g : WC} {Xo : Nat → va_E} {n : Nat} {kd : Nat → Nat} (C : Cx X g RX12 cX12_isAsTold 4) (K : KD n kd) {t : Nat} (ht : kd t = 13) {x2 : Int32} {M : Mem} (hR : x_R X = rm 5) {T9 : Type} {f9 : Int32 → Option T9} {b9 : T9} (hx : ∀ s, f9 s = some b9 → EW X g (x_s X).heap.size n 4 (ent g Xo kd M) 0 0 85 [(0, .ref (g_N g + t)), (1, .int s), (2, .int x2)] []) {x1 : Int32} {x3 : Int32} (h : (L_X12_isAsTold_29 t x2 M FU x1 x3).bind f9 = some b9) : EW X g (x_s X).heap.size n 4 (ent g Xo kd M) 0 0 29 [(0, .ref (g_N g + t)), (1, .int x1), (2, .int x2), (3, .int x3)] [] := by
  obtain ⟨q, hq, h⟩ := ob h
  exact l_X12_isAsTold_29 C K ht hR (OK := fun q => f9 q = some b9) hx FU x1 x3 q hq h
set_option maxRecDepth 20000 in
theorem l_X12_isAsTold_13 {X : FX} {g : WC} {Xo : Nat → va_E} {n : Nat} {kd : Nat → Nat} (C : Cx X g RX12 cX12_isAsTold 4) (K : KD n kd) {t : Nat} (ht : kd t = 13) (hR : x_R X = rm 5) {OK : Int32 × Mem → Prop} (hx : ∀ s, OK s → EW X g (x_s X).heap.size n 4 (ent g Xo kd s.2) 0 0 91 [(0, .ref (g_N g + t)), (1, .int s.1)] []) : ∀ (N9 : Nat) (x1 : Int32) (x2 : Int32) (M : Mem) (q : Int32 × Mem), L_X12_isAsTold_13 t N9 x1 x2 M = some q → OK q → EW X g (x_s X).heap.size n 4 (ent g Xo kd M) 0 0 13 [(0, .ref (g_N g + t)), (1, .int x1), (2, .int x2)] [] := by
  intro N9
  induction N9 with
  | zero =>
    intro x1 x2 M q h
    rw [L_X12_isAsTold_13.eq_1] at h
    cases h
  | succ m9 ih =>
    intro x1 x2 M q h hOK
    rw [L_X12_isAsTold_13.eq_2] at h
    refine e_iload_n C 2 (dk dX12_isAsTold 9 rfl) rfl rfl ?_
    refine e_bipush C 12 (dk dX12_isAsTold 10 rfl) (by decide) ?_
    refine e_icmp_gt C 91 (dk dX12_isAsTold 11 rfl) (by decide) (fun c2 => ?_) (fun c2 => ?_)
    · rw [if_pos c2] at h
      obtain rfl := Option.some.inj h
      refine e_lv [0, 1] rfl ?_
      exact hx _ hOK
    · rw [if_neg c2] at h
      refine e_iload_n C 1 (dk dX12_isAsTold 12 rfl) rfl rfl ?_
      refine e_if_eq C 91 (dk dX12_isAsTold 13 rfl) (by decide) (fun c3 => ?_) (fun c3 => ?_)
      · rw [if_pos c3] at h
        obtain rfl := Option.some.inj h
        refine e_lv [0, 1] rfl ?_
        exact hx _ hOK
      · rw [if_neg c3] at h
        refine e_aload_n C 0 (dk dX12_isAsTold 14 rfl) rfl rfl ?_
        obtain ⟨q4, hq4, h⟩ := ob h
        refine e_callV (ci := 12) C cal_X12_aNight im_X12_aNight se_X12_aNight ml_X12_390 rfl hR (by decide) (dk dX12_isAsTold 15 rfl) (K.1 _ (by rw [ht]; decide)) (ent_o12 ht) (c_X12_aNight K ht hq4) ⟨Nat.zero_le _, Nat.zero_le _⟩ (Nat.le_of_ble_eq_true rfl) rfl ?_
        refine e_iconst C 0 (dk dX12_isAsTold 16 rfl) (by decide) ?_
        refine e_istore_n C [(3, .int 0), (0, .ref (g_N g + t)), (1, .int x1), (2, .int x2)] (dk dX12_isAsTold 17 rfl) rfl (by decide) rfl ?_
        refine e_lv [1, 2, 3, 0] rfl ?_
        refine lb_X12_isAsTold_29 C K ht hR (fun s13 h => ?_) h
        refine e_iinc C [(2, .int (x2 + 1)), (0, .ref (g_N g + t)), (1, .int s13)] 2 1 (dk dX12_isAsTold 48 rfl) rfl (by decide) (by decide) rfl ?_
        refine e_goto C 13 (dk dX12_isAsTold 49 rfl) (by decide) ?_
        refine e_lv [1, 2, 0] rfl ?_
        exact ih _ _ _ _ h hOK
set_option maxRecDepth 20000 in
theorem lb_X12_isAsTold_13 {X : FX} {g : WC} {Xo : Nat → va_E} {n : Nat} {kd : Nat → Nat} (C : Cx X g RX12 cX12_isAsTold 4) (K : KD n kd) {t : Nat} (ht : kd t = 13) (hR : x_R X = rm 5) {T9 : Type} {f9 : Int32 × Mem → Option T9} {b9 : T9} (hx : ∀ s, f9 s = some b9 → EW X g (x_s X).heap.size n 4 (ent g Xo kd s.2) 0 0 91 [(0, .ref (g_N g + t)), (1, .int s.1)] []) {x1 : Int32} {x2 : Int32} {M : Mem} (h : (L_X12_isAsTold_13 t FU x1 x2 M).bind f9 = some b9) : EW X g (x_s X).heap.size n 4 (ent g Xo kd M) 0 0 13 [(0, .ref (g_N g + t)), (1, .int x1), (2, .int x2)] [] := by
  obtain ⟨q, hq, h⟩ := ob h
  exact l_X12_isAsTold_13 C K ht hR (OK := fun q => f9 q = some b9) hx FU x1 x2 M q hq h
set_option maxRecDepth 20000 in
theorem j_X12_isAsTold_j91 {X : FX} {g : WC} {Xo : Nat → va_E} {n : Nat} {kd : Nat → Nat} (C : Cx X g RX12 cX12_isAsTold 4) (K : KD n kd) {t : Nat} (ht : kd t = 13) (hR : x_R X = rm 5) {x1 : Int32} {M : Mem} {res : Bool × Mem} (h : J_X12_isAsTold_j91 t x1 M = some res) (B : Bx X g (some .boolean) 5 n (some (.int (bi res.1))) (ent g Xo kd res.2)) : EW X g (x_s X).heap.size n 4 (ent g Xo kd M) 0 0 91 [(0, .ref (g_N g + t)), (1, .int x1)] [] := by
  rw [J_X12_isAsTold_j91] at h
  refine e_aload_n C 0 (dk dX12_isAsTold 50 rfl) rfl rfl ?_
  refine e_aload_n C 0 (dk dX12_isAsTold 51 rfl) rfl rfl ?_
  refine gf_X12_rowTold C K ht fl_X12_119 (dk dX12_isAsTold 52 rfl) ?_
  refine e_iconst C 0 (dk dX12_isAsTold 53 rfl) (by decide) ?_
  obtain ⟨q16, hq16, h⟩ := ob h
  refine e_callV (ci := 12) C cal_X12_unpack im_X12_unpack se_X12_unpack ml_X12_425 rfl hR (by decide) (dk dX12_isAsTold 54 rfl) (K.1 _ (by rw [ht]; decide)) (ent_o12 ht) (c_X12_unpack K ht (kd_X12_rowTold K ht) hq16) ⟨Nat.zero_le _, Nat.zero_le _⟩ (Nat.le_of_ble_eq_true rfl) rfl ?_
  refine e_iload_n C 1 (dk dX12_isAsTold 55 rfl) rfl rfl ?_
  obtain ⟨b17, hb17, h⟩ := ob h
  rw [bgd_some hb17]
  obtain rfl := Option.some.inj h
  exact e_iret (v := bi b17) C B (nar_bi _) (dk dX12_isAsTold 56 rfl)
set_option maxRecDepth 20000 in
theorem c_X12_isAsTold {g : WC} {Xo : Nat → va_E} {n : Nat} {kd : Nat → Nat} (K : KD n kd) {t : Nat} (ht : kd t = 13) {M : Mem} {res : Bool × Mem} (h : F_X12_isAsTold t M = some res) : MC g yX12_isAsTold cX12_isAsTold 4 (some .boolean) 5 n [.ref (g_N g + t)] (ent g Xo kd M) (some (.int (bi res.1))) (ent g Xo kd res.2) := by
  refine MC_of pn_X12 (Nat.le_of_ble_eq_true rfl) (fun X C B => ?_)
  have hR := B.1
  rw [F_X12_isAsTold] at h
  refine e_aload_n C 0 (dk dX12_isAsTold 0 rfl) rfl rfl ?_
  refine e_aload_n C 0 (dk dX12_isAsTold 1 rfl) rfl rfl ?_
  refine gf_X12_rowTold C K ht fl_X12_119 (dk dX12_isAsTold 2 rfl) ?_
  refine e_iconst C 0 (dk dX12_isAsTold 3 rfl) (by decide) ?_
  obtain ⟨q1, hq1, h⟩ := ob h
  refine e_callV (ci := 12) C cal_X12_pack im_X12_pack se_X12_pack ml_X12_402 rfl hR (by decide) (dk dX12_isAsTold 4 rfl) (K.1 _ (by rw [ht]; decide)) (ent_o12 ht) (c_X12_pack K ht (kd_X12_rowTold K ht) hq1) ⟨Nat.zero_le _, Nat.zero_le _⟩ (Nat.le_of_ble_eq_true rfl) rfl ?_
  refine e_iconst C 1 (dk dX12_isAsTold 5 rfl) (by decide) ?_
  refine e_istore_n C [(1, .int 1), (0, .ref (g_N g + t))] (dk dX12_isAsTold 6 rfl) rfl (by decide) rfl ?_
  refine e_iconst C 1 (dk dX12_isAsTold 7 rfl) (by decide) ?_
  refine e_istore_n C [(2, .int 1), (1, .int 1), (0, .ref (g_N g + t))] (dk dX12_isAsTold 8 rfl) rfl (by decide) rfl ?_
  refine e_lv [2, 1, 0] rfl ?_
  refine lb_X12_isAsTold_13 C K ht hR (fun s15 h => ?_) h
  exact j_X12_isAsTold_j91 C K ht hR h B
set_option maxRecDepth 20000 in
theorem l_X12_tellFits_44 {X : FX} {g : WC} {Xo : Nat → va_E} {n : Nat} {kd : Nat → Nat} (C : Cx X g RX12 cX12_tellFits 5) (K : KD n kd) {t : Nat} (ht : kd t = 13) {x1 : Int32} {x2 : Int32} {x3 : Int32} (hR : x_R X = rm 6) {OK : Mem → Prop} (hx : ∀ s, OK s → EW X g (x_s X).heap.size n 5 (ent g Xo kd s) 0 0 121 [(0, .ref (g_N g + t)), (1, .int x1), (2, .int x2), (3, .int x3)] []) : ∀ (N9 : Nat) (x4 : Int32) (M : Mem) (q : Mem), L_X12_tellFits_44 t x1 x2 x3 N9 x4 M = some q → OK q → EW X g (x_s X).heap.size n 5 (ent g Xo kd M) 0 0 44 [(0, .ref (g_N g + t)), (1, .int x1), (2, .int x2), (3, .int x3), (4, .int x4)] [] := by
  intro N9
  induction N9 with
  | zero =>
    intro x4 M q h
    rw [L_X12_tellFits_44.eq_1] at h
    cases h
  | succ m9 ih =>
    intro x4 M q h hOK
    rw [L_X12_tellFits_44.eq_2] at h
    refine e_iload C 4 (dk dX12_tellFits_0 30 rfl) rfl ?_
    refine e_aload_n C 0 (dk dX12_tellFits_0 31 rfl) rfl rfl ?_
    refine gf_X12_told C K ht fl_X12_38 (dk dX12_tellFits_0 32 rfl) ?_
    refine e_iconst C 0 (dk dX12_tellFits_0 33 rfl) (by decide) ?_
    refine m_aldc C K (kd_X12_told K ht) 0 (dk dX12_tellFits_0 34 rfl) (by decide) (by decide) ?_
    refine e_icmp_ge C 121 (dk dX12_tellFits_0 35 rfl) (by decide) (fun c5 => ?_) (fun c5 => ?_)
    · rw [if_pos c5] at h
      obtain rfl := Option.some.inj h
      refine e_lv [0, 1, 2, 3] rfl ?_
      exact hx _ hOK
    · rw [if_neg c5] at h
      refine e_aload_n C 0 (dk dX12_tellFits_0 36 rfl) rfl rfl ?_
      refine gf_X12_walks C K ht fl_X12_80 (dk dX12_tellFits_0 37 rfl) ?_
      refine e_bipush C 6 (dk dX12_tellFits_0 38 rfl) (by decide) ?_
      refine e_iload_n C 1 (dk dX12_tellFits_0 39 rfl) rfl rfl ?_
      refine e_imul C (dk dX12_tellFits_0 40 rfl) ?_
      refine e_iload_n C 2 (dk dX12_tellFits_0 41 rfl) rfl rfl ?_
      refine e_iadd C (dk dX12_tellFits_0 42 rfl) ?_
      refine e_iload C 4 (dk dX12_tellFits_0 43 rfl) rfl ?_
      obtain ⟨M6, hM6, h⟩ := ob h
      refine m_ast C K (kd_X12_walks K ht) (dk dX12_tellFits_0 44 rfl) hM6 ?_
      refine e_iload C 4 (dk dX12_tellFits_0 45 rfl) rfl ?_
      refine e_iload_n C 3 (dk dX12_tellFits_0 46 rfl) rfl rfl ?_
      refine e_icmp_eq C 115 (dk dX12_tellFits_0 47 rfl) (by decide) (fun c7 => ?_) (fun c7 => ?_)
      · rw [if_pos c7] at h
        refine e_iinc C [(4, .int (x4 + 1)), (0, .ref (g_N g + t)), (1, .int x1), (2, .int x2), (3, .int x3)] 4 1 (dk dX12_tellFits_1 12 rfl) rfl (by decide) (by decide) rfl ?_
        refine e_goto C 44 (dk dX12_tellFits_1 13 rfl) (by decide) ?_
        refine e_lv [1, 2, 3, 4, 0] rfl ?_
        exact ih _ _ _ h hOK
      · rw [if_neg c7] at h
        refine e_aload_n C 0 (dk dX12_tellFits_0 48 rfl) rfl rfl ?_
        obtain ⟨q8, hq8, h⟩ := ob h
        refine e_callV (ci := 12) C cal_X12_isAsTold im_X12_isAsTold se_X12_isAsTold ml_X12_464 rfl hR (by decide) (dk dX12_tellFits_0 49 rfl) (K.1 _ (by rw [ht]; decide)) (ent_o12 ht) (c_X12_isAsTold K ht hq8) ⟨Nat.zero_le _, Nat.zero_le _⟩ (Nat.le_of_ble_eq_true rfl) rfl ?_
        refine e_if_ne C 84 (dk dX12_tellFits_0 50 rfl) (by decide) (fun c9 => ?_) (fun c9 => ?_)
        · rw [if_neg c9] at h
          refine e_aload_n C 0 (dk dX12_tellFits_0 52 rfl) rfl rfl ?_
          refine gf_X12_fits C K ht fl_X12_126 (dk dX12_tellFits_0 53 rfl) ?_
          refine e_aload_n C 0 (dk dX12_tellFits_0 54 rfl) rfl rfl ?_
          refine gf_X12_fitMany C K ht fl_X12_461 (dk dX12_tellFits_0 55 rfl) ?_
          refine e_bipush C 100 (dk dX12_tellFits_0 56 rfl) (by decide) ?_
          refine e_iload_n C 1 (dk dX12_tellFits_0 57 rfl) rfl rfl ?_
          refine e_imul C (dk dX12_tellFits_0 58 rfl) ?_
          refine e_bipush C 10 (dk dX12_tellFits_0 59 rfl) (by decide) ?_
          refine e_iload_n C 2 (dk dX12_tellFits_1 0 rfl) rfl rfl ?_
          refine e_imul C (dk dX12_tellFits_1 1 rfl) ?_
          refine e_iadd C (dk dX12_tellFits_1 2 rfl) ?_
          refine e_iload C 4 (dk dX12_tellFits_1 3 rfl) rfl ?_
          refine e_iadd C (dk dX12_tellFits_1 4 rfl) ?_
          obtain ⟨M10, hM10, h⟩ := ob h
          refine m_ast C K (kd_X12_fits K ht) (dk dX12_tellFits_1 5 rfl) hM10 ?_
          refine e_aload_n C 0 (dk dX12_tellFits_1 6 rfl) rfl rfl ?_
          refine e_dup C (dk dX12_tellFits_1 7 rfl) rfl ?_
          refine gf_X12_fitMany C K ht fl_X12_461 (dk dX12_tellFits_1 8 rfl) ?_
          refine e_iconst C 1 (dk dX12_tellFits_1 9 rfl) (by decide) ?_
          refine e_iadd C (dk dX12_tellFits_1 10 rfl) ?_
          refine pf_X12_fitMany C K ht fl_X12_461 (dk dX12_tellFits_1 11 rfl) ?_
          refine e_iinc C [(4, .int (x4 + 1)), (0, .ref (g_N g + t)), (1, .int x1), (2, .int x2), (3, .int x3)] 4 1 (dk dX12_tellFits_1 12 rfl) rfl (by decide) (by decide) rfl ?_
          refine e_goto C 44 (dk dX12_tellFits_1 13 rfl) (by decide) ?_
          refine e_lv [1, 2, 3, 4, 0] rfl ?_
          exact ih _ _ _ h hOK
        · rw [if_pos c9] at h
          refine e_goto C 115 (dk dX12_tellFits_0 51 rfl) (by decide) ?_
          refine e_iinc C [(4, .int (x4 + 1)), (0, .ref (g_N g + t)), (1, .int x1), (2, .int x2), (3, .int x3)] 4 1 (dk dX12_tellFits_1 12 rfl) rfl (by decide) (by decide) rfl ?_
          refine e_goto C 44 (dk dX12_tellFits_1 13 rfl) (by decide) ?_
          refine e_lv [1, 2, 3, 4, 0] rfl ?_
          exact ih _ _ _ h hOK
set_option maxRecDepth 20000 in
theorem lb_X12_tellFits_44 {X : FX} {g : WC} {Xo : Nat → va_E} {n : Nat} {kd : Nat → Nat} (C : Cx X g RX12 cX12_tellFits 5) (K : KD n kd) {t : Nat} (ht : kd t = 13) {x1 : Int32} {x2 : Int32} {x3 : Int32} (hR : x_R X = rm 6) {T9 : Type} {f9 : Mem → Option T9} {b9 : T9} (hx : ∀ s, f9 s = some b9 → EW X g (x_s X).heap.size n 5 (ent g Xo kd s) 0 0 121 [(0, .ref (g_N g + t)), (1, .int x1), (2, .int x2), (3, .int x3)] []) {x4 : Int32} {M : Mem} (h : (L_X12_tellFits_44 t x1 x2 x3 FU x4 M).bind f9 = some b9) : EW X g (x_s X).heap.size n 5 (ent g Xo kd M) 0 0 44 [(0, .ref (g_N g + t)), (1, .int x1), (2, .int x2), (3, .int x3), (4, .int x4)] [] := by
  obtain ⟨q, hq, h⟩ := ob h
  exact l_X12_tellFits_44 C K ht hR (OK := fun q => f9 q = some b9) hx FU x4 M q hq h
set_option maxRecDepth 20000 in
theorem l_X12_tellFits_19 {X : FX} {g : WC} {Xo : Nat → va_E} {n : Nat} {kd : Nat → Nat} (C : Cx X g RX12 cX12_tellFits 5) (K : KD n kd) {t : Nat} (ht : kd t = 13) {x1 : Int32} (hR : x_R X = rm 6) {OK : Mem → Prop} (hx : ∀ s, OK s → EW X g (x_s X).heap.size n 5 (ent g Xo kd s) 0 0 139 [(0, .ref (g_N g + t)), (1, .int x1)] []) : ∀ (N9 : Nat) (x2 : Int32) (M : Mem) (q : Mem), L_X12_tellFits_19 t x1 N9 x2 M = some q → OK q → EW X g (x_s X).heap.size n 5 (ent g Xo kd M) 0 0 19 [(0, .ref (g_N g + t)), (1, .int x1), (2, .int x2)] [] := by
  intro N9
  induction N9 with
  | zero =>
    intro x2 M q h
    rw [L_X12_tellFits_19.eq_1] at h
    cases h
  | succ m9 ih =>
    intro x2 M q h hOK
    rw [L_X12_tellFits_19.eq_2] at h
    refine e_iload_n C 2 (dk dX12_tellFits_0 13 rfl) rfl rfl ?_
    refine e_aload_n C 0 (dk dX12_tellFits_0 14 rfl) rfl rfl ?_
    refine gf_X12_places C K ht fl_X12_53 (dk dX12_tellFits_0 15 rfl) ?_
    refine e_iload_n C 1 (dk dX12_tellFits_0 16 rfl) rfl rfl ?_
    obtain ⟨v2, hv2, h⟩ := ob h
    refine m_ald C K (kd_X12_places K ht) (dk dX12_tellFits_0 17 rfl) hv2 ?_
    refine e_icmp_ge C 139 (dk dX12_tellFits_0 18 rfl) (by decide) (fun c3 => ?_) (fun c3 => ?_)
    · rw [if_pos c3] at h
      obtain rfl := Option.some.inj h
      refine e_lv [0, 1] rfl ?_
      exact hx _ hOK
    · rw [if_neg c3] at h
      refine e_aload_n C 0 (dk dX12_tellFits_0 19 rfl) rfl rfl ?_
      refine gf_X12_walks C K ht fl_X12_80 (dk dX12_tellFits_0 20 rfl) ?_
      refine e_bipush C 6 (dk dX12_tellFits_0 21 rfl) (by decide) ?_
      refine e_iload_n C 1 (dk dX12_tellFits_0 22 rfl) rfl rfl ?_
      refine e_imul C (dk dX12_tellFits_0 23 rfl) ?_
      refine e_iload_n C 2 (dk dX12_tellFits_0 24 rfl) rfl rfl ?_
      refine e_iadd C (dk dX12_tellFits_0 25 rfl) ?_
      obtain ⟨v4, hv4, h⟩ := ob h
      refine m_ald C K (kd_X12_walks K ht) (dk dX12_tellFits_0 26 rfl) hv4 ?_
      refine e_istore_n C [(3, .int v4), (0, .ref (g_N g + t)), (1, .int x1), (2, .int x2)] (dk dX12_tellFits_0 27 rfl) rfl (by decide) rfl ?_
      refine e_iconst C 0 (dk dX12_tellFits_0 28 rfl) (by decide) ?_
      refine e_istore C [(4, .int 0), (3, .int v4), (0, .ref (g_N g + t)), (1, .int x1), (2, .int x2)] (dk dX12_tellFits_0 29 rfl) (by decide) rfl ?_
      refine e_lv [2, 3, 4, 1, 0] rfl ?_
      refine lb_X12_tellFits_44 C K ht hR (fun s12 h => ?_) h
      refine e_aload_n C 0 (dk dX12_tellFits_1 14 rfl) rfl rfl ?_
      refine gf_X12_walks C K ht fl_X12_80 (dk dX12_tellFits_1 15 rfl) ?_
      refine e_bipush C 6 (dk dX12_tellFits_1 16 rfl) (by decide) ?_
      refine e_iload_n C 1 (dk dX12_tellFits_1 17 rfl) rfl rfl ?_
      refine e_imul C (dk dX12_tellFits_1 18 rfl) ?_
      refine e_iload_n C 2 (dk dX12_tellFits_1 19 rfl) rfl rfl ?_
      refine e_iadd C (dk dX12_tellFits_1 20 rfl) ?_
      refine e_iload_n C 3 (dk dX12_tellFits_1 21 rfl) rfl rfl ?_
      obtain ⟨M13, hM13, h⟩ := ob h
      refine m_ast C K (kd_X12_walks K ht) (dk dX12_tellFits_1 22 rfl) hM13 ?_
      refine e_iinc C [(2, .int (x2 + 1)), (0, .ref (g_N g + t)), (1, .int x1), (3, .int v4)] 2 1 (dk dX12_tellFits_1 23 rfl) rfl (by decide) (by decide) rfl ?_
      refine e_goto C 19 (dk dX12_tellFits_1 24 rfl) (by decide) ?_
      refine e_lv [1, 2, 0] rfl ?_
      exact ih _ _ _ h hOK
set_option maxRecDepth 20000 in
theorem lb_X12_tellFits_19 {X : FX} {g : WC} {Xo : Nat → va_E} {n : Nat} {kd : Nat → Nat} (C : Cx X g RX12 cX12_tellFits 5) (K : KD n kd) {t : Nat} (ht : kd t = 13) {x1 : Int32} (hR : x_R X = rm 6) {T9 : Type} {f9 : Mem → Option T9} {b9 : T9} (hx : ∀ s, f9 s = some b9 → EW X g (x_s X).heap.size n 5 (ent g Xo kd s) 0 0 139 [(0, .ref (g_N g + t)), (1, .int x1)] []) {x2 : Int32} {M : Mem} (h : (L_X12_tellFits_19 t x1 FU x2 M).bind f9 = some b9) : EW X g (x_s X).heap.size n 5 (ent g Xo kd M) 0 0 19 [(0, .ref (g_N g + t)), (1, .int x1), (2, .int x2)] [] := by
  obtain ⟨q, hq, h⟩ := ob h
  exact l_X12_tellFits_19 C K ht hR (OK := fun q => f9 q = some b9) hx FU x2 M q hq h
set_option maxRecDepth 20000 in
theorem l_X12_tellFits_7 {X : FX} {g : WC} {Xo : Nat → va_E} {n : Nat} {kd : Nat → Nat} (C : Cx X g RX12 cX12_tellFits 5) (K : KD n kd) {t : Nat} (ht : kd t = 13) (hR : x_R X = rm 6) {OK : Mem → Prop} (hx : ∀ s, OK s → EW X g (x_s X).heap.size n 5 (ent g Xo kd s) 0 0 145 [] []) : ∀ (N9 : Nat) (x1 : Int32) (M : Mem) (q : Mem), L_X12_tellFits_7 t N9 x1 M = some q → OK q → EW X g (x_s X).heap.size n 5 (ent g Xo kd M) 0 0 7 [(0, .ref (g_N g + t)), (1, .int x1)] [] := by
  intro N9
  induction N9 with
  | zero =>
    intro x1 M q h
    rw [L_X12_tellFits_7.eq_1] at h
    cases h
  | succ m9 ih =>
    intro x1 M q h hOK
    rw [L_X12_tellFits_7.eq_2] at h
    refine e_iload_n C 1 (dk dX12_tellFits_0 5 rfl) rfl rfl ?_
    refine e_aload_n C 0 (dk dX12_tellFits_0 6 rfl) rfl rfl ?_
    refine gf_X12_told C K ht fl_X12_38 (dk dX12_tellFits_0 7 rfl) ?_
    refine e_iconst C 3 (dk dX12_tellFits_0 8 rfl) (by decide) ?_
    refine m_aldc C K (kd_X12_told K ht) 3 (dk dX12_tellFits_0 9 rfl) (by decide) (by decide) ?_
    refine e_icmp_ge C 145 (dk dX12_tellFits_0 10 rfl) (by decide) (fun c1 => ?_) (fun c1 => ?_)
    · rw [if_pos c1] at h
      obtain rfl := Option.some.inj h
      refine e_lv [] rfl ?_
      exact hx _ hOK
    · rw [if_neg c1] at h
      refine e_iconst C 0 (dk dX12_tellFits_0 11 rfl) (by decide) ?_
      refine e_istore_n C [(2, .int 0), (0, .ref (g_N g + t)), (1, .int x1)] (dk dX12_tellFits_0 12 rfl) rfl (by decide) rfl ?_
      refine e_lv [1, 2, 0] rfl ?_
      refine lb_X12_tellFits_19 C K ht hR (fun s15 h => ?_) h
      refine e_iinc C [(1, .int (x1 + 1)), (0, .ref (g_N g + t))] 1 1 (dk dX12_tellFits_1 25 rfl) rfl (by decide) (by decide) rfl ?_
      refine e_goto C 7 (dk dX12_tellFits_1 26 rfl) (by decide) ?_
      refine e_lv [1, 0] rfl ?_
      exact ih _ _ _ h hOK
set_option maxRecDepth 20000 in
theorem lb_X12_tellFits_7 {X : FX} {g : WC} {Xo : Nat → va_E} {n : Nat} {kd : Nat → Nat} (C : Cx X g RX12 cX12_tellFits 5) (K : KD n kd) {t : Nat} (ht : kd t = 13) (hR : x_R X = rm 6) {T9 : Type} {f9 : Mem → Option T9} {b9 : T9} (hx : ∀ s, f9 s = some b9 → EW X g (x_s X).heap.size n 5 (ent g Xo kd s) 0 0 145 [] []) {x1 : Int32} {M : Mem} (h : (L_X12_tellFits_7 t FU x1 M).bind f9 = some b9) : EW X g (x_s X).heap.size n 5 (ent g Xo kd M) 0 0 7 [(0, .ref (g_N g + t)), (1, .int x1)] [] := by
  obtain ⟨q, hq, h⟩ := ob h
  exact l_X12_tellFits_7 C K ht hR (OK := fun q => f9 q = some b9) hx FU x1 M q hq h
set_option maxRecDepth 20000 in
theorem c_X12_tellFits {g : WC} {Xo : Nat → va_E} {n : Nat} {kd : Nat → Nat} (K : KD n kd) {t : Nat} (ht : kd t = 13) {M : Mem} {res : Mem} (h : F_X12_tellFits t M = some res) : MC g yX12_tellFits cX12_tellFits 5 none 6 n [.ref (g_N g + t)] (ent g Xo kd M) none (ent g Xo kd res) := by
  refine MC_of pn_X12 (Nat.le_of_ble_eq_true rfl) (fun X C B => ?_)
  have hR := B.1
  rw [F_X12_tellFits] at h
  refine e_aload_n C 0 (dk dX12_tellFits_0 0 rfl) rfl rfl ?_
  refine e_iconst C 0 (dk dX12_tellFits_0 1 rfl) (by decide) ?_
  refine pf_X12_fitMany C K ht fl_X12_461 (dk dX12_tellFits_0 2 rfl) ?_
  refine e_iconst C 0 (dk dX12_tellFits_0 3 rfl) (by decide) ?_
  refine e_istore_n C [(1, .int 0), (0, .ref (g_N g + t))] (dk dX12_tellFits_0 4 rfl) rfl (by decide) rfl ?_
  refine e_lv [1, 0] rfl ?_
  refine lb_X12_tellFits_7 C K ht hR (fun s17 h => ?_) h
  obtain rfl := Option.some.inj h
  exact e_vret C B (dk dX12_tellFits_1 27 rfl)
set_option maxRecDepth 20000 in
theorem c_X12_otherwise {g : WC} {Xo : Nat → va_E} {n : Nat} {kd : Nat → Nat} (K : KD n kd) {t : Nat} {p0 : Int32} (ht : kd t = 13) {M : Mem} {res : Int32 × Mem} (h : F_X12_otherwise t p0 M = some res) : MC g yX12_otherwise cX12_otherwise 2 (some .int) 7 n [.ref (g_N g + t), .int p0] (ent g Xo kd M) (some (.int res.1)) (ent g Xo kd res.2) := by
  refine MC_of pn_X12 (Nat.le_of_ble_eq_true rfl) (fun X C B => ?_)
  have hR := B.1
  rw [F_X12_otherwise] at h
  refine e_aload_n C 0 (dk dX12_otherwise 0 rfl) rfl rfl ?_
  refine e_iconst C 0 (dk dX12_otherwise 1 rfl) (by decide) ?_
  refine pf_X12_code C K ht fl_X12_156 (dk dX12_otherwise 2 rfl) ?_
  refine e_iload_n C 1 (dk dX12_otherwise 3 rfl) rfl rfl ?_
  refine e_i2l C (dk dX12_otherwise 4 rfl) ?_
  refine e_lconst C 0 (dk dX12_otherwise 5 rfl) (by decide) ?_
  refine e_ldc2 C kl_X12_468 (dk dX12_otherwise 6 rfl) ?_
  refine e_callS C cal_X12_isIn sm_X12_isIn ml_X12_159 hR (by decide) (dk dX12_otherwise 7 rfl) (c_X12_isIn K (rfl : F_X12_isIn p0.toInt64 0 2 = _)) ⟨Nat.zero_le _, Nat.zero_le _⟩ (Nat.le_of_ble_eq_true rfl) rfl ?_
  refine e_if_ne C 23 (dk dX12_otherwise 8 rfl) (by decide) (fun c1 => ?_) (fun c1 => ?_)
  · rw [if_neg c1] at h
    refine e_iload_n C 1 (dk dX12_otherwise 13 rfl) rfl rfl ?_
    refine e_iconst C 2 (dk dX12_otherwise 14 rfl) (by decide) ?_
    refine e_icmp_ne C 41 (dk dX12_otherwise 15 rfl) (by decide) (fun c2 => ?_) (fun c2 => ?_)
    · rw [if_neg c2] at h
      refine e_aload_n C 0 (dk dX12_otherwise 23 rfl) rfl rfl ?_
      obtain ⟨q3, hq3, h⟩ := ob h
      refine e_callV (ci := 12) C cal_X12_tellFits im_X12_tellFits se_X12_tellFits ml_X12_470 rfl hR (by decide) (dk dX12_otherwise 24 rfl) (K.1 _ (by rw [ht]; decide)) (ent_o12 ht) (c_X12_tellFits K ht hq3) ⟨Nat.zero_le _, Nat.zero_le _⟩ (Nat.le_of_ble_eq_true rfl) rfl ?_
      refine e_iload_n C 1 (dk dX12_otherwise 25 rfl) rfl rfl ?_
      refine e_if_ne C 56 (dk dX12_otherwise 26 rfl) (by decide) (fun c4 => ?_) (fun c4 => ?_)
      · rw [if_neg c4] at h
        refine e_aload_n C 0 (dk dX12_otherwise 30 rfl) rfl rfl ?_
        refine gf_X12_fitMany C K ht fl_X12_461 (dk dX12_otherwise 31 rfl) ?_
        refine e_if_ne C 67 (dk dX12_otherwise 32 rfl) (by decide) (fun c5 => ?_) (fun c5 => ?_)
        · rw [if_neg c5] at h
          refine e_aload_n C 0 (dk dX12_otherwise 35 rfl) rfl rfl ?_
          refine gf_X12_fits C K ht fl_X12_126 (dk dX12_otherwise 36 rfl) ?_
          refine e_iconst C 0 (dk dX12_otherwise 37 rfl) (by decide) ?_
          refine m_aldc C K (kd_X12_fits K ht) 0 (dk dX12_otherwise 38 rfl) (by decide) (by decide) ?_
          obtain rfl := Option.some.inj h
          exact e_iret C B (nar1 _) (dk dX12_otherwise 39 rfl)
        · rw [if_pos c5] at h
          refine e_iconst C (-1) (dk dX12_otherwise 33 rfl) (by decide) ?_
          refine e_goto C 73 (dk dX12_otherwise 34 rfl) (by decide) ?_
          obtain rfl := Option.some.inj h
          exact e_iret C B (nar1 _) (dk dX12_otherwise 39 rfl)
      · rw [if_pos c4] at h
        refine e_aload_n C 0 (dk dX12_otherwise 27 rfl) rfl rfl ?_
        refine gf_X12_fitMany C K ht fl_X12_461 (dk dX12_otherwise 28 rfl) ?_
        refine e_goto C 73 (dk dX12_otherwise 29 rfl) (by decide) ?_
        obtain rfl := Option.some.inj h
        exact e_iret C B (nar1 _) (dk dX12_otherwise 39 rfl)
    · rw [if_pos c2] at h
      refine e_aload_n C 0 (dk dX12_otherwise 16 rfl) rfl rfl ?_
      obtain ⟨q6, hq6, h⟩ := ob h
      refine e_callV (ci := 12) C cal_X12_isAsTold im_X12_isAsTold se_X12_isAsTold ml_X12_464 rfl hR (by decide) (dk dX12_otherwise 17 rfl) (K.1 _ (by rw [ht]; decide)) (ent_o12 ht) (c_X12_isAsTold K ht hq6) ⟨Nat.zero_le _, Nat.zero_le _⟩ (Nat.le_of_ble_eq_true rfl) rfl ?_
      suffices hm8 : EW X g (x_s X).heap.size n 2 (ent g Xo kd q6.2) 0 0 40 [(0, .ref (g_N g + t)), (1, .int p0)] [.int (if (bi q6.1) = 0 then (0 : Int32) else (1 : Int32))] from (by
        refine e_if_eq C 39 (dk dX12_otherwise 18 rfl) (by decide) (fun c7 => ?_) (fun c7 => ?_)
        · rw [show (if (bi q6.1) = 0 then (0 : Int32) else (1 : Int32)) = (0 : Int32) from if_pos c7] at hm8
          refine e_iconst C 0 (dk dX12_otherwise 21 rfl) (by decide) ?_
          exact hm8
        · rw [show (if (bi q6.1) = 0 then (0 : Int32) else (1 : Int32)) = (1 : Int32) from if_neg c7] at hm8
          refine e_iconst C 1 (dk dX12_otherwise 19 rfl) (by decide) ?_
          refine e_goto C 40 (dk dX12_otherwise 20 rfl) (by decide) ?_
          exact hm8)
      obtain rfl := Option.some.inj h
      exact e_iret C B (nar1 _) (dk dX12_otherwise 22 rfl)
  · rw [if_pos c1] at h
    refine e_aload_n C 0 (dk dX12_otherwise 9 rfl) rfl rfl ?_
    refine e_iconst C 1 (dk dX12_otherwise 10 rfl) (by decide) ?_
    refine e_callV (ci := 12) C cal_X12_fail im_X12_fail se_X12_fail ml_X12_318 rfl hR (by decide) (dk dX12_otherwise 11 rfl) (K.1 _ (by rw [ht]; decide)) (ent_o12 ht) (c_X12_fail K ht (rfl : F_X12_fail t 1 (up M t 2 0) = _)) ⟨Nat.zero_le _, Nat.zero_le _⟩ (Nat.le_of_ble_eq_true rfl) rfl ?_
    obtain rfl := Option.some.inj h
    exact e_iret C B (nar1 _) (dk dX12_otherwise 12 rfl)
set_option maxRecDepth 20000 in
theorem l_X12_unlike_18 {X : FX} {g : WC} {Xo : Nat → va_E} {n : Nat} {kd : Nat → Nat} (C : Cx X g RX12 cX12_unlike 6) (K : KD n kd) {t : Nat} (ht : kd t = 13) {x1 : Int32} {x2 : Int32} {x3 : Int32} {M : Mem} (hR : x_R X = rm 0) {OK : Int32 → Prop} (hx : ∀ s, OK s → EW X g (x_s X).heap.size n 6 (ent g Xo kd M) 0 0 68 [(0, .ref (g_N g + t)), (1, .int x1), (2, .int x2), (3, .int x3), (4, .int s)] []) : ∀ (N9 : Nat) (x4 : Int32) (x5 : Int32) (q : Int32), L_X12_unlike_18 t x1 x2 x3 M N9 x4 x5 = some q → OK q → EW X g (x_s X).heap.size n 6 (ent g Xo kd M) 0 0 18 [(0, .ref (g_N g + t)), (1, .int x1), (2, .int x2), (3, .int x3), (4, .int x4), (5, .int x5)] [] := by
  intro N9
  induction N9 with
  | zero =>
    intro x4 x5 q h
    rw [L_X12_unlike_18.eq_1] at h
    cases h
  | succ m9 ih =>
    intro x4 x5 q h hOK
    rw [L_X12_unlike_18.eq_2] at h
    refine e_iload C 5 (dk dX12_unlike 12 rfl) rfl ?_
    refine e_iload_n C 3 (dk dX12_unlike 13 rfl) rfl rfl ?_
    refine e_icmp_ge C 68 (dk dX12_unlike 14 rfl) (by decide) (fun c2 => ?_) (fun c2 => ?_)
    · rw [if_pos c2] at h
      obtain rfl := Option.some.inj h
      refine e_lv [0, 1, 2, 3, 4] rfl ?_
      exact hx _ hOK
    · rw [if_neg c2] at h
      refine e_iload C 4 (dk dX12_unlike 15 rfl) rfl ?_
      refine e_if_eq C 68 (dk dX12_unlike 16 rfl) (by decide) (fun c3 => ?_) (fun c3 => ?_)
      · rw [if_pos c3] at h
        obtain rfl := Option.some.inj h
        refine e_lv [0, 1, 2, 3, 4] rfl ?_
        exact hx _ hOK
      · rw [if_neg c3] at h
        refine e_aload_n C 0 (dk dX12_unlike 17 rfl) rfl rfl ?_
        refine gf_X12_lotsThen C K ht fl_X12_129 (dk dX12_unlike 18 rfl) ?_
        refine e_bipush C 12 (dk dX12_unlike 19 rfl) (by decide) ?_
        refine e_iload C 5 (dk dX12_unlike 20 rfl) rfl ?_
        refine e_imul C (dk dX12_unlike 21 rfl) ?_
        refine e_iload_n C 1 (dk dX12_unlike 22 rfl) rfl rfl ?_
        refine e_iadd C (dk dX12_unlike 23 rfl) ?_
        obtain ⟨v4, hv4, h⟩ := ob h
        refine m_ald C K (kd_X12_lotsThen K ht) (dk dX12_unlike 24 rfl) hv4 ?_
        refine e_aload_n C 0 (dk dX12_unlike 25 rfl) rfl rfl ?_
        refine gf_X12_lotsThen C K ht fl_X12_129 (dk dX12_unlike 26 rfl) ?_
        refine e_bipush C 12 (dk dX12_unlike 27 rfl) (by decide) ?_
        refine e_iload_n C 3 (dk dX12_unlike 28 rfl) rfl rfl ?_
        refine e_imul C (dk dX12_unlike 29 rfl) ?_
        refine e_iload_n C 1 (dk dX12_unlike 30 rfl) rfl rfl ?_
        refine e_iadd C (dk dX12_unlike 31 rfl) ?_
        obtain ⟨v5, hv5, h⟩ := ob h
        refine m_ald C K (kd_X12_lotsThen K ht) (dk dX12_unlike 32 rfl) hv5 ?_
        suffices hm7 : EW X g (x_s X).heap.size n 6 (ent g Xo kd M) 0 0 60 [(0, .ref (g_N g + t)), (1, .int x1), (2, .int x2), (3, .int x3), (4, .int x4), (5, .int x5)] [.int (if v4 = v5 then (0 : Int32) else (1 : Int32))] from (by
          refine e_icmp_eq C 59 (dk dX12_unlike 33 rfl) (by decide) (fun c6 => ?_) (fun c6 => ?_)
          · rw [show (if v4 = v5 then (0 : Int32) else (1 : Int32)) = (0 : Int32) from if_pos c6] at hm7
            refine e_iconst C 0 (dk dX12_unlike 36 rfl) (by decide) ?_
            exact hm7
          · rw [show (if v4 = v5 then (0 : Int32) else (1 : Int32)) = (1 : Int32) from if_neg c6] at hm7
            refine e_iconst C 1 (dk dX12_unlike 34 rfl) (by decide) ?_
            refine e_goto C 60 (dk dX12_unlike 35 rfl) (by decide) ?_
            exact hm7)
        refine e_istore C [(4, .int (if v4 = v5 then (0 : Int32) else (1 : Int32))), (0, .ref (g_N g + t)), (1, .int x1), (2, .int x2), (3, .int x3), (5, .int x5)] (dk dX12_unlike 37 rfl) (by decide) rfl ?_
        refine e_iinc C [(5, .int (x5 + 1)), (4, .int (if v4 = v5 then (0 : Int32) else (1 : Int32))), (0, .ref (g_N g + t)), (1, .int x1), (2, .int x2), (3, .int x3)] 5 1 (dk dX12_unlike 38 rfl) rfl (by decide) (by decide) rfl ?_
        refine e_goto C 18 (dk dX12_unlike 39 rfl) (by decide) ?_
        refine e_lv [2, 3, 4, 5, 1, 0] rfl ?_
        exact ih _ _ _ h hOK
set_option maxRecDepth 20000 in
theorem lb_X12_unlike_18 {X : FX} {g : WC} {Xo : Nat → va_E} {n : Nat} {kd : Nat → Nat} (C : Cx X g RX12 cX12_unlike 6) (K : KD n kd) {t : Nat} (ht : kd t = 13) {x1 : Int32} {x2 : Int32} {x3 : Int32} {M : Mem} (hR : x_R X = rm 0) {T9 : Type} {f9 : Int32 → Option T9} {b9 : T9} (hx : ∀ s, f9 s = some b9 → EW X g (x_s X).heap.size n 6 (ent g Xo kd M) 0 0 68 [(0, .ref (g_N g + t)), (1, .int x1), (2, .int x2), (3, .int x3), (4, .int s)] []) {x4 : Int32} {x5 : Int32} (h : (L_X12_unlike_18 t x1 x2 x3 M FU x4 x5).bind f9 = some b9) : EW X g (x_s X).heap.size n 6 (ent g Xo kd M) 0 0 18 [(0, .ref (g_N g + t)), (1, .int x1), (2, .int x2), (3, .int x3), (4, .int x4), (5, .int x5)] [] := by
  obtain ⟨q, hq, h⟩ := ob h
  exact l_X12_unlike_18 C K ht hR (OK := fun q => f9 q = some b9) hx FU x4 x5 q hq h
set_option maxRecDepth 20000 in
theorem j_X12_unlike_j68 {X : FX} {g : WC} {Xo : Nat → va_E} {n : Nat} {kd : Nat → Nat} (C : Cx X g RX12 cX12_unlike 6) (K : KD n kd) {t : Nat} (ht : kd t = 13) {x1 : Int32} {M : Mem} (hR : x_R X = rm 0) {OK : Int32 → Prop} (hx : ∀ s, OK s → EW X g (x_s X).heap.size n 6 (ent g Xo kd M) 0 0 87 [(2, .int s)] []) {rec : Int32 → Int32 → Option (Int32)} (hrec : ∀ (x2 : Int32) (x3 : Int32) (q : Int32), rec x2 x3 = some q → OK q → EW X g (x_s X).heap.size n 6 (ent g Xo kd M) 0 0 4 [(0, .ref (g_N g + t)), (1, .int x1), (2, .int x2), (3, .int x3)] []) {x2 : Int32} {x3 : Int32} {x4 : Int32} (q : Int32) (h : J_X12_unlike_j68 t rec x1 x2 x3 x4 M = some q) (hOK : OK q) : EW X g (x_s X).heap.size n 6 (ent g Xo kd M) 0 0 68 [(0, .ref (g_N g + t)), (1, .int x1), (2, .int x2), (3, .int x3), (4, .int x4)] [] := by
  rw [J_X12_unlike_j68] at h
  refine e_iload_n C 2 (dk dX12_unlike 40 rfl) rfl rfl ?_
  refine e_iload C 4 (dk dX12_unlike 41 rfl) rfl ?_
  suffices hm11 : EW X g (x_s X).heap.size n 6 (ent g Xo kd M) 0 0 79 [(0, .ref (g_N g + t)), (1, .int x1), (2, .int x2), (3, .int x3), (4, .int x4)] [.int (if x4 = 0 then (0 : Int32) else (1 : Int32)), .int x2] from (by
    refine e_if_eq C 78 (dk dX12_unlike 42 rfl) (by decide) (fun c10 => ?_) (fun c10 => ?_)
    · rw [show (if x4 = 0 then (0 : Int32) else (1 : Int32)) = (0 : Int32) from if_pos c10] at hm11
      refine e_iconst C 0 (dk dX12_unlike 45 rfl) (by decide) ?_
      exact hm11
    · rw [show (if x4 = 0 then (0 : Int32) else (1 : Int32)) = (1 : Int32) from if_neg c10] at hm11
      refine e_iconst C 1 (dk dX12_unlike 43 rfl) (by decide) ?_
      refine e_goto C 79 (dk dX12_unlike 44 rfl) (by decide) ?_
      exact hm11)
  refine e_iadd C (dk dX12_unlike 46 rfl) ?_
  refine e_istore_n C [(2, .int (x2 + (if x4 = 0 then (0 : Int32) else (1 : Int32)))), (0, .ref (g_N g + t)), (1, .int x1), (3, .int x3), (4, .int x4)] (dk dX12_unlike 47 rfl) rfl (by decide) rfl ?_
  refine e_iinc C [(3, .int (x3 + 1)), (2, .int (x2 + (if x4 = 0 then (0 : Int32) else (1 : Int32)))), (0, .ref (g_N g + t)), (1, .int x1), (4, .int x4)] 3 1 (dk dX12_unlike 48 rfl) rfl (by decide) (by decide) rfl ?_
  refine e_goto C 4 (dk dX12_unlike 49 rfl) (by decide) ?_
  refine e_lv [2, 3, 1, 0] rfl ?_
  exact hrec _ _ _ h hOK
set_option maxRecDepth 20000 in
theorem l_X12_unlike_4 {X : FX} {g : WC} {Xo : Nat → va_E} {n : Nat} {kd : Nat → Nat} (C : Cx X g RX12 cX12_unlike 6) (K : KD n kd) {t : Nat} (ht : kd t = 13) {x1 : Int32} {M : Mem} (hR : x_R X = rm 0) {OK : Int32 → Prop} (hx : ∀ s, OK s → EW X g (x_s X).heap.size n 6 (ent g Xo kd M) 0 0 87 [(2, .int s)] []) : ∀ (N9 : Nat) (x2 : Int32) (x3 : Int32) (q : Int32), L_X12_unlike_4 t x1 M N9 x2 x3 = some q → OK q → EW X g (x_s X).heap.size n 6 (ent g Xo kd M) 0 0 4 [(0, .ref (g_N g + t)), (1, .int x1), (2, .int x2), (3, .int x3)] [] := by
  intro N9
  induction N9 with
  | zero =>
    intro x2 x3 q h
    rw [L_X12_unlike_4.eq_1] at h
    cases h
  | succ m9 ih =>
    intro x2 x3 q h hOK
    rw [L_X12_unlike_4.eq_2] at h
    refine e_iload_n C 3 (dk dX12_unlike 4 rfl) rfl rfl ?_
    refine e_aload_n C 0 (dk dX12_unlike 5 rfl) rfl rfl ?_
    refine gf_X12_fitMany C K ht fl_X12_461 (dk dX12_unlike 6 rfl) ?_
    refine e_icmp_ge C 87 (dk dX12_unlike 7 rfl) (by decide) (fun c1 => ?_) (fun c1 => ?_)
    · rw [if_pos c1] at h
      obtain rfl := Option.some.inj h
      refine e_lv [2] rfl ?_
      exact hx _ hOK
    · rw [if_neg c1] at h
      refine e_iconst C 1 (dk dX12_unlike 8 rfl) (by decide) ?_
      refine e_istore C [(4, .int 1), (0, .ref (g_N g + t)), (1, .int x1), (2, .int x2), (3, .int x3)] (dk dX12_unlike 9 rfl) (by decide) rfl ?_
      refine e_iconst C 0 (dk dX12_unlike 10 rfl) (by decide) ?_
      refine e_istore C [(5, .int 0), (4, .int 1), (0, .ref (g_N g + t)), (1, .int x1), (2, .int x2), (3, .int x3)] (dk dX12_unlike 11 rfl) (by decide) rfl ?_
      refine e_lv [2, 3, 4, 5, 1, 0] rfl ?_
      refine lb_X12_unlike_18 C K ht hR (fun s9 h => ?_) h
      exact j_X12_unlike_j68 C K ht hR hx ih _ h hOK
set_option maxRecDepth 20000 in
theorem lb_X12_unlike_4 {X : FX} {g : WC} {Xo : Nat → va_E} {n : Nat} {kd : Nat → Nat} (C : Cx X g RX12 cX12_unlike 6) (K : KD n kd) {t : Nat} (ht : kd t = 13) {x1 : Int32} {M : Mem} (hR : x_R X = rm 0) {T9 : Type} {f9 : Int32 → Option T9} {b9 : T9} (hx : ∀ s, f9 s = some b9 → EW X g (x_s X).heap.size n 6 (ent g Xo kd M) 0 0 87 [(2, .int s)] []) {x2 : Int32} {x3 : Int32} (h : (L_X12_unlike_4 t x1 M FU x2 x3).bind f9 = some b9) : EW X g (x_s X).heap.size n 6 (ent g Xo kd M) 0 0 4 [(0, .ref (g_N g + t)), (1, .int x1), (2, .int x2), (3, .int x3)] [] := by
  obtain ⟨q, hq, h⟩ := ob h
  exact l_X12_unlike_4 C K ht hR (OK := fun q => f9 q = some b9) hx FU x2 x3 q hq h
set_option maxRecDepth 20000 in
theorem c_X12_unlike {g : WC} {Xo : Nat → va_E} {n : Nat} {kd : Nat → Nat} (K : KD n kd) {t : Nat} {p0 : Int32} (ht : kd t = 13) {M : Mem} {res : Int32} (h : F_X12_unlike t p0 M = some res) : MC g yX12_unlike cX12_unlike 6 (some .int) 0 n [.ref (g_N g + t), .int p0] (ent g Xo kd M) (some (.int res)) (ent g Xo kd M) := by
  refine MC_of pn_X12 (Nat.le_of_ble_eq_true rfl) (fun X C B => ?_)
  have hR := B.1
  rw [F_X12_unlike] at h
  refine e_iconst C 0 (dk dX12_unlike 0 rfl) (by decide) ?_
  refine e_istore_n C [(2, .int 0), (0, .ref (g_N g + t)), (1, .int p0)] (dk dX12_unlike 1 rfl) rfl (by decide) rfl ?_
  refine e_iconst C 0 (dk dX12_unlike 2 rfl) (by decide) ?_
  refine e_istore_n C [(3, .int 0), (2, .int 0), (0, .ref (g_N g + t)), (1, .int p0)] (dk dX12_unlike 3 rfl) rfl (by decide) rfl ?_
  refine e_lv [2, 3, 1, 0] rfl ?_
  refine lb_X12_unlike_4 C K ht hR (fun s13 h => ?_) h
  refine e_iload_n C 0 (dk dX12_unlike 50 rfl) rfl rfl ?_
  obtain rfl := Option.some.inj h
  exact e_iret C B (nar1 _) (dk dX12_unlike 51 rfl)
set_option maxRecDepth 20000 in
theorem j_X12_look_j14 {X : FX} {g : WC} {Xo : Nat → va_E} {n : Nat} {kd : Nat → Nat} (C : Cx X g RX12 cX12_look 6) (K : KD n kd) {t : Nat} (ht : kd t = 13) (hR : x_R X = rm 7) {M : Mem} {res : Int32 × Mem} (h : J_X12_look_j14 t M = some res) (B : Bx X g (some .int) 7 n (some (.int res.1)) (ent g Xo kd res.2)) : EW X g (x_s X).heap.size n 6 (ent g Xo kd M) 0 0 14 [(0, .ref (g_N g + t))] [] := by
  rw [J_X12_look_j14] at h
  refine e_aload_n C 0 (dk dX12_look_0 8 rfl) rfl rfl ?_
  refine e_iconst C 1 (dk dX12_look_0 9 rfl) (by decide) ?_
  refine e_callV (ci := 12) C cal_X12_fail im_X12_fail se_X12_fail ml_X12_318 rfl hR (by decide) (dk dX12_look_0 10 rfl) (K.1 _ (by rw [ht]; decide)) (ent_o12 ht) (c_X12_fail K ht (rfl : F_X12_fail t 1 M = _)) ⟨Nat.zero_le _, Nat.zero_le _⟩ (Nat.le_of_ble_eq_true rfl) rfl ?_
  obtain rfl := Option.some.inj h
  exact e_iret C B (nar1 _) (dk dX12_look_0 11 rfl)
set_option maxRecDepth 20000 in
theorem l_X12_look_84 {X : FX} {g : WC} {Xo : Nat → va_E} {n : Nat} {kd : Nat → Nat} (C : Cx X g RX12 cX12_look 6) (K : KD n kd) {t : Nat} (ht : kd t = 13) {x1 : Int32} {x2 : Int32} (hR : x_R X = rm 7) {OK : Mem → Prop} (hx : ∀ s, OK s → EW X g (x_s X).heap.size n 6 (ent g Xo kd s) 0 0 115 [(0, .ref (g_N g + t)), (1, .int x1), (2, .int x2)] []) : ∀ (N9 : Nat) (x3 : Int32) (M : Mem) (q : Mem), L_X12_look_84 t x1 x2 N9 x3 M = some q → OK q → EW X g (x_s X).heap.size n 6 (ent g Xo kd M) 0 0 84 [(0, .ref (g_N g + t)), (1, .int x1), (2, .int x2), (3, .int x3)] [] := by
  intro N9
  induction N9 with
  | zero =>
    intro x3 M q h
    rw [L_X12_look_84.eq_1] at h
    cases h
  | succ m9 ih =>
    intro x3 M q h hOK
    rw [L_X12_look_84.eq_2] at h
    refine e_iload_n C 3 (dk dX12_look_0 53 rfl) rfl rfl ?_
    refine e_bipush C 12 (dk dX12_look_0 54 rfl) (by decide) ?_
    refine e_icmp_ge C 115 (dk dX12_look_0 55 rfl) (by decide) (fun c10 => ?_) (fun c10 => ?_)
    · rw [if_pos c10] at h
      obtain rfl := Option.some.inj h
      refine e_lv [0, 1, 2] rfl ?_
      exact hx _ hOK
    · rw [if_neg c10] at h
      refine e_aload_n C 0 (dk dX12_look_0 56 rfl) rfl rfl ?_
      obtain ⟨q11, hq11, h⟩ := ob h
      refine e_callV (ci := 12) C cal_X12_aNight im_X12_aNight se_X12_aNight ml_X12_390 rfl hR (by decide) (dk dX12_look_0 57 rfl) (K.1 _ (by rw [ht]; decide)) (ent_o12 ht) (c_X12_aNight K ht hq11) ⟨Nat.zero_le _, Nat.zero_le _⟩ (Nat.le_of_ble_eq_true rfl) rfl ?_
      refine e_aload_n C 0 (dk dX12_look_0 58 rfl) rfl rfl ?_
      refine gf_X12_lotsThen C K ht fl_X12_129 (dk dX12_look_0 59 rfl) ?_
      refine e_bipush C 12 (dk dX12_look_1 0 rfl) (by decide) ?_
      refine e_iload_n C 2 (dk dX12_look_1 1 rfl) rfl rfl ?_
      refine e_imul C (dk dX12_look_1 2 rfl) ?_
      refine e_iload_n C 3 (dk dX12_look_1 3 rfl) rfl rfl ?_
      refine e_iadd C (dk dX12_look_1 4 rfl) ?_
      refine e_aload_n C 0 (dk dX12_look_1 5 rfl) rfl rfl ?_
      refine gf_X12_lots C K ht fl_X12_364 (dk dX12_look_1 6 rfl) ?_
      obtain ⟨M12, hM12, h⟩ := ob h
      refine m_ast C K (kd_X12_lotsThen K ht) (dk dX12_look_1 7 rfl) hM12 ?_
      refine e_iinc C [(3, .int (x3 + 1)), (0, .ref (g_N g + t)), (1, .int x1), (2, .int x2)] 3 1 (dk dX12_look_1 8 rfl) rfl (by decide) (by decide) rfl ?_
      refine e_goto C 84 (dk dX12_look_1 9 rfl) (by decide) ?_
      refine e_lv [1, 2, 3, 0] rfl ?_
      exact ih _ _ _ h hOK
set_option maxRecDepth 20000 in
theorem lb_X12_look_84 {X : FX} {g : WC} {Xo : Nat → va_E} {n : Nat} {kd : Nat → Nat} (C : Cx X g RX12 cX12_look 6) (K : KD n kd) {t : Nat} (ht : kd t = 13) {x1 : Int32} {x2 : Int32} (hR : x_R X = rm 7) {T9 : Type} {f9 : Mem → Option T9} {b9 : T9} (hx : ∀ s, f9 s = some b9 → EW X g (x_s X).heap.size n 6 (ent g Xo kd s) 0 0 115 [(0, .ref (g_N g + t)), (1, .int x1), (2, .int x2)] []) {x3 : Int32} {M : Mem} (h : (L_X12_look_84 t x1 x2 FU x3 M).bind f9 = some b9) : EW X g (x_s X).heap.size n 6 (ent g Xo kd M) 0 0 84 [(0, .ref (g_N g + t)), (1, .int x1), (2, .int x2), (3, .int x3)] [] := by
  obtain ⟨q, hq, h⟩ := ob h
  exact l_X12_look_84 C K ht hR (OK := fun q => f9 q = some b9) hx FU x3 M q hq h
set_option maxRecDepth 20000 in
theorem l_X12_look_35 {X : FX} {g : WC} {Xo : Nat → va_E} {n : Nat} {kd : Nat → Nat} (C : Cx X g RX12 cX12_look 6) (K : KD n kd) {t : Nat} (ht : kd t = 13) {x1 : Int32} (hR : x_R X = rm 7) {OK : Mem → Prop} (hx : ∀ s, OK s → EW X g (x_s X).heap.size n 6 (ent g Xo kd s) 0 0 130 [(0, .ref (g_N g + t)), (1, .int x1)] []) : ∀ (N9 : Nat) (x2 : Int32) (M : Mem) (q : Mem), L_X12_look_35 t x1 N9 x2 M = some q → OK q → EW X g (x_s X).heap.size n 6 (ent g Xo kd M) 0 0 35 [(0, .ref (g_N g + t)), (1, .int x1), (2, .int x2)] [] := by
  intro N9
  induction N9 with
  | zero =>
    intro x2 M q h
    rw [L_X12_look_35.eq_1] at h
    cases h
  | succ m9 ih =>
    intro x2 M q h hOK
    rw [L_X12_look_35.eq_2] at h
    refine e_iload_n C 2 (dk dX12_look_0 21 rfl) rfl rfl ?_
    refine e_aload_n C 0 (dk dX12_look_0 22 rfl) rfl rfl ?_
    refine gf_X12_fitMany C K ht fl_X12_461 (dk dX12_look_0 23 rfl) ?_
    refine e_icmp_ge C 130 (dk dX12_look_0 24 rfl) (by decide) (fun c5 => ?_) (fun c5 => ?_)
    · rw [if_pos c5] at h
      obtain rfl := Option.some.inj h
      refine e_lv [0, 1] rfl ?_
      exact hx _ hOK
    · rw [if_neg c5] at h
      refine e_aload_n C 0 (dk dX12_look_0 25 rfl) rfl rfl ?_
      refine gf_X12_walks C K ht fl_X12_80 (dk dX12_look_0 26 rfl) ?_
      refine e_bipush C 6 (dk dX12_look_0 27 rfl) (by decide) ?_
      refine e_aload_n C 0 (dk dX12_look_0 28 rfl) rfl rfl ?_
      refine gf_X12_fits C K ht fl_X12_126 (dk dX12_look_0 29 rfl) ?_
      refine e_iload_n C 2 (dk dX12_look_0 30 rfl) rfl rfl ?_
      obtain ⟨v6, hv6, h⟩ := ob h
      refine m_ald C K (kd_X12_fits K ht) (dk dX12_look_0 31 rfl) hv6 ?_
      refine e_bipush C 100 (dk dX12_look_0 32 rfl) (by decide) ?_
      refine e_idiv C (dk dX12_look_0 33 rfl) (by decide) ?_
      refine e_imul C (dk dX12_look_0 34 rfl) ?_
      refine e_aload_n C 0 (dk dX12_look_0 35 rfl) rfl rfl ?_
      refine gf_X12_fits C K ht fl_X12_126 (dk dX12_look_0 36 rfl) ?_
      refine e_iload_n C 2 (dk dX12_look_0 37 rfl) rfl rfl ?_
      obtain ⟨v7, hv7, h⟩ := ob h
      refine m_ald C K (kd_X12_fits K ht) (dk dX12_look_0 38 rfl) hv7 ?_
      refine e_bipush C 10 (dk dX12_look_0 39 rfl) (by decide) ?_
      refine e_idiv C (dk dX12_look_0 40 rfl) (by decide) ?_
      refine e_bipush C 10 (dk dX12_look_0 41 rfl) (by decide) ?_
      refine e_irem C (dk dX12_look_0 42 rfl) (by decide) ?_
      refine e_iadd C (dk dX12_look_0 43 rfl) ?_
      refine e_aload_n C 0 (dk dX12_look_0 44 rfl) rfl rfl ?_
      refine gf_X12_fits C K ht fl_X12_126 (dk dX12_look_0 45 rfl) ?_
      refine e_iload_n C 2 (dk dX12_look_0 46 rfl) rfl rfl ?_
      obtain ⟨v8, hv8, h⟩ := ob h
      refine m_ald C K (kd_X12_fits K ht) (dk dX12_look_0 47 rfl) hv8 ?_
      refine e_bipush C 10 (dk dX12_look_0 48 rfl) (by decide) ?_
      refine e_irem C (dk dX12_look_0 49 rfl) (by decide) ?_
      obtain ⟨M9, hM9, h⟩ := ob h
      refine m_ast C K (kd_X12_walks K ht) (dk dX12_look_0 50 rfl) hM9 ?_
      refine e_iconst C 0 (dk dX12_look_0 51 rfl) (by decide) ?_
      refine e_istore_n C [(3, .int 0), (0, .ref (g_N g + t)), (1, .int x1), (2, .int x2)] (dk dX12_look_0 52 rfl) rfl (by decide) rfl ?_
      refine e_lv [1, 2, 3, 0] rfl ?_
      refine lb_X12_look_84 C K ht hR (fun s14 h => ?_) h
      refine e_aload_n C 0 (dk dX12_look_1 10 rfl) rfl rfl ?_
      refine e_aload_n C 0 (dk dX12_look_1 11 rfl) rfl rfl ?_
      refine gf_X12_rowThen C K ht fl_X12_104 (dk dX12_look_1 12 rfl) ?_
      refine e_iconst C 0 (dk dX12_look_1 13 rfl) (by decide) ?_
      obtain ⟨q15, hq15, h⟩ := ob h
      refine e_callV (ci := 12) C cal_X12_unpack im_X12_unpack se_X12_unpack ml_X12_425 rfl hR (by decide) (dk dX12_look_1 14 rfl) (K.1 _ (by rw [ht]; decide)) (ent_o12 ht) (c_X12_unpack K ht (kd_X12_rowThen K ht) hq15) ⟨Nat.zero_le _, Nat.zero_le _⟩ (Nat.le_of_ble_eq_true rfl) rfl ?_
      refine e_iinc C [(2, .int (x2 + 1)), (0, .ref (g_N g + t)), (1, .int x1)] 2 1 (dk dX12_look_1 15 rfl) rfl (by decide) (by decide) rfl ?_
      refine e_goto C 35 (dk dX12_look_1 16 rfl) (by decide) ?_
      refine e_lv [1, 2, 0] rfl ?_
      exact ih _ _ _ h hOK
set_option maxRecDepth 20000 in
theorem lb_X12_look_35 {X : FX} {g : WC} {Xo : Nat → va_E} {n : Nat} {kd : Nat → Nat} (C : Cx X g RX12 cX12_look 6) (K : KD n kd) {t : Nat} (ht : kd t = 13) {x1 : Int32} (hR : x_R X = rm 7) {T9 : Type} {f9 : Mem → Option T9} {b9 : T9} (hx : ∀ s, f9 s = some b9 → EW X g (x_s X).heap.size n 6 (ent g Xo kd s) 0 0 130 [(0, .ref (g_N g + t)), (1, .int x1)] []) {x2 : Int32} {M : Mem} (h : (L_X12_look_35 t x1 FU x2 M).bind f9 = some b9) : EW X g (x_s X).heap.size n 6 (ent g Xo kd M) 0 0 35 [(0, .ref (g_N g + t)), (1, .int x1), (2, .int x2)] [] := by
  obtain ⟨q, hq, h⟩ := ob h
  exact l_X12_look_35 C K ht hR (OK := fun q => f9 q = some b9) hx FU x2 M q hq h
set_option maxRecDepth 20000 in
theorem l_X12_look_137 {X : FX} {g : WC} {Xo : Nat → va_E} {n : Nat} {kd : Nat → Nat} (C : Cx X g RX12 cX12_look 6) (K : KD n kd) {t : Nat} (ht : kd t = 13) {x1 : Int32} {M : Mem} (hR : x_R X = rm 7) {OK : Int32 × Int32 → Prop} (hx : ∀ s, OK s → EW X g (x_s X).heap.size n 6 (ent g Xo kd M) 0 0 175 [(1, .int x1), (2, .int s.1), (3, .int s.2)] []) : ∀ (N9 : Nat) (x2 : Int32) (x3 : Int32) (x4 : Int32) (q : Int32 × Int32), L_X12_look_137 t x1 M N9 x2 x3 x4 = some q → OK q → EW X g (x_s X).heap.size n 6 (ent g Xo kd M) 0 0 137 [(0, .ref (g_N g + t)), (1, .int x1), (2, .int x2), (3, .int x3), (4, .int x4)] [] := by
  intro N9
  induction N9 with
  | zero =>
    intro x2 x3 x4 q h
    rw [L_X12_look_137.eq_1] at h
    cases h
  | succ m9 ih =>
    intro x2 x3 x4 q h hOK
    rw [L_X12_look_137.eq_2] at h
    refine e_iload C 4 (dk dX12_look_1 23 rfl) rfl ?_
    refine e_bipush C 12 (dk dX12_look_1 24 rfl) (by decide) ?_
    refine e_icmp_ge C 175 (dk dX12_look_1 25 rfl) (by decide) (fun c18 => ?_) (fun c18 => ?_)
    · rw [if_pos c18] at h
      obtain rfl := Option.some.inj h
      refine e_lv [1, 2, 3] rfl ?_
      exact hx _ hOK
    · rw [if_neg c18] at h
      refine e_aload_n C 0 (dk dX12_look_1 26 rfl) rfl rfl ?_
      refine e_iload C 4 (dk dX12_look_1 27 rfl) rfl ?_
      obtain ⟨q19, hq19, h⟩ := ob h
      refine e_callV (ci := 12) C cal_X12_unlike im_X12_unlike se_X12_unlike ml_X12_473 rfl hR (by decide) (dk dX12_look_1 28 rfl) (K.1 _ (by rw [ht]; decide)) (ent_o12 ht) (c_X12_unlike K ht hq19) ⟨Nat.zero_le _, Nat.zero_le _⟩ (Nat.le_of_ble_eq_true rfl) rfl ?_
      refine e_istore C [(5, .int q19), (0, .ref (g_N g + t)), (1, .int x1), (2, .int x2), (3, .int x3), (4, .int x4)] (dk dX12_look_1 29 rfl) (by decide) rfl ?_
      refine e_iload C 0 (dk dX12_look_1 30 rfl) rfl ?_
      refine e_iload_n C 4 (dk dX12_look_1 31 rfl) rfl rfl ?_
      refine e_icmp_gt C 161 (dk dX12_look_1 32 rfl) (by decide) (fun c20 => ?_) (fun c20 => ?_)
      · rw [if_pos c20] at h
        refine e_iload C 5 (dk dX12_look_1 34 rfl) rfl ?_
        refine e_iconst C 1 (dk dX12_look_1 35 rfl) (by decide) ?_
        refine e_iadd C (dk dX12_look_1 36 rfl) ?_
        refine e_istore_n C [(2, .int (x4 + 1)), (5, .int q19), (0, .ref (g_N g + t)), (1, .int x1), (3, .int x3), (4, .int x4)] (dk dX12_look_1 37 rfl) rfl (by decide) rfl ?_
        refine e_iload C 1 (dk dX12_look_1 38 rfl) rfl ?_
        refine e_istore_n C [(3, .int q19), (2, .int (x4 + 1)), (5, .int q19), (0, .ref (g_N g + t)), (1, .int x1), (4, .int x4)] (dk dX12_look_1 39 rfl) rfl (by decide) rfl ?_
        refine e_iinc C [(4, .int (x4 + 1)), (3, .int q19), (2, .int (x4 + 1)), (5, .int q19), (0, .ref (g_N g + t)), (1, .int x1)] 5 1 (dk dX12_look_1 40 rfl) rfl (by decide) (by decide) rfl ?_
        refine e_goto C 137 (dk dX12_look_1 41 rfl) (by decide) ?_
        refine e_lv [4, 5, 2, 1, 0] rfl ?_
        exact ih _ _ _ _ h hOK
      · rw [if_neg c20] at h
        refine e_goto C 169 (dk dX12_look_1 33 rfl) (by decide) ?_
        refine e_iinc C [(4, .int (x4 + 1)), (5, .int q19), (0, .ref (g_N g + t)), (1, .int x1), (2, .int x2), (3, .int x3)] 5 1 (dk dX12_look_1 40 rfl) rfl (by decide) (by decide) rfl ?_
        refine e_goto C 137 (dk dX12_look_1 41 rfl) (by decide) ?_
        refine e_lv [2, 3, 4, 5, 0] rfl ?_
        exact ih _ _ _ _ h hOK
set_option maxRecDepth 20000 in
theorem lb_X12_look_137 {X : FX} {g : WC} {Xo : Nat → va_E} {n : Nat} {kd : Nat → Nat} (C : Cx X g RX12 cX12_look 6) (K : KD n kd) {t : Nat} (ht : kd t = 13) {x1 : Int32} {M : Mem} (hR : x_R X = rm 7) {T9 : Type} {f9 : Int32 × Int32 → Option T9} {b9 : T9} (hx : ∀ s, f9 s = some b9 → EW X g (x_s X).heap.size n 6 (ent g Xo kd M) 0 0 175 [(1, .int x1), (2, .int s.1), (3, .int s.2)] []) {x2 : Int32} {x3 : Int32} {x4 : Int32} (h : (L_X12_look_137 t x1 M FU x2 x3 x4).bind f9 = some b9) : EW X g (x_s X).heap.size n 6 (ent g Xo kd M) 0 0 137 [(0, .ref (g_N g + t)), (1, .int x1), (2, .int x2), (3, .int x3), (4, .int x4)] [] := by
  obtain ⟨q, hq, h⟩ := ob h
  exact l_X12_look_137 C K ht hR (OK := fun q => f9 q = some b9) hx FU x2 x3 x4 q hq h
set_option maxRecDepth 20000 in
theorem c_X12_look {g : WC} {Xo : Nat → va_E} {n : Nat} {kd : Nat → Nat} (K : KD n kd) {t : Nat} {p0 : Int32} (ht : kd t = 13) {M : Mem} {res : Int32 × Mem} (h : F_X12_look t p0 M = some res) : MC g yX12_look cX12_look 6 (some .int) 7 n [.ref (g_N g + t), .int p0] (ent g Xo kd M) (some (.int res.1)) (ent g Xo kd res.2) := by
  refine MC_of pn_X12 (Nat.le_of_ble_eq_true rfl) (fun X C B => ?_)
  have hR := B.1
  rw [F_X12_look] at h
  refine e_aload_n C 0 (dk dX12_look_0 0 rfl) rfl rfl ?_
  refine e_iconst C 0 (dk dX12_look_0 1 rfl) (by decide) ?_
  refine pf_X12_code C K ht fl_X12_156 (dk dX12_look_0 2 rfl) ?_
  refine e_iload_n C 1 (dk dX12_look_0 3 rfl) rfl rfl ?_
  refine e_if_lt C 14 (dk dX12_look_0 4 rfl) (by decide) (fun c1 => ?_) (fun c1 => ?_)
  · rw [if_pos c1] at h
    refine e_lv [0] rfl ?_
    exact j_X12_look_j14 C K ht hR h B
  · rw [if_neg c1] at h
    refine e_iload_n C 1 (dk dX12_look_0 5 rfl) rfl rfl ?_
    refine e_iconst C 1 (dk dX12_look_0 6 rfl) (by decide) ?_
    refine e_icmp_le C 20 (dk dX12_look_0 7 rfl) (by decide) (fun c2 => ?_) (fun c2 => ?_)
    · rw [if_pos c2] at h
      refine e_aload_n C 0 (dk dX12_look_0 12 rfl) rfl rfl ?_
      obtain ⟨q3, hq3, h⟩ := ob h
      refine e_callV (ci := 12) C cal_X12_tellFits im_X12_tellFits se_X12_tellFits ml_X12_470 rfl hR (by decide) (dk dX12_look_0 13 rfl) (K.1 _ (by rw [ht]; decide)) (ent_o12 ht) (c_X12_tellFits K ht hq3) ⟨Nat.zero_le _, Nat.zero_le _⟩ (Nat.le_of_ble_eq_true rfl) rfl ?_
      refine e_aload_n C 0 (dk dX12_look_0 14 rfl) rfl rfl ?_
      refine e_aload_n C 0 (dk dX12_look_0 15 rfl) rfl rfl ?_
      refine gf_X12_rowThen C K ht fl_X12_104 (dk dX12_look_0 16 rfl) ?_
      refine e_iconst C 0 (dk dX12_look_0 17 rfl) (by decide) ?_
      obtain ⟨q4, hq4, h⟩ := ob h
      refine e_callV (ci := 12) C cal_X12_pack im_X12_pack se_X12_pack ml_X12_402 rfl hR (by decide) (dk dX12_look_0 18 rfl) (K.1 _ (by rw [ht]; decide)) (ent_o12 ht) (c_X12_pack K ht (kd_X12_rowThen K ht) hq4) ⟨Nat.zero_le _, Nat.zero_le _⟩ (Nat.le_of_ble_eq_true rfl) rfl ?_
      refine e_iconst C 0 (dk dX12_look_0 19 rfl) (by decide) ?_
      refine e_istore_n C [(2, .int 0), (0, .ref (g_N g + t)), (1, .int p0)] (dk dX12_look_0 20 rfl) rfl (by decide) rfl ?_
      refine e_lv [1, 2, 0] rfl ?_
      refine lb_X12_look_35 C K ht hR (fun s17 h => ?_) h
      refine e_iconst C (-1) (dk dX12_look_1 17 rfl) (by decide) ?_
      refine e_istore_n C [(2, .int (-1)), (0, .ref (g_N g + t)), (1, .int p0)] (dk dX12_look_1 18 rfl) rfl (by decide) rfl ?_
      refine e_iconst C 0 (dk dX12_look_1 19 rfl) (by decide) ?_
      refine e_istore_n C [(3, .int 0), (2, .int (-1)), (0, .ref (g_N g + t)), (1, .int p0)] (dk dX12_look_1 20 rfl) rfl (by decide) rfl ?_
      refine e_iconst C 0 (dk dX12_look_1 21 rfl) (by decide) ?_
      refine e_istore C [(4, .int 0), (3, .int 0), (2, .int (-1)), (0, .ref (g_N g + t)), (1, .int p0)] (dk dX12_look_1 22 rfl) (by decide) rfl ?_
      refine e_lv [3, 4, 2, 1, 0] rfl ?_
      refine lb_X12_look_137 C K ht hR (fun s22 h => ?_) h
      refine e_iload_n C 0 (dk dX12_look_1 42 rfl) rfl rfl ?_
      suffices hm24 : EW X g (x_s X).heap.size n 6 (ent g Xo kd s17) 0 0 184 [(1, .int p0), (2, .int s22.1), (3, .int s22.2)] [.int (if p0 = 0 then s22.1 else s22.2)] from (by
        refine e_if_ne C 183 (dk dX12_look_1 43 rfl) (by decide) (fun c23 => ?_) (fun c23 => ?_)
        · rw [show (if p0 = 0 then s22.1 else s22.2) = s22.2 from if_neg c23] at hm24
          refine e_iload_n C 2 (dk dX12_look_1 46 rfl) rfl rfl ?_
          exact hm24
        · rw [show (if p0 = 0 then s22.1 else s22.2) = s22.1 from if_pos c23] at hm24
          refine e_iload_n C 1 (dk dX12_look_1 44 rfl) rfl rfl ?_
          refine e_goto C 184 (dk dX12_look_1 45 rfl) (by decide) ?_
          exact hm24)
      obtain rfl := Option.some.inj h
      exact e_iret C B (nar1 _) (dk dX12_look_1 47 rfl)
    · rw [if_neg c2] at h
      refine e_lv [0] rfl ?_
      exact j_X12_look_j14 C K ht hR h B
set_option maxRecDepth 20000 in
theorem c_X12_forget {g : WC} {Xo : Nat → va_E} {n : Nat} {kd : Nat → Nat} (K : KD n kd) {t : Nat} (ht : kd t = 13) {M : Mem} {res : Mem} (h : F_X12_forget t M = res) : MC g yX12_forget cX12_forget 1 none 0 n [.ref (g_N g + t)] (ent g Xo kd M) none (ent g Xo kd res) := by
  refine MC_of pn_X12 (Nat.le_of_ble_eq_true rfl) (fun X C B => ?_)
  have hR := B.1
  rw [F_X12_forget] at h
  refine e_aload_n C 0 (dk dX12_forget 0 rfl) rfl rfl ?_
  refine e_iconst C 0 (dk dX12_forget 1 rfl) (by decide) ?_
  refine pf_X12_code C K ht fl_X12_156 (dk dX12_forget 2 rfl) ?_
  refine e_aload_n C 0 (dk dX12_forget 3 rfl) rfl rfl ?_
  refine e_iconst C 0 (dk dX12_forget 4 rfl) (by decide) ?_
  refine pf_X12_tellings C K ht fl_X12_342 (dk dX12_forget 5 rfl) ?_
  subst h
  exact e_vret C B (dk dX12_forget 6 rfl)
set_option maxRecDepth 20000 in
theorem j_X12_loss_j37 {X : FX} {g : WC} {Xo : Nat → va_E} {n : Nat} {kd : Nat → Nat} (C : Cx X g RX12 cX12_loss 3) (K : KD n kd) {t : Nat} (ht : kd t = 13) (hR : x_R X = rm 0) {y0 : Int32} {y1 : Int32} {M : Mem} {res : Int32} (h : J_X12_loss_j37 t y0 y1 M = some res) (B : Bx X g (some .int) 0 n (some (.int res)) (ent g Xo kd M)) : EW X g (x_s X).heap.size n 3 (ent g Xo kd M) 0 0 37 [] [.int y1, .int y0] := by
  rw [J_X12_loss_j37] at h
  refine e_isub C (dk dX12_loss 21 rfl) ?_
  obtain rfl := Option.some.inj h
  exact e_iret C B (nar1 _) (dk dX12_loss 22 rfl)
set_option maxRecDepth 20000 in
theorem j_X12_loss_j36 {X : FX} {g : WC} {Xo : Nat → va_E} {n : Nat} {kd : Nat → Nat} (C : Cx X g RX12 cX12_loss 3) (K : KD n kd) {t : Nat} (ht : kd t = 13) (hR : x_R X = rm 0) {y0 : Int32} {M : Mem} {res : Int32} (h : J_X12_loss_j36 t y0 M = some res) (B : Bx X g (some .int) 0 n (some (.int res)) (ent g Xo kd M)) : EW X g (x_s X).heap.size n 3 (ent g Xo kd M) 0 0 36 [] [.int y0] := by
  rw [J_X12_loss_j36] at h
  refine e_iconst C 0 (dk dX12_loss 20 rfl) (by decide) ?_
  exact j_X12_loss_j37 C K ht hR h B
set_option maxRecDepth 20000 in
theorem c_X12_loss {g : WC} {Xo : Nat → va_E} {n : Nat} {kd : Nat → Nat} (K : KD n kd) {t : Nat} {p0 : Int32} {p1 : Int32} (ht : kd t = 13) {M : Mem} {res : Int32} (h : F_X12_loss t p0 p1 M = some res) : MC g yX12_loss cX12_loss 3 (some .int) 0 n [.ref (g_N g + t), .int p0, .int p1] (ent g Xo kd M) (some (.int res)) (ent g Xo kd M) := by
  refine MC_of pn_X12 (Nat.le_of_ble_eq_true rfl) (fun X C B => ?_)
  have hR := B.1
  rw [F_X12_loss] at h
  refine e_iload_n C 2 (dk dX12_loss 0 rfl) rfl rfl ?_
  refine e_iconst C 1 (dk dX12_loss 1 rfl) (by decide) ?_
  suffices hm2 : EW X g (x_s X).heap.size n 3 (ent g Xo kd M) 0 0 11 [(0, .ref (g_N g + t)), (1, .int p0), (2, .int p1)] [.int (if p1 = 1 then (-5 : Int32) else (0 : Int32))] from (by
    refine e_icmp_ne C 10 (dk dX12_loss 2 rfl) (by decide) (fun c1 => ?_) (fun c1 => ?_)
    · rw [show (if p1 = 1 then (-5 : Int32) else (0 : Int32)) = (0 : Int32) from if_neg c1] at hm2
      refine e_iconst C 0 (dk dX12_loss 5 rfl) (by decide) ?_
      exact hm2
    · rw [show (if p1 = 1 then (-5 : Int32) else (0 : Int32)) = (-5 : Int32) from if_pos c1] at hm2
      refine e_bipush C (-5) (dk dX12_loss 3 rfl) (by decide) ?_
      refine e_goto C 11 (dk dX12_loss 4 rfl) (by decide) ?_
      exact hm2)
  refine e_aload_n C 0 (dk dX12_loss 6 rfl) rfl rfl ?_
  refine gf_X12_buyers C K ht fl_X12_98 (dk dX12_loss 7 rfl) ?_
  refine e_iload_n C 1 (dk dX12_loss 8 rfl) rfl rfl ?_
  obtain ⟨v3, hv3, h⟩ := ob h
  refine m_ald C K (kd_X12_buyers K ht) (dk dX12_loss 9 rfl) hv3 ?_
  refine e_iconst C (-1) (dk dX12_loss 10 rfl) (by decide) ?_
  refine e_icmp_eq C 36 (dk dX12_loss 11 rfl) (by decide) (fun c4 => ?_) (fun c4 => ?_)
  · rw [if_pos c4] at h
    refine e_lv [] rfl ?_
    exact j_X12_loss_j36 C K ht hR h B
  · rw [if_neg c4] at h
    refine e_aload_n C 0 (dk dX12_loss 12 rfl) rfl rfl ?_
    refine gf_X12_buyers C K ht fl_X12_98 (dk dX12_loss 13 rfl) ?_
    refine e_iload_n C 1 (dk dX12_loss 14 rfl) rfl rfl ?_
    obtain ⟨v5, hv5, h⟩ := ob h
    refine m_ald C K (kd_X12_buyers K ht) (dk dX12_loss 15 rfl) hv5 ?_
    refine e_iload_n C 1 (dk dX12_loss 16 rfl) rfl rfl ?_
    refine e_icmp_eq C 36 (dk dX12_loss 17 rfl) (by decide) (fun c6 => ?_) (fun c6 => ?_)
    · rw [if_pos c6] at h
      refine e_lv [] rfl ?_
      exact j_X12_loss_j36 C K ht hR h B
    · rw [if_neg c6] at h
      refine e_bipush C 10 (dk dX12_loss 18 rfl) (by decide) ?_
      refine e_goto C 37 (dk dX12_loss 19 rfl) (by decide) ?_
      refine e_lv [] rfl ?_
      exact j_X12_loss_j37 C K ht hR h B
set_option maxRecDepth 20000 in
theorem j_X12_tellGains_j40 {X : FX} {g : WC} {Xo : Nat → va_E} {n : Nat} {kd : Nat → Nat} (C : Cx X g RX12 cX12_tellGains 4) (K : KD n kd) {t : Nat} (ht : kd t = 13) {x1 : Int32} {x2 : Int32} (hR : x_R X = rm 5) {OK : Mem → Prop} (hx : ∀ s, OK s → EW X g (x_s X).heap.size n 4 (ent g Xo kd s) 0 0 93 [] []) {rec : Int32 → Mem → Option (Mem)} (hrec : ∀ (x3 : Int32) (M : Mem) (q : Mem), rec x3 M = some q → OK q → EW X g (x_s X).heap.size n 4 (ent g Xo kd M) 0 0 11 [(0, .ref (g_N g + t)), (1, .int x1), (2, .int x2), (3, .int x3)] []) {x3 : Int32} {M : Mem} (q : Mem) (h : J_X12_tellGains_j40 t rec x1 x2 x3 M = some q) (hOK : OK q) : EW X g (x_s X).heap.size n 4 (ent g Xo kd M) 0 0 40 [(0, .ref (g_N g + t)), (1, .int x1), (2, .int x2), (3, .int x3)] [] := by
  rw [J_X12_tellGains_j40] at h
  refine e_aload_n C 0 (dk dX12_tellGains_0 26 rfl) rfl rfl ?_
  obtain ⟨q5, hq5, h⟩ := ob h
  refine e_callV (ci := 12) C cal_X12_aNight im_X12_aNight se_X12_aNight ml_X12_390 rfl hR (by decide) (dk dX12_tellGains_0 27 rfl) (K.1 _ (by rw [ht]; decide)) (ent_o12 ht) (c_X12_aNight K ht hq5) ⟨Nat.zero_le _, Nat.zero_le _⟩ (Nat.le_of_ble_eq_true rfl) rfl ?_
  refine e_aload_n C 0 (dk dX12_tellGains_0 28 rfl) rfl rfl ?_
  refine gf_X12_gains C K ht fl_X12_132 (dk dX12_tellGains_0 29 rfl) ?_
  refine e_iconst C 2 (dk dX12_tellGains_0 30 rfl) (by decide) ?_
  refine e_iload_n C 3 (dk dX12_tellGains_0 31 rfl) rfl rfl ?_
  refine e_imul C (dk dX12_tellGains_0 32 rfl) ?_
  refine e_aload_n C 0 (dk dX12_tellGains_0 33 rfl) rfl rfl ?_
  refine e_iload_n C 1 (dk dX12_tellGains_0 34 rfl) rfl rfl ?_
  refine e_iload_n C 3 (dk dX12_tellGains_0 35 rfl) rfl rfl ?_
  refine e_iconst C 2 (dk dX12_tellGains_0 36 rfl) (by decide) ?_
  refine e_idiv C (dk dX12_tellGains_0 37 rfl) (by decide) ?_
  obtain ⟨q6, hq6, h⟩ := ob h
  refine e_callV (ci := 12) C cal_X12_loss im_X12_loss se_X12_loss ml_X12_476 rfl hR (by decide) (dk dX12_tellGains_0 38 rfl) (K.1 _ (by rw [ht]; decide)) (ent_o12 ht) (c_X12_loss K ht hq6) ⟨Nat.zero_le _, Nat.zero_le _⟩ (Nat.le_of_ble_eq_true rfl) rfl ?_
  obtain ⟨M7, hM7, h⟩ := ob h
  refine m_ast C K (kd_X12_gains K ht) (dk dX12_tellGains_0 39 rfl) hM7 ?_
  refine e_aload_n C 0 (dk dX12_tellGains_0 40 rfl) rfl rfl ?_
  refine gf_X12_gains C K ht fl_X12_132 (dk dX12_tellGains_0 41 rfl) ?_
  refine e_iconst C 2 (dk dX12_tellGains_0 42 rfl) (by decide) ?_
  refine e_iload_n C 3 (dk dX12_tellGains_0 43 rfl) rfl rfl ?_
  refine e_imul C (dk dX12_tellGains_0 44 rfl) ?_
  refine e_iconst C 1 (dk dX12_tellGains_0 45 rfl) (by decide) ?_
  refine e_iadd C (dk dX12_tellGains_0 46 rfl) ?_
  refine e_aload_n C 0 (dk dX12_tellGains_0 47 rfl) rfl rfl ?_
  refine e_iload_n C 2 (dk dX12_tellGains_0 48 rfl) rfl rfl ?_
  refine e_iload_n C 3 (dk dX12_tellGains_0 49 rfl) rfl rfl ?_
  refine e_iconst C 2 (dk dX12_tellGains_0 50 rfl) (by decide) ?_
  refine e_irem C (dk dX12_tellGains_0 51 rfl) (by decide) ?_
  obtain ⟨q8, hq8, h⟩ := ob h
  refine e_callV (ci := 12) C cal_X12_loss im_X12_loss se_X12_loss ml_X12_476 rfl hR (by decide) (dk dX12_tellGains_0 52 rfl) (K.1 _ (by rw [ht]; decide)) (ent_o12 ht) (c_X12_loss K ht hq8) ⟨Nat.zero_le _, Nat.zero_le _⟩ (Nat.le_of_ble_eq_true rfl) rfl ?_
  obtain ⟨M9, hM9, h⟩ := ob h
  refine m_ast C K (kd_X12_gains K ht) (dk dX12_tellGains_0 53 rfl) hM9 ?_
  refine e_aload_n C 0 (dk dX12_tellGains_0 54 rfl) rfl rfl ?_
  refine e_aload_n C 0 (dk dX12_tellGains_0 55 rfl) rfl rfl ?_
  refine gf_X12_rowThen C K ht fl_X12_104 (dk dX12_tellGains_0 56 rfl) ?_
  refine e_iconst C 0 (dk dX12_tellGains_0 57 rfl) (by decide) ?_
  obtain ⟨q10, hq10, h⟩ := ob h
  refine e_callV (ci := 12) C cal_X12_unpack im_X12_unpack se_X12_unpack ml_X12_425 rfl hR (by decide) (dk dX12_tellGains_0 58 rfl) (K.1 _ (by rw [ht]; decide)) (ent_o12 ht) (c_X12_unpack K ht (kd_X12_rowThen K ht) hq10) ⟨Nat.zero_le _, Nat.zero_le _⟩ (Nat.le_of_ble_eq_true rfl) rfl ?_
  refine e_iinc C [(3, .int (x3 + 1)), (0, .ref (g_N g + t)), (1, .int x1), (2, .int x2)] 3 1 (dk dX12_tellGains_0 59 rfl) rfl (by decide) (by decide) rfl ?_
  refine e_goto C 11 (dk dX12_tellGains_1 0 rfl) (by decide) ?_
  refine e_lv [1, 2, 3, 0] rfl ?_
  exact hrec _ _ _ h hOK
set_option maxRecDepth 20000 in
theorem j_X12_tellGains_j28 {X : FX} {g : WC} {Xo : Nat → va_E} {n : Nat} {kd : Nat → Nat} (C : Cx X g RX12 cX12_tellGains 4) (K : KD n kd) {t : Nat} (ht : kd t = 13) {x1 : Int32} {x2 : Int32} (hR : x_R X = rm 5) {OK : Mem → Prop} (hx : ∀ s, OK s → EW X g (x_s X).heap.size n 4 (ent g Xo kd s) 0 0 93 [] []) {rec : Int32 → Mem → Option (Mem)} (hrec : ∀ (x3 : Int32) (M : Mem) (q : Mem), rec x3 M = some q → OK q → EW X g (x_s X).heap.size n 4 (ent g Xo kd M) 0 0 11 [(0, .ref (g_N g + t)), (1, .int x1), (2, .int x2), (3, .int x3)] []) {x3 : Int32} {M : Mem} (q : Mem) (h : J_X12_tellGains_j28 t rec x1 x2 x3 M = some q) (hOK : OK q) : EW X g (x_s X).heap.size n 4 (ent g Xo kd M) 0 0 28 [(0, .ref (g_N g + t)), (1, .int x1), (2, .int x2), (3, .int x3)] [] := by
  rw [J_X12_tellGains_j28] at h
  refine e_iload_n C 3 (dk dX12_tellGains_0 18 rfl) rfl rfl ?_
  refine e_iconst C 2 (dk dX12_tellGains_0 19 rfl) (by decide) ?_
  refine e_irem C (dk dX12_tellGains_0 20 rfl) (by decide) ?_
  refine e_iconst C 1 (dk dX12_tellGains_0 21 rfl) (by decide) ?_
  refine e_icmp_ne C 40 (dk dX12_tellGains_0 22 rfl) (by decide) (fun c4 => ?_) (fun c4 => ?_)
  · rw [if_neg c4] at h
    exact j_X12_tellGains_j40 C K ht hR hx hrec _ h hOK
  · rw [if_pos c4] at h
    refine e_aload_n C 0 (dk dX12_tellGains_0 23 rfl) rfl rfl ?_
    refine e_iload_n C 2 (dk dX12_tellGains_0 24 rfl) rfl rfl ?_
    obtain ⟨q11, hq11, h⟩ := ob h
    refine e_callV (ci := 12) C cal_X12_doBribe im_X12_doBribe se_X12_doBribe ml_X12_420 rfl hR (by decide) (dk dX12_tellGains_0 25 rfl) (K.1 _ (by rw [ht]; decide)) (ent_o12 ht) (c_X12_doBribe K ht hq11) ⟨Nat.zero_le _, Nat.zero_le _⟩ (Nat.le_of_ble_eq_true rfl) rfl ?_
    exact j_X12_tellGains_j40 C K ht hR hx hrec _ h hOK
set_option maxRecDepth 20000 in
theorem l_X12_tellGains_11 {X : FX} {g : WC} {Xo : Nat → va_E} {n : Nat} {kd : Nat → Nat} (C : Cx X g RX12 cX12_tellGains 4) (K : KD n kd) {t : Nat} (ht : kd t = 13) {x1 : Int32} {x2 : Int32} (hR : x_R X = rm 5) {OK : Mem → Prop} (hx : ∀ s, OK s → EW X g (x_s X).heap.size n 4 (ent g Xo kd s) 0 0 93 [] []) : ∀ (N9 : Nat) (x3 : Int32) (M : Mem) (q : Mem), L_X12_tellGains_11 t x1 x2 N9 x3 M = some q → OK q → EW X g (x_s X).heap.size n 4 (ent g Xo kd M) 0 0 11 [(0, .ref (g_N g + t)), (1, .int x1), (2, .int x2), (3, .int x3)] [] := by
  intro N9
  induction N9 with
  | zero =>
    intro x3 M q h
    rw [L_X12_tellGains_11.eq_1] at h
    cases h
  | succ m9 ih =>
    intro x3 M q h hOK
    rw [L_X12_tellGains_11.eq_2] at h
    refine e_iload_n C 3 (dk dX12_tellGains_0 7 rfl) rfl rfl ?_
    refine e_iconst C 4 (dk dX12_tellGains_0 8 rfl) (by decide) ?_
    refine e_icmp_ge C 93 (dk dX12_tellGains_0 9 rfl) (by decide) (fun c2 => ?_) (fun c2 => ?_)
    · rw [if_pos c2] at h
      obtain rfl := Option.some.inj h
      refine e_lv [] rfl ?_
      exact hx _ hOK
    · rw [if_neg c2] at h
      refine e_iload_n C 3 (dk dX12_tellGains_0 10 rfl) rfl rfl ?_
      refine e_iconst C 2 (dk dX12_tellGains_0 11 rfl) (by decide) ?_
      refine e_idiv C (dk dX12_tellGains_0 12 rfl) (by decide) ?_
      refine e_iconst C 1 (dk dX12_tellGains_0 13 rfl) (by decide) ?_
      refine e_icmp_ne C 28 (dk dX12_tellGains_0 14 rfl) (by decide) (fun c3 => ?_) (fun c3 => ?_)
      · rw [if_neg c3] at h
        exact j_X12_tellGains_j28 C K ht hR hx ih _ h hOK
      · rw [if_pos c3] at h
        refine e_aload_n C 0 (dk dX12_tellGains_0 15 rfl) rfl rfl ?_
        refine e_iload_n C 1 (dk dX12_tellGains_0 16 rfl) rfl rfl ?_
        obtain ⟨q12, hq12, h⟩ := ob h
        refine e_callV (ci := 12) C cal_X12_doBribe im_X12_doBribe se_X12_doBribe ml_X12_420 rfl hR (by decide) (dk dX12_tellGains_0 17 rfl) (K.1 _ (by rw [ht]; decide)) (ent_o12 ht) (c_X12_doBribe K ht hq12) ⟨Nat.zero_le _, Nat.zero_le _⟩ (Nat.le_of_ble_eq_true rfl) rfl ?_
        exact j_X12_tellGains_j28 C K ht hR hx ih _ h hOK
set_option maxRecDepth 20000 in
theorem lb_X12_tellGains_11 {X : FX} {g : WC} {Xo : Nat → va_E} {n : Nat} {kd : Nat → Nat} (C : Cx X g RX12 cX12_tellGains 4) (K : KD n kd) {t : Nat} (ht : kd t = 13) {x1 : Int32} {x2 : Int32} (hR : x_R X = rm 5) {T9 : Type} {f9 : Mem → Option T9} {b9 : T9} (hx : ∀ s, f9 s = some b9 → EW X g (x_s X).heap.size n 4 (ent g Xo kd s) 0 0 93 [] []) {x3 : Int32} {M : Mem} (h : (L_X12_tellGains_11 t x1 x2 FU x3 M).bind f9 = some b9) : EW X g (x_s X).heap.size n 4 (ent g Xo kd M) 0 0 11 [(0, .ref (g_N g + t)), (1, .int x1), (2, .int x2), (3, .int x3)] [] := by
  obtain ⟨q, hq, h⟩ := ob h
  exact l_X12_tellGains_11 C K ht hR (OK := fun q => f9 q = some b9) hx FU x3 M q hq h
set_option maxRecDepth 20000 in
theorem c_X12_tellGains {g : WC} {Xo : Nat → va_E} {n : Nat} {kd : Nat → Nat} (K : KD n kd) {t : Nat} {p0 : Int32} {p1 : Int32} (ht : kd t = 13) {M : Mem} {res : Mem} (h : F_X12_tellGains t p0 p1 M = some res) : MC g yX12_tellGains cX12_tellGains 4 none 5 n [.ref (g_N g + t), .int p0, .int p1] (ent g Xo kd M) none (ent g Xo kd res) := by
  refine MC_of pn_X12 (Nat.le_of_ble_eq_true rfl) (fun X C B => ?_)
  have hR := B.1
  rw [F_X12_tellGains] at h
  refine e_aload_n C 0 (dk dX12_tellGains_0 0 rfl) rfl rfl ?_
  refine e_aload_n C 0 (dk dX12_tellGains_0 1 rfl) rfl rfl ?_
  refine gf_X12_rowThen C K ht fl_X12_104 (dk dX12_tellGains_0 2 rfl) ?_
  refine e_iconst C 0 (dk dX12_tellGains_0 3 rfl) (by decide) ?_
  obtain ⟨q1, hq1, h⟩ := ob h
  refine e_callV (ci := 12) C cal_X12_pack im_X12_pack se_X12_pack ml_X12_402 rfl hR (by decide) (dk dX12_tellGains_0 4 rfl) (K.1 _ (by rw [ht]; decide)) (ent_o12 ht) (c_X12_pack K ht (kd_X12_rowThen K ht) hq1) ⟨Nat.zero_le _, Nat.zero_le _⟩ (Nat.le_of_ble_eq_true rfl) rfl ?_
  refine e_iconst C 0 (dk dX12_tellGains_0 5 rfl) (by decide) ?_
  refine e_istore_n C [(3, .int 0), (0, .ref (g_N g + t)), (1, .int p0), (2, .int p1)] (dk dX12_tellGains_0 6 rfl) rfl (by decide) rfl ?_
  refine e_lv [1, 2, 3, 0] rfl ?_
  refine lb_X12_tellGains_11 C K ht hR (fun s14 h => ?_) h
  obtain rfl := Option.some.inj h
  exact e_vret C B (dk dX12_tellGains_1 1 rfl)
set_option maxRecDepth 20000 in
theorem j_X12_game_j30 {X : FX} {g : WC} {Xo : Nat → va_E} {n : Nat} {kd : Nat → Nat} (C : Cx X g RX12 cX12_game 9) (K : KD n kd) {t : Nat} (ht : kd t = 13) (hR : x_R X = rm 6) {M : Mem} {res : Int32 × Mem} (h : J_X12_game_j30 t M = some res) (B : Bx X g (some .int) 6 n (some (.int res.1)) (ent g Xo kd res.2)) : EW X g (x_s X).heap.size n 9 (ent g Xo kd M) 0 0 30 [(0, .ref (g_N g + t))] [] := by
  rw [J_X12_game_j30] at h
  refine e_aload_n C 0 (dk dX12_game_0 16 rfl) rfl rfl ?_
  refine e_iconst C 1 (dk dX12_game_0 17 rfl) (by decide) ?_
  refine e_callV (ci := 12) C cal_X12_fail im_X12_fail se_X12_fail ml_X12_318 rfl hR (by decide) (dk dX12_game_0 18 rfl) (K.1 _ (by rw [ht]; decide)) (ent_o12 ht) (c_X12_fail K ht (rfl : F_X12_fail t 1 M = _)) ⟨Nat.zero_le _, Nat.zero_le _⟩ (Nat.le_of_ble_eq_true rfl) rfl ?_
  obtain rfl := Option.some.inj h
  exact e_iret C B (nar1 _) (dk dX12_game_0 19 rfl)
set_option maxRecDepth 20000 in
theorem j_X12_game_j174 {X : FX} {g : WC} {Xo : Nat → va_E} {n : Nat} {kd : Nat → Nat} (C : Cx X g RX12 cX12_game 9) (K : KD n kd) {t : Nat} (ht : kd t = 13) {x3 : Int32} {x4 : Int32} {x5 : Int32} {M : Mem} (hR : x_R X = rm 6) {OK : Int32 × Int32 → Prop} (hx : ∀ s, OK s → EW X g (x_s X).heap.size n 9 (ent g Xo kd M) 0 0 208 [(3, .int x3), (6, .int s.1), (7, .int s.2)] []) {rec : Int32 → Int32 → Int32 → Option (Int32 × Int32)} (hrec : ∀ (x6 : Int32) (x7 : Int32) (x8 : Int32) (q : Int32 × Int32), rec x6 x7 x8 = some q → OK q → EW X g (x_s X).heap.size n 9 (ent g Xo kd M) 0 0 76 [(0, .ref (g_N g + t)), (3, .int x3), (4, .int x4), (5, .int x5), (6, .int x6), (7, .int x7), (8, .int x8)] []) {x6 : Int32} {x7 : Int32} {x8 : Int32} (q : Int32 × Int32) (h : J_X12_game_j174 t rec x3 x4 x5 x6 x7 x8 M = some q) (hOK : OK q) : EW X g (x_s X).heap.size n 9 (ent g Xo kd M) 0 0 174 [(0, .ref (g_N g + t)), (3, .int x3), (4, .int x4), (5, .int x5), (6, .int x6), (7, .int x7), (8, .int x8)] [] := by
  rw [J_X12_game_j174] at h
  refine e_iinc C [(6, .int (x6 + 1)), (0, .ref (g_N g + t)), (3, .int x3), (4, .int x4), (5, .int x5), (7, .int x7), (8, .int x8)] 4 1 (dk dX12_game_1 42 rfl) rfl (by decide) (by decide) rfl ?_
  refine e_iload C 5 (dk dX12_game_1 43 rfl) rfl ?_
  refine e_iconst C (-1) (dk dX12_game_1 44 rfl) (by decide) ?_
  refine e_icmp_ne C 198 (dk dX12_game_1 45 rfl) (by decide) (fun c14 => ?_) (fun c14 => ?_)
  · rw [if_neg c14] at h
    refine e_iload C 5 (dk dX12_game_1 56 rfl) rfl ?_
    refine e_istore C [(7, .int x7), (6, .int (x6 + 1)), (0, .ref (g_N g + t)), (3, .int x3), (4, .int x4), (5, .int x5), (8, .int x8)] (dk dX12_game_1 57 rfl) (by decide) rfl ?_
    refine e_iinc C [(8, .int (x8 + 1)), (7, .int x7), (6, .int (x6 + 1)), (0, .ref (g_N g + t)), (3, .int x3), (4, .int x4), (5, .int x5)] 6 1 (dk dX12_game_1 58 rfl) rfl (by decide) (by decide) rfl ?_
    refine e_goto C 76 (dk dX12_game_1 59 rfl) (by decide) ?_
    refine e_lv [3, 4, 5, 6, 2, 1, 0] rfl ?_
    exact hrec _ _ _ _ h hOK
  · rw [if_pos c14] at h
    refine e_bipush C 10 (dk dX12_game_1 46 rfl) (by decide) ?_
    refine e_iload C 6 (dk dX12_game_1 47 rfl) rfl ?_
    refine e_iconst C 2 (dk dX12_game_1 48 rfl) (by decide) ?_
    refine e_idiv C (dk dX12_game_1 49 rfl) (by decide) ?_
    refine e_imul C (dk dX12_game_1 50 rfl) ?_
    refine e_iload C 6 (dk dX12_game_1 51 rfl) rfl ?_
    refine e_iconst C 2 (dk dX12_game_1 52 rfl) (by decide) ?_
    refine e_irem C (dk dX12_game_1 53 rfl) (by decide) ?_
    refine e_iadd C (dk dX12_game_1 54 rfl) ?_
    refine e_goto C 200 (dk dX12_game_1 55 rfl) (by decide) ?_
    refine e_istore C [(7, .int ((10 * (x8 / 2)) + (irem x8 2))), (6, .int (x6 + 1)), (0, .ref (g_N g + t)), (3, .int x3), (4, .int x4), (5, .int x5), (8, .int x8)] (dk dX12_game_1 57 rfl) (by decide) rfl ?_
    refine e_iinc C [(8, .int (x8 + 1)), (7, .int ((10 * (x8 / 2)) + (irem x8 2))), (6, .int (x6 + 1)), (0, .ref (g_N g + t)), (3, .int x3), (4, .int x4), (5, .int x5)] 6 1 (dk dX12_game_1 58 rfl) rfl (by decide) (by decide) rfl ?_
    refine e_goto C 76 (dk dX12_game_1 59 rfl) (by decide) ?_
    refine e_lv [3, 4, 5, 6, 2, 1, 0] rfl ?_
    exact hrec _ _ _ _ h hOK
set_option maxRecDepth 20000 in
theorem j_X12_game_j139 {X : FX} {g : WC} {Xo : Nat → va_E} {n : Nat} {kd : Nat → Nat} (C : Cx X g RX12 cX12_game 9) (K : KD n kd) {t : Nat} (ht : kd t = 13) {x3 : Int32} {x4 : Int32} {x5 : Int32} {M : Mem} (hR : x_R X = rm 6) {OK : Int32 × Int32 → Prop} (hx : ∀ s, OK s → EW X g (x_s X).heap.size n 9 (ent g Xo kd M) 0 0 208 [(3, .int x3), (6, .int s.1), (7, .int s.2)] []) {rec : Int32 → Int32 → Int32 → Option (Int32 × Int32)} (hrec : ∀ (x6 : Int32) (x7 : Int32) (x8 : Int32) (q : Int32 × Int32), rec x6 x7 x8 = some q → OK q → EW X g (x_s X).heap.size n 9 (ent g Xo kd M) 0 0 76 [(0, .ref (g_N g + t)), (3, .int x3), (4, .int x4), (5, .int x5), (6, .int x6), (7, .int x7), (8, .int x8)] []) {x6 : Int32} {x7 : Int32} {x8 : Int32} (q : Int32 × Int32) (h : J_X12_game_j139 t rec x3 x4 x5 x6 x7 x8 M = some q) (hOK : OK q) : EW X g (x_s X).heap.size n 9 (ent g Xo kd M) 0 0 139 [(0, .ref (g_N g + t)), (3, .int x3), (4, .int x4), (5, .int x5), (6, .int x6), (7, .int x7), (8, .int x8)] [] := by
  rw [J_X12_game_j139] at h
  refine e_iload C 3 (dk dX12_game_1 20 rfl) rfl ?_
  refine e_if_eq C 174 (dk dX12_game_1 21 rfl) (by decide) (fun c13 => ?_) (fun c13 => ?_)
  · rw [if_pos c13] at h
    exact j_X12_game_j174 C K ht hR hx hrec _ h hOK
  · rw [if_neg c13] at h
    refine e_aload_n C 0 (dk dX12_game_1 22 rfl) rfl rfl ?_
    refine gf_X12_gains C K ht fl_X12_132 (dk dX12_game_1 23 rfl) ?_
    refine e_iconst C 2 (dk dX12_game_1 24 rfl) (by decide) ?_
    refine e_iload C 6 (dk dX12_game_1 25 rfl) rfl ?_
    refine e_iconst C 1 (dk dX12_game_1 26 rfl) (by decide) ?_
    refine e_ixor C (dk dX12_game_1 27 rfl) ?_
    refine e_imul C (dk dX12_game_1 28 rfl) ?_
    refine e_iconst C 1 (dk dX12_game_1 29 rfl) (by decide) ?_
    refine e_iadd C (dk dX12_game_1 30 rfl) ?_
    obtain ⟨v15, hv15, h⟩ := ob h
    refine m_ald C K (kd_X12_gains K ht) (dk dX12_game_1 31 rfl) hv15 ?_
    refine e_aload_n C 0 (dk dX12_game_1 32 rfl) rfl rfl ?_
    refine gf_X12_gains C K ht fl_X12_132 (dk dX12_game_1 33 rfl) ?_
    refine e_iconst C 2 (dk dX12_game_1 34 rfl) (by decide) ?_
    refine e_iload C 6 (dk dX12_game_1 35 rfl) rfl ?_
    refine e_imul C (dk dX12_game_1 36 rfl) ?_
    refine e_iconst C 1 (dk dX12_game_1 37 rfl) (by decide) ?_
    refine e_iadd C (dk dX12_game_1 38 rfl) ?_
    obtain ⟨v16, hv16, h⟩ := ob h
    refine m_ald C K (kd_X12_gains K ht) (dk dX12_game_1 39 rfl) hv16 ?_
    refine e_icmp_le C 174 (dk dX12_game_1 40 rfl) (by decide) (fun c17 => ?_) (fun c17 => ?_)
    · rw [if_pos c17] at h
      exact j_X12_game_j174 C K ht hR hx hrec _ h hOK
    · rw [if_neg c17] at h
      refine e_goto C 202 (dk dX12_game_1 41 rfl) (by decide) ?_
      refine e_iinc C [(8, .int (x8 + 1)), (0, .ref (g_N g + t)), (3, .int x3), (4, .int x4), (5, .int x5), (6, .int x6), (7, .int x7)] 6 1 (dk dX12_game_1 58 rfl) rfl (by decide) (by decide) rfl ?_
      refine e_goto C 76 (dk dX12_game_1 59 rfl) (by decide) ?_
      refine e_lv [1, 2, 3, 4, 5, 6, 0] rfl ?_
      exact hrec _ _ _ _ h hOK
set_option maxRecDepth 20000 in
theorem j_X12_game_j111 {X : FX} {g : WC} {Xo : Nat → va_E} {n : Nat} {kd : Nat → Nat} (C : Cx X g RX12 cX12_game 9) (K : KD n kd) {t : Nat} (ht : kd t = 13) {x3 : Int32} {x4 : Int32} {x5 : Int32} {M : Mem} (hR : x_R X = rm 6) {OK : Int32 × Int32 → Prop} (hx : ∀ s, OK s → EW X g (x_s X).heap.size n 9 (ent g Xo kd M) 0 0 208 [(3, .int x3), (6, .int s.1), (7, .int s.2)] []) {rec : Int32 → Int32 → Int32 → Option (Int32 × Int32)} (hrec : ∀ (x6 : Int32) (x7 : Int32) (x8 : Int32) (q : Int32 × Int32), rec x6 x7 x8 = some q → OK q → EW X g (x_s X).heap.size n 9 (ent g Xo kd M) 0 0 76 [(0, .ref (g_N g + t)), (3, .int x3), (4, .int x4), (5, .int x5), (6, .int x6), (7, .int x7), (8, .int x8)] []) {x6 : Int32} {x7 : Int32} {x8 : Int32} (q : Int32 × Int32) (h : J_X12_game_j111 t rec x3 x4 x5 x6 x7 x8 M = some q) (hOK : OK q) : EW X g (x_s X).heap.size n 9 (ent g Xo kd M) 0 0 111 [(0, .ref (g_N g + t)), (3, .int x3), (4, .int x4), (5, .int x5), (6, .int x6), (7, .int x7), (8, .int x8)] [] := by
  rw [J_X12_game_j111] at h
  refine e_iload C 2 (dk dX12_game_1 3 rfl) rfl ?_
  refine e_if_eq C 139 (dk dX12_game_1 4 rfl) (by decide) (fun c12 => ?_) (fun c12 => ?_)
  · rw [if_pos c12] at h
    exact j_X12_game_j139 C K ht hR hx hrec _ h hOK
  · rw [if_neg c12] at h
    refine e_aload_n C 0 (dk dX12_game_1 5 rfl) rfl rfl ?_
    refine gf_X12_gains C K ht fl_X12_132 (dk dX12_game_1 6 rfl) ?_
    refine e_iconst C 2 (dk dX12_game_1 7 rfl) (by decide) ?_
    refine e_iload C 6 (dk dX12_game_1 8 rfl) rfl ?_
    refine e_iconst C 2 (dk dX12_game_1 9 rfl) (by decide) ?_
    refine e_ixor C (dk dX12_game_1 10 rfl) ?_
    refine e_imul C (dk dX12_game_1 11 rfl) ?_
    obtain ⟨v18, hv18, h⟩ := ob h
    refine m_ald C K (kd_X12_gains K ht) (dk dX12_game_1 12 rfl) hv18 ?_
    refine e_aload_n C 0 (dk dX12_game_1 13 rfl) rfl rfl ?_
    refine gf_X12_gains C K ht fl_X12_132 (dk dX12_game_1 14 rfl) ?_
    refine e_iconst C 2 (dk dX12_game_1 15 rfl) (by decide) ?_
    refine e_iload C 6 (dk dX12_game_1 16 rfl) rfl ?_
    refine e_imul C (dk dX12_game_1 17 rfl) ?_
    obtain ⟨v19, hv19, h⟩ := ob h
    refine m_ald C K (kd_X12_gains K ht) (dk dX12_game_1 18 rfl) hv19 ?_
    refine e_icmp_gt C 202 (dk dX12_game_1 19 rfl) (by decide) (fun c20 => ?_) (fun c20 => ?_)
    · rw [if_pos c20] at h
      refine e_iinc C [(8, .int (x8 + 1)), (0, .ref (g_N g + t)), (3, .int x3), (4, .int x4), (5, .int x5), (6, .int x6), (7, .int x7)] 6 1 (dk dX12_game_1 58 rfl) rfl (by decide) (by decide) rfl ?_
      refine e_goto C 76 (dk dX12_game_1 59 rfl) (by decide) ?_
      refine e_lv [1, 2, 3, 4, 5, 6, 0] rfl ?_
      exact hrec _ _ _ _ h hOK
    · rw [if_neg c20] at h
      exact j_X12_game_j139 C K ht hR hx hrec _ h hOK
set_option maxRecDepth 20000 in
theorem j_X12_game_j95 {X : FX} {g : WC} {Xo : Nat → va_E} {n : Nat} {kd : Nat → Nat} (C : Cx X g RX12 cX12_game 9) (K : KD n kd) {t : Nat} (ht : kd t = 13) {x3 : Int32} {x4 : Int32} {x5 : Int32} {M : Mem} (hR : x_R X = rm 6) {OK : Int32 × Int32 → Prop} (hx : ∀ s, OK s → EW X g (x_s X).heap.size n 9 (ent g Xo kd M) 0 0 208 [(3, .int x3), (6, .int s.1), (7, .int s.2)] []) {rec : Int32 → Int32 → Int32 → Option (Int32 × Int32)} (hrec : ∀ (x6 : Int32) (x7 : Int32) (x8 : Int32) (q : Int32 × Int32), rec x6 x7 x8 = some q → OK q → EW X g (x_s X).heap.size n 9 (ent g Xo kd M) 0 0 76 [(0, .ref (g_N g + t)), (3, .int x3), (4, .int x4), (5, .int x5), (6, .int x6), (7, .int x7), (8, .int x8)] []) {x6 : Int32} {x7 : Int32} {x8 : Int32} (q : Int32 × Int32) (h : J_X12_game_j95 t rec x3 x4 x5 x6 x7 x8 M = some q) (hOK : OK q) : EW X g (x_s X).heap.size n 9 (ent g Xo kd M) 0 0 95 [(0, .ref (g_N g + t)), (3, .int x3), (4, .int x4), (5, .int x5), (6, .int x6), (7, .int x7), (8, .int x8)] [] := by
  rw [J_X12_game_j95] at h
  refine e_iload C 6 (dk dX12_game_0 55 rfl) rfl ?_
  refine e_iconst C 2 (dk dX12_game_0 56 rfl) (by decide) ?_
  refine e_irem C (dk dX12_game_0 57 rfl) (by decide) ?_
  refine e_iconst C 1 (dk dX12_game_0 58 rfl) (by decide) ?_
  refine e_icmp_ne C 111 (dk dX12_game_0 59 rfl) (by decide) (fun c11 => ?_) (fun c11 => ?_)
  · rw [if_neg c11] at h
    exact j_X12_game_j111 C K ht hR hx hrec _ h hOK
  · rw [if_pos c11] at h
    refine e_iload C 3 (dk dX12_game_1 0 rfl) rfl ?_
    refine e_if_ne C 111 (dk dX12_game_1 1 rfl) (by decide) (fun c21 => ?_) (fun c21 => ?_)
    · rw [if_neg c21] at h
      exact j_X12_game_j111 C K ht hR hx hrec _ h hOK
    · rw [if_pos c21] at h
      refine e_goto C 202 (dk dX12_game_1 2 rfl) (by decide) ?_
      refine e_iinc C [(8, .int (x8 + 1)), (0, .ref (g_N g + t)), (3, .int x3), (4, .int x4), (5, .int x5), (6, .int x6), (7, .int x7)] 6 1 (dk dX12_game_1 58 rfl) rfl (by decide) (by decide) rfl ?_
      refine e_goto C 76 (dk dX12_game_1 59 rfl) (by decide) ?_
      refine e_lv [1, 2, 3, 4, 5, 6, 0] rfl ?_
      exact hrec _ _ _ _ h hOK
set_option maxRecDepth 20000 in
theorem l_X12_game_76 {X : FX} {g : WC} {Xo : Nat → va_E} {n : Nat} {kd : Nat → Nat} (C : Cx X g RX12 cX12_game 9) (K : KD n kd) {t : Nat} (ht : kd t = 13) {x3 : Int32} {x4 : Int32} {x5 : Int32} {M : Mem} (hR : x_R X = rm 6) {OK : Int32 × Int32 → Prop} (hx : ∀ s, OK s → EW X g (x_s X).heap.size n 9 (ent g Xo kd M) 0 0 208 [(3, .int x3), (6, .int s.1), (7, .int s.2)] []) : ∀ (N9 : Nat) (x6 : Int32) (x7 : Int32) (x8 : Int32) (q : Int32 × Int32), L_X12_game_76 t x3 x4 x5 M N9 x6 x7 x8 = some q → OK q → EW X g (x_s X).heap.size n 9 (ent g Xo kd M) 0 0 76 [(0, .ref (g_N g + t)), (3, .int x3), (4, .int x4), (5, .int x5), (6, .int x6), (7, .int x7), (8, .int x8)] [] := by
  intro N9
  induction N9 with
  | zero =>
    intro x6 x7 x8 q h
    rw [L_X12_game_76.eq_1] at h
    cases h
  | succ m9 ih =>
    intro x6 x7 x8 q h hOK
    rw [L_X12_game_76.eq_2] at h
    refine e_iload C 6 (dk dX12_game_0 45 rfl) rfl ?_
    refine e_iconst C 4 (dk dX12_game_0 46 rfl) (by decide) ?_
    refine e_icmp_ge C 208 (dk dX12_game_0 47 rfl) (by decide) (fun c9 => ?_) (fun c9 => ?_)
    · rw [if_pos c9] at h
      obtain rfl := Option.some.inj h
      refine e_lv [1, 4, 5] rfl ?_
      exact hx _ hOK
    · rw [if_neg c9] at h
      refine e_iload C 6 (dk dX12_game_0 48 rfl) rfl ?_
      refine e_iconst C 2 (dk dX12_game_0 49 rfl) (by decide) ?_
      refine e_idiv C (dk dX12_game_0 50 rfl) (by decide) ?_
      refine e_iconst C 1 (dk dX12_game_0 51 rfl) (by decide) ?_
      refine e_icmp_ne C 95 (dk dX12_game_0 52 rfl) (by decide) (fun c10 => ?_) (fun c10 => ?_)
      · rw [if_neg c10] at h
        exact j_X12_game_j95 C K ht hR hx ih _ h hOK
      · rw [if_pos c10] at h
        refine e_iload C 2 (dk dX12_game_0 53 rfl) rfl ?_
        refine e_if_eq C 202 (dk dX12_game_0 54 rfl) (by decide) (fun c22 => ?_) (fun c22 => ?_)
        · rw [if_pos c22] at h
          refine e_iinc C [(8, .int (x8 + 1)), (0, .ref (g_N g + t)), (3, .int x3), (4, .int x4), (5, .int x5), (6, .int x6), (7, .int x7)] 6 1 (dk dX12_game_1 58 rfl) rfl (by decide) (by decide) rfl ?_
          refine e_goto C 76 (dk dX12_game_1 59 rfl) (by decide) ?_
          refine e_lv [1, 2, 3, 4, 5, 6, 0] rfl ?_
          exact ih _ _ _ _ h hOK
        · rw [if_neg c22] at h
          exact j_X12_game_j95 C K ht hR hx ih _ h hOK
set_option maxRecDepth 20000 in
theorem lb_X12_game_76 {X : FX} {g : WC} {Xo : Nat → va_E} {n : Nat} {kd : Nat → Nat} (C : Cx X g RX12 cX12_game 9) (K : KD n kd) {t : Nat} (ht : kd t = 13) {x3 : Int32} {x4 : Int32} {x5 : Int32} {M : Mem} (hR : x_R X = rm 6) {T9 : Type} {f9 : Int32 × Int32 → Option T9} {b9 : T9} (hx : ∀ s, f9 s = some b9 → EW X g (x_s X).heap.size n 9 (ent g Xo kd M) 0 0 208 [(3, .int x3), (6, .int s.1), (7, .int s.2)] []) {x6 : Int32} {x7 : Int32} {x8 : Int32} (h : (L_X12_game_76 t x3 x4 x5 M FU x6 x7 x8).bind f9 = some b9) : EW X g (x_s X).heap.size n 9 (ent g Xo kd M) 0 0 76 [(0, .ref (g_N g + t)), (3, .int x3), (4, .int x4), (5, .int x5), (6, .int x6), (7, .int x7), (8, .int x8)] [] := by
  obtain ⟨q, hq, h⟩ := ob h
  exact l_X12_game_76 C K ht hR (OK := fun q => f9 q = some b9) hx FU x6 x7 x8 q hq h
set_option maxRecDepth 20000 in
theorem c_X12_game {g : WC} {Xo : Nat → va_E} {n : Nat} {kd : Nat → Nat} (K : KD n kd) {t : Nat} {p0 : Int32} {p1 : Int32} {p2 : Int32} (ht : kd t = 13) {M : Mem} {res : Int32 × Mem} (h : F_X12_game t p0 p1 p2 M = some res) : MC g yX12_game cX12_game 9 (some .int) 6 n [.ref (g_N g + t), .int p0, .int p1, .int p2] (ent g Xo kd M) (some (.int res.1)) (ent g Xo kd res.2) := by
  refine MC_of pn_X12 (Nat.le_of_ble_eq_true rfl) (fun X C B => ?_)
  have hR := B.1
  rw [F_X12_game] at h
  refine e_aload_n C 0 (dk dX12_game_0 0 rfl) rfl rfl ?_
  refine e_iconst C 0 (dk dX12_game_0 1 rfl) (by decide) ?_
  refine pf_X12_code C K ht fl_X12_156 (dk dX12_game_0 2 rfl) ?_
  refine e_aload_n C 0 (dk dX12_game_0 3 rfl) rfl rfl ?_
  refine e_iload_n C 1 (dk dX12_game_0 4 rfl) rfl rfl ?_
  refine e_callV (ci := 12) C cal_X12_isPerson im_X12_isPerson se_X12_isPerson ml_X12_399 rfl hR (by decide) (dk dX12_game_0 5 rfl) (K.1 _ (by rw [ht]; decide)) (ent_o12 ht) (c_X12_isPerson K ht (rfl : F_X12_isPerson t p0 (up M t 2 0) = _)) ⟨Nat.zero_le _, Nat.zero_le _⟩ (Nat.le_of_ble_eq_true rfl) rfl ?_
  refine e_if_eq C 30 (dk dX12_game_0 6 rfl) (by decide) (fun c1 => ?_) (fun c1 => ?_)
  · rw [if_pos c1] at h
    refine e_lv [0] rfl ?_
    exact j_X12_game_j30 C K ht hR h B
  · rw [if_neg c1] at h
    refine e_aload_n C 0 (dk dX12_game_0 7 rfl) rfl rfl ?_
    refine e_iload_n C 2 (dk dX12_game_0 8 rfl) rfl rfl ?_
    refine e_callV (ci := 12) C cal_X12_isPerson im_X12_isPerson se_X12_isPerson ml_X12_399 rfl hR (by decide) (dk dX12_game_0 9 rfl) (K.1 _ (by rw [ht]; decide)) (ent_o12 ht) (c_X12_isPerson K ht (rfl : F_X12_isPerson t p1 (up M t 2 0) = _)) ⟨Nat.zero_le _, Nat.zero_le _⟩ (Nat.le_of_ble_eq_true rfl) rfl ?_
    refine e_if_eq C 30 (dk dX12_game_0 10 rfl) (by decide) (fun c2 => ?_) (fun c2 => ?_)
    · rw [if_pos c2] at h
      refine e_lv [0] rfl ?_
      exact j_X12_game_j30 C K ht hR h B
    · rw [if_neg c2] at h
      refine e_iload_n C 3 (dk dX12_game_0 11 rfl) rfl rfl ?_
      refine e_if_lt C 30 (dk dX12_game_0 12 rfl) (by decide) (fun c3 => ?_) (fun c3 => ?_)
      · rw [if_pos c3] at h
        refine e_lv [0] rfl ?_
        exact j_X12_game_j30 C K ht hR h B
      · rw [if_neg c3] at h
        refine e_iload_n C 3 (dk dX12_game_0 13 rfl) rfl rfl ?_
        refine e_iconst C 1 (dk dX12_game_0 14 rfl) (by decide) ?_
        refine e_icmp_le C 36 (dk dX12_game_0 15 rfl) (by decide) (fun c4 => ?_) (fun c4 => ?_)
        · rw [if_pos c4] at h
          refine e_iload_n C 1 (dk dX12_game_0 20 rfl) rfl rfl ?_
          refine e_iload_n C 2 (dk dX12_game_0 21 rfl) rfl rfl ?_
          refine e_icmp_ne C 47 (dk dX12_game_0 22 rfl) (by decide) (fun c5 => ?_) (fun c5 => ?_)
          · rw [if_neg c5] at h
            refine e_aload_n C 0 (dk dX12_game_0 27 rfl) rfl rfl ?_
            refine e_iload_n C 1 (dk dX12_game_0 28 rfl) rfl rfl ?_
            obtain ⟨q6, hq6, h⟩ := ob h
            refine e_callV (ci := 12) C cal_X12_canBribe im_X12_canBribe se_X12_canBribe ml_X12_417 rfl hR (by decide) (dk dX12_game_0 29 rfl) (K.1 _ (by rw [ht]; decide)) (ent_o12 ht) (c_X12_canBribe K ht hq6) ⟨Nat.zero_le _, Nat.zero_le _⟩ (Nat.le_of_ble_eq_true rfl) rfl ?_
            refine e_istore C [(4, .int (bi q6)), (0, .ref (g_N g + t)), (1, .int p0), (2, .int p1), (3, .int p2)] (dk dX12_game_0 30 rfl) (by decide) rfl ?_
            refine e_aload_n C 1 (dk dX12_game_0 31 rfl) rfl rfl ?_
            refine e_iload_n C 3 (dk dX12_game_0 32 rfl) rfl rfl ?_
            obtain ⟨q7, hq7, h⟩ := ob h
            refine e_callV (ci := 12) C cal_X12_canBribe im_X12_canBribe se_X12_canBribe ml_X12_417 rfl hR (by decide) (dk dX12_game_0 33 rfl) (K.1 _ (by rw [ht]; decide)) (ent_o12 ht) (c_X12_canBribe K ht hq7) ⟨Nat.zero_le _, Nat.zero_le _⟩ (Nat.le_of_ble_eq_true rfl) rfl ?_
            refine e_istore C [(5, .int (bi q7)), (4, .int (bi q6)), (0, .ref (g_N g + t)), (1, .int p0), (2, .int p1), (3, .int p2)] (dk dX12_game_0 34 rfl) (by decide) rfl ?_
            refine e_aload_n C 2 (dk dX12_game_0 35 rfl) rfl rfl ?_
            refine e_iload_n C 3 (dk dX12_game_0 36 rfl) rfl rfl ?_
            refine e_iload_n C 4 (dk dX12_game_0 37 rfl) rfl rfl ?_
            obtain ⟨q8, hq8, h⟩ := ob h
            refine e_callV (ci := 12) C cal_X12_tellGains im_X12_tellGains se_X12_tellGains ml_X12_479 rfl hR (by decide) (dk dX12_game_0 38 rfl) (K.1 _ (by rw [ht]; decide)) (ent_o12 ht) (c_X12_tellGains K ht hq8) ⟨Nat.zero_le _, Nat.zero_le _⟩ (Nat.le_of_ble_eq_true rfl) rfl ?_
            refine e_iconst C 0 (dk dX12_game_0 39 rfl) (by decide) ?_
            refine e_istore C [(6, .int 0), (5, .int (bi q7)), (4, .int (bi q6)), (0, .ref (g_N g + t)), (1, .int p0), (2, .int p1), (3, .int p2)] (dk dX12_game_0 40 rfl) (by decide) rfl ?_
            refine e_iconst C (-1) (dk dX12_game_0 41 rfl) (by decide) ?_
            refine e_istore C [(7, .int (-1)), (6, .int 0), (5, .int (bi q7)), (4, .int (bi q6)), (0, .ref (g_N g + t)), (1, .int p0), (2, .int p1), (3, .int p2)] (dk dX12_game_0 42 rfl) (by decide) rfl ?_
            refine e_iconst C 0 (dk dX12_game_0 43 rfl) (by decide) ?_
            refine e_istore C [(8, .int 0), (7, .int (-1)), (6, .int 0), (5, .int (bi q7)), (4, .int (bi q6)), (0, .ref (g_N g + t)), (1, .int p0), (2, .int p1), (3, .int p2)] (dk dX12_game_0 44 rfl) (by decide) rfl ?_
            refine e_lv [5, 8, 4, 3, 2, 1, 0] rfl ?_
            refine lb_X12_game_76 C K ht hR (fun s24 h => ?_) h
            refine e_iload_n C 0 (dk dX12_game_2 0 rfl) rfl rfl ?_
            suffices hm26 : EW X g (x_s X).heap.size n 9 (ent g Xo kd q8) 0 0 219 [(3, .int p2), (6, .int s24.1), (7, .int s24.2)] [.int (if p2 = 0 then s24.1 else s24.2)] from (by
              refine e_if_ne C 217 (dk dX12_game_2 1 rfl) (by decide) (fun c25 => ?_) (fun c25 => ?_)
              · rw [show (if p2 = 0 then s24.1 else s24.2) = s24.2 from if_neg c25] at hm26
                refine e_iload C 2 (dk dX12_game_2 4 rfl) rfl ?_
                exact hm26
              · rw [show (if p2 = 0 then s24.1 else s24.2) = s24.1 from if_pos c25] at hm26
                refine e_iload C 1 (dk dX12_game_2 2 rfl) rfl ?_
                refine e_goto C 219 (dk dX12_game_2 3 rfl) (by decide) ?_
                exact hm26)
            obtain rfl := Option.some.inj h
            exact e_iret C B (nar1 _) (dk dX12_game_2 5 rfl)
          · rw [if_pos c5] at h
            refine e_aload_n C 0 (dk dX12_game_0 23 rfl) rfl rfl ?_
            refine e_iconst C 2 (dk dX12_game_0 24 rfl) (by decide) ?_
            refine e_callV (ci := 12) C cal_X12_fail im_X12_fail se_X12_fail ml_X12_318 rfl hR (by decide) (dk dX12_game_0 25 rfl) (K.1 _ (by rw [ht]; decide)) (ent_o12 ht) (c_X12_fail K ht (rfl : F_X12_fail t 2 (up M t 2 0) = _)) ⟨Nat.zero_le _, Nat.zero_le _⟩ (Nat.le_of_ble_eq_true rfl) rfl ?_
            obtain rfl := Option.some.inj h
            exact e_iret C B (nar1 _) (dk dX12_game_0 26 rfl)
        · rw [if_neg c4] at h
          refine e_lv [0] rfl ?_
          exact j_X12_game_j30 C K ht hR h B
set_option maxRecDepth 20000 in
theorem c_X12_drawOf {g : WC} {Xo : Nat → va_E} {n : Nat} {kd : Nat → Nat} (K : KD n kd) {t : Nat} {p0 : Int32} (ht : kd t = 13) {M : Mem} {res : Int32 × Mem} (h : F_X12_drawOf t p0 M = some res) : MC g yX12_drawOf cX12_drawOf 2 (some .int) 0 n [.ref (g_N g + t), .int p0] (ent g Xo kd M) (some (.int res.1)) (ent g Xo kd res.2) := by
  refine MC_of pn_X12 (Nat.le_of_ble_eq_true rfl) (fun X C B => ?_)
  have hR := B.1
  rw [F_X12_drawOf] at h
  refine e_aload_n C 0 (dk dX12_drawOf 0 rfl) rfl rfl ?_
  refine e_aload_n C 0 (dk dX12_drawOf 1 rfl) rfl rfl ?_
  refine gf_X12_seedNow C K ht fl_X12_483 (dk dX12_drawOf 2 rfl) ?_
  refine e_ldcw C kc_X12_486 (dk dX12_drawOf 3 rfl) ?_
  refine e_imul C (dk dX12_drawOf 4 rfl) ?_
  refine e_sipush C 12345 (dk dX12_drawOf 5 rfl) (by decide) ?_
  refine e_iadd C (dk dX12_drawOf 6 rfl) ?_
  refine pf_X12_seedNow C K ht fl_X12_483 (dk dX12_drawOf 7 rfl) ?_
  refine e_aload_n C 0 (dk dX12_drawOf 8 rfl) rfl rfl ?_
  refine gf_X12_seedNow C K ht fl_X12_483 (dk dX12_drawOf 9 rfl) ?_
  refine e_bipush C 16 (dk dX12_drawOf 10 rfl) (by decide) ?_
  refine e_ishr C (dk dX12_drawOf 11 rfl) ?_
  refine e_sipush C 32767 (dk dX12_drawOf 12 rfl) (by decide) ?_
  refine e_iand C (dk dX12_drawOf 13 rfl) ?_
  refine e_iload_n C 1 (dk dX12_drawOf 14 rfl) rfl rfl ?_
  obtain ⟨v1, hv1, h⟩ := ob h
  have gv1 := irm_some hv1
  refine e_irem C (dk dX12_drawOf 15 rfl) gv1.1 ?_
  rw [gv1.2]
  obtain rfl := Option.some.inj h
  exact e_iret C B (nar1 _) (dk dX12_drawOf 16 rfl)
set_option maxRecDepth 20000 in
theorem j_X12_something_j93 {X : FX} {g : WC} {Xo : Nat → va_E} {n : Nat} {kd : Nat → Nat} (C : Cx X g RX12 cX12_something 4) (K : KD n kd) {t : Nat} (ht : kd t = 13) (hR : x_R X = rm 1) {M : Mem} {res : Mem} (h : J_X12_something_j93 t M = some res) (B : Bx X g none 1 n none (ent g Xo kd res)) : EW X g (x_s X).heap.size n 4 (ent g Xo kd M) 0 0 93 [(0, .ref (g_N g + t))] [] := by
  rw [J_X12_something_j93] at h
  refine e_aload_n C 0 (dk dX12_something_0 57 rfl) rfl rfl ?_
  refine e_aload_n C 0 (dk dX12_something_0 58 rfl) rfl rfl ?_
  refine e_bipush C 10 (dk dX12_something_0 59 rfl) (by decide) ?_
  obtain ⟨q3, hq3, h⟩ := ob h
  refine e_callV (ci := 12) C cal_X12_drawOf im_X12_drawOf se_X12_drawOf ml_X12_487 rfl hR (by decide) (dk dX12_something_1 0 rfl) (K.1 _ (by rw [ht]; decide)) (ent_o12 ht) (c_X12_drawOf K ht hq3) ⟨Nat.zero_le _, Nat.zero_le _⟩ (Nat.le_of_ble_eq_true rfl) rfl ?_
  refine pf_X12_fogNow C K ht fl_X12_86 (dk dX12_something_1 1 rfl) ?_
  obtain rfl := Option.some.inj h
  exact e_vret C B (dk dX12_something_1 2 rfl)
set_option maxRecDepth 20000 in
theorem j_X12_something_j56 {X : FX} {g : WC} {Xo : Nat → va_E} {n : Nat} {kd : Nat → Nat} (C : Cx X g RX12 cX12_something 4) (K : KD n kd) {t : Nat} (ht : kd t = 13) (hR : x_R X = rm 1) {x1 : Int32} {x2 : Int32} {M : Mem} {res : Mem} (h : J_X12_something_j56 t x1 x2 M = some res) (B : Bx X g none 1 n none (ent g Xo kd res)) : EW X g (x_s X).heap.size n 4 (ent g Xo kd M) 0 0 56 [(0, .ref (g_N g + t)), (1, .int x1), (2, .int x2)] [] := by
  rw [J_X12_something_j56] at h
  refine e_iload_n C 1 (dk dX12_something_0 33 rfl) rfl rfl ?_
  refine e_iconst C 1 (dk dX12_something_0 34 rfl) (by decide) ?_
  refine e_icmp_ne C 93 (dk dX12_something_0 35 rfl) (by decide) (fun c7 => ?_) (fun c7 => ?_)
  · rw [if_neg c7] at h
    refine e_lv [0] rfl ?_
    exact j_X12_something_j93 C K ht hR h B
  · rw [if_pos c7] at h
    refine e_aload_n C 0 (dk dX12_something_0 36 rfl) rfl rfl ?_
    refine e_aload_n C 0 (dk dX12_something_0 37 rfl) rfl rfl ?_
    refine gf_X12_places C K ht fl_X12_53 (dk dX12_something_0 38 rfl) ?_
    refine e_iload_n C 2 (dk dX12_something_0 39 rfl) rfl rfl ?_
    obtain ⟨v8, hv8, h⟩ := ob h
    refine m_ald C K (kd_X12_places K ht) (dk dX12_something_0 40 rfl) hv8 ?_
    obtain ⟨q9, hq9, h⟩ := ob h
    refine e_callV (ci := 12) C cal_X12_drawOf im_X12_drawOf se_X12_drawOf ml_X12_487 rfl hR (by decide) (dk dX12_something_0 41 rfl) (K.1 _ (by rw [ht]; decide)) (ent_o12 ht) (c_X12_drawOf K ht hq9) ⟨Nat.zero_le _, Nat.zero_le _⟩ (Nat.le_of_ble_eq_true rfl) rfl ?_
    refine e_istore_n C [(3, .int q9.1), (0, .ref (g_N g + t)), (1, .int x1), (2, .int x2)] (dk dX12_something_0 42 rfl) rfl (by decide) rfl ?_
    refine e_aload_n C 1 (dk dX12_something_0 43 rfl) rfl rfl ?_
    refine gf_X12_walks C K ht fl_X12_80 (dk dX12_something_0 44 rfl) ?_
    refine e_bipush C 6 (dk dX12_something_0 45 rfl) (by decide) ?_
    refine e_iload_n C 3 (dk dX12_something_0 46 rfl) rfl rfl ?_
    refine e_imul C (dk dX12_something_0 47 rfl) ?_
    refine e_iload_n C 0 (dk dX12_something_0 48 rfl) rfl rfl ?_
    refine e_iadd C (dk dX12_something_0 49 rfl) ?_
    refine e_aload_n C 1 (dk dX12_something_0 50 rfl) rfl rfl ?_
    refine e_aload_n C 1 (dk dX12_something_0 51 rfl) rfl rfl ?_
    refine gf_X12_told C K ht fl_X12_38 (dk dX12_something_0 52 rfl) ?_
    refine e_iconst C 0 (dk dX12_something_0 53 rfl) (by decide) ?_
    refine m_aldc C K (kd_X12_told K ht) 0 (dk dX12_something_0 54 rfl) (by decide) (by decide) ?_
    obtain ⟨q10, hq10, h⟩ := ob h
    refine e_callV (ci := 12) C cal_X12_drawOf im_X12_drawOf se_X12_drawOf ml_X12_487 rfl hR (by decide) (dk dX12_something_0 55 rfl) (K.1 _ (by rw [ht]; decide)) (ent_o12 ht) (c_X12_drawOf K ht hq10) ⟨Nat.zero_le _, Nat.zero_le _⟩ (Nat.le_of_ble_eq_true rfl) rfl ?_
    obtain ⟨M11, hM11, h⟩ := ob h
    refine m_ast C K (kd_X12_walks K ht) (dk dX12_something_0 56 rfl) hM11 ?_
    refine e_lv [1] rfl ?_
    exact j_X12_something_j93 C K ht hR h B
set_option maxRecDepth 20000 in
theorem c_X12_something {g : WC} {Xo : Nat → va_E} {n : Nat} {kd : Nat → Nat} (K : KD n kd) {t : Nat} (ht : kd t = 13) {M : Mem} {res : Mem} (h : F_X12_something t M = some res) : MC g yX12_something cX12_something 4 none 1 n [.ref (g_N g + t)] (ent g Xo kd M) none (ent g Xo kd res) := by
  refine MC_of pn_X12 (Nat.le_of_ble_eq_true rfl) (fun X C B => ?_)
  have hR := B.1
  rw [F_X12_something] at h
  refine e_aload_n C 0 (dk dX12_something_0 0 rfl) rfl rfl ?_
  refine e_iconst C 4 (dk dX12_something_0 1 rfl) (by decide) ?_
  obtain ⟨q1, hq1, h⟩ := ob h
  refine e_callV (ci := 12) C cal_X12_drawOf im_X12_drawOf se_X12_drawOf ml_X12_487 rfl hR (by decide) (dk dX12_something_0 2 rfl) (K.1 _ (by rw [ht]; decide)) (ent_o12 ht) (c_X12_drawOf K ht hq1) ⟨Nat.zero_le _, Nat.zero_le _⟩ (Nat.le_of_ble_eq_true rfl) rfl ?_
  refine e_istore_n C [(1, .int q1.1), (0, .ref (g_N g + t))] (dk dX12_something_0 3 rfl) rfl (by decide) rfl ?_
  refine e_iload_n C 0 (dk dX12_something_0 4 rfl) rfl rfl ?_
  refine e_iconst C 2 (dk dX12_something_0 5 rfl) (by decide) ?_
  refine e_icmp_ge C 93 (dk dX12_something_0 6 rfl) (by decide) (fun c2 => ?_) (fun c2 => ?_)
  · rw [if_pos c2] at h
    refine e_lv [1] rfl ?_
    exact j_X12_something_j93 C K ht hR h B
  · rw [if_neg c2] at h
    refine e_aload_n C 1 (dk dX12_something_0 7 rfl) rfl rfl ?_
    refine gf_X12_told C K ht fl_X12_38 (dk dX12_something_0 8 rfl) ?_
    refine e_iconst C 3 (dk dX12_something_0 9 rfl) (by decide) ?_
    refine m_aldc C K (kd_X12_told K ht) 3 (dk dX12_something_0 10 rfl) (by decide) (by decide) ?_
    refine e_if_le C 93 (dk dX12_something_0 11 rfl) (by decide) (fun c4 => ?_) (fun c4 => ?_)
    · rw [if_pos c4] at h
      refine e_lv [1] rfl ?_
      exact j_X12_something_j93 C K ht hR h B
    · rw [if_neg c4] at h
      refine e_aload_n C 1 (dk dX12_something_0 12 rfl) rfl rfl ?_
      refine e_aload_n C 1 (dk dX12_something_0 13 rfl) rfl rfl ?_
      refine gf_X12_told C K ht fl_X12_38 (dk dX12_something_0 14 rfl) ?_
      refine e_iconst C 3 (dk dX12_something_0 15 rfl) (by decide) ?_
      refine m_aldc C K (kd_X12_told K ht) 3 (dk dX12_something_0 16 rfl) (by decide) (by decide) ?_
      obtain ⟨q5, hq5, h⟩ := ob h
      refine e_callV (ci := 12) C cal_X12_drawOf im_X12_drawOf se_X12_drawOf ml_X12_487 rfl hR (by decide) (dk dX12_something_0 17 rfl) (K.1 _ (by rw [ht]; decide)) (ent_o12 ht) (c_X12_drawOf K ht hq5) ⟨Nat.zero_le _, Nat.zero_le _⟩ (Nat.le_of_ble_eq_true rfl) rfl ?_
      refine e_istore_n C [(2, .int q5.1), (1, .int q1.1), (0, .ref (g_N g + t))] (dk dX12_something_0 18 rfl) rfl (by decide) rfl ?_
      refine e_iload_n C 1 (dk dX12_something_0 19 rfl) rfl rfl ?_
      refine e_if_ne C 56 (dk dX12_something_0 20 rfl) (by decide) (fun c6 => ?_) (fun c6 => ?_)
      · rw [if_neg c6] at h
        refine e_lv [2, 1, 0] rfl ?_
        exact j_X12_something_j56 C K ht hR h B
      · rw [if_pos c6] at h
        refine e_aload_n C 2 (dk dX12_something_0 21 rfl) rfl rfl ?_
        refine gf_X12_purse C K ht fl_X12_75 (dk dX12_something_0 22 rfl) ?_
        refine e_iload_n C 0 (dk dX12_something_0 23 rfl) rfl rfl ?_
        refine e_sipush C 999 (dk dX12_something_0 24 rfl) (by decide) ?_
        refine e_aload_n C 2 (dk dX12_something_0 25 rfl) rfl rfl ?_
        refine gf_X12_purse C K ht fl_X12_75 (dk dX12_something_0 26 rfl) ?_
        refine e_iload_n C 0 (dk dX12_something_0 27 rfl) rfl rfl ?_
        obtain ⟨v12, hv12, h⟩ := ob h
        refine m_ald C K (kd_X12_purse K ht) (dk dX12_something_0 28 rfl) hv12 ?_
        refine e_bipush C 20 (dk dX12_something_0 29 rfl) (by decide) ?_
        refine e_iadd C (dk dX12_something_0 30 rfl) ?_
        refine e_mmin C hR ml_X12_193 (dk dX12_something_0 31 rfl) (Nat.le_of_ble_eq_true rfl) ?_
        obtain ⟨M13, hM13, h⟩ := ob h
        refine m_ast C K (kd_X12_purse K ht) (dk dX12_something_0 32 rfl) hM13 ?_
        refine e_lv [2, 1, 0] rfl ?_
        exact j_X12_something_j56 C K ht hR h B
set_option maxRecDepth 20000 in
theorem l_X12_years_61 {X : FX} {g : WC} {Xo : Nat → va_E} {n : Nat} {kd : Nat → Nat} (C : Cx X g RX12 cX12_years 6) (K : KD n kd) {t : Nat} (ht : kd t = 13) {x2 : Int32} {x3 : Int32} (hR : x_R X = rm 5) {OK : Int32 × Mem → Prop} (hx : ∀ s, OK s → EW X g (x_s X).heap.size n 6 (ent g Xo kd s.2) 0 0 90 [(0, .ref (g_N g + t)), (3, .int x3), (4, .int s.1)] []) : ∀ (N9 : Nat) (x4 : Int32) (x5 : Int32) (M : Mem) (q : Int32 × Mem), L_X12_years_61 t x2 x3 N9 x4 x5 M = some q → OK q → EW X g (x_s X).heap.size n 6 (ent g Xo kd M) 0 0 61 [(0, .ref (g_N g + t)), (2, .int x2), (3, .int x3), (4, .int x4), (5, .int x5)] [] := by
  intro N9
  induction N9 with
  | zero =>
    intro x4 x5 M q h
    rw [L_X12_years_61.eq_1] at h
    cases h
  | succ m9 ih =>
    intro x4 x5 M q h hOK
    rw [L_X12_years_61.eq_2] at h
    refine e_iload C 4 (dk dX12_years_0 35 rfl) rfl ?_
    refine e_iload_n C 1 (dk dX12_years_0 36 rfl) rfl rfl ?_
    refine e_icmp_ge C 90 (dk dX12_years_0 37 rfl) (by decide) (fun c4 => ?_) (fun c4 => ?_)
    · rw [if_pos c4] at h
      obtain rfl := Option.some.inj h
      refine e_lv [0, 2, 3] rfl ?_
      exact hx _ hOK
    · rw [if_neg c4] at h
      refine e_aload_n C 0 (dk dX12_years_0 38 rfl) rfl rfl ?_
      obtain ⟨q5, hq5, h⟩ := ob h
      refine e_callV (ci := 12) C cal_X12_something im_X12_something se_X12_something ml_X12_490 rfl hR (by decide) (dk dX12_years_0 39 rfl) (K.1 _ (by rw [ht]; decide)) (ent_o12 ht) (c_X12_something K ht hq5) ⟨Nat.zero_le _, Nat.zero_le _⟩ (Nat.le_of_ble_eq_true rfl) rfl ?_
      refine e_aload_n C 0 (dk dX12_years_0 40 rfl) rfl rfl ?_
      obtain ⟨q6, hq6, h⟩ := ob h
      refine e_callV (ci := 12) C cal_X12_aNight im_X12_aNight se_X12_aNight ml_X12_390 rfl hR (by decide) (dk dX12_years_0 41 rfl) (K.1 _ (by rw [ht]; decide)) (ent_o12 ht) (c_X12_aNight K ht hq6) ⟨Nat.zero_le _, Nat.zero_le _⟩ (Nat.le_of_ble_eq_true rfl) rfl ?_
      refine e_iload C 3 (dk dX12_years_0 42 rfl) rfl ?_
      refine e_aload_n C 0 (dk dX12_years_0 43 rfl) rfl rfl ?_
      refine gf_X12_soldMany C K ht fl_X12_381 (dk dX12_years_0 44 rfl) ?_
      refine e_iadd C (dk dX12_years_0 45 rfl) ?_
      refine e_istore C [(4, .int (x4 + (q6 t 42))), (0, .ref (g_N g + t)), (2, .int x2), (3, .int x3), (5, .int x5)] (dk dX12_years_0 46 rfl) (by decide) rfl ?_
      refine e_iinc C [(5, .int (x5 + 1)), (4, .int (x4 + (q6 t 42))), (0, .ref (g_N g + t)), (2, .int x2), (3, .int x3)] 4 1 (dk dX12_years_0 47 rfl) rfl (by decide) (by decide) rfl ?_
      refine e_goto C 61 (dk dX12_years_0 48 rfl) (by decide) ?_
      refine e_lv [2, 3, 4, 1, 0] rfl ?_
      exact ih _ _ _ _ h hOK
set_option maxRecDepth 20000 in
theorem lb_X12_years_61 {X : FX} {g : WC} {Xo : Nat → va_E} {n : Nat} {kd : Nat → Nat} (C : Cx X g RX12 cX12_years 6) (K : KD n kd) {t : Nat} (ht : kd t = 13) {x2 : Int32} {x3 : Int32} (hR : x_R X = rm 5) {T9 : Type} {f9 : Int32 × Mem → Option T9} {b9 : T9} (hx : ∀ s, f9 s = some b9 → EW X g (x_s X).heap.size n 6 (ent g Xo kd s.2) 0 0 90 [(0, .ref (g_N g + t)), (3, .int x3), (4, .int s.1)] []) {x4 : Int32} {x5 : Int32} {M : Mem} (h : (L_X12_years_61 t x2 x3 FU x4 x5 M).bind f9 = some b9) : EW X g (x_s X).heap.size n 6 (ent g Xo kd M) 0 0 61 [(0, .ref (g_N g + t)), (2, .int x2), (3, .int x3), (4, .int x4), (5, .int x5)] [] := by
  obtain ⟨q, hq, h⟩ := ob h
  exact l_X12_years_61 C K ht hR (OK := fun q => f9 q = some b9) hx FU x4 x5 M q hq h
set_option maxRecDepth 20000 in
theorem j_X12_years_j120 {X : FX} {g : WC} {Xo : Nat → va_E} {n : Nat} {kd : Nat → Nat} (C : Cx X g RX12 cX12_years 6) (K : KD n kd) {t : Nat} (ht : kd t = 13) (hR : x_R X = rm 5) {y0 : Int32} {M : Mem} {res : Int32 × Mem} (h : J_X12_years_j120 t y0 M = some res) (B : Bx X g (some .int) 5 n (some (.int res.1)) (ent g Xo kd res.2)) : EW X g (x_s X).heap.size n 6 (ent g Xo kd M) 0 0 120 [(0, .ref (g_N g + t))] [.int y0] := by
  rw [J_X12_years_j120] at h
  refine e_istore C [(5, .int y0), (0, .ref (g_N g + t))] (dk dX12_years_1 4 rfl) (by decide) rfl ?_
  refine e_aload_n C 1 (dk dX12_years_1 5 rfl) rfl rfl ?_
  refine e_aload_n C 1 (dk dX12_years_1 6 rfl) rfl rfl ?_
  refine gf_X12_rowThen C K ht fl_X12_104 (dk dX12_years_1 7 rfl) ?_
  refine e_iconst C 0 (dk dX12_years_1 8 rfl) (by decide) ?_
  obtain ⟨q12, hq12, h⟩ := ob h
  refine e_callV (ci := 12) C cal_X12_unpack im_X12_unpack se_X12_unpack ml_X12_425 rfl hR (by decide) (dk dX12_years_1 9 rfl) (K.1 _ (by rw [ht]; decide)) (ent_o12 ht) (c_X12_unpack K ht (kd_X12_rowThen K ht) hq12) ⟨Nat.zero_le _, Nat.zero_le _⟩ (Nat.le_of_ble_eq_true rfl) rfl ?_
  refine e_iload C 0 (dk dX12_years_1 10 rfl) rfl ?_
  obtain rfl := Option.some.inj h
  exact e_iret C B (nar1 _) (dk dX12_years_1 11 rfl)
set_option maxRecDepth 20000 in
theorem c_X12_years {g : WC} {Xo : Nat → va_E} {n : Nat} {kd : Nat → Nat} (K : KD n kd) {t : Nat} {p0 : Int32} {p1 : Int32} {p2 : Int32} (ht : kd t = 13) {M : Mem} {res : Int32 × Mem} (h : F_X12_years t p0 p1 p2 M = some res) : MC g yX12_years cX12_years 6 (some .int) 5 n [.ref (g_N g + t), .int p0, .int p1, .int p2] (ent g Xo kd M) (some (.int res.1)) (ent g Xo kd res.2) := by
  refine MC_of pn_X12 (Nat.le_of_ble_eq_true rfl) (fun X C B => ?_)
  have hR := B.1
  rw [F_X12_years] at h
  refine e_aload_n C 0 (dk dX12_years_0 0 rfl) rfl rfl ?_
  refine e_iconst C 0 (dk dX12_years_0 1 rfl) (by decide) ?_
  refine pf_X12_code C K ht fl_X12_156 (dk dX12_years_0 2 rfl) ?_
  refine e_iload_n C 3 (dk dX12_years_0 3 rfl) rfl rfl ?_
  refine e_i2l C (dk dX12_years_0 4 rfl) ?_
  refine e_lconst C 0 (dk dX12_years_0 5 rfl) (by decide) ?_
  refine e_ldc2 C kl_X12_468 (dk dX12_years_0 6 rfl) ?_
  refine e_callS C cal_X12_isIn sm_X12_isIn ml_X12_159 hR (by decide) (dk dX12_years_0 7 rfl) (c_X12_isIn K (rfl : F_X12_isIn p2.toInt64 0 2 = _)) ⟨Nat.zero_le _, Nat.zero_le _⟩ (Nat.le_of_ble_eq_true rfl) rfl ?_
  refine e_if_ne C 23 (dk dX12_years_0 8 rfl) (by decide) (fun c1 => ?_) (fun c1 => ?_)
  · rw [if_neg c1] at h
    refine e_iload_n C 2 (dk dX12_years_0 13 rfl) rfl rfl ?_
    refine e_i2l C (dk dX12_years_0 14 rfl) ?_
    refine e_lconst C 0 (dk dX12_years_0 15 rfl) (by decide) ?_
    refine e_ldc2 C kl_X12_428 (dk dX12_years_0 16 rfl) ?_
    refine e_callS C cal_X12_isIn sm_X12_isIn ml_X12_159 hR (by decide) (dk dX12_years_0 17 rfl) (c_X12_isIn K (rfl : F_X12_isIn p1.toInt64 0 40 = _)) ⟨Nat.zero_le _, Nat.zero_le _⟩ (Nat.le_of_ble_eq_true rfl) rfl ?_
    refine e_if_ne C 41 (dk dX12_years_0 18 rfl) (by decide) (fun c2 => ?_) (fun c2 => ?_)
    · rw [if_neg c2] at h
      refine e_aload_n C 0 (dk dX12_years_0 23 rfl) rfl rfl ?_
      refine e_aload_n C 0 (dk dX12_years_0 24 rfl) rfl rfl ?_
      refine gf_X12_rowThen C K ht fl_X12_104 (dk dX12_years_0 25 rfl) ?_
      refine e_iconst C 0 (dk dX12_years_0 26 rfl) (by decide) ?_
      obtain ⟨q3, hq3, h⟩ := ob h
      refine e_callV (ci := 12) C cal_X12_pack im_X12_pack se_X12_pack ml_X12_402 rfl hR (by decide) (dk dX12_years_0 27 rfl) (K.1 _ (by rw [ht]; decide)) (ent_o12 ht) (c_X12_pack K ht (kd_X12_rowThen K ht) hq3) ⟨Nat.zero_le _, Nat.zero_le _⟩ (Nat.le_of_ble_eq_true rfl) rfl ?_
      refine e_aload_n C 0 (dk dX12_years_0 28 rfl) rfl rfl ?_
      refine e_iload_n C 1 (dk dX12_years_0 29 rfl) rfl rfl ?_
      refine pf_X12_seedNow C K ht fl_X12_483 (dk dX12_years_0 30 rfl) ?_
      refine e_iconst C 0 (dk dX12_years_0 31 rfl) (by decide) ?_
      refine e_istore C [(4, .int 0), (0, .ref (g_N g + t)), (1, .int p0), (2, .int p1), (3, .int p2)] (dk dX12_years_0 32 rfl) (by decide) rfl ?_
      refine e_iconst C 0 (dk dX12_years_0 33 rfl) (by decide) ?_
      refine e_istore C [(5, .int 0), (4, .int 0), (0, .ref (g_N g + t)), (1, .int p0), (2, .int p1), (3, .int p2)] (dk dX12_years_0 34 rfl) (by decide) rfl ?_
      refine e_lv [2, 4, 5, 1, 0] rfl ?_
      refine lb_X12_years_61 C K ht hR (fun s8 h => ?_) h
      refine e_aload_n C 0 (dk dX12_years_0 49 rfl) rfl rfl ?_
      refine e_iconst C (-1) (dk dX12_years_0 50 rfl) (by decide) ?_
      refine pf_X12_fogNow C K ht fl_X12_86 (dk dX12_years_0 51 rfl) ?_
      refine e_iload_n C 1 (dk dX12_years_0 52 rfl) rfl rfl ?_
      refine e_if_ne C 104 (dk dX12_years_0 53 rfl) (by decide) (fun c9 => ?_) (fun c9 => ?_)
      · rw [if_neg c9] at h
        refine e_iload_n C 1 (dk dX12_years_0 56 rfl) rfl rfl ?_
        refine e_iconst C 1 (dk dX12_years_0 57 rfl) (by decide) ?_
        refine e_icmp_ne C 116 (dk dX12_years_0 58 rfl) (by decide) (fun c10 => ?_) (fun c10 => ?_)
        · rw [if_neg c10] at h
          refine e_aload_n C 0 (dk dX12_years_1 2 rfl) rfl rfl ?_
          obtain ⟨q11, hq11, h⟩ := ob h
          refine e_callV (ci := 12) C cal_X12_allCoins im_X12_allCoins se_X12_allCoins ml_X12_393 rfl hR (by decide) (dk dX12_years_1 3 rfl) (K.1 _ (by rw [ht]; decide)) (ent_o12 ht) (c_X12_allCoins K ht hq11) ⟨Nat.zero_le _, Nat.zero_le _⟩ (Nat.le_of_ble_eq_true rfl) rfl ?_
          refine e_lv [0] rfl ?_
          exact j_X12_years_j120 C K ht hR h B
        · rw [if_pos c10] at h
          refine e_aload_n C 0 (dk dX12_years_0 59 rfl) rfl rfl ?_
          refine gf_X12_darkness C K ht fl_X12_333 (dk dX12_years_1 0 rfl) ?_
          refine e_goto C 120 (dk dX12_years_1 1 rfl) (by decide) ?_
          refine e_lv [0] rfl ?_
          exact j_X12_years_j120 C K ht hR h B
      · rw [if_pos c9] at h
        refine e_iload C 2 (dk dX12_years_0 54 rfl) rfl ?_
        refine e_goto C 120 (dk dX12_years_0 55 rfl) (by decide) ?_
        refine e_lv [0] rfl ?_
        exact j_X12_years_j120 C K ht hR h B
    · rw [if_pos c2] at h
      refine e_aload_n C 0 (dk dX12_years_0 19 rfl) rfl rfl ?_
      refine e_iconst C 2 (dk dX12_years_0 20 rfl) (by decide) ?_
      refine e_callV (ci := 12) C cal_X12_fail im_X12_fail se_X12_fail ml_X12_318 rfl hR (by decide) (dk dX12_years_0 21 rfl) (K.1 _ (by rw [ht]; decide)) (ent_o12 ht) (c_X12_fail K ht (rfl : F_X12_fail t 2 (up M t 2 0) = _)) ⟨Nat.zero_le _, Nat.zero_le _⟩ (Nat.le_of_ble_eq_true rfl) rfl ?_
      obtain rfl := Option.some.inj h
      exact e_iret C B (nar1 _) (dk dX12_years_0 22 rfl)
  · rw [if_pos c1] at h
    refine e_aload_n C 0 (dk dX12_years_0 9 rfl) rfl rfl ?_
    refine e_iconst C 1 (dk dX12_years_0 10 rfl) (by decide) ?_
    refine e_callV (ci := 12) C cal_X12_fail im_X12_fail se_X12_fail ml_X12_318 rfl hR (by decide) (dk dX12_years_0 11 rfl) (K.1 _ (by rw [ht]; decide)) (ent_o12 ht) (c_X12_fail K ht (rfl : F_X12_fail t 1 (up M t 2 0) = _)) ⟨Nat.zero_le _, Nat.zero_le _⟩ (Nat.le_of_ble_eq_true rfl) rfl ?_
    obtain rfl := Option.some.inj h
    exact e_iret C B (nar1 _) (dk dX12_years_0 12 rfl)
set_option maxRecDepth 20000 in
theorem l_X12_copyTo_2 {X : FX} {g : WC} {Xo : Nat → va_E} {n : Nat} {kd : Nat → Nat} (C : Cx X g RX12 cX12_copyTo 3) (K : KD n kd) {a0 : Nat} {n0 : Nat} {a1 : Nat} {n1 : Nat} (ha0 : IA kd a0 n0) (ha1 : IA kd a1 n1) (hR : x_R X = rm 0) {OK : Mem → Prop} (hx : ∀ s, OK s → EW X g (x_s X).heap.size n 3 (ent g Xo kd s) 0 0 20 [] []) : ∀ (N9 : Nat) (x2 : Int32) (M : Mem) (q : Mem), L_X12_copyTo_2 a0 n0 a1 n1 N9 x2 M = some q → OK q → EW X g (x_s X).heap.size n 3 (ent g Xo kd M) 0 0 2 [(0, .ref (g_N g + a0)), (1, .ref (g_N g + a1)), (2, .int x2)] [] := by
  intro N9
  induction N9 with
  | zero =>
    intro x2 M q h
    rw [L_X12_copyTo_2.eq_1] at h
    cases h
  | succ m9 ih =>
    intro x2 M q h hOK
    rw [L_X12_copyTo_2.eq_2] at h
    refine e_iload_n C 2 (dk dX12_copyTo 2 rfl) rfl rfl ?_
    refine e_aload_n C 0 (dk dX12_copyTo 3 rfl) rfl rfl ?_
    refine m_alen C K ha0 (nI n0) rfl (dk dX12_copyTo 4 rfl) ?_
    refine e_icmp_ge C 20 (dk dX12_copyTo 5 rfl) (by decide) (fun c1 => ?_) (fun c1 => ?_)
    · rw [if_pos c1] at h
      obtain rfl := Option.some.inj h
      refine e_lv [] rfl ?_
      exact hx _ hOK
    · rw [if_neg c1] at h
      refine e_aload_n C 0 (dk dX12_copyTo 6 rfl) rfl rfl ?_
      refine e_iload_n C 2 (dk dX12_copyTo 7 rfl) rfl rfl ?_
      refine e_aload_n C 1 (dk dX12_copyTo 8 rfl) rfl rfl ?_
      refine e_iload_n C 2 (dk dX12_copyTo 9 rfl) rfl rfl ?_
      obtain ⟨v2, hv2, h⟩ := ob h
      refine m_ald C K ha1 (dk dX12_copyTo 10 rfl) hv2 ?_
      obtain ⟨M3, hM3, h⟩ := ob h
      refine m_ast C K ha0 (dk dX12_copyTo 11 rfl) hM3 ?_
      refine e_iinc C [(2, .int (x2 + 1)), (0, .ref (g_N g + a0)), (1, .ref (g_N g + a1))] 2 1 (dk dX12_copyTo 12 rfl) rfl (by decide) (by decide) rfl ?_
      refine e_goto C 2 (dk dX12_copyTo 13 rfl) (by decide) ?_
      refine e_lv [1, 2, 0] rfl ?_
      exact ih _ _ _ h hOK
set_option maxRecDepth 20000 in
theorem lb_X12_copyTo_2 {X : FX} {g : WC} {Xo : Nat → va_E} {n : Nat} {kd : Nat → Nat} (C : Cx X g RX12 cX12_copyTo 3) (K : KD n kd) {a0 : Nat} {n0 : Nat} {a1 : Nat} {n1 : Nat} (ha0 : IA kd a0 n0) (ha1 : IA kd a1 n1) (hR : x_R X = rm 0) {T9 : Type} {f9 : Mem → Option T9} {b9 : T9} (hx : ∀ s, f9 s = some b9 → EW X g (x_s X).heap.size n 3 (ent g Xo kd s) 0 0 20 [] []) {x2 : Int32} {M : Mem} (h : (L_X12_copyTo_2 a0 n0 a1 n1 FU x2 M).bind f9 = some b9) : EW X g (x_s X).heap.size n 3 (ent g Xo kd M) 0 0 2 [(0, .ref (g_N g + a0)), (1, .ref (g_N g + a1)), (2, .int x2)] [] := by
  obtain ⟨q, hq, h⟩ := ob h
  exact l_X12_copyTo_2 C K ha0 ha1 hR (OK := fun q => f9 q = some b9) hx FU x2 M q hq h
set_option maxRecDepth 20000 in
theorem c_X12_copyTo {g : WC} {Xo : Nat → va_E} {n : Nat} {kd : Nat → Nat} (K : KD n kd) {a0 : Nat} {n0 : Nat} {a1 : Nat} {n1 : Nat} (ha0 : IA kd a0 n0) (ha1 : IA kd a1 n1) {M : Mem} {res : Mem} (h : F_X12_copyTo a0 n0 a1 n1 M = some res) : MC g yX12_copyTo cX12_copyTo 3 none 0 n [.ref (g_N g + a0), .ref (g_N g + a1)] (ent g Xo kd M) none (ent g Xo kd res) := by
  refine MC_of pn_X12 (Nat.le_of_ble_eq_true rfl) (fun X C B => ?_)
  have hR := B.1
  rw [F_X12_copyTo] at h
  refine e_iconst C 0 (dk dX12_copyTo 0 rfl) (by decide) ?_
  refine e_istore_n C [(2, .int 0), (0, .ref (g_N g + a0)), (1, .ref (g_N g + a1))] (dk dX12_copyTo 1 rfl) rfl (by decide) rfl ?_
  refine e_lv [1, 2, 0] rfl ?_
  refine lb_X12_copyTo_2 C K ha0 ha1 hR (fun s5 h => ?_) h
  obtain rfl := Option.some.inj h
  exact e_vret C B (dk dX12_copyTo 14 rfl)
set_option maxRecDepth 20000 in
theorem l_X12_image_70 {X : FX} {g : WC} {Xo : Nat → va_E} {n : Nat} {kd : Nat → Nat} (C : Cx X g RX12 cX12_image 2) (K : KD n kd) {t : Nat} (ht : kd t = 13) (hR : x_R X = rm 1) {OK : Mem → Prop} (hx : ∀ s, OK s → EW X g (x_s X).heap.size n 2 (ent g Xo kd s) 0 0 94 [(0, .ref (g_N g + t))] []) : ∀ (N9 : Nat) (x1 : Int32) (M : Mem) (q : Mem), L_X12_image_70 t N9 x1 M = some q → OK q → EW X g (x_s X).heap.size n 2 (ent g Xo kd M) 0 0 70 [(0, .ref (g_N g + t)), (1, .int x1)] [] := by
  intro N9
  induction N9 with
  | zero =>
    intro x1 M q h
    rw [L_X12_image_70.eq_1] at h
    cases h
  | succ m9 ih =>
    intro x1 M q h hOK
    rw [L_X12_image_70.eq_2] at h
    refine e_iload_n C 1 (dk dX12_image 36 rfl) rfl rfl ?_
    refine e_bipush C 8 (dk dX12_image 37 rfl) (by decide) ?_
    refine e_icmp_ge C 94 (dk dX12_image 38 rfl) (by decide) (fun c5 => ?_) (fun c5 => ?_)
    · rw [if_pos c5] at h
      obtain rfl := Option.some.inj h
      refine e_lv [0] rfl ?_
      exact hx _ hOK
    · rw [if_neg c5] at h
      refine e_aload_n C 0 (dk dX12_image 39 rfl) rfl rfl ?_
      refine gf_X12_toldSeenThen C K ht fl_X12_150 (dk dX12_image 40 rfl) ?_
      refine e_iload_n C 1 (dk dX12_image 41 rfl) rfl rfl ?_
      refine e_aload_n C 0 (dk dX12_image 42 rfl) rfl rfl ?_
      refine gf_X12_toldSeen C K ht fl_X12_122 (dk dX12_image 43 rfl) ?_
      refine e_iload_n C 1 (dk dX12_image 44 rfl) rfl rfl ?_
      obtain ⟨v6, hv6, h⟩ := ob h
      refine m_zld C K (kd_X12_toldSeen K ht) (dk dX12_image 45 rfl) hv6 ?_
      obtain ⟨M7, hM7, h⟩ := ob h
      refine m_zst C K (kd_X12_toldSeenThen K ht) (dk dX12_image 46 rfl) hM7 ?_
      refine e_iinc C [(1, .int (x1 + 1)), (0, .ref (g_N g + t))] 1 1 (dk dX12_image 47 rfl) rfl (by decide) (by decide) rfl ?_
      refine e_goto C 70 (dk dX12_image 48 rfl) (by decide) ?_
      refine e_lv [1, 0] rfl ?_
      exact ih _ _ _ h hOK
set_option maxRecDepth 20000 in
theorem lb_X12_image_70 {X : FX} {g : WC} {Xo : Nat → va_E} {n : Nat} {kd : Nat → Nat} (C : Cx X g RX12 cX12_image 2) (K : KD n kd) {t : Nat} (ht : kd t = 13) (hR : x_R X = rm 1) {T9 : Type} {f9 : Mem → Option T9} {b9 : T9} (hx : ∀ s, f9 s = some b9 → EW X g (x_s X).heap.size n 2 (ent g Xo kd s) 0 0 94 [(0, .ref (g_N g + t))] []) {x1 : Int32} {M : Mem} (h : (L_X12_image_70 t FU x1 M).bind f9 = some b9) : EW X g (x_s X).heap.size n 2 (ent g Xo kd M) 0 0 70 [(0, .ref (g_N g + t)), (1, .int x1)] [] := by
  obtain ⟨q, hq, h⟩ := ob h
  exact l_X12_image_70 C K ht hR (OK := fun q => f9 q = some b9) hx FU x1 M q hq h
set_option maxRecDepth 20000 in
theorem c_X12_image {g : WC} {Xo : Nat → va_E} {n : Nat} {kd : Nat → Nat} (K : KD n kd) {t : Nat} (ht : kd t = 13) {M : Mem} {res : Mem} (h : F_X12_image t M = some res) : MC g yX12_image cX12_image 2 none 1 n [.ref (g_N g + t)] (ent g Xo kd M) none (ent g Xo kd res) := by
  refine MC_of pn_X12 (Nat.le_of_ble_eq_true rfl) (fun X C B => ?_)
  have hR := B.1
  rw [F_X12_image] at h
  refine e_aload_n C 0 (dk dX12_image 0 rfl) rfl rfl ?_
  refine e_iconst C 0 (dk dX12_image 1 rfl) (by decide) ?_
  refine pf_X12_code C K ht fl_X12_156 (dk dX12_image 2 rfl) ?_
  refine e_aload_n C 0 (dk dX12_image 3 rfl) rfl rfl ?_
  refine e_iconst C 1 (dk dX12_image 4 rfl) (by decide) ?_
  refine pf_X12_hasImage (b := true) C K ht fl_X12_345 (dk dX12_image 5 rfl) ?_
  refine e_aload_n C 0 (dk dX12_image 6 rfl) rfl rfl ?_
  refine e_aload_n C 0 (dk dX12_image 7 rfl) rfl rfl ?_
  refine gf_X12_acts C K ht fl_X12_339 (dk dX12_image 8 rfl) ?_
  refine pf_X12_actsThen C K ht fl_X12_493 (dk dX12_image 9 rfl) ?_
  refine e_aload_n C 0 (dk dX12_image 10 rfl) rfl rfl ?_
  refine e_aload_n C 0 (dk dX12_image 11 rfl) rfl rfl ?_
  refine gf_X12_tellings C K ht fl_X12_342 (dk dX12_image 12 rfl) ?_
  refine pf_X12_tellingsThen C K ht fl_X12_496 (dk dX12_image 13 rfl) ?_
  refine e_aload_n C 0 (dk dX12_image 14 rfl) rfl rfl ?_
  refine e_aload_n C 0 (dk dX12_image 15 rfl) rfl rfl ?_
  refine gf_X12_imageRow C K ht fl_X12_135 (dk dX12_image 16 rfl) ?_
  refine e_iconst C 0 (dk dX12_image 17 rfl) (by decide) ?_
  obtain ⟨q1, hq1, h⟩ := ob h
  refine e_callV (ci := 12) C cal_X12_pack im_X12_pack se_X12_pack ml_X12_402 rfl hR (by decide) (dk dX12_image 18 rfl) (K.1 _ (by rw [ht]; decide)) (ent_o12 ht) (c_X12_pack K ht (kd_X12_imageRow K ht) hq1) ⟨Nat.zero_le _, Nat.zero_le _⟩ (Nat.le_of_ble_eq_true rfl) rfl ?_
  refine e_aload_n C 0 (dk dX12_image 19 rfl) rfl rfl ?_
  refine gf_X12_pastThen C K ht fl_X12_138 (dk dX12_image 20 rfl) ?_
  refine e_aload_n C 0 (dk dX12_image 21 rfl) rfl rfl ?_
  refine gf_X12_past C K ht fl_X12_83 (dk dX12_image 22 rfl) ?_
  obtain ⟨q2, hq2, h⟩ := ob h
  refine e_callS C cal_X12_copyTo sm_X12_copyTo ml_X12_499 hR (by decide) (dk dX12_image 23 rfl) (c_X12_copyTo K (kd_X12_pastThen K ht) (kd_X12_past K ht) hq2) ⟨Nat.zero_le _, Nat.zero_le _⟩ (Nat.le_of_ble_eq_true rfl) rfl ?_
  refine e_aload_n C 0 (dk dX12_image 24 rfl) rfl rfl ?_
  refine gf_X12_toldPersonThen C K ht fl_X12_141 (dk dX12_image 25 rfl) ?_
  refine e_aload_n C 0 (dk dX12_image 26 rfl) rfl rfl ?_
  refine gf_X12_toldPerson C K ht fl_X12_113 (dk dX12_image 27 rfl) ?_
  obtain ⟨q3, hq3, h⟩ := ob h
  refine e_callS C cal_X12_copyTo sm_X12_copyTo ml_X12_499 hR (by decide) (dk dX12_image 28 rfl) (c_X12_copyTo K (kd_X12_toldPersonThen K ht) (kd_X12_toldPerson K ht) hq3) ⟨Nat.zero_le _, Nat.zero_le _⟩ (Nat.le_of_ble_eq_true rfl) rfl ?_
  refine e_aload_n C 0 (dk dX12_image 29 rfl) rfl rfl ?_
  refine gf_X12_toldInThen C K ht fl_X12_144 (dk dX12_image 30 rfl) ?_
  refine e_aload_n C 0 (dk dX12_image 31 rfl) rfl rfl ?_
  refine gf_X12_toldIn C K ht fl_X12_116 (dk dX12_image 32 rfl) ?_
  obtain ⟨q4, hq4, h⟩ := ob h
  refine e_callS C cal_X12_copyTo sm_X12_copyTo ml_X12_499 hR (by decide) (dk dX12_image 33 rfl) (c_X12_copyTo K (kd_X12_toldInThen K ht) (kd_X12_toldIn K ht) hq4) ⟨Nat.zero_le _, Nat.zero_le _⟩ (Nat.le_of_ble_eq_true rfl) rfl ?_
  refine e_iconst C 0 (dk dX12_image 34 rfl) (by decide) ?_
  refine e_istore_n C [(1, .int 0), (0, .ref (g_N g + t))] (dk dX12_image 35 rfl) rfl (by decide) rfl ?_
  refine e_lv [1, 0] rfl ?_
  refine lb_X12_image_70 C K ht hR (fun s9 h => ?_) h
  refine e_aload_n C 0 (dk dX12_image 49 rfl) rfl rfl ?_
  refine gf_X12_statusThen C K ht fl_X12_147 (dk dX12_image 50 rfl) ?_
  refine e_aload_n C 0 (dk dX12_image 51 rfl) rfl rfl ?_
  refine gf_X12_status C K ht fl_X12_65 (dk dX12_image 52 rfl) ?_
  obtain ⟨q10, hq10, h⟩ := ob h
  refine e_callS C cal_X12_copyTo sm_X12_copyTo ml_X12_499 hR (by decide) (dk dX12_image 53 rfl) (c_X12_copyTo K (kd_X12_statusThen K ht) (kd_X12_status K ht) hq10) ⟨Nat.zero_le _, Nat.zero_le _⟩ (Nat.le_of_ble_eq_true rfl) rfl ?_
  obtain rfl := Option.some.inj h
  exact e_vret C B (dk dX12_image 54 rfl)
set_option maxRecDepth 20000 in
theorem l_X12_restore_74 {X : FX} {g : WC} {Xo : Nat → va_E} {n : Nat} {kd : Nat → Nat} (C : Cx X g RX12 cX12_restore 2) (K : KD n kd) {t : Nat} (ht : kd t = 13) (hR : x_R X = rm 1) {OK : Mem → Prop} (hx : ∀ s, OK s → EW X g (x_s X).heap.size n 2 (ent g Xo kd s) 0 0 98 [(0, .ref (g_N g + t))] []) : ∀ (N9 : Nat) (x1 : Int32) (M : Mem) (q : Mem), L_X12_restore_74 t N9 x1 M = some q → OK q → EW X g (x_s X).heap.size n 2 (ent g Xo kd M) 0 0 74 [(0, .ref (g_N g + t)), (1, .int x1)] [] := by
  intro N9
  induction N9 with
  | zero =>
    intro x1 M q h
    rw [L_X12_restore_74.eq_1] at h
    cases h
  | succ m9 ih =>
    intro x1 M q h hOK
    rw [L_X12_restore_74.eq_2] at h
    refine e_iload_n C 1 (dk dX12_restore 38 rfl) rfl rfl ?_
    refine e_bipush C 8 (dk dX12_restore 39 rfl) (by decide) ?_
    refine e_icmp_ge C 98 (dk dX12_restore 40 rfl) (by decide) (fun c6 => ?_) (fun c6 => ?_)
    · rw [if_pos c6] at h
      obtain rfl := Option.some.inj h
      refine e_lv [0] rfl ?_
      exact hx _ hOK
    · rw [if_neg c6] at h
      refine e_aload_n C 0 (dk dX12_restore 41 rfl) rfl rfl ?_
      refine gf_X12_toldSeen C K ht fl_X12_122 (dk dX12_restore 42 rfl) ?_
      refine e_iload_n C 1 (dk dX12_restore 43 rfl) rfl rfl ?_
      refine e_aload_n C 0 (dk dX12_restore 44 rfl) rfl rfl ?_
      refine gf_X12_toldSeenThen C K ht fl_X12_150 (dk dX12_restore 45 rfl) ?_
      refine e_iload_n C 1 (dk dX12_restore 46 rfl) rfl rfl ?_
      obtain ⟨v7, hv7, h⟩ := ob h
      refine m_zld C K (kd_X12_toldSeenThen K ht) (dk dX12_restore 47 rfl) hv7 ?_
      obtain ⟨M8, hM8, h⟩ := ob h
      refine m_zst C K (kd_X12_toldSeen K ht) (dk dX12_restore 48 rfl) hM8 ?_
      refine e_iinc C [(1, .int (x1 + 1)), (0, .ref (g_N g + t))] 1 1 (dk dX12_restore 49 rfl) rfl (by decide) (by decide) rfl ?_
      refine e_goto C 74 (dk dX12_restore 50 rfl) (by decide) ?_
      refine e_lv [1, 0] rfl ?_
      exact ih _ _ _ h hOK
set_option maxRecDepth 20000 in
theorem lb_X12_restore_74 {X : FX} {g : WC} {Xo : Nat → va_E} {n : Nat} {kd : Nat → Nat} (C : Cx X g RX12 cX12_restore 2) (K : KD n kd) {t : Nat} (ht : kd t = 13) (hR : x_R X = rm 1) {T9 : Type} {f9 : Mem → Option T9} {b9 : T9} (hx : ∀ s, f9 s = some b9 → EW X g (x_s X).heap.size n 2 (ent g Xo kd s) 0 0 98 [(0, .ref (g_N g + t))] []) {x1 : Int32} {M : Mem} (h : (L_X12_restore_74 t FU x1 M).bind f9 = some b9) : EW X g (x_s X).heap.size n 2 (ent g Xo kd M) 0 0 74 [(0, .ref (g_N g + t)), (1, .int x1)] [] := by
  obtain ⟨q, hq, h⟩ := ob h
  exact l_X12_restore_74 C K ht hR (OK := fun q => f9 q = some b9) hx FU x1 M q hq h
set_option maxRecDepth 20000 in
theorem c_X12_restore {g : WC} {Xo : Nat → va_E} {n : Nat} {kd : Nat → Nat} (K : KD n kd) {t : Nat} (ht : kd t = 13) {M : Mem} {res : Bool × Mem} (h : F_X12_restore t M = some res) : MC g yX12_restore cX12_restore 2 (some .boolean) 1 n [.ref (g_N g + t)] (ent g Xo kd M) (some (.int (bi res.1))) (ent g Xo kd res.2) := by
  refine MC_of pn_X12 (Nat.le_of_ble_eq_true rfl) (fun X C B => ?_)
  have hR := B.1
  rw [F_X12_restore] at h
  refine e_aload_n C 0 (dk dX12_restore 0 rfl) rfl rfl ?_
  refine e_iconst C 0 (dk dX12_restore 1 rfl) (by decide) ?_
  refine pf_X12_code C K ht fl_X12_156 (dk dX12_restore 2 rfl) ?_
  refine e_aload_n C 0 (dk dX12_restore 3 rfl) rfl rfl ?_
  refine gf_X12_hasImage C K ht fl_X12_345 (dk dX12_restore 4 rfl) ?_
  refine e_if_ne C 14 (dk dX12_restore 5 rfl) (by decide) (fun c1 => ?_) (fun c1 => ?_)
  · rw [if_neg c1] at h
    refine e_aload_n C 0 (dk dX12_restore 8 rfl) rfl rfl ?_
    refine e_aload_n C 0 (dk dX12_restore 9 rfl) rfl rfl ?_
    refine gf_X12_actsThen C K ht fl_X12_493 (dk dX12_restore 10 rfl) ?_
    refine pf_X12_acts C K ht fl_X12_339 (dk dX12_restore 11 rfl) ?_
    refine e_aload_n C 0 (dk dX12_restore 12 rfl) rfl rfl ?_
    refine e_aload_n C 0 (dk dX12_restore 13 rfl) rfl rfl ?_
    refine gf_X12_tellingsThen C K ht fl_X12_496 (dk dX12_restore 14 rfl) ?_
    refine pf_X12_tellings C K ht fl_X12_342 (dk dX12_restore 15 rfl) ?_
    refine e_aload_n C 0 (dk dX12_restore 16 rfl) rfl rfl ?_
    refine e_aload_n C 0 (dk dX12_restore 17 rfl) rfl rfl ?_
    refine gf_X12_imageRow C K ht fl_X12_135 (dk dX12_restore 18 rfl) ?_
    refine e_iconst C 0 (dk dX12_restore 19 rfl) (by decide) ?_
    obtain ⟨q2, hq2, h⟩ := ob h
    refine e_callV (ci := 12) C cal_X12_unpack im_X12_unpack se_X12_unpack ml_X12_425 rfl hR (by decide) (dk dX12_restore 20 rfl) (K.1 _ (by rw [ht]; decide)) (ent_o12 ht) (c_X12_unpack K ht (kd_X12_imageRow K ht) hq2) ⟨Nat.zero_le _, Nat.zero_le _⟩ (Nat.le_of_ble_eq_true rfl) rfl ?_
    refine e_aload_n C 0 (dk dX12_restore 21 rfl) rfl rfl ?_
    refine gf_X12_past C K ht fl_X12_83 (dk dX12_restore 22 rfl) ?_
    refine e_aload_n C 0 (dk dX12_restore 23 rfl) rfl rfl ?_
    refine gf_X12_pastThen C K ht fl_X12_138 (dk dX12_restore 24 rfl) ?_
    obtain ⟨q3, hq3, h⟩ := ob h
    refine e_callS C cal_X12_copyTo sm_X12_copyTo ml_X12_499 hR (by decide) (dk dX12_restore 25 rfl) (c_X12_copyTo K (kd_X12_past K ht) (kd_X12_pastThen K ht) hq3) ⟨Nat.zero_le _, Nat.zero_le _⟩ (Nat.le_of_ble_eq_true rfl) rfl ?_
    refine e_aload_n C 0 (dk dX12_restore 26 rfl) rfl rfl ?_
    refine gf_X12_toldPerson C K ht fl_X12_113 (dk dX12_restore 27 rfl) ?_
    refine e_aload_n C 0 (dk dX12_restore 28 rfl) rfl rfl ?_
    refine gf_X12_toldPersonThen C K ht fl_X12_141 (dk dX12_restore 29 rfl) ?_
    obtain ⟨q4, hq4, h⟩ := ob h
    refine e_callS C cal_X12_copyTo sm_X12_copyTo ml_X12_499 hR (by decide) (dk dX12_restore 30 rfl) (c_X12_copyTo K (kd_X12_toldPerson K ht) (kd_X12_toldPersonThen K ht) hq4) ⟨Nat.zero_le _, Nat.zero_le _⟩ (Nat.le_of_ble_eq_true rfl) rfl ?_
    refine e_aload_n C 0 (dk dX12_restore 31 rfl) rfl rfl ?_
    refine gf_X12_toldIn C K ht fl_X12_116 (dk dX12_restore 32 rfl) ?_
    refine e_aload_n C 0 (dk dX12_restore 33 rfl) rfl rfl ?_
    refine gf_X12_toldInThen C K ht fl_X12_144 (dk dX12_restore 34 rfl) ?_
    obtain ⟨q5, hq5, h⟩ := ob h
    refine e_callS C cal_X12_copyTo sm_X12_copyTo ml_X12_499 hR (by decide) (dk dX12_restore 35 rfl) (c_X12_copyTo K (kd_X12_toldIn K ht) (kd_X12_toldInThen K ht) hq5) ⟨Nat.zero_le _, Nat.zero_le _⟩ (Nat.le_of_ble_eq_true rfl) rfl ?_
    refine e_iconst C 0 (dk dX12_restore 36 rfl) (by decide) ?_
    refine e_istore_n C [(1, .int 0), (0, .ref (g_N g + t))] (dk dX12_restore 37 rfl) rfl (by decide) rfl ?_
    refine e_lv [1, 0] rfl ?_
    refine lb_X12_restore_74 C K ht hR (fun s10 h => ?_) h
    refine e_aload_n C 0 (dk dX12_restore 51 rfl) rfl rfl ?_
    refine gf_X12_status C K ht fl_X12_65 (dk dX12_restore 52 rfl) ?_
    refine e_aload_n C 0 (dk dX12_restore 53 rfl) rfl rfl ?_
    refine gf_X12_statusThen C K ht fl_X12_147 (dk dX12_restore 54 rfl) ?_
    obtain ⟨q11, hq11, h⟩ := ob h
    refine e_callS C cal_X12_copyTo sm_X12_copyTo ml_X12_499 hR (by decide) (dk dX12_restore 55 rfl) (c_X12_copyTo K (kd_X12_status K ht) (kd_X12_statusThen K ht) hq11) ⟨Nat.zero_le _, Nat.zero_le _⟩ (Nat.le_of_ble_eq_true rfl) rfl ?_
    refine e_iconst C 1 (dk dX12_restore 56 rfl) (by decide) ?_
    obtain rfl := Option.some.inj h
    exact e_iret (v := bi true) C B (nar_bi _) (dk dX12_restore 57 rfl)
  · rw [if_pos c1] at h
    refine e_iconst C 0 (dk dX12_restore 6 rfl) (by decide) ?_
    obtain rfl := Option.some.inj h
    exact e_iret (v := bi false) C B (nar_bi _) (dk dX12_restore 7 rfl)
set_option maxRecDepth 20000 in
theorem j_J6_numberOfTrailingZeros_0f7a4_j74 {X : FX} {g : WC} {Xo : Nat → va_E} {n : Nat} {kd : Nat → Nat} (C : Cx X g RJ6 cJ6_numberOfTrailingZeros_0f7a4 2) (K : KD n kd) (hR : x_R X = rm 0) {x0 : Int32} {x1 : Int32} {M : Mem} {res : Int32} (h : J_J6_numberOfTrailingZeros_0f7a4_j74 x0 x1 M = res) (B : Bx X g (some .int) 0 n (some (.int res)) (ent g Xo kd M)) : EW X g (x_s X).heap.size n 2 (ent g Xo kd M) 0 0 74 [(0, .int x0), (1, .int x1)] [] := by
  rw [J_J6_numberOfTrailingZeros_0f7a4_j74] at h
  refine e_iload_n C 1 (dk dJ6_numberOfTrailingZeros_0f7a4 48 rfl) rfl rfl ?_
  refine e_iload_n C 0 (dk dJ6_numberOfTrailingZeros_0f7a4 49 rfl) rfl rfl ?_
  refine e_iconst C 1 (dk dJ6_numberOfTrailingZeros_0f7a4 50 rfl) (by decide) ?_
  refine e_iushr C (dk dJ6_numberOfTrailingZeros_0f7a4 51 rfl) ?_
  refine e_iadd C (dk dJ6_numberOfTrailingZeros_0f7a4 52 rfl) ?_
  subst h
  exact e_iret C B (nar1 _) (dk dJ6_numberOfTrailingZeros_0f7a4 53 rfl)
set_option maxRecDepth 20000 in
theorem j_J6_numberOfTrailingZeros_0f7a4_j62 {X : FX} {g : WC} {Xo : Nat → va_E} {n : Nat} {kd : Nat → Nat} (C : Cx X g RJ6 cJ6_numberOfTrailingZeros_0f7a4 2) (K : KD n kd) (hR : x_R X = rm 0) {x0 : Int32} {x1 : Int32} {M : Mem} {res : Int32} (h : J_J6_numberOfTrailingZeros_0f7a4_j62 x0 x1 M = res) (B : Bx X g (some .int) 0 n (some (.int res)) (ent g Xo kd M)) : EW X g (x_s X).heap.size n 2 (ent g Xo kd M) 0 0 62 [(0, .int x0), (1, .int x1)] [] := by
  rw [J_J6_numberOfTrailingZeros_0f7a4_j62] at h
  refine e_iload_n C 0 (dk dJ6_numberOfTrailingZeros_0f7a4 40 rfl) rfl rfl ?_
  refine e_iconst C 4 (dk dJ6_numberOfTrailingZeros_0f7a4 41 rfl) (by decide) ?_
  refine e_icmp_le C 74 (dk dJ6_numberOfTrailingZeros_0f7a4 42 rfl) (by decide) (fun c5 => ?_) (fun c5 => ?_)
  · rw [if_pos c5] at h
    exact j_J6_numberOfTrailingZeros_0f7a4_j74 C K hR h B
  · rw [if_neg c5] at h
    refine e_iinc C [(1, .int (x1 + 2)), (0, .int x0)] 1 2 (dk dJ6_numberOfTrailingZeros_0f7a4 43 rfl) rfl (by decide) (by decide) rfl ?_
    refine e_iload_n C 1 (dk dJ6_numberOfTrailingZeros_0f7a4 44 rfl) rfl rfl ?_
    refine e_iconst C 2 (dk dJ6_numberOfTrailingZeros_0f7a4 45 rfl) (by decide) ?_
    refine e_iushr C (dk dJ6_numberOfTrailingZeros_0f7a4 46 rfl) ?_
    refine e_istore_n C [(0, .int (iushr x0 2)), (1, .int (x1 + 2))] (dk dJ6_numberOfTrailingZeros_0f7a4 47 rfl) rfl (by decide) rfl ?_
    exact j_J6_numberOfTrailingZeros_0f7a4_j74 C K hR h B
set_option maxRecDepth 20000 in
theorem j_J6_numberOfTrailingZeros_0f7a4_j49 {X : FX} {g : WC} {Xo : Nat → va_E} {n : Nat} {kd : Nat → Nat} (C : Cx X g RJ6 cJ6_numberOfTrailingZeros_0f7a4 2) (K : KD n kd) (hR : x_R X = rm 0) {x0 : Int32} {x1 : Int32} {M : Mem} {res : Int32} (h : J_J6_numberOfTrailingZeros_0f7a4_j49 x0 x1 M = res) (B : Bx X g (some .int) 0 n (some (.int res)) (ent g Xo kd M)) : EW X g (x_s X).heap.size n 2 (ent g Xo kd M) 0 0 49 [(0, .int x0), (1, .int x1)] [] := by
  rw [J_J6_numberOfTrailingZeros_0f7a4_j49] at h
  refine e_iload_n C 0 (dk dJ6_numberOfTrailingZeros_0f7a4 32 rfl) rfl rfl ?_
  refine e_bipush C 16 (dk dJ6_numberOfTrailingZeros_0f7a4 33 rfl) (by decide) ?_
  refine e_icmp_le C 62 (dk dJ6_numberOfTrailingZeros_0f7a4 34 rfl) (by decide) (fun c4 => ?_) (fun c4 => ?_)
  · rw [if_pos c4] at h
    exact j_J6_numberOfTrailingZeros_0f7a4_j62 C K hR h B
  · rw [if_neg c4] at h
    refine e_iinc C [(1, .int (x1 + 4)), (0, .int x0)] 1 4 (dk dJ6_numberOfTrailingZeros_0f7a4 35 rfl) rfl (by decide) (by decide) rfl ?_
    refine e_iload_n C 1 (dk dJ6_numberOfTrailingZeros_0f7a4 36 rfl) rfl rfl ?_
    refine e_iconst C 4 (dk dJ6_numberOfTrailingZeros_0f7a4 37 rfl) (by decide) ?_
    refine e_iushr C (dk dJ6_numberOfTrailingZeros_0f7a4 38 rfl) ?_
    refine e_istore_n C [(0, .int (iushr x0 4)), (1, .int (x1 + 4))] (dk dJ6_numberOfTrailingZeros_0f7a4 39 rfl) rfl (by decide) rfl ?_
    exact j_J6_numberOfTrailingZeros_0f7a4_j62 C K hR h B
set_option maxRecDepth 20000 in
theorem j_J6_numberOfTrailingZeros_0f7a4_j34 {X : FX} {g : WC} {Xo : Nat → va_E} {n : Nat} {kd : Nat → Nat} (C : Cx X g RJ6 cJ6_numberOfTrailingZeros_0f7a4 2) (K : KD n kd) (hR : x_R X = rm 0) {x0 : Int32} {x1 : Int32} {M : Mem} {res : Int32} (h : J_J6_numberOfTrailingZeros_0f7a4_j34 x0 x1 M = res) (B : Bx X g (some .int) 0 n (some (.int res)) (ent g Xo kd M)) : EW X g (x_s X).heap.size n 2 (ent g Xo kd M) 0 0 34 [(0, .int x0), (1, .int x1)] [] := by
  rw [J_J6_numberOfTrailingZeros_0f7a4_j34] at h
  refine e_iload_n C 0 (dk dJ6_numberOfTrailingZeros_0f7a4 24 rfl) rfl rfl ?_
  refine e_sipush C 256 (dk dJ6_numberOfTrailingZeros_0f7a4 25 rfl) (by decide) ?_
  refine e_icmp_le C 49 (dk dJ6_numberOfTrailingZeros_0f7a4 26 rfl) (by decide) (fun c3 => ?_) (fun c3 => ?_)
  · rw [if_pos c3] at h
    exact j_J6_numberOfTrailingZeros_0f7a4_j49 C K hR h B
  · rw [if_neg c3] at h
    refine e_iinc C [(1, .int (x1 + 8)), (0, .int x0)] 1 8 (dk dJ6_numberOfTrailingZeros_0f7a4 27 rfl) rfl (by decide) (by decide) rfl ?_
    refine e_iload_n C 1 (dk dJ6_numberOfTrailingZeros_0f7a4 28 rfl) rfl rfl ?_
    refine e_bipush C 8 (dk dJ6_numberOfTrailingZeros_0f7a4 29 rfl) (by decide) ?_
    refine e_iushr C (dk dJ6_numberOfTrailingZeros_0f7a4 30 rfl) ?_
    refine e_istore_n C [(0, .int (iushr x0 8)), (1, .int (x1 + 8))] (dk dJ6_numberOfTrailingZeros_0f7a4 31 rfl) rfl (by decide) rfl ?_
    exact j_J6_numberOfTrailingZeros_0f7a4_j49 C K hR h B
set_option maxRecDepth 20000 in
theorem c_J6_numberOfTrailingZeros_0f7a4 {g : WC} {Xo : Nat → va_E} {n : Nat} {kd : Nat → Nat} (K : KD n kd) {p0 : Int32} {M : Mem} {res : Int32} (h : F_J6_numberOfTrailingZeros_0f7a4 p0 M = res) : MC g yJ6_numberOfTrailingZeros_0f7a4 cJ6_numberOfTrailingZeros_0f7a4 2 (some .int) 0 n [.int p0] (ent g Xo kd M) (some (.int res)) (ent g Xo kd M) := by
  refine MC_of pn_J6 (Nat.le_of_ble_eq_true rfl) (fun X C B => ?_)
  have hR := B.1
  rw [F_J6_numberOfTrailingZeros_0f7a4] at h
  refine e_iload_n C 0 (dk dJ6_numberOfTrailingZeros_0f7a4 0 rfl) rfl rfl ?_
  refine e_iconst C (-1) (dk dJ6_numberOfTrailingZeros_0f7a4 1 rfl) (by decide) ?_
  refine e_ixor C (dk dJ6_numberOfTrailingZeros_0f7a4 2 rfl) ?_
  refine e_iload_n C 0 (dk dJ6_numberOfTrailingZeros_0f7a4 3 rfl) rfl rfl ?_
  refine e_iconst C 1 (dk dJ6_numberOfTrailingZeros_0f7a4 4 rfl) (by decide) ?_
  refine e_isub C (dk dJ6_numberOfTrailingZeros_0f7a4 5 rfl) ?_
  refine e_iand C (dk dJ6_numberOfTrailingZeros_0f7a4 6 rfl) ?_
  refine e_istore_n C [(0, .int ((p0 ^^^ (-1)) &&& (p0 - 1)))] (dk dJ6_numberOfTrailingZeros_0f7a4 7 rfl) rfl (by decide) rfl ?_
  refine e_iload_n C 0 (dk dJ6_numberOfTrailingZeros_0f7a4 8 rfl) rfl rfl ?_
  refine e_if_gt C 17 (dk dJ6_numberOfTrailingZeros_0f7a4 9 rfl) (by decide) (fun c1 => ?_) (fun c1 => ?_)
  · rw [if_pos c1] at h
    refine e_iconst C 1 (dk dJ6_numberOfTrailingZeros_0f7a4 14 rfl) (by decide) ?_
    refine e_istore_n C [(1, .int 1), (0, .int ((p0 ^^^ (-1)) &&& (p0 - 1)))] (dk dJ6_numberOfTrailingZeros_0f7a4 15 rfl) rfl (by decide) rfl ?_
    refine e_iload_n C 1 (dk dJ6_numberOfTrailingZeros_0f7a4 16 rfl) rfl rfl ?_
    refine e_ldcw C kc_J6_264 (dk dJ6_numberOfTrailingZeros_0f7a4 17 rfl) ?_
    refine e_icmp_le C 34 (dk dJ6_numberOfTrailingZeros_0f7a4 18 rfl) (by decide) (fun c2 => ?_) (fun c2 => ?_)
    · rw [if_pos c2] at h
      refine e_lv [1, 0] rfl ?_
      exact j_J6_numberOfTrailingZeros_0f7a4_j34 C K hR h B
    · rw [if_neg c2] at h
      refine e_iinc C [(1, .int (1 + 16)), (0, .int ((p0 ^^^ (-1)) &&& (p0 - 1)))] 0 16 (dk dJ6_numberOfTrailingZeros_0f7a4 19 rfl) rfl (by decide) (by decide) rfl ?_
      refine e_iload_n C 1 (dk dJ6_numberOfTrailingZeros_0f7a4 20 rfl) rfl rfl ?_
      refine e_bipush C 16 (dk dJ6_numberOfTrailingZeros_0f7a4 21 rfl) (by decide) ?_
      refine e_iushr C (dk dJ6_numberOfTrailingZeros_0f7a4 22 rfl) ?_
      refine e_istore_n C [(0, .int (iushr ((p0 ^^^ (-1)) &&& (p0 - 1)) 16)), (1, .int (1 + 16))] (dk dJ6_numberOfTrailingZeros_0f7a4 23 rfl) rfl (by decide) rfl ?_
      exact j_J6_numberOfTrailingZeros_0f7a4_j34 C K hR h B
  · rw [if_neg c1] at h
    refine e_iload_n C 0 (dk dJ6_numberOfTrailingZeros_0f7a4 10 rfl) rfl rfl ?_
    refine e_bipush C 32 (dk dJ6_numberOfTrailingZeros_0f7a4 11 rfl) (by decide) ?_
    refine e_iand C (dk dJ6_numberOfTrailingZeros_0f7a4 12 rfl) ?_
    subst h
    exact e_iret C B (nar1 _) (dk dJ6_numberOfTrailingZeros_0f7a4 13 rfl)
set_option maxRecDepth 20000 in
theorem c_J6_bitCount_0f7a4 {g : WC} {Xo : Nat → va_E} {n : Nat} {kd : Nat → Nat} (K : KD n kd) {p0 : Int32} {M : Mem} {res : Int32} (h : F_J6_bitCount_0f7a4 p0 = res) : MC g yJ6_bitCount_0f7a4 cJ6_bitCount_0f7a4 1 (some .int) 0 n [.int p0] (ent g Xo kd M) (some (.int res)) (ent g Xo kd M) := by
  refine MC_of pn_J6 (Nat.le_of_ble_eq_true rfl) (fun X C B => ?_)
  have hR := B.1
  rw [F_J6_bitCount_0f7a4] at h
  refine e_iload_n C 0 (dk dJ6_bitCount_0f7a4 0 rfl) rfl rfl ?_
  refine e_iload_n C 0 (dk dJ6_bitCount_0f7a4 1 rfl) rfl rfl ?_
  refine e_iconst C 1 (dk dJ6_bitCount_0f7a4 2 rfl) (by decide) ?_
  refine e_iushr C (dk dJ6_bitCount_0f7a4 3 rfl) ?_
  refine e_ldcw C kc_J6_265 (dk dJ6_bitCount_0f7a4 4 rfl) ?_
  refine e_iand C (dk dJ6_bitCount_0f7a4 5 rfl) ?_
  refine e_isub C (dk dJ6_bitCount_0f7a4 6 rfl) ?_
  refine e_istore_n C [(0, .int (p0 - ((iushr p0 1) &&& 1431655765)))] (dk dJ6_bitCount_0f7a4 7 rfl) rfl (by decide) rfl ?_
  refine e_iload_n C 0 (dk dJ6_bitCount_0f7a4 8 rfl) rfl rfl ?_
  refine e_ldcw C kc_J6_266 (dk dJ6_bitCount_0f7a4 9 rfl) ?_
  refine e_iand C (dk dJ6_bitCount_0f7a4 10 rfl) ?_
  refine e_iload_n C 0 (dk dJ6_bitCount_0f7a4 11 rfl) rfl rfl ?_
  refine e_iconst C 2 (dk dJ6_bitCount_0f7a4 12 rfl) (by decide) ?_
  refine e_iushr C (dk dJ6_bitCount_0f7a4 13 rfl) ?_
  refine e_ldcw C kc_J6_266 (dk dJ6_bitCount_0f7a4 14 rfl) ?_
  refine e_iand C (dk dJ6_bitCount_0f7a4 15 rfl) ?_
  refine e_iadd C (dk dJ6_bitCount_0f7a4 16 rfl) ?_
  refine e_istore_n C [(0, .int (((p0 - ((iushr p0 1) &&& 1431655765)) &&& 858993459) + ((iushr (p0 - ((iushr p0 1) &&& 1431655765)) 2) &&& 858993459)))] (dk dJ6_bitCount_0f7a4 17 rfl) rfl (by decide) rfl ?_
  refine e_iload_n C 0 (dk dJ6_bitCount_0f7a4 18 rfl) rfl rfl ?_
  refine e_iload_n C 0 (dk dJ6_bitCount_0f7a4 19 rfl) rfl rfl ?_
  refine e_iconst C 4 (dk dJ6_bitCount_0f7a4 20 rfl) (by decide) ?_
  refine e_iushr C (dk dJ6_bitCount_0f7a4 21 rfl) ?_
  refine e_iadd C (dk dJ6_bitCount_0f7a4 22 rfl) ?_
  refine e_ldcw C kc_J6_267 (dk dJ6_bitCount_0f7a4 23 rfl) ?_
  refine e_iand C (dk dJ6_bitCount_0f7a4 24 rfl) ?_
  refine e_istore_n C [(0, .int (((((p0 - ((iushr p0 1) &&& 1431655765)) &&& 858993459) + ((iushr (p0 - ((iushr p0 1) &&& 1431655765)) 2) &&& 858993459)) + (iushr (((p0 - ((iushr p0 1) &&& 1431655765)) &&& 858993459) + ((iushr (p0 - ((iushr p0 1) &&& 1431655765)) 2) &&& 858993459)) 4)) &&& 252645135))] (dk dJ6_bitCount_0f7a4 25 rfl) rfl (by decide) rfl ?_
  refine e_iload_n C 0 (dk dJ6_bitCount_0f7a4 26 rfl) rfl rfl ?_
  refine e_iload_n C 0 (dk dJ6_bitCount_0f7a4 27 rfl) rfl rfl ?_
  refine e_bipush C 8 (dk dJ6_bitCount_0f7a4 28 rfl) (by decide) ?_
  refine e_iushr C (dk dJ6_bitCount_0f7a4 29 rfl) ?_
  refine e_iadd C (dk dJ6_bitCount_0f7a4 30 rfl) ?_
  refine e_istore_n C [(0, .int ((((((p0 - ((iushr p0 1) &&& 1431655765)) &&& 858993459) + ((iushr (p0 - ((iushr p0 1) &&& 1431655765)) 2) &&& 858993459)) + (iushr (((p0 - ((iushr p0 1) &&& 1431655765)) &&& 858993459) + ((iushr (p0 - ((iushr p0 1) &&& 1431655765)) 2) &&& 858993459)) 4)) &&& 252645135) + (iushr (((((p0 - ((iushr p0 1) &&& 1431655765)) &&& 858993459) + ((iushr (p0 - ((iushr p0 1) &&& 1431655765)) 2) &&& 858993459)) + (iushr (((p0 - ((iushr p0 1) &&& 1431655765)) &&& 858993459) + ((iushr (p0 - ((iushr p0 1) &&& 1431655765)) 2) &&& 858993459)) 4)) &&& 252645135) 8)))] (dk dJ6_bitCount_0f7a4 31 rfl) rfl (by decide) rfl ?_
  refine e_iload_n C 0 (dk dJ6_bitCount_0f7a4 32 rfl) rfl rfl ?_
  refine e_iload_n C 0 (dk dJ6_bitCount_0f7a4 33 rfl) rfl rfl ?_
  refine e_bipush C 16 (dk dJ6_bitCount_0f7a4 34 rfl) (by decide) ?_
  refine e_iushr C (dk dJ6_bitCount_0f7a4 35 rfl) ?_
  refine e_iadd C (dk dJ6_bitCount_0f7a4 36 rfl) ?_
  refine e_istore_n C [(0, .int (((((((p0 - ((iushr p0 1) &&& 1431655765)) &&& 858993459) + ((iushr (p0 - ((iushr p0 1) &&& 1431655765)) 2) &&& 858993459)) + (iushr (((p0 - ((iushr p0 1) &&& 1431655765)) &&& 858993459) + ((iushr (p0 - ((iushr p0 1) &&& 1431655765)) 2) &&& 858993459)) 4)) &&& 252645135) + (iushr (((((p0 - ((iushr p0 1) &&& 1431655765)) &&& 858993459) + ((iushr (p0 - ((iushr p0 1) &&& 1431655765)) 2) &&& 858993459)) + (iushr (((p0 - ((iushr p0 1) &&& 1431655765)) &&& 858993459) + ((iushr (p0 - ((iushr p0 1) &&& 1431655765)) 2) &&& 858993459)) 4)) &&& 252645135) 8)) + (iushr ((((((p0 - ((iushr p0 1) &&& 1431655765)) &&& 858993459) + ((iushr (p0 - ((iushr p0 1) &&& 1431655765)) 2) &&& 858993459)) + (iushr (((p0 - ((iushr p0 1) &&& 1431655765)) &&& 858993459) + ((iushr (p0 - ((iushr p0 1) &&& 1431655765)) 2) &&& 858993459)) 4)) &&& 252645135) + (iushr (((((p0 - ((iushr p0 1) &&& 1431655765)) &&& 858993459) + ((iushr (p0 - ((iushr p0 1) &&& 1431655765)) 2) &&& 858993459)) + (iushr (((p0 - ((iushr p0 1) &&& 1431655765)) &&& 858993459) + ((iushr (p0 - ((iushr p0 1) &&& 1431655765)) 2) &&& 858993459)) 4)) &&& 252645135) 8)) 16)))] (dk dJ6_bitCount_0f7a4 37 rfl) rfl (by decide) rfl ?_
  refine e_iload_n C 0 (dk dJ6_bitCount_0f7a4 38 rfl) rfl rfl ?_
  refine e_bipush C 63 (dk dJ6_bitCount_0f7a4 39 rfl) (by decide) ?_
  refine e_iand C (dk dJ6_bitCount_0f7a4 40 rfl) ?_
  subst h
  exact e_iret C B (nar1 _) (dk dJ6_bitCount_0f7a4 41 rfl)
set_option maxRecDepth 20000 in
theorem c_X0_begin {g : WC} {Xo : Nat → va_E} {n : Nat} {kd : Nat → Nat} (K : KD n kd) {t : Nat} {w0 : Nat} (ht : kd t = 1) (hw0 : kd w0 = 10) {M : Mem} {res : Mem} (h : F_X0_begin t w0 M = some res) : MC g yX0_begin cX0_begin 2 none 2 n [.ref (g_N g + t), .ref (g_N g + w0)] (ent g Xo kd M) none (ent g Xo kd res) := by
  refine MC_of pn_X0 (Nat.le_of_ble_eq_true rfl) (fun X C B => ?_)
  have hR := B.1
  rw [F_X0_begin] at h
  refine e_aload_n C 0 (dk dX0_begin 0 rfl) rfl rfl ?_
  refine gf_X0_town C K ht fl_X0_12 (dk dX0_begin 1 rfl) ?_
  refine e_aload_n C 1 (dk dX0_begin 2 rfl) rfl rfl ?_
  obtain ⟨q1, hq1, h⟩ := ob h
  refine e_callV (ci := 8) C cal_X8_begin im_X8_begin se_X8_begin ml_X0_36 rfl hR (by decide) (dk dX0_begin 3 rfl) (K.1 _ (by rw [(kd_X0_town K ht)]; decide)) (ent_o8 (kd_X0_town K ht)) (c_X8_begin K (kd_X0_town K ht) hw0 hq1) ⟨Nat.zero_le _, Nat.zero_le _⟩ (Nat.le_of_ble_eq_true rfl) rfl ?_
  refine e_aload_n C 0 (dk dX0_begin 4 rfl) rfl rfl ?_
  refine gf_X0_diary C K ht fl_X0_21 (dk dX0_begin 5 rfl) ?_
  refine e_iconst C 0 (dk dX0_begin 6 rfl) (by decide) ?_
  refine pf_X1_count C K (kd_X0_diary K ht) fl_X0_40 (dk dX0_begin 7 rfl) ?_
  refine e_aload_n C 0 (dk dX0_begin 8 rfl) rfl rfl ?_
  refine gf_X0_told C K ht fl_X0_28 (dk dX0_begin 9 rfl) ?_
  refine e_iconst C 0 (dk dX0_begin 10 rfl) (by decide) ?_
  refine pf_X7_count C K (kd_X0_told K ht) fl_X0_44 (dk dX0_begin 11 rfl) ?_
  obtain rfl := Option.some.inj h
  exact e_vret C B (dk dX0_begin 12 rfl)
set_option maxRecDepth 20000 in
theorem j_X1_add_j13 {X : FX} {g : WC} {Xo : Nat → va_E} {n : Nat} {kd : Nat → Nat} (C : Cx X g RX1 cX1_add 2) (K : KD n kd) {t : Nat} {w0 : Nat} (ht : kd t = 2) (hw0 : kd w0 = 9) (hR : x_R X = rm 2) {M : Mem} {res : Mem} (h : J_X1_add_j13 t w0 M = some res) (B : Bx X g none 2 n none (ent g Xo kd res)) : EW X g (x_s X).heap.size n 2 (ent g Xo kd M) 0 0 13 [(0, .ref (g_N g + t)), (1, .ref (g_N g + w0))] [] := by
  rw [J_X1_add_j13] at h
  refine e_aload_n C 1 (dk dX1_add 6 rfl) rfl rfl ?_
  refine e_aload_n C 0 (dk dX1_add 7 rfl) rfl rfl ?_
  refine gf_X1_rows C K ht fl_X1_11 (dk dX1_add 8 rfl) ?_
  refine e_aload_n C 0 (dk dX1_add 9 rfl) rfl rfl ?_
  refine gf_X1_count C K ht fl_X1_17 (dk dX1_add 10 rfl) ?_
  refine e_bipush C 25 (dk dX1_add 11 rfl) (by decide) ?_
  refine e_imul C (dk dX1_add 12 rfl) ?_
  obtain ⟨q2, hq2, h⟩ := ob h
  refine e_callV (ci := 8) C cal_X8_writeTo im_X8_writeTo se_X8_writeTo ml_X1_24 rfl hR (by decide) (dk dX1_add 13 rfl) (K.1 _ (by rw [hw0]; decide)) (ent_o8 hw0) (c_X8_writeTo K hw0 (kd_X1_rows K ht) hq2) ⟨Nat.zero_le _, Nat.zero_le _⟩ (Nat.le_of_ble_eq_true rfl) rfl ?_
  refine e_aload_n C 0 (dk dX1_add 14 rfl) rfl rfl ?_
  refine e_dup C (dk dX1_add 15 rfl) rfl ?_
  refine gf_X1_count C K ht fl_X1_17 (dk dX1_add 16 rfl) ?_
  refine e_iconst C 1 (dk dX1_add 17 rfl) (by decide) ?_
  refine e_iadd C (dk dX1_add 18 rfl) ?_
  refine pf_X1_count C K ht fl_X1_17 (dk dX1_add 19 rfl) ?_
  obtain rfl := Option.some.inj h
  exact e_vret C B (dk dX1_add 20 rfl)
set_option maxRecDepth 20000 in
theorem c_X1_add {g : WC} {Xo : Nat → va_E} {n : Nat} {kd : Nat → Nat} (K : KD n kd) {t : Nat} {w0 : Nat} (ht : kd t = 2) (hw0 : kd w0 = 9) {M : Mem} {res : Mem} (h : F_X1_add t w0 M = some res) : MC g yX1_add cX1_add 2 none 2 n [.ref (g_N g + t), .ref (g_N g + w0)] (ent g Xo kd M) none (ent g Xo kd res) := by
  refine MC_of pn_X1 (Nat.le_of_ble_eq_true rfl) (fun X C B => ?_)
  have hR := B.1
  rw [F_X1_add] at h
  refine e_aload_n C 0 (dk dX1_add 0 rfl) rfl rfl ?_
  refine gf_X1_count C K ht fl_X1_17 (dk dX1_add 1 rfl) ?_
  refine e_bipush C 40 (dk dX1_add 2 rfl) (by decide) ?_
  refine e_icmp_lt C 13 (dk dX1_add 3 rfl) (by decide) (fun c1 => ?_) (fun c1 => ?_)
  · rw [if_pos c1] at h
    exact j_X1_add_j13 C K ht hw0 hR h B
  · rw [if_neg c1] at h
    refine e_aload_n C 0 (dk dX1_add 4 rfl) rfl rfl ?_
    obtain ⟨q3, hq3, h⟩ := ob h
    refine e_callV (ci := 1) C cal_X1_dropOldest im_X1_dropOldest se_X1_dropOldest ml_X1_21 rfl hR (by decide) (dk dX1_add 5 rfl) (K.1 _ (by rw [ht]; decide)) (ent_o1 ht) (c_X1_dropOldest K ht hq3) ⟨Nat.zero_le _, Nat.zero_le _⟩ (Nat.le_of_ble_eq_true rfl) rfl ?_
    exact j_X1_add_j13 C K ht hw0 hR h B
set_option maxRecDepth 20000 in
theorem c_X1_takeBack {g : WC} {Xo : Nat → va_E} {n : Nat} {kd : Nat → Nat} (K : KD n kd) {t : Nat} {w0 : Nat} (ht : kd t = 2) (hw0 : kd w0 = 9) {M : Mem} {res : Bool × Mem} (h : F_X1_takeBack t w0 M = some res) : MC g yX1_takeBack cX1_takeBack 2 (some .boolean) 2 n [.ref (g_N g + t), .ref (g_N g + w0)] (ent g Xo kd M) (some (.int (bi res.1))) (ent g Xo kd res.2) := by
  refine MC_of pn_X1 (Nat.le_of_ble_eq_true rfl) (fun X C B => ?_)
  have hR := B.1
  rw [F_X1_takeBack] at h
  refine e_aload_n C 0 (dk dX1_takeBack 0 rfl) rfl rfl ?_
  refine gf_X1_count C K ht fl_X1_17 (dk dX1_takeBack 1 rfl) ?_
  refine e_if_ne C 9 (dk dX1_takeBack 2 rfl) (by decide) (fun c1 => ?_) (fun c1 => ?_)
  · rw [if_neg c1] at h
    refine e_aload_n C 0 (dk dX1_takeBack 5 rfl) rfl rfl ?_
    refine e_dup C (dk dX1_takeBack 6 rfl) rfl ?_
    refine gf_X1_count C K ht fl_X1_17 (dk dX1_takeBack 7 rfl) ?_
    refine e_iconst C 1 (dk dX1_takeBack 8 rfl) (by decide) ?_
    refine e_isub C (dk dX1_takeBack 9 rfl) ?_
    refine pf_X1_count C K ht fl_X1_17 (dk dX1_takeBack 10 rfl) ?_
    refine e_aload_n C 1 (dk dX1_takeBack 11 rfl) rfl rfl ?_
    refine e_aload_n C 0 (dk dX1_takeBack 12 rfl) rfl rfl ?_
    refine gf_X1_rows C K ht fl_X1_11 (dk dX1_takeBack 13 rfl) ?_
    refine e_aload_n C 0 (dk dX1_takeBack 14 rfl) rfl rfl ?_
    refine gf_X1_count C K ht fl_X1_17 (dk dX1_takeBack 15 rfl) ?_
    refine e_bipush C 25 (dk dX1_takeBack 16 rfl) (by decide) ?_
    refine e_imul C (dk dX1_takeBack 17 rfl) ?_
    obtain ⟨q2, hq2, h⟩ := ob h
    refine e_callV (ci := 8) C cal_X8_readFrom im_X8_readFrom se_X8_readFrom ml_X1_28 rfl hR (by decide) (dk dX1_takeBack 18 rfl) (K.1 _ (by rw [hw0]; decide)) (ent_o8 hw0) (c_X8_readFrom K hw0 (kd_X1_rows K ht) hq2) ⟨Nat.zero_le _, Nat.zero_le _⟩ (Nat.le_of_ble_eq_true rfl) rfl ?_
    refine e_iconst C 1 (dk dX1_takeBack 19 rfl) (by decide) ?_
    obtain rfl := Option.some.inj h
    exact e_iret (v := bi true) C B (nar_bi _) (dk dX1_takeBack 20 rfl)
  · rw [if_pos c1] at h
    refine e_iconst C 0 (dk dX1_takeBack 3 rfl) (by decide) ?_
    obtain rfl := Option.some.inj h
    exact e_iret (v := bi false) C B (nar_bi _) (dk dX1_takeBack 4 rfl)
set_option maxRecDepth 20000 in
theorem l_X3_chooseFirstRow_4 {X : FX} {g : WC} {Xo : Nat → va_E} {n : Nat} {kd : Nat → Nat} (C : Cx X g RX3 cX3_chooseFirstRow 4) (K : KD n kd) {t : Nat} (ht : kd t = 4) (hR : x_R X = rm 3) {OK : Mem → Prop} (hx : ∀ s, OK s → EW X g (x_s X).heap.size n 4 (ent g Xo kd s) 0 0 47 [] []) : ∀ (N9 : Nat) (x1 : Int32) (x2 : Int32) (M : Mem) (q : Mem), L_X3_chooseFirstRow_4 t N9 x1 x2 M = some q → OK q → EW X g (x_s X).heap.size n 4 (ent g Xo kd M) 0 0 4 [(0, .ref (g_N g + t)), (1, .int x1), (2, .int x2)] [] := by
  intro N9
  induction N9 with
  | zero =>
    intro x1 x2 M q h
    rw [L_X3_chooseFirstRow_4.eq_1] at h
    cases h
  | succ m9 ih =>
    intro x1 x2 M q h hOK
    rw [L_X3_chooseFirstRow_4.eq_2] at h
    refine e_iload_n C 2 (dk dX3_chooseFirstRow 4 rfl) rfl rfl ?_
    refine e_bipush C 7 (dk dX3_chooseFirstRow 5 rfl) (by decide) ?_
    refine e_icmp_ge C 47 (dk dX3_chooseFirstRow 6 rfl) (by decide) (fun c1 => ?_) (fun c1 => ?_)
    · rw [if_pos c1] at h
      obtain rfl := Option.some.inj h
      refine e_lv [] rfl ?_
      exact hx _ hOK
    · rw [if_neg c1] at h
      refine e_aload_n C 0 (dk dX3_chooseFirstRow 7 rfl) rfl rfl ?_
      refine e_iload_n C 2 (dk dX3_chooseFirstRow 8 rfl) rfl rfl ?_
      refine e_iload_n C 1 (dk dX3_chooseFirstRow 9 rfl) rfl rfl ?_
      obtain ⟨q2, hq2, h⟩ := ob h
      refine e_callV (ci := 3) C cal_X3_takerOf im_X3_takerOf se_X3_takerOf ml_X3_61 rfl hR (by decide) (dk dX3_chooseFirstRow 10 rfl) (K.1 _ (by rw [ht]; decide)) (ent_o3 ht) (c_X3_takerOf K ht hq2) ⟨Nat.zero_le _, Nat.zero_le _⟩ (Nat.le_of_ble_eq_true rfl) rfl ?_
      refine e_istore_n C [(3, .int q2), (0, .ref (g_N g + t)), (1, .int x1), (2, .int x2)] (dk dX3_chooseFirstRow 11 rfl) rfl (by decide) rfl ?_
      refine e_aload_n C 1 (dk dX3_chooseFirstRow 12 rfl) rfl rfl ?_
      refine gf_X3_takers C K ht fl_X3_18 (dk dX3_chooseFirstRow 13 rfl) ?_
      refine e_iload_n C 3 (dk dX3_chooseFirstRow 14 rfl) rfl rfl ?_
      refine e_iload_n C 0 (dk dX3_chooseFirstRow 15 rfl) rfl rfl ?_
      refine e_callSN C cal_X11_put sm_X11_put mn_X3_37 hR (by decide) (dk dX3_chooseFirstRow 16 rfl) (c_X11_put K (kd_X3_takers K ht) (rfl : F_X11_put (t + 3) 7 x2 q2 M = _)) ⟨Nat.zero_le _, Nat.zero_le _⟩ (Nat.le_of_ble_eq_true rfl) rfl ?_
      refine e_iload_n C 2 (dk dX3_chooseFirstRow 17 rfl) rfl rfl ?_
      refine e_iload_n C 0 (dk dX3_chooseFirstRow 18 rfl) rfl rfl ?_
      refine e_iconst C (-1) (dk dX3_chooseFirstRow 19 rfl) (by decide) ?_
      suffices hm4 : EW X g (x_s X).heap.size n 4 (ent g Xo kd (F_X11_put (t + 3) 7 x2 q2 M)) 0 0 39 [(3, .int q2), (0, .ref (g_N g + t)), (1, .int x1), (2, .int x2)] [.int (if q2 = (-1) then (0 : Int32) else ((1 : Int32) <<< (q2 &&& 31))), .int x1] from (by
        refine e_icmp_ne C 36 (dk dX3_chooseFirstRow 20 rfl) (by decide) (fun c3 => ?_) (fun c3 => ?_)
        · rw [show (if q2 = (-1) then (0 : Int32) else ((1 : Int32) <<< (q2 &&& 31))) = ((1 : Int32) <<< (q2 &&& 31)) from if_neg c3] at hm4
          refine e_iconst C 1 (dk dX3_chooseFirstRow 23 rfl) (by decide) ?_
          refine e_iload_n C 0 (dk dX3_chooseFirstRow 24 rfl) rfl rfl ?_
          refine e_ishl C (dk dX3_chooseFirstRow 25 rfl) ?_
          exact hm4
        · rw [show (if q2 = (-1) then (0 : Int32) else ((1 : Int32) <<< (q2 &&& 31))) = (0 : Int32) from if_pos c3] at hm4
          refine e_iconst C 0 (dk dX3_chooseFirstRow 21 rfl) (by decide) ?_
          refine e_goto C 39 (dk dX3_chooseFirstRow 22 rfl) (by decide) ?_
          exact hm4)
      refine e_ior C (dk dX3_chooseFirstRow 26 rfl) ?_
      refine e_istore_n C [(1, .int (x1 ||| (if q2 = (-1) then (0 : Int32) else ((1 : Int32) <<< (q2 &&& 31))))), (3, .int q2), (0, .ref (g_N g + t)), (2, .int x2)] (dk dX3_chooseFirstRow 27 rfl) rfl (by decide) rfl ?_
      refine e_iinc C [(2, .int (x2 + 1)), (1, .int (x1 ||| (if q2 = (-1) then (0 : Int32) else ((1 : Int32) <<< (q2 &&& 31))))), (3, .int q2), (0, .ref (g_N g + t))] 3 1 (dk dX3_chooseFirstRow 28 rfl) rfl (by decide) (by decide) rfl ?_
      refine e_goto C 4 (dk dX3_chooseFirstRow 29 rfl) (by decide) ?_
      refine e_lv [3, 1, 0] rfl ?_
      exact ih _ _ _ _ h hOK
set_option maxRecDepth 20000 in
theorem lb_X3_chooseFirstRow_4 {X : FX} {g : WC} {Xo : Nat → va_E} {n : Nat} {kd : Nat → Nat} (C : Cx X g RX3 cX3_chooseFirstRow 4) (K : KD n kd) {t : Nat} (ht : kd t = 4) (hR : x_R X = rm 3) {T9 : Type} {f9 : Mem → Option T9} {b9 : T9} (hx : ∀ s, f9 s = some b9 → EW X g (x_s X).heap.size n 4 (ent g Xo kd s) 0 0 47 [] []) {x1 : Int32} {x2 : Int32} {M : Mem} (h : (L_X3_chooseFirstRow_4 t FU x1 x2 M).bind f9 = some b9) : EW X g (x_s X).heap.size n 4 (ent g Xo kd M) 0 0 4 [(0, .ref (g_N g + t)), (1, .int x1), (2, .int x2)] [] := by
  obtain ⟨q, hq, h⟩ := ob h
  exact l_X3_chooseFirstRow_4 C K ht hR (OK := fun q => f9 q = some b9) hx FU x1 x2 M q hq h
set_option maxRecDepth 20000 in
theorem c_X3_chooseFirstRow {g : WC} {Xo : Nat → va_E} {n : Nat} {kd : Nat → Nat} (K : KD n kd) {t : Nat} (ht : kd t = 4) {M : Mem} {res : Mem} (h : F_X3_chooseFirstRow t M = some res) : MC g yX3_chooseFirstRow cX3_chooseFirstRow 4 none 3 n [.ref (g_N g + t)] (ent g Xo kd M) none (ent g Xo kd res) := by
  refine MC_of pn_X3 (Nat.le_of_ble_eq_true rfl) (fun X C B => ?_)
  have hR := B.1
  rw [F_X3_chooseFirstRow] at h
  refine e_iconst C 0 (dk dX3_chooseFirstRow 0 rfl) (by decide) ?_
  refine e_istore_n C [(1, .int 0), (0, .ref (g_N g + t))] (dk dX3_chooseFirstRow 1 rfl) rfl (by decide) rfl ?_
  refine e_iconst C 0 (dk dX3_chooseFirstRow 2 rfl) (by decide) ?_
  refine e_istore_n C [(2, .int 0), (1, .int 0), (0, .ref (g_N g + t))] (dk dX3_chooseFirstRow 3 rfl) rfl (by decide) rfl ?_
  refine e_lv [2, 1, 0] rfl ?_
  refine lb_X3_chooseFirstRow_4 C K ht hR (fun s6 h => ?_) h
  obtain rfl := Option.some.inj h
  exact e_vret C B (dk dX3_chooseFirstRow 30 rfl)
set_option maxRecDepth 20000 in
theorem l_X4_unlike_4 {X : FX} {g : WC} {Xo : Nat → va_E} {n : Nat} {kd : Nat → Nat} (C : Cx X g RX4 cX4_unlike 4) (K : KD n kd) {t : Nat} (ht : kd t = 5) {x1 : Int32} {M : Mem} (hR : x_R X = rm 1) {OK : Int32 → Prop} (hx : ∀ s, OK s → EW X g (x_s X).heap.size n 4 (ent g Xo kd M) 0 0 33 [(2, .int s)] []) : ∀ (N9 : Nat) (x2 : Int32) (x3 : Int32) (q : Int32), L_X4_unlike_4 t x1 M N9 x2 x3 = some q → OK q → EW X g (x_s X).heap.size n 4 (ent g Xo kd M) 0 0 4 [(0, .ref (g_N g + t)), (1, .int x1), (2, .int x2), (3, .int x3)] [] := by
  intro N9
  induction N9 with
  | zero =>
    intro x2 x3 q h
    rw [L_X4_unlike_4.eq_1] at h
    cases h
  | succ m9 ih =>
    intro x2 x3 q h hOK
    rw [L_X4_unlike_4.eq_2] at h
    refine e_iload_n C 3 (dk dX4_unlike 4 rfl) rfl rfl ?_
    refine e_iconst C 4 (dk dX4_unlike 5 rfl) (by decide) ?_
    refine e_icmp_ge C 33 (dk dX4_unlike 6 rfl) (by decide) (fun c1 => ?_) (fun c1 => ?_)
    · rw [if_pos c1] at h
      obtain rfl := Option.some.inj h
      refine e_lv [2] rfl ?_
      exact hx _ hOK
    · rw [if_neg c1] at h
      refine e_iload_n C 2 (dk dX4_unlike 7 rfl) rfl rfl ?_
      refine e_aload_n C 0 (dk dX4_unlike 8 rfl) rfl rfl ?_
      refine gf_X4_marks C K ht fl_X4_15 (dk dX4_unlike 9 rfl) ?_
      refine e_iload_n C 1 (dk dX4_unlike 10 rfl) rfl rfl ?_
      refine e_iconst C 4 (dk dX4_unlike 11 rfl) (by decide) ?_
      refine e_imul C (dk dX4_unlike 12 rfl) ?_
      refine e_iload_n C 3 (dk dX4_unlike 13 rfl) rfl rfl ?_
      refine e_iadd C (dk dX4_unlike 14 rfl) ?_
      refine e_callSN C cal_X11_at sm_X11_at mn_X4_39 hR (by decide) (dk dX4_unlike 15 rfl) (c_X11_at K (kd_X4_marks K ht) (rfl : F_X11_at (t + 2) 48 ((x1 * 4) + x3) M = _)) ⟨Nat.zero_le _, Nat.zero_le _⟩ (Nat.le_of_ble_eq_true rfl) rfl ?_
      refine e_callS C cal_J6_bitCount_0f7a4 sm_J6_bitCount_0f7a4 ml_X4_83 hR (by decide) (dk dX4_unlike 16 rfl) (c_J6_bitCount_0f7a4 K (rfl : F_J6_bitCount_0f7a4 (F_X11_at (t + 2) 48 ((x1 * 4) + x3) M) = _)) ⟨Nat.zero_le _, Nat.zero_le _⟩ (Nat.le_of_ble_eq_true rfl) rfl ?_
      refine e_iadd C (dk dX4_unlike 17 rfl) ?_
      refine e_istore_n C [(2, .int (x2 + (F_J6_bitCount_0f7a4 (F_X11_at (t + 2) 48 ((x1 * 4) + x3) M)))), (0, .ref (g_N g + t)), (1, .int x1), (3, .int x3)] (dk dX4_unlike 18 rfl) rfl (by decide) rfl ?_
      refine e_iinc C [(3, .int (x3 + 1)), (2, .int (x2 + (F_J6_bitCount_0f7a4 (F_X11_at (t + 2) 48 ((x1 * 4) + x3) M)))), (0, .ref (g_N g + t)), (1, .int x1)] 3 1 (dk dX4_unlike 19 rfl) rfl (by decide) (by decide) rfl ?_
      refine e_goto C 4 (dk dX4_unlike 20 rfl) (by decide) ?_
      refine e_lv [2, 3, 1, 0] rfl ?_
      exact ih _ _ _ h hOK
set_option maxRecDepth 20000 in
theorem lb_X4_unlike_4 {X : FX} {g : WC} {Xo : Nat → va_E} {n : Nat} {kd : Nat → Nat} (C : Cx X g RX4 cX4_unlike 4) (K : KD n kd) {t : Nat} (ht : kd t = 5) {x1 : Int32} {M : Mem} (hR : x_R X = rm 1) {T9 : Type} {f9 : Int32 → Option T9} {b9 : T9} (hx : ∀ s, f9 s = some b9 → EW X g (x_s X).heap.size n 4 (ent g Xo kd M) 0 0 33 [(2, .int s)] []) {x2 : Int32} {x3 : Int32} (h : (L_X4_unlike_4 t x1 M FU x2 x3).bind f9 = some b9) : EW X g (x_s X).heap.size n 4 (ent g Xo kd M) 0 0 4 [(0, .ref (g_N g + t)), (1, .int x1), (2, .int x2), (3, .int x3)] [] := by
  obtain ⟨q, hq, h⟩ := ob h
  exact l_X4_unlike_4 C K ht hR (OK := fun q => f9 q = some b9) hx FU x2 x3 q hq h
set_option maxRecDepth 20000 in
theorem c_X4_unlike {g : WC} {Xo : Nat → va_E} {n : Nat} {kd : Nat → Nat} (K : KD n kd) {t : Nat} {p0 : Int32} (ht : kd t = 5) {M : Mem} {res : Int32} (h : F_X4_unlike t p0 M = some res) : MC g yX4_unlike cX4_unlike 4 (some .int) 1 n [.ref (g_N g + t), .int p0] (ent g Xo kd M) (some (.int res)) (ent g Xo kd M) := by
  refine MC_of pn_X4 (Nat.le_of_ble_eq_true rfl) (fun X C B => ?_)
  have hR := B.1
  rw [F_X4_unlike] at h
  refine e_iconst C 0 (dk dX4_unlike 0 rfl) (by decide) ?_
  refine e_istore_n C [(2, .int 0), (0, .ref (g_N g + t)), (1, .int p0)] (dk dX4_unlike 1 rfl) rfl (by decide) rfl ?_
  refine e_iconst C 0 (dk dX4_unlike 2 rfl) (by decide) ?_
  refine e_istore_n C [(3, .int 0), (2, .int 0), (0, .ref (g_N g + t)), (1, .int p0)] (dk dX4_unlike 3 rfl) rfl (by decide) rfl ?_
  refine e_lv [2, 3, 1, 0] rfl ?_
  refine lb_X4_unlike_4 C K ht hR (fun s3 h => ?_) h
  refine e_iload_n C 0 (dk dX4_unlike 21 rfl) rfl rfl ?_
  obtain rfl := Option.some.inj h
  exact e_iret C B (nar1 _) (dk dX4_unlike 22 rfl)
set_option maxRecDepth 20000 in
theorem l_X4_mostUnlike_4 {X : FX} {g : WC} {Xo : Nat → va_E} {n : Nat} {kd : Nat → Nat} (C : Cx X g RX4 cX4_mostUnlike 3) (K : KD n kd) {t : Nat} (ht : kd t = 5) {M : Mem} (hR : x_R X = rm 2) {OK : Int32 → Prop} (hx : ∀ s, OK s → EW X g (x_s X).heap.size n 3 (ent g Xo kd M) 0 0 26 [(1, .int s)] []) : ∀ (N9 : Nat) (x1 : Int32) (x2 : Int32) (q : Int32), L_X4_mostUnlike_4 t M N9 x1 x2 = some q → OK q → EW X g (x_s X).heap.size n 3 (ent g Xo kd M) 0 0 4 [(0, .ref (g_N g + t)), (1, .int x1), (2, .int x2)] [] := by
  intro N9
  induction N9 with
  | zero =>
    intro x1 x2 q h
    rw [L_X4_mostUnlike_4.eq_1] at h
    cases h
  | succ m9 ih =>
    intro x1 x2 q h hOK
    rw [L_X4_mostUnlike_4.eq_2] at h
    refine e_iload_n C 2 (dk dX4_mostUnlike 4 rfl) rfl rfl ?_
    refine e_bipush C 12 (dk dX4_mostUnlike 5 rfl) (by decide) ?_
    refine e_icmp_ge C 26 (dk dX4_mostUnlike 6 rfl) (by decide) (fun c1 => ?_) (fun c1 => ?_)
    · rw [if_pos c1] at h
      obtain rfl := Option.some.inj h
      refine e_lv [1] rfl ?_
      exact hx _ hOK
    · rw [if_neg c1] at h
      refine e_iload_n C 1 (dk dX4_mostUnlike 7 rfl) rfl rfl ?_
      refine e_aload_n C 0 (dk dX4_mostUnlike 8 rfl) rfl rfl ?_
      refine e_iload_n C 2 (dk dX4_mostUnlike 9 rfl) rfl rfl ?_
      obtain ⟨q2, hq2, h⟩ := ob h
      refine e_callV (ci := 4) C cal_X4_unlike im_X4_unlike se_X4_unlike ml_X4_89 rfl hR (by decide) (dk dX4_mostUnlike 10 rfl) (K.1 _ (by rw [ht]; decide)) (ent_o4 ht) (c_X4_unlike K ht hq2) ⟨Nat.zero_le _, Nat.zero_le _⟩ (Nat.le_of_ble_eq_true rfl) rfl ?_
      refine e_mmax C hR ml_X4_92 (dk dX4_mostUnlike 11 rfl) (Nat.le_of_ble_eq_true rfl) ?_
      refine e_istore_n C [(1, .int (imax x1 q2)), (0, .ref (g_N g + t)), (2, .int x2)] (dk dX4_mostUnlike 12 rfl) rfl (by decide) rfl ?_
      refine e_iinc C [(2, .int (x2 + 1)), (1, .int (imax x1 q2)), (0, .ref (g_N g + t))] 2 1 (dk dX4_mostUnlike 13 rfl) rfl (by decide) (by decide) rfl ?_
      refine e_goto C 4 (dk dX4_mostUnlike 14 rfl) (by decide) ?_
      refine e_lv [2, 1, 0] rfl ?_
      exact ih _ _ _ h hOK
set_option maxRecDepth 20000 in
theorem lb_X4_mostUnlike_4 {X : FX} {g : WC} {Xo : Nat → va_E} {n : Nat} {kd : Nat → Nat} (C : Cx X g RX4 cX4_mostUnlike 3) (K : KD n kd) {t : Nat} (ht : kd t = 5) {M : Mem} (hR : x_R X = rm 2) {T9 : Type} {f9 : Int32 → Option T9} {b9 : T9} (hx : ∀ s, f9 s = some b9 → EW X g (x_s X).heap.size n 3 (ent g Xo kd M) 0 0 26 [(1, .int s)] []) {x1 : Int32} {x2 : Int32} (h : (L_X4_mostUnlike_4 t M FU x1 x2).bind f9 = some b9) : EW X g (x_s X).heap.size n 3 (ent g Xo kd M) 0 0 4 [(0, .ref (g_N g + t)), (1, .int x1), (2, .int x2)] [] := by
  obtain ⟨q, hq, h⟩ := ob h
  exact l_X4_mostUnlike_4 C K ht hR (OK := fun q => f9 q = some b9) hx FU x1 x2 q hq h
set_option maxRecDepth 20000 in
theorem c_X4_mostUnlike {g : WC} {Xo : Nat → va_E} {n : Nat} {kd : Nat → Nat} (K : KD n kd) {t : Nat} (ht : kd t = 5) {M : Mem} {res : Int32} (h : F_X4_mostUnlike t M = some res) : MC g yX4_mostUnlike cX4_mostUnlike 3 (some .int) 2 n [.ref (g_N g + t)] (ent g Xo kd M) (some (.int res)) (ent g Xo kd M) := by
  refine MC_of pn_X4 (Nat.le_of_ble_eq_true rfl) (fun X C B => ?_)
  have hR := B.1
  rw [F_X4_mostUnlike] at h
  refine e_iconst C 0 (dk dX4_mostUnlike 0 rfl) (by decide) ?_
  refine e_istore_n C [(1, .int 0), (0, .ref (g_N g + t))] (dk dX4_mostUnlike 1 rfl) rfl (by decide) rfl ?_
  refine e_iconst C 0 (dk dX4_mostUnlike 2 rfl) (by decide) ?_
  refine e_istore_n C [(2, .int 0), (1, .int 0), (0, .ref (g_N g + t))] (dk dX4_mostUnlike 3 rfl) rfl (by decide) rfl ?_
  refine e_lv [2, 1, 0] rfl ?_
  refine lb_X4_mostUnlike_4 C K ht hR (fun s4 h => ?_) h
  refine e_iload_n C 0 (dk dX4_mostUnlike 15 rfl) rfl rfl ?_
  obtain rfl := Option.some.inj h
  exact e_iret C B (nar1 _) (dk dX4_mostUnlike 16 rfl)
set_option maxRecDepth 20000 in
theorem l_X4_nightToLook_7 {X : FX} {g : WC} {Xo : Nat → va_E} {n : Nat} {kd : Nat → Nat} (C : Cx X g RX4 cX4_nightToLook 3) (K : KD n kd) {t : Nat} (ht : kd t = 5) {x1 : Int32} {M : Mem} (hR : x_R X = rm 3) {OK : Sum (Int32) (Int32) → Prop} (hB : ∀ v, OK (Sum.inl v) → Bx X g (some .int) 3 n (some (.int v)) (ent g Xo kd M)) (hx : ∀ s, OK (Sum.inr s) → EW X g (x_s X).heap.size n 3 (ent g Xo kd M) 0 0 26 [(2, .int s)] []) : ∀ (N9 : Nat) (x2 : Int32) (q : Sum (Int32) (Int32)), L_X4_nightToLook_7 t x1 M N9 x2 = some q → OK q → EW X g (x_s X).heap.size n 3 (ent g Xo kd M) 0 0 7 [(0, .ref (g_N g + t)), (1, .int x1), (2, .int x2)] [] := by
  intro N9
  induction N9 with
  | zero =>
    intro x2 q h
    rw [L_X4_nightToLook_7.eq_1] at h
    cases h
  | succ m9 ih =>
    intro x2 q h hOK
    rw [L_X4_nightToLook_7.eq_2] at h
    refine e_iload_n C 2 (dk dX4_nightToLook 5 rfl) rfl rfl ?_
    refine e_bipush C 12 (dk dX4_nightToLook 6 rfl) (by decide) ?_
    refine e_icmp_ge C 36 (dk dX4_nightToLook 7 rfl) (by decide) (fun c2 => ?_) (fun c2 => ?_)
    · rw [if_pos c2] at h
      refine e_iconst C (-1) (dk dX4_nightToLook 21 rfl) (by decide) ?_
      obtain rfl := Option.some.inj h
      exact e_iret C (hB _ hOK) (nar1 _) (dk dX4_nightToLook 22 rfl)
    · rw [if_neg c2] at h
      refine e_iload_n C 1 (dk dX4_nightToLook 8 rfl) rfl rfl ?_
      refine e_if_le C 36 (dk dX4_nightToLook 9 rfl) (by decide) (fun c3 => ?_) (fun c3 => ?_)
      · rw [if_pos c3] at h
        refine e_iconst C (-1) (dk dX4_nightToLook 21 rfl) (by decide) ?_
        obtain rfl := Option.some.inj h
        exact e_iret C (hB _ hOK) (nar1 _) (dk dX4_nightToLook 22 rfl)
      · rw [if_neg c3] at h
        refine e_aload_n C 0 (dk dX4_nightToLook 10 rfl) rfl rfl ?_
        refine e_iload_n C 2 (dk dX4_nightToLook 11 rfl) rfl rfl ?_
        obtain ⟨q4, hq4, h⟩ := ob h
        refine e_callV (ci := 4) C cal_X4_unlike im_X4_unlike se_X4_unlike ml_X4_89 rfl hR (by decide) (dk dX4_nightToLook 12 rfl) (K.1 _ (by rw [ht]; decide)) (ent_o4 ht) (c_X4_unlike K ht hq4) ⟨Nat.zero_le _, Nat.zero_le _⟩ (Nat.le_of_ble_eq_true rfl) rfl ?_
        refine e_iload_n C 1 (dk dX4_nightToLook 13 rfl) rfl rfl ?_
        refine e_icmp_ne C 30 (dk dX4_nightToLook 14 rfl) (by decide) (fun c5 => ?_) (fun c5 => ?_)
        · rw [if_neg c5] at h
          refine e_iinc C [(2, .int (x2 + 1)), (0, .ref (g_N g + t)), (1, .int x1)] 2 1 (dk dX4_nightToLook 19 rfl) rfl (by decide) (by decide) rfl ?_
          refine e_goto C 7 (dk dX4_nightToLook 20 rfl) (by decide) ?_
          refine e_lv [1, 2, 0] rfl ?_
          exact ih _ _ h hOK
        · rw [if_pos c5] at h
          obtain rfl := Option.some.inj h
          refine e_lv [2] rfl ?_
          exact hx _ hOK
set_option maxRecDepth 20000 in
theorem lb_X4_nightToLook_7 {X : FX} {g : WC} {Xo : Nat → va_E} {n : Nat} {kd : Nat → Nat} (C : Cx X g RX4 cX4_nightToLook 3) (K : KD n kd) {t : Nat} (ht : kd t = 5) {x1 : Int32} {M : Mem} (hR : x_R X = rm 3) {T9 : Type} {f9 : Sum (Int32) (Int32) → Option T9} {b9 : T9} (hB : ∀ v, f9 (Sum.inl v) = some b9 → Bx X g (some .int) 3 n (some (.int v)) (ent g Xo kd M)) (hx : ∀ s, f9 (Sum.inr s) = some b9 → EW X g (x_s X).heap.size n 3 (ent g Xo kd M) 0 0 26 [(2, .int s)] []) {x2 : Int32} (h : (L_X4_nightToLook_7 t x1 M FU x2).bind f9 = some b9) : EW X g (x_s X).heap.size n 3 (ent g Xo kd M) 0 0 7 [(0, .ref (g_N g + t)), (1, .int x1), (2, .int x2)] [] := by
  obtain ⟨q, hq, h⟩ := ob h
  exact l_X4_nightToLook_7 C K ht hR (OK := fun q => f9 q = some b9) hB hx FU x2 q hq h
set_option maxRecDepth 20000 in
theorem c_X4_nightToLook {g : WC} {Xo : Nat → va_E} {n : Nat} {kd : Nat → Nat} (K : KD n kd) {t : Nat} (ht : kd t = 5) {M : Mem} {res : Int32} (h : F_X4_nightToLook t M = some res) : MC g yX4_nightToLook cX4_nightToLook 3 (some .int) 3 n [.ref (g_N g + t)] (ent g Xo kd M) (some (.int res)) (ent g Xo kd M) := by
  refine MC_of pn_X4 (Nat.le_of_ble_eq_true rfl) (fun X C B => ?_)
  have hR := B.1
  rw [F_X4_nightToLook] at h
  refine e_aload_n C 0 (dk dX4_nightToLook 0 rfl) rfl rfl ?_
  obtain ⟨q1, hq1, h⟩ := ob h
  refine e_callV (ci := 4) C cal_X4_mostUnlike im_X4_mostUnlike se_X4_mostUnlike ml_X4_97 rfl hR (by decide) (dk dX4_nightToLook 1 rfl) (K.1 _ (by rw [ht]; decide)) (ent_o4 ht) (c_X4_mostUnlike K ht hq1) ⟨Nat.zero_le _, Nat.zero_le _⟩ (Nat.le_of_ble_eq_true rfl) rfl ?_
  refine e_istore_n C [(1, .int q1), (0, .ref (g_N g + t))] (dk dX4_nightToLook 2 rfl) rfl (by decide) rfl ?_
  refine e_iconst C 0 (dk dX4_nightToLook 3 rfl) (by decide) ?_
  refine e_istore_n C [(2, .int 0), (1, .int q1), (0, .ref (g_N g + t))] (dk dX4_nightToLook 4 rfl) rfl (by decide) rfl ?_
  refine e_lv [2, 1, 0] rfl ?_
  refine lb_X4_nightToLook_7 C K ht hR (fun v h => ?_) (fun s7 h => ?_) h
  · obtain rfl := Option.some.inj (show some v = some _ from h)
    exact B
  dsimp only [Sum.elim_inr] at h
  refine e_iload_n C 0 (dk dX4_nightToLook 15 rfl) rfl rfl ?_
  refine e_iconst C 1 (dk dX4_nightToLook 16 rfl) (by decide) ?_
  refine e_iadd C (dk dX4_nightToLook 17 rfl) ?_
  obtain rfl := Option.some.inj h
  exact e_iret C B (nar1 _) (dk dX4_nightToLook 18 rfl)
set_option maxRecDepth 20000 in
theorem j_X5_readDigits_j72 {X : FX} {g : WC} {Xo : Nat → va_E} {n : Nat} {kd : Nat → Nat} (C : Cx X g RX5 cX5_readDigits 1) (K : KD n kd) {t : Nat} (ht : kd t = 6) (hR : x_R X = rm 1) {OK : Mem → Prop} (hx : ∀ s, OK s → EW X g (x_s X).heap.size n 1 (ent g Xo kd s) 0 0 85 [] []) {rec : Mem → Option (Mem)} (hrec : ∀ (M : Mem) (q : Mem), rec M = some q → OK q → EW X g (x_s X).heap.size n 1 (ent g Xo kd M) 0 0 5 [(0, .ref (g_N g + t))] []) {M : Mem} (q : Mem) (h : J_X5_readDigits_j72 t rec M = some q) (hOK : OK q) : EW X g (x_s X).heap.size n 1 (ent g Xo kd M) 0 0 72 [(0, .ref (g_N g + t))] [] := by
  rw [J_X5_readDigits_j72] at h
  refine e_aload_n C 0 (dk dX5_readDigits 36 rfl) rfl rfl ?_
  refine e_dup C (dk dX5_readDigits 37 rfl) rfl ?_
  refine gf_X5_next C K ht fl_X5_32 (dk dX5_readDigits 38 rfl) ?_
  refine e_iconst C 1 (dk dX5_readDigits 39 rfl) (by decide) ?_
  refine e_iadd C (dk dX5_readDigits 40 rfl) ?_
  refine pf_X5_next C K ht fl_X5_32 (dk dX5_readDigits 41 rfl) ?_
  refine e_goto C 5 (dk dX5_readDigits 42 rfl) (by decide) ?_
  exact hrec _ _ h hOK
set_option maxRecDepth 20000 in
theorem l_X5_readDigits_5 {X : FX} {g : WC} {Xo : Nat → va_E} {n : Nat} {kd : Nat → Nat} (C : Cx X g RX5 cX5_readDigits 1) (K : KD n kd) {t : Nat} (ht : kd t = 6) (hR : x_R X = rm 1) {OK : Mem → Prop} (hx : ∀ s, OK s → EW X g (x_s X).heap.size n 1 (ent g Xo kd s) 0 0 85 [] []) : ∀ (N9 : Nat) (M : Mem) (q : Mem), L_X5_readDigits_5 t N9 M = some q → OK q → EW X g (x_s X).heap.size n 1 (ent g Xo kd M) 0 0 5 [(0, .ref (g_N g + t))] [] := by
  intro N9
  induction N9 with
  | zero =>
    intro M q h
    rw [L_X5_readDigits_5.eq_1] at h
    cases h
  | succ m9 ih =>
    intro M q h hOK
    rw [L_X5_readDigits_5.eq_2] at h
    refine e_aload_n C 0 (dk dX5_readDigits 3 rfl) rfl rfl ?_
    refine gf_X5_next C K ht fl_X5_32 (dk dX5_readDigits 4 rfl) ?_
    refine e_aload_n C 0 (dk dX5_readDigits 5 rfl) rfl rfl ?_
    refine gf_X5_end C K ht fl_X5_26 (dk dX5_readDigits 6 rfl) ?_
    refine e_icmp_ge C 85 (dk dX5_readDigits 7 rfl) (by decide) (fun c1 => ?_) (fun c1 => ?_)
    · rw [if_pos c1] at h
      obtain rfl := Option.some.inj h
      refine e_lv [] rfl ?_
      exact hx _ hOK
    · rw [if_neg c1] at h
      refine e_aload_n C 0 (dk dX5_readDigits 8 rfl) rfl rfl ?_
      refine gf_X5_tape C K ht fl_X5_9 (dk dX5_readDigits 9 rfl) ?_
      refine e_aload_n C 0 (dk dX5_readDigits 10 rfl) rfl rfl ?_
      refine gf_X5_next C K ht fl_X5_32 (dk dX5_readDigits 11 rfl) ?_
      refine e_callSN C cal_X11_at sm_X11_at mn_X5_68 hR (by decide) (dk dX5_readDigits 12 rfl) (c_X11_at K (kd_X5_tape K ht) (rfl : F_X11_at (t + 1) 700 (M t 5) M = _)) ⟨Nat.zero_le _, Nat.zero_le _⟩ (Nat.le_of_ble_eq_true rfl) rfl ?_
      refine e_callS C cal_X5_isDigit sm_X5_isDigit ml_X5_79 hR (by decide) (dk dX5_readDigits 13 rfl) (c_X5_isDigit K (rfl : F_X5_isDigit (F_X11_at (t + 1) 700 (M t 5) M) = _)) ⟨Nat.zero_le _, Nat.zero_le _⟩ (Nat.le_of_ble_eq_true rfl) rfl ?_
      refine e_if_eq C 85 (dk dX5_readDigits 14 rfl) (by decide) (fun c2 => ?_) (fun c2 => ?_)
      · rw [if_pos c2] at h
        obtain rfl := Option.some.inj h
        refine e_lv [] rfl ?_
        exact hx _ hOK
      · rw [if_neg c2] at h
        refine e_aload_n C 0 (dk dX5_readDigits 15 rfl) rfl rfl ?_
        refine gf_X5_next C K ht fl_X5_32 (dk dX5_readDigits 16 rfl) ?_
        refine e_aload_n C 0 (dk dX5_readDigits 17 rfl) rfl rfl ?_
        refine gf_X5_start C K ht fl_X5_29 (dk dX5_readDigits 18 rfl) ?_
        refine e_isub C (dk dX5_readDigits 19 rfl) ?_
        refine e_iconst C 4 (dk dX5_readDigits 20 rfl) (by decide) ?_
        refine e_icmp_ge C 72 (dk dX5_readDigits 21 rfl) (by decide) (fun c3 => ?_) (fun c3 => ?_)
        · rw [if_pos c3] at h
          exact j_X5_readDigits_j72 C K ht hR hx ih _ h hOK
        · rw [if_neg c3] at h
          refine e_aload_n C 0 (dk dX5_readDigits 22 rfl) rfl rfl ?_
          refine e_bipush C 10 (dk dX5_readDigits 23 rfl) (by decide) ?_
          refine e_aload_n C 0 (dk dX5_readDigits 24 rfl) rfl rfl ?_
          refine gf_X5_value C K ht fl_X5_38 (dk dX5_readDigits 25 rfl) ?_
          refine e_imul C (dk dX5_readDigits 26 rfl) ?_
          refine e_aload_n C 0 (dk dX5_readDigits 27 rfl) rfl rfl ?_
          refine gf_X5_tape C K ht fl_X5_9 (dk dX5_readDigits 28 rfl) ?_
          refine e_aload_n C 0 (dk dX5_readDigits 29 rfl) rfl rfl ?_
          refine gf_X5_next C K ht fl_X5_32 (dk dX5_readDigits 30 rfl) ?_
          refine e_callSN C cal_X11_at sm_X11_at mn_X5_68 hR (by decide) (dk dX5_readDigits 31 rfl) (c_X11_at K (kd_X5_tape K ht) (rfl : F_X11_at (t + 1) 700 (M t 5) M = _)) ⟨Nat.zero_le _, Nat.zero_le _⟩ (Nat.le_of_ble_eq_true rfl) rfl ?_
          refine e_iadd C (dk dX5_readDigits 32 rfl) ?_
          refine e_bipush C 48 (dk dX5_readDigits 33 rfl) (by decide) ?_
          refine e_isub C (dk dX5_readDigits 34 rfl) ?_
          refine pf_X5_value C K ht fl_X5_38 (dk dX5_readDigits 35 rfl) ?_
          exact j_X5_readDigits_j72 C K ht hR hx ih _ h hOK
set_option maxRecDepth 20000 in
theorem lb_X5_readDigits_5 {X : FX} {g : WC} {Xo : Nat → va_E} {n : Nat} {kd : Nat → Nat} (C : Cx X g RX5 cX5_readDigits 1) (K : KD n kd) {t : Nat} (ht : kd t = 6) (hR : x_R X = rm 1) {T9 : Type} {f9 : Mem → Option T9} {b9 : T9} (hx : ∀ s, f9 s = some b9 → EW X g (x_s X).heap.size n 1 (ent g Xo kd s) 0 0 85 [] []) {M : Mem} (h : (L_X5_readDigits_5 t FU M).bind f9 = some b9) : EW X g (x_s X).heap.size n 1 (ent g Xo kd M) 0 0 5 [(0, .ref (g_N g + t))] [] := by
  obtain ⟨q, hq, h⟩ := ob h
  exact l_X5_readDigits_5 C K ht hR (OK := fun q => f9 q = some b9) hx FU M q hq h
set_option maxRecDepth 20000 in
theorem c_X5_readDigits {g : WC} {Xo : Nat → va_E} {n : Nat} {kd : Nat → Nat} (K : KD n kd) {t : Nat} (ht : kd t = 6) {M : Mem} {res : Mem} (h : F_X5_readDigits t M = some res) : MC g yX5_readDigits cX5_readDigits 1 none 1 n [.ref (g_N g + t)] (ent g Xo kd M) none (ent g Xo kd res) := by
  refine MC_of pn_X5 (Nat.le_of_ble_eq_true rfl) (fun X C B => ?_)
  have hR := B.1
  rw [F_X5_readDigits] at h
  refine e_aload_n C 0 (dk dX5_readDigits 0 rfl) rfl rfl ?_
  refine e_iconst C 0 (dk dX5_readDigits 1 rfl) (by decide) ?_
  refine pf_X5_value C K ht fl_X5_38 (dk dX5_readDigits 2 rfl) ?_
  refine lb_X5_readDigits_5 C K ht hR (fun s5 h => ?_) h
  obtain rfl := Option.some.inj h
  exact e_vret C B (dk dX5_readDigits 43 rfl)
