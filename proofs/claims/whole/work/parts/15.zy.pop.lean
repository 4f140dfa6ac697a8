/-! ===== the bits of a whole word ===== -/
theorem yp_bt {a i : Nat} (h : i < 32) : bt (nI a) i = a.testBit i := by
  show (BitVec.ofNat 32 a).getLsbD i = _
  rw [BitVec.getLsbD_ofNat, decide_eq_true h, Bool.true_and]
theorem yp_and (a b : Nat) : nI a &&& nI b = nI (a &&& b) := b_ext (fun i hi => by rw [b_and, yp_bt hi, yp_bt hi, yp_bt hi, Nat.testBit_and])
theorem yp_shr {a k : Nat} (ha : a < 4294967296) (hk : k < 32) : iushr (nI a) (nI k) = nI (a / 2 ^ k) := b_ext (fun i hi => by
  unfold iushr
  rw [b_ushr k hk, yp_bt hi, Nat.testBit_div_two_pow]
  by_cases h : k + i < 32
  · rw [yp_bt h]; congr 1; omega
  · rw [b_big (by omega), Nat.testBit_lt_two_pow]
    exact Nat.lt_of_lt_of_le ha (show 2 ^ 32 ≤ _ from Nat.pow_le_pow_right (by omega) (by omega)))
theorem yp_of (x : Int32) : ∃ a, a < 4294967296 ∧ x = nI a := ⟨x.toBitVec.toNat, x.toBitVec.isLt, Int32.toBitVec_inj.mp (by show _ = BitVec.ofNat 32 _; rw [BitVec.ofNat_toNat, BitVec.setWidth_eq])⟩
theorem yp_sp (q m : Nat) {r b : Nat} (hr : r < 256) (hb : b < 256) : (256 * q + r) &&& (256 * m + b) = 256 * (q &&& m) + (r &&& b) := by
  have h3 : r &&& b < 2 ^ 8 := Nat.lt_of_le_of_lt Nat.and_le_left hr
  refine Nat.eq_of_testBit_eq (fun i => ?_)
  rw [Nat.testBit_and, Nat.testBit_two_pow_mul_add q (show r < 2 ^ 8 from hr), Nat.testBit_two_pow_mul_add m (show b < 2 ^ 8 from hb), Nat.testBit_two_pow_mul_add (q &&& m) h3]
  split
  · rw [Nat.testBit_and]
  · rw [Nat.testBit_and]
def yp4 (a b c d : Nat) : Nat := 256 * (256 * (256 * d + c) + b) + a
theorem yp4_and {a b c d m : Nat} (ha : a < 256) (hb : b < 256) (hc : c < 256) (hm : m < 256) : yp4 a b c d &&& yp4 m m m m = yp4 (a &&& m) (b &&& m) (c &&& m) (d &&& m) := by
  unfold yp4
  rw [yp_sp _ _ ha hm, yp_sp _ _ hb hm, yp_sp _ _ hc hm]
/-- the steps of one byte -/
def yp1 (r : Nat) : Nat := r - ((r / 2) &&& 85)
def yp2 (s : Nat) : Nat := (s &&& 51) + ((s / 4) &&& 51)
def yp3 (t : Nat) : Nat := (t + t / 16) % 16
theorem yp_d1 : ∀ r, r < 256 → ∀ u, u < 2 → (r / 2 + 128 * u) &&& 85 = (r / 2) &&& 85 := by decide +kernel
theorem yp_d2 : ∀ s, s < 256 → ∀ u, u < 4 → (s / 4 + 64 * u) &&& 51 = (s / 4) &&& 51 := by decide +kernel
theorem yp_d3 : ∀ r, r < 256 → ((r / 2) &&& 85 ≤ r) ∧ yp2 (yp1 r) / 16 ≤ 4 ∧ yp2 (yp1 r) % 16 ≤ 4 ∧ yp3 (yp2 (yp1 r)) = fb_ct (fun i => r.testBit i) 8 := by decide +kernel
theorem yp_d4 : ∀ t, t / 16 ≤ 4 → t % 16 ≤ 4 → ∀ u, u ≤ 4 → (t + t / 16 + 16 * u) &&& 15 = yp3 t := fun t h1 h2 => by
  have : t < 80 := by omega
  exact (show ∀ t, t < 80 → t / 16 ≤ 4 → t % 16 ≤ 4 → ∀ u, u ≤ 4 → (t + t / 16 + 16 * u) &&& 15 = yp3 t by decide +kernel) t this h1 h2
theorem yp_d5 : ∀ n, n < 64 → ∀ q, (64 * q + n) &&& 63 = n := fun n hn q => by
  rw [show (63 : Nat) = 2 ^ 6 - 1 from rfl, Nat.and_two_pow_sub_one_eq_mod]; omega
theorem yp1_lt {r : Nat} (h : r < 256) : yp1 r < 256 := Nat.lt_of_le_of_lt (Nat.sub_le _ _) h
theorem yp_bits {a b c d : Nat} (ha : a < 256) (hb : b < 256) (hc : c < 256) : fb_ct (fun i => (yp4 a b c d).testBit i) 32 = fb_ct (fun i => a.testBit i) 8 + (fb_ct (fun i => b.testBit i) 8 + (fb_ct (fun i => c.testBit i) 8 + fb_ct (fun i => d.testBit i) 8)) := by
  unfold yp4
  rw [show (32 : Nat) = 8 + (8 + (8 + 8)) from rfl, fb_ct_split, fb_ct_split, fb_ct_split]
  congr 1
  · exact fb_ct_cong (fun k hk => by rw [Nat.testBit_two_pow_mul_add _ (show a < 2 ^ 8 from ha), if_pos hk])
  congr 1
  · exact fb_ct_cong (fun k hk => by rw [Nat.testBit_two_pow_mul_add _ (show a < 2 ^ 8 from ha), if_neg (by omega), show 8 + k - 8 = k by omega, Nat.testBit_two_pow_mul_add _ (show b < 2 ^ 8 from hb), if_pos hk])
  congr 1
  · exact fb_ct_cong (fun k hk => by rw [Nat.testBit_two_pow_mul_add _ (show a < 2 ^ 8 from ha), if_neg (by omega), show 8 + (8 + k) - 8 = 8 + k by omega, Nat.testBit_two_pow_mul_add _ (show b < 2 ^ 8 from hb), if_neg (by omega), show 8 + k - 8 = k by omega, Nat.testBit_two_pow_mul_add _ (show c < 2 ^ 8 from hc), if_pos hk])
  · exact fb_ct_cong (fun k hk => by rw [Nat.testBit_two_pow_mul_add _ (show a < 2 ^ 8 from ha), if_neg (by omega), show 8 + (8 + (8 + k)) - 8 = 8 + (8 + k) by omega, Nat.testBit_two_pow_mul_add _ (show b < 2 ^ 8 from hb), if_neg (by omega), show 8 + (8 + k) - 8 = 8 + k by omega, Nat.testBit_two_pow_mul_add _ (show c < 2 ^ 8 from hc), if_neg (by omega), show 8 + k - 8 = k by omega])
theorem yp_s1 {a b c d : Nat} (ha : a < 256) (hb : b < 256) (hc : c < 256) (hd : d < 256) : yp4 a b c d - ((yp4 a b c d / 2) &&& 1431655765) = yp4 (yp1 a) (yp1 b) (yp1 c) (yp1 d) ∧ ((yp4 a b c d / 2) &&& 1431655765) ≤ yp4 a b c d := by
  have e : yp4 a b c d / 2 = yp4 (a / 2 + 128 * (b % 2)) (b / 2 + 128 * (c % 2)) (c / 2 + 128 * (d % 2)) (d / 2) := by unfold yp4; omega
  have e2 : (yp4 a b c d / 2) &&& 1431655765 = yp4 ((a / 2) &&& 85) ((b / 2) &&& 85) ((c / 2) &&& 85) ((d / 2) &&& 85) := by
    rw [e, show (1431655765 : Nat) = yp4 85 85 85 85 from rfl, yp4_and (by omega) (by omega) (by omega) (by omega), yp_d1 a ha _ (by omega), yp_d1 b hb _ (by omega), yp_d1 c hc _ (by omega)]
  have k1 := (yp_d3 a ha).1
  have k2 := (yp_d3 b hb).1
  have k3 := (yp_d3 c hc).1
  have k4 := (yp_d3 d hd).1
  rw [e2]
  unfold yp4 yp1
  omega
theorem yp_s2 {a b c d : Nat} (ha : a < 256) (hb : b < 256) (hc : c < 256) (hd : d < 256) : ((yp4 a b c d) &&& 858993459) + ((yp4 a b c d / 4) &&& 858993459) = yp4 (yp2 a) (yp2 b) (yp2 c) (yp2 d) := by
  have e : yp4 a b c d / 4 = yp4 (a / 4 + 64 * (b % 4)) (b / 4 + 64 * (c % 4)) (c / 4 + 64 * (d % 4)) (d / 4) := by unfold yp4; omega
  have e2 : (yp4 a b c d / 4) &&& 858993459 = yp4 ((a / 4) &&& 51) ((b / 4) &&& 51) ((c / 4) &&& 51) ((d / 4) &&& 51) := by
    rw [e, show (858993459 : Nat) = yp4 51 51 51 51 from rfl, yp4_and (by omega) (by omega) (by omega) (by omega), yp_d2 a ha _ (by omega), yp_d2 b hb _ (by omega), yp_d2 c hc _ (by omega)]
  have e3 : (yp4 a b c d) &&& 858993459 = yp4 (a &&& 51) (b &&& 51) (c &&& 51) (d &&& 51) := by
    rw [show (858993459 : Nat) = yp4 51 51 51 51 from rfl, yp4_and (by omega) (by omega) (by omega) (by omega)]
  rw [e2, e3]
  unfold yp4 yp2
  omega
theorem yp_s3 {a b c d : Nat} (ha : a / 16 ≤ 4 ∧ a % 16 ≤ 4) (hb : b / 16 ≤ 4 ∧ b % 16 ≤ 4) (hc : c / 16 ≤ 4 ∧ c % 16 ≤ 4) (hd : d / 16 ≤ 4 ∧ d % 16 ≤ 4) : (yp4 a b c d + yp4 a b c d / 16) &&& 252645135 = yp4 (yp3 a) (yp3 b) (yp3 c) (yp3 d) := by
  have e : yp4 a b c d + yp4 a b c d / 16 = yp4 (a + a / 16 + 16 * (b % 16)) (b + b / 16 + 16 * (c % 16)) (c + c / 16 + 16 * (d % 16)) (d + d / 16 + 16 * 0) := by unfold yp4; omega
  rw [e, show (252645135 : Nat) = yp4 15 15 15 15 from rfl, yp4_and (by omega) (by omega) (by omega) (by omega), yp_d4 a ha.1 ha.2 _ hb.2, yp_d4 b hb.1 hb.2 _ hc.2, yp_d4 c hc.1 hc.2 _ hd.2, yp_d4 d hd.1 hd.2 _ (by omega)]
theorem yp_s4 {a b c d : Nat} (ha : a ≤ 8) (hb : b ≤ 8) (hc : c ≤ 8) (hd : d ≤ 8) : ((yp4 a b c d + yp4 a b c d / 256) + (yp4 a b c d + yp4 a b c d / 256) / 65536) &&& 63 = a + (b + (c + d)) := by
  have e : ((yp4 a b c d + yp4 a b c d / 256) + (yp4 a b c d + yp4 a b c d / 256) / 65536) = 64 * (4 * (b + c + d + 256 * (c + d) + 65536 * d)) + (a + (b + (c + d))) := by unfold yp4; omega
  rw [e, yp_d5 _ (by omega)]
theorem yp_d6 : ∀ r, r < 256 → yp2 (yp1 r) < 256 ∧ fb_ct (fun i => r.testBit i) 8 ≤ 8 := by decide +kernel
theorem yp_pop (x : Int32) : F_J6_bitCount_0f7a4 x = nI (zct x) := by
  obtain ⟨n, hn, rfl⟩ := yp_of x
  obtain ⟨a, b, c, d, ha, hb, hc, hd, rfl⟩ : ∃ a b c d, a < 256 ∧ b < 256 ∧ c < 256 ∧ d < 256 ∧ n = yp4 a b c d := ⟨n % 256, n / 256 % 256, n / 65536 % 256, n / 16777216, by omega, by omega, by omega, by omega, by unfold yp4; omega⟩
  have e1 : nI (yp4 a b c d) - (iushr (nI (yp4 a b c d)) 1 &&& 1431655765) = nI (yp4 (yp1 a) (yp1 b) (yp1 c) (yp1 d)) := by
    have h := yp_s1 ha hb hc hd
    rw [show iushr (nI (yp4 a b c d)) 1 = nI (yp4 a b c d / 2) from yp_shr (k := 1) hn (by omega), show (1431655765 : Int32) = nI 1431655765 from rfl, yp_and, zsub h.2, h.1]
  have la := yp1_lt ha
  have lb := yp1_lt hb
  have lc := yp1_lt hc
  have ld := yp1_lt hd
  have e2 : (nI (yp4 (yp1 a) (yp1 b) (yp1 c) (yp1 d)) &&& 858993459) + (iushr (nI (yp4 (yp1 a) (yp1 b) (yp1 c) (yp1 d))) 2 &&& 858993459) = nI (yp4 (yp2 (yp1 a)) (yp2 (yp1 b)) (yp2 (yp1 c)) (yp2 (yp1 d))) := by
    rw [show iushr (nI (yp4 (yp1 a) (yp1 b) (yp1 c) (yp1 d))) 2 = nI (yp4 (yp1 a) (yp1 b) (yp1 c) (yp1 d) / 4) from yp_shr (k := 2) (by unfold yp4; omega) (by omega), show (858993459 : Int32) = nI 858993459 from rfl, yp_and, yp_and, nI_add, yp_s2 la lb lc ld]
  have ka := yp_d3 a ha
  have kb := yp_d3 b hb
  have kc := yp_d3 c hc
  have kd := yp_d3 d hd
  have ja := yp_d6 a ha
  have jb := yp_d6 b hb
  have jc := yp_d6 c hc
  have jd := yp_d6 d hd
  have e3 : (nI (yp4 (yp2 (yp1 a)) (yp2 (yp1 b)) (yp2 (yp1 c)) (yp2 (yp1 d))) + iushr (nI (yp4 (yp2 (yp1 a)) (yp2 (yp1 b)) (yp2 (yp1 c)) (yp2 (yp1 d)))) 4) &&& 252645135 = nI (yp4 (fb_ct (fun i => a.testBit i) 8) (fb_ct (fun i => b.testBit i) 8) (fb_ct (fun i => c.testBit i) 8) (fb_ct (fun i => d.testBit i) 8)) := by
    rw [show iushr (nI (yp4 (yp2 (yp1 a)) (yp2 (yp1 b)) (yp2 (yp1 c)) (yp2 (yp1 d)))) 4 = nI (yp4 (yp2 (yp1 a)) (yp2 (yp1 b)) (yp2 (yp1 c)) (yp2 (yp1 d)) / 16) from yp_shr (k := 4) (by unfold yp4; omega) (by omega), show (252645135 : Int32) = nI 252645135 from rfl, nI_add, yp_and, yp_s3 ⟨ka.2.1, ka.2.2.1⟩ ⟨kb.2.1, kb.2.2.1⟩ ⟨kc.2.1, kc.2.2.1⟩ ⟨kd.2.1, kd.2.2.1⟩, ka.2.2.2, kb.2.2.2, kc.2.2.2, kd.2.2.2]
  unfold F_J6_bitCount_0f7a4
  rw [e1, e2, e3]
  have hz : zct (nI (yp4 a b c d)) = fb_ct (fun i => a.testBit i) 8 + (fb_ct (fun i => b.testBit i) 8 + (fb_ct (fun i => c.testBit i) 8 + fb_ct (fun i => d.testBit i) 8)) := by
    unfold zct
    rw [fb_ct_cong (fun k hk => yp_bt hk), yp_bits ha hb hc]
  rw [hz]
  generalize fb_ct (fun i => a.testBit i) 8 = ca at *
  generalize fb_ct (fun i => b.testBit i) 8 = cb at *
  generalize fb_ct (fun i => c.testBit i) 8 = cc at *
  generalize fb_ct (fun i => d.testBit i) 8 = cd at *
  rw [show iushr (nI (yp4 ca cb cc cd)) 8 = nI (yp4 ca cb cc cd / 256) from yp_shr (k := 8) (by unfold yp4; omega) (by omega), nI_add, show iushr (nI (yp4 ca cb cc cd + yp4 ca cb cc cd / 256)) 16 = nI ((yp4 ca cb cc cd + yp4 ca cb cc cd / 256) / 65536) from yp_shr (k := 16) (by unfold yp4; omega) (by omega), nI_add, show (63 : Int32) = nI 63 from rfl, yp_and, yp_s4 ja.2 jb.2 jc.2 jd.2]
