/-! ===== a PERSON's line ===== -/
def yPp (P : Pl) (b : Bool) (j : Nat) : Pl := ((fun i => if i = 2 then znp P + 1 else P.1 i), p_rd P, (fun p => if p = znp P then j else p_ln P p), p_fg P, (fun p => if p = znp P then b else p_bi P p), p_nr P, p_cd P)
def yper (t : Nat × Nat × Nat) (s : St) (b : Bool) (j v : Nat) (rr : Nat → Nat) : St := (t, yPp (s_P s) b j, (fun p => if p = znp (s_P s) then v else s_pu s p), (fun p => if p = znp (s_P s) then (fun i => if i < j then rr i else 0) else s_wk s p), s_o s, true)
section PERSON
variable {w n : Nat} {y : Nat → Nat} {s : St} {N Nm : Mem}
theorem z_sin0 : ∀ i, i < 6 → F_X11_streetIn 0 (nI i) = nI 0 := by decide +kernel
theorem z_walk {M : Mem} {j : Nat} (hj : j ≤ 6) {rr : Nat → Nat} (hr : ∀ i, i < j → M 13 i = nI (rr i) ∧ rr i < 8) {x1 x2 : Int32} : ∃ v, L_X9_addPerson_6 w 13 8 x1 x2 (nI j) M FU 0 0 = some v ∧ ∀ i, i < 6 → F_X11_streetIn v (nI i) = nI (if i < j then rr i else 0) := by
  have key : ∀ m i f v, i + m = j → m < f → (∀ q, q < 6 → F_X11_streetIn v (nI q) = nI (if q < i then rr q else 0)) → ∃ v', L_X9_addPerson_6 w 13 8 x1 x2 (nI j) M f v (nI i) = some v' ∧ ∀ i, i < 6 → F_X11_streetIn v' (nI i) = nI (if i < j then rr i else 0) := by
    intro m
    induction m with
    | zero =>
      intro i f v e hf hv
      obtain ⟨f, rfl⟩ : ∃ f', f = f' + 1 := ⟨f - 1, by omega⟩
      obtain rfl : i = j := by omega
      rw [L_X9_addPerson_6, if_pos (nI_le (by omega) (by omega))]
      exact ⟨v, rfl, hv⟩
    | succ m ih =>
      intro i f v e hf hv
      obtain ⟨f, rfl⟩ : ∃ f', f = f' + 1 := ⟨f - 1, by omega⟩
      have h1 := hr i (by omega)
      rw [L_X9_addPerson_6, if_neg (nI_ge (by omega) (by omega)), zat_at (by omega) (by omega), h1.1, nI_1]
      refine ih (i + 1) f _ (by omega) (by omega) (fun q hq => ?_)
      rw [zwith (by omega) h1.2 hq]
      by_cases z : q = i
      · rw [if_pos z, if_pos (by omega), z]
      · rw [if_neg z, hv q hq]
        by_cases z2 : q < i
        · rw [if_pos z2, if_pos (by omega)]
        · rw [if_neg z2, if_neg (by omega)]
  exact key j 0 FU 0 (by omega) (by unfold FU; omega) (fun q hq => by rw [if_neg (by omega)]; exact z_sin0 q hq)
theorem xc_addP {M : Mem} {z j : Nat} (h3 : M w 3 = nI z) (hz : z < 7) (hj : j ≤ 6) {rr : Nat → Nat} (hr : ∀ i, i < j → M 13 i = nI (rr i) ∧ rr i < 8) {p0 p1 : Int32} : ∃ v, F_X9_addPerson w p0 p1 13 8 (nI j) M = some (up (up (up (up (up M (w + 3) z p0) (w + 4) z (nI j)) (w + 5) z v) w 4 (M w 4 ||| if p1 = 0 then 0 else (1 : Int32) <<< (nI z &&& 31))) w 3 (nI (z + 1))) ∧ ∀ i, i < 6 → F_X11_streetIn v (nI i) = nI (if i < j then rr i else 0) := by
  obtain ⟨v, e, hv⟩ := z_walk (w := w) (x1 := p0) (x2 := p1) hj hr
  refine ⟨v, ?_, hv⟩
  unfold F_X9_addPerson
  have e1 : F_X11_put (w + 3) 7 (M w 3) p0 M = up M (w + 3) z p0 := by rw [h3]; exact zput_at hz (by omega)
  have e2 : F_X11_put (w + 4) 7 ((up M (w + 3) z p0) w 3) (nI j) (up M (w + 3) z p0) = up (up M (w + 3) z p0) (w + 4) z (nI j) := by
    rw [up_ne (by omega), h3]; exact zput_at hz (by omega)
  have e3 : F_X11_put (w + 5) 7 ((up (up M (w + 3) z p0) (w + 4) z (nI j)) w 3) v (up (up M (w + 3) z p0) (w + 4) z (nI j)) = up (up (up M (w + 3) z p0) (w + 4) z (nI j)) (w + 5) z v := by
    rw [up_ne (by omega), up_ne (by omega), h3]; exact zput_at hz (by omega)
  rw [e, zbs rfl, e1, e2, e3]
  have e4 : (up (up (up M (w + 3) z p0) (w + 4) z (nI j)) (w + 5) z v) w = M w := by rw [up_ne (by omega), up_ne (by omega), up_ne (by omega)]
  rw [e4, up_nk (by omega), e4, h3, nI_1]
theorem m_pers {x1 x2 : Int32} (hx : ¬ x2 = -1) : J_X12_readLine_j82 67 x1 x2 0 Nm = (F_X12_sayPerson 67 x2 Nm).bind fun q20 => J_X12_readLine_j165 67 x1 0 q20 := by
  unfold J_X12_readLine_j82 J_X12_readLine_j100 J_X12_readLine_j111 J_X12_readLine_j130
  rw [if_neg (by decide), if_pos Int32.zero_and, if_pos (Int32.le_refl 0), if_neg hx]
theorem xm_rows0 {a an : Nat} {st mx : Int32} (h0 : ¬ Nm 67 21 = 0) : F_X12_readStreets 67 a an st mx Nm = some (0, Nm) := by
  unfold F_X12_readStreets
  rw [if_neg h0]
  show ((L_X12_readStreets_23 67 a an st mx (99999 + 1) 0 Nm).bind _) = _
  rw [L_X12_readStreets_23, if_neg h0]
  rfl
theorem k_person (b : Bool) (hn : n ≤ 700) (hy : ∀ i, i < n → y i < 256) (hw : w = 3 ∨ w = 14) (h : SY w y n s N Nm) (hl : LI s) : Ev2 (F_X5_personLine 1 (bi b) N) (J_X12_readLine_j82 67 (s_o s) (bi b) 0 Nm) (RSL w y n N Nm (s_a s)) := by
  rw [m_pers (by cases b <;> decide)]
  have hh := h
  obtain ⟨⟨⟨kc, x2, x9, x10, ⟨⟨⟨a1, a2, a3, a4, a5, a6, a7⟩, hbi, c, d, e, f, g⟩, h5, h6⟩⟩, ⟨km, m1, m2, ⟨⟨c1, c2, c3, c4, c5, c6, c7⟩, d1, d2, d3, d4, d5, d6, d7⟩⟩⟩, tk, wp, lz⟩ := hh
  unfold F_X5_personLine F_X12_sayPerson F_X12_another J_X12_another_j18
  rw [ygrd hw x2, zbs rfl, a4, show (7 : Int32) + 3 = nI 10 from by decide, show ald Nm (67 + 3) 14 (nI 10) = some (nI (znp (s_P s))) from (zald (i := 10) (by omega) (by omega)).trans (congrArg some c4), zbs rfl]
  generalize hz : znp (s_P s) = z at *
  by_cases q : z < 7
  · rw [if_pos (zltr 7 7 rfl q (by omega)), if_neg (zne 7 7 rfl (by omega) (by omega) (by omega)), if_pos m1]
    obtain ⟨N1, e1, kc1, F1⟩ := k_adv hn hy tk kc
    obtain ⟨Nm1, f1, km1, G1⟩ := k_step hn hy tk km
    have tk1 := tk.nx
    have aa1 : s_a s ≤ s_a (ynx y n s) := by
      have h1 := ynx_a (y := y) (n := n) (s := s)
      have h2 := tk.b
      omega
    have g10 : Nm1 (67 + 3) 10 = nI z := by rw [G1.1 (67 + 3) (by omega)]; exact c4
    rw [zbs e1, zbs f1, zbs rfl]
    dsimp only
    rw [if_neg (show ¬ bi true = 0 by decide), g10, show (7 : Int32) + nI z = nI (7 + z) from nI_add 7 z, show ast Nm1 (67 + 6) 14 (nI (7 + z)) (bi b) = some (up Nm1 73 (7 + z) (bi b)) from zast (by omega) (by omega), zbs rfl]
    have km2 : KM' y n (ynx y n s) (up Nm1 73 (7 + z) (bi b)) := KM.of km1 (fun k hk => by rw [up_ne (by omega)]) (up_ne (by omega))
    have z21 : (up Nm1 73 (7 + z) (bi b)) 67 21 = 0 := by rw [up_ne (by omega), G1.2 21 (by omega) (by omega) (by omega) (by omega) (by omega)]; exact m1
    have G1' : WG Nm (up Nm1 73 (7 + z) (bi b)) := G1.gw.tr (GW.c (by omega))
    have hA1 : ∀ c i, c ≠ 67 → (c ≠ 73 ∨ i ≠ 7 + z) → (up Nm1 73 (7 + z) (bi b)) c i = Nm c i := fun c i x1 x2 => by
      rw [up_app, if_neg (by omega), G1.1 c x1]
    have hA1b : (up Nm1 73 (7 + z) (bi b)) 73 (7 + z) = bi b := up_at
    have hA1f : (up Nm1 73 (7 + z) (bi b)) 67 24 = bi (s_f s) := by rw [up_ne (by omega), G1.2 24 (by omega) (by omega) (by omega) (by omega) (by omega)]; exact m2
    generalize up Nm1 73 (7 + z) (bi b) = A1 at km2 z21 G1' hA1 hA1b hA1f ⊢
    unfold F_X12_readNumber
    rcases k_num (lo := 0) (hi := 999) (by omega) (by omega) tk1 hn hy kc1 km2 z21 with ⟨n1, n2, n3, n4, n5, n6⟩ | ⟨cc, hcc, n1, n2⟩
    · rw [show F_X5_number 1 0 999 N1 = _ from n1, show F_X12_numberNow 67 0 999 A1 = _ from n2]
      dsimp only
      rw [if_neg (show ¬ bi true = 0 by decide), if_pos z21]
      obtain ⟨N2, e2, kc2, F2⟩ := k_adv hn hy tk1 kc1
      obtain ⟨A2, f2, km3, G2⟩ := k_step hn hy tk1 km2
      have tk2 := tk1.nx
      have aa2 : s_a s ≤ s_a (ynx y n (ynx y n s)) := by
        have h1 := ynx_a (y := y) (n := n) (s := ynx y n s)
        have h2 := tk1.b
        omega
      generalize hv : yvl y (ynx y n s) = v at n3 n5 ⊢
      rw [zbs e2, zbs f2, zbs rfl]
      dsimp only
      rw [show ast A2 (67 + 7) 14 (nI (7 + z)) (nI v) = some (up A2 74 (7 + z) (nI v)) from zast (by omega) (by omega), zbs rfl, z6, n3]
      have km4 : KM' y n (ynx y n (ynx y n s)) (up A2 74 (7 + z) (nI v)) := KM.of km3 (fun k hk => by rw [up_ne (by omega)]) (up_ne (by omega))
      have y21 : (up A2 74 (7 + z) (nI v)) 67 21 = 0 := by rw [up_ne (by omega), G2.2 21 (by omega) (by omega) (by omega) (by omega) (by omega)]; exact z21
      have G2' : WG Nm (up A2 74 (7 + z) (nI v)) := (G1'.tr G2.gw).tr (GW.c (by omega))
      have hA3 : ∀ c i, c ≠ 67 → (c ≠ 73 ∨ i ≠ 7 + z) → (c ≠ 74 ∨ i ≠ 7 + z) → (up A2 74 (7 + z) (nI v)) c i = Nm c i := fun c i x1 x2 x3 => by
        rw [up_app, if_neg (by omega), G2.1 c x1, hA1 c i x1 x2]
      have hA3b : (up A2 74 (7 + z) (nI v)) 73 (7 + z) = bi b := by rw [up_ne (by omega), G2.1 73 (by omega)]; exact hA1b
      have hA3v : (up A2 74 (7 + z) (nI v)) 74 (7 + z) = nI v := up_at
      generalize up A2 74 (7 + z) (nI v) = A3 at km4 y21 G2' hA3 hA3b hA3v ⊢
      have F12 : FRo N N2 := F1.fr.tr F2.fr
      have q2 : N2 1 2 = nI w := by rw [F12.2 2 (by omega) (by omega) (by omega) (by omega) (by omega) (by omega)]; exact x2
      obtain ⟨r, r', g1, g2, F3, G3, hr⟩ := k_rows (a := 76) (an := 84) (st := 6 * (7 + z)) (mx := 6) (zn := zns (s_P s)) wp.1.2 (by omega) (by omega) (by omega) (by omega) hn hy hw tk2 kc2 q2 (by rw [F12.1 w (by omega) (by omega)]; exact a1) km4 y21 (by rw [hA3 70 7 (by omega) (by omega) (by omega)]; exact c1)
      obtain ⟨v1, N3⟩ := r
      obtain ⟨v2, A4⟩ := r'
      rw [show F_X5_readRow 1 6 1 N2 = _ from g1, show F_X12_readStreets 67 (67 + 9) 84 (nI (6 * (7 + z))) 6 A3 = _ from g2, zbs rfl, zbs rfl]
      dsimp only at F3 G3 hr ⊢
      rw [show ast A4 (67 + 8) 14 (nI (7 + z)) v2 = some (up A4 75 (7 + z) v2) from zast (by omega) (by omega), zbs rfl]
      have g10' : (up A4 75 (7 + z) v2) 70 10 = nI z := by rw [up_ne (by omega), G3.1 70 (by omega) (by omega), hA3 70 10 (by omega) (by omega) (by omega)]; exact c4
      rw [show ald (up A4 75 (7 + z) v2) (67 + 3) 14 10 = some (nI z) from (zald (i := 10) (by omega) (by omega)).trans (congrArg some g10'), zbs rfl, nI_1, show ast (up A4 75 (7 + z) v2) (67 + 3) 14 10 (nI (z + 1)) = some (up (up A4 75 (7 + z) v2) 70 10 (nI (z + 1))) from zast (i := 10) (by omega) (by omega), zbs rfl, zbs rfl]
      have GA : GW Nm (up (up A4 75 (7 + z) v2) 70 10 (nI (z + 1))) := ((G2'.1.tr (G3.gw (by omega))).tr (GW.c (by omega)).1).tr (GW.c (by omega)).1
      rcases hr with ⟨j, s', rr, hj, ⟨ev, ev'⟩, ⟨tk', ha'⟩, kc', km', x21, ⟨zf, zf'⟩, hrr⟩ | ⟨ev, c0, q0, hb⟩
      · obtain rfl : v1 = nI j := ev
        obtain rfl : v2 = nI j := ev'
        have F13 : FRo N N3 := F12.tr F3
        have q3 : N3 1 2 = nI w := by rw [F13.2 2 (by omega) (by omega) (by omega) (by omega) (by omega) (by omega)]; exact x2
        have w8 := wp.1.2
        obtain ⟨u, e4, hu⟩ := xc_addP (w := w) (M := N3) (z := z) (j := j) (rr := rr) (p0 := nI v) (p1 := bi b) (by rw [F13.1 w (by omega) (by omega)]; exact a4) q hj.2 (fun i hi => ⟨(hrr i hi).1, by have := (hrr i hi).2.2; omega⟩)
        rw [if_neg (nIm j (by omega)), ygrd hw q3, zbs rfl, show F_X9_addPerson w (nI v) (bi b) (1 + 12) 8 (nI j) N3 = _ from e4, zbs rfl]
        have hN : ∀ c, c ≠ w → c ≠ w + 3 → c ≠ w + 4 → c ≠ w + 5 → (up (up (up (up (up N3 (w + 3) z (nI v)) (w + 4) z (nI j)) (w + 5) z u) w 4 (N3 w 4 ||| if bi b = 0 then 0 else (1 : Int32) <<< (nI z &&& 31))) w 3 (nI (z + 1))) c = N3 c := fun c x1 x2 x3 x4 => by rw [up_ne x1, up_ne x1, up_ne x4, up_ne x3, up_ne x2]
        have hNw : ∀ i, i ≠ 3 → i ≠ 4 → (up (up (up (up (up N3 (w + 3) z (nI v)) (w + 4) z (nI j)) (w + 5) z u) w 4 (N3 w 4 ||| if bi b = 0 then 0 else (1 : Int32) <<< (nI z &&& 31))) w 3 (nI (z + 1))) w i = N w i := fun i x1 x2 => by rw [up_nk x1, up_nk x2, up_ne (by omega), up_ne (by omega), up_ne (by omega), F13.1 w (by omega) (by omega)]
        have hN3 : ∀ i, (up (up (up (up (up N3 (w + 3) z (nI v)) (w + 4) z (nI j)) (w + 5) z u) w 4 (N3 w 4 ||| if bi b = 0 then 0 else (1 : Int32) <<< (nI z &&& 31))) w 3 (nI (z + 1))) (w + 3) i = if i = z then nI v else N (w + 3) i := fun i => by
          rw [up_ne (by omega), up_ne (by omega), up_ne (by omega), up_ne (by omega), up_app, F13.1 (w + 3) (by omega) (by omega)]
          by_cases t : i = z
          · rw [if_pos ⟨rfl, t⟩, if_pos t]
          · rw [if_neg (fun x => t x.2), if_neg t]
        have hN4 : ∀ i, (up (up (up (up (up N3 (w + 3) z (nI v)) (w + 4) z (nI j)) (w + 5) z u) w 4 (N3 w 4 ||| if bi b = 0 then 0 else (1 : Int32) <<< (nI z &&& 31))) w 3 (nI (z + 1))) (w + 4) i = if i = z then nI j else N (w + 4) i := fun i => by
          rw [up_ne (by omega), up_ne (by omega), up_ne (by omega), up_app, up_ne (by omega), F13.1 (w + 4) (by omega) (by omega)]
          by_cases t : i = z
          · rw [if_pos ⟨rfl, t⟩, if_pos t]
          · rw [if_neg (fun x => t x.2), if_neg t]
        have hN5 : ∀ i, (up (up (up (up (up N3 (w + 3) z (nI v)) (w + 4) z (nI j)) (w + 5) z u) w 4 (N3 w 4 ||| if bi b = 0 then 0 else (1 : Int32) <<< (nI z &&& 31))) w 3 (nI (z + 1))) (w + 5) i = if i = z then u else N (w + 5) i := fun i => by
          rw [up_ne (by omega), up_ne (by omega), up_app, up_ne (by omega), up_ne (by omega), F13.1 (w + 5) (by omega) (by omega)]
          by_cases t : i = z
          · rw [if_pos ⟨rfl, t⟩, if_pos t]
          · rw [if_neg (fun x => t x.2), if_neg t]
        have hNb : ∀ p, p < 32 → bt ((up (up (up (up (up N3 (w + 3) z (nI v)) (w + 4) z (nI j)) (w + 5) z u) w 4 (N3 w 4 ||| if bi b = 0 then 0 else (1 : Int32) <<< (nI z &&& 31))) w 3 (nI (z + 1))) w 4) p = (bt (N w 4) p || (b && decide (z = p))) := fun p hp => by
          rw [up_nk (by omega), up_at, F13.1 w (by omega) (by omega), b_or]
          cases b
          · rw [if_pos (show bi false = 0 from rfl), b_0]; rfl
          · rw [if_neg (by decide), zone (by omega) hp]; rfl
        have hNz : (up (up (up (up (up N3 (w + 3) z (nI v)) (w + 4) z (nI j)) (w + 5) z u) w 4 (N3 w 4 ||| if bi b = 0 then 0 else (1 : Int32) <<< (nI z &&& 31))) w 3 (nI (z + 1))) w 3 = nI (z + 1) := up_at
        have FA : FW w N (up (up (up (up (up N3 (w + 3) z (nI v)) (w + 4) z (nI j)) (w + 5) z u) w 4 (N3 w 4 ||| if bi b = 0 then 0 else (1 : Int32) <<< (nI z &&& 31))) w 3 (nI (z + 1))) := ((((F13.fw.tr (FW.c hw (by omega))).tr (FW.c hw (by omega))).tr (FW.c hw (by omega))).tr (FW.c hw (by omega))).tr (FW.c hw (by omega))
        generalize up (up (up (up (up N3 (w + 3) z (nI v)) (w + 4) z (nI j)) (w + 5) z u) w 4 (N3 w 4 ||| if bi b = 0 then 0 else (1 : Int32) <<< (nI z &&& 31))) w 3 (nI (z + 1)) = N4 at hN hNw hN3 hN4 hN5 hNb hNz FA ⊢
        have hA6 : ∀ c i, c ≠ 67 → c ≠ 76 → (c ≠ 73 ∨ i ≠ 7 + z) → (c ≠ 74 ∨ i ≠ 7 + z) → (c ≠ 75 ∨ i ≠ 7 + z) → (c ≠ 70 ∨ i ≠ 10) → (up (up A4 75 (7 + z) (nI j)) 70 10 (nI (z + 1))) c i = Nm c i := fun c i x1 x2 x3 x4 x5 x6 => by
          rw [up_app, if_neg (by omega), up_app, if_neg (by omega), G3.1 c x1 x2, hA3 c i x1 x3 x4]
        have hA6b : (up (up A4 75 (7 + z) (nI j)) 70 10 (nI (z + 1))) 73 (7 + z) = bi b := by rw [up_ne (by omega), up_ne (by omega), G3.1 73 (by omega) (by omega)]; exact hA3b
        have hA6v : (up (up A4 75 (7 + z) (nI j)) 70 10 (nI (z + 1))) 74 (7 + z) = nI v := by rw [up_ne (by omega), up_ne (by omega), G3.1 74 (by omega) (by omega)]; exact hA3v
        have hA6j : (up (up A4 75 (7 + z) (nI j)) 70 10 (nI (z + 1))) 75 (7 + z) = nI j := by rw [up_ne (by omega)]; exact up_at
        have hA6z : (up (up A4 75 (7 + z) (nI j)) 70 10 (nI (z + 1))) 70 10 = nI (z + 1) := up_at
        have hA6w : ∀ i, i < 6 * (7 + z) → (up (up A4 75 (7 + z) (nI j)) 70 10 (nI (z + 1))) 76 i = Nm 76 i := fun i hi => by rw [up_ne (by omega), up_ne (by omega), G3.2.1 i hi, hA3 76 i (by omega) (by omega) (by omega)]
        have hA6r : ∀ i, i < j → (up (up A4 75 (7 + z) (nI j)) 70 10 (nI (z + 1))) 76 (6 * (7 + z) + i) = nI (rr i) := fun i hi => by rw [up_ne (by omega), up_ne (by omega)]; exact (hrr i hi).2.1
        have hA67 : (up (up A4 75 (7 + z) (nI j)) 70 10 (nI (z + 1))) 67 = A4 67 := by rw [up_ne (by omega), up_ne (by omega)]
        have hA80 : (up (up A4 75 (7 + z) (nI j)) 70 10 (nI (z + 1))) 80 = A4 80 := by rw [up_ne (by omega), up_ne (by omega)]
        generalize up (up A4 75 (7 + z) (nI j)) 70 10 (nI (z + 1)) = A6 at hA6 hA6b hA6v hA6j hA6z hA6w hA6r hA67 hA80 GA ⊢
        have hS2 : SY w y n (yper s'.1 s b j v rr) N4 A6 := by
          refine ⟨⟨⟨KC.of (s := s') kc' (fun k hk => by rw [hN 1 (by omega) (by omega) (by omega) (by omega)]) (hN 2 (by omega) (by omega) (by omega) (by omega)), by rw [hN 1 (by omega) (by omega) (by omega) (by omega)]; exact q3, ?_, by rw [hN 1 (by omega) (by omega) (by omega) (by omega)]; exact zf, ⟨⟨⟨?_, ?_, ?_, ?_, ?_, ?_, ?_⟩, ?_, ?_, ?_, ?_, ?_, ?_⟩, ?_, ?_⟩⟩, ⟨KM.of (s := s') km' (fun k hk => by rw [hA67]) hA80, by rw [hA67]; exact x21, by rw [hA67]; exact zf', ⟨⟨?_, ?_, ?_, ?_, ?_, ?_, ?_⟩, ?_, ?_, ?_, ?_, ?_, ?_, ?_⟩⟩⟩, tk', ?_, ?_⟩
          · rw [hN 1 (by omega) (by omega) (by omega) (by omega), F13.2 9 (by omega) (by omega) (by omega) (by omega) (by omega) (by omega)]; exact x9
          · rw [hNw 0 (by omega) (by omega)]; exact a1
          · rw [hNw 1 (by omega) (by omega)]; exact a2
          · rw [hNw 2 (by omega) (by omega)]; exact a3
          · show N4 w 3 = nI (znp (s_P s) + 1)
            rw [hz]; exact hNz
          · rw [hNw 5 (by omega) (by omega)]; exact a5
          · rw [hNw 6 (by omega) (by omega)]; exact a6
          · rw [hN (w + 7) (by omega) (by omega) (by omega) (by omega), F13.1 (w + 7) (by omega) (by omega)]; exact a7
          · intro p hp
            have hp' : p < znp (s_P s) + 1 := hp
            show _ = (if p = znp (s_P s) then b else p_bi (s_P s) p)
            rw [hz] at hp' ⊢
            rw [hNb p (by omega)]
            by_cases t : p = z
            · rw [if_pos t, t, h6 z (by omega) (by omega), decide_eq_true rfl]; cases b <;> rfl
            · rw [if_neg t, hbi p (by omega), decide_eq_false (by omega)]; cases b <;> simp
          · rw [hN (w + 1) (by omega) (by omega) (by omega) (by omega), F13.1 (w + 1) (by omega) (by omega)]; exact c
          · rw [hN (w + 2) (by omega) (by omega) (by omega) (by omega), F13.1 (w + 2) (by omega) (by omega)]; exact d
          · intro p hp
            have hp' : p < znp (s_P s) + 1 := hp
            show _ = nI (if p = znp (s_P s) then j else p_ln (s_P s) p)
            rw [hz] at hp' ⊢
            rw [hN4 p]
            by_cases t : p = z
            · rw [if_pos t, if_pos t]
            · rw [if_neg t, if_neg t]; exact e p (by omega)
          · rw [hN (w + 6) (by omega) (by omega) (by omega) (by omega), F13.1 (w + 6) (by omega) (by omega)]; exact f
          · rw [hN (w + 8) (by omega) (by omega) (by omega) (by omega), F13.1 (w + 8) (by omega) (by omega)]; exact g
          · intro p hp
            have hp' : p < znp (s_P s) + 1 := hp
            show _ = nI (if p = znp (s_P s) then v else s_pu s p) ∧ ∀ i, i < 6 → _ = nI ((if p = znp (s_P s) then (fun i => if i < j then rr i else 0) else s_wk s p) i)
            rw [hz] at hp' ⊢
            rw [hN3 p, hN5 p]
            by_cases t : p = z
            · rw [if_pos t, if_pos t, if_pos t, if_pos t]
              exact ⟨rfl, hu⟩
            · rw [if_neg t, if_neg t, if_neg t, if_neg t]
              exact h5 p (by omega)
          · intro p x1 x2
            have x1' : znp (s_P s) + 1 ≤ p := x1
            rw [hz] at x1'
            rw [hNb p x2, h6 p (by omega) x2, decide_eq_false (by omega)]
            cases b <;> rfl
          · rw [hA6 70 7 (by omega) (by omega) (by omega) (by omega) (by omega) (by omega)]; exact c1
          · rw [hA6 70 8 (by omega) (by omega) (by omega) (by omega) (by omega) (by omega)]; exact c2
          · rw [hA6 70 9 (by omega) (by omega) (by omega) (by omega) (by omega) (by omega)]; exact c3
          · show A6 70 10 = nI (znp (s_P s) + 1)
            rw [hz]; exact hA6z
          · rw [hA6 70 11 (by omega) (by omega) (by omega) (by omega) (by omega) (by omega)]; exact c5
          · rw [hA6 70 12 (by omega) (by omega) (by omega) (by omega) (by omega) (by omega)]; exact c6
          · rw [hA6 70 13 (by omega) (by omega) (by omega) (by omega) (by omega) (by omega)]; exact c7
          · intro p hp
            have hp' : p < znp (s_P s) + 1 := hp
            show _ = if (if p = znp (s_P s) then b else p_bi (s_P s) p) = true then (1 : Int32) else 0
            rw [hz] at hp' ⊢
            by_cases t : p = z
            · rw [if_pos t, t, hA6b, zbis]
            · rw [if_neg t, hA6 73 (7 + p) (by omega) (by omega) (by omega) (by omega) (by omega) (by omega)]; exact d1 p (by omega)
          · intro t ht
            rw [hA6 71 (8 + t) (by omega) (by omega) (by omega) (by omega) (by omega) (by omega)]; exact d2 t ht
          · intro t ht
            rw [hA6 72 (8 + t) (by omega) (by omega) (by omega) (by omega) (by omega) (by omega)]; exact d3 t ht
          · intro p hp
            have hp' : p < znp (s_P s) + 1 := hp
            show _ = nI (if p = znp (s_P s) then j else p_ln (s_P s) p)
            rw [hz] at hp' ⊢
            by_cases t : p = z
            · rw [if_pos t, t, hA6j]
            · rw [if_neg t, hA6 75 (7 + p) (by omega) (by omega) (by omega) (by omega) (by omega) (by omega)]; exact d4 p (by omega)
          · intro t ht
            rw [hA6 77 (8 + t) (by omega) (by omega) (by omega) (by omega) (by omega) (by omega)]; exact d5 t ht
          · intro t ht
            rw [hA6 78 (700 + t) (by omega) (by omega) (by omega) (by omega) (by omega) (by omega)]; exact d6 t ht
          · intro p hp
            have hp' : p < znp (s_P s) + 1 := hp
            show _ = nI (if p = znp (s_P s) then v else s_pu s p) ∧ ∀ i, i < (if p = znp (s_P s) then j else p_ln (s_P s) p) → _ = nI ((if p = znp (s_P s) then (fun i => if i < j then rr i else 0) else s_wk s p) i)
            rw [hz] at hp' ⊢
            by_cases t : p = z
            · rw [if_pos t, if_pos t, if_pos t, t, hA6v]
              exact ⟨rfl, fun i hi => by rw [hA6r i hi, if_pos hi]⟩
            · rw [if_neg t, if_neg t, if_neg t, hA6 74 (7 + p) (by omega) (by omega) (by omega) (by omega) (by omega) (by omega)]
              have hd := d7 p (by omega)
              have hln := (wp.2.2.2.2.2.2.2.1 p (by omega)).1.2
              exact ⟨hd.1, fun i hi => by rw [hA6w _ (by omega)]; exact hd.2 i hi⟩
          · obtain ⟨w1, w2, w3, w4, w5, w6, w7, w8, w9, w10⟩ := wp
            refine ⟨w1, w2, ?_, w4, w5, w6, w7, fun p hp => ?_, w9, fun z => by cases z⟩
            · show znp (s_P s) + 1 ≤ 7
              omega
            · have hp' : p < znp (s_P s) + 1 := hp
              show (1 ≤ (if p = znp (s_P s) then j else p_ln (s_P s) p) ∧ (if p = znp (s_P s) then j else p_ln (s_P s) p) ≤ 6) ∧ (if p = znp (s_P s) then v else s_pu s p) ≤ 999 ∧ (∀ i, (if p = znp (s_P s) then (fun i => if i < j then rr i else 0) else s_wk s p) i < zns (s_P s)) ∧ ∀ i, (if p = znp (s_P s) then j else p_ln (s_P s) p) ≤ i → (if p = znp (s_P s) then (fun i => if i < j then rr i else 0) else s_wk s p) i = 0
              rw [hz] at hp' ⊢
              by_cases t : p = z
              · rw [if_pos t, if_pos t, if_pos t]
                refine ⟨hj, n5, fun i => ?_, fun i hi => ?_⟩
                · by_cases z2 : i < j
                  · rw [if_pos z2]; exact (hrr i z2).2.2
                  · rw [if_neg z2]; omega
                · rw [if_neg (by omega)]
              · rw [if_neg t, if_neg t, if_neg t]
                exact w8 p (by omega)
          · show znl (s_P s) ≤ s_a s'
            omega
        have hli2 : LI (yper s'.1 s b j v rr) := hl
        have ha2 : s_a s ≤ s_a (yper s'.1 s b j v rr) := by
          show s_a s ≤ s_a s'
          omega
        exact (k_end hn hy hw hS2 hli2 ha2 (x1 := s_o s) (x3 := 0) (z_or0 _) FA GA)
      · obtain rfl : v1 = -1 := ev
        have hb' : BAD c0 q0 N3 (up (up A4 75 (7 + z) v2) 70 10 (nI (z + 1))) := (hb.g (GW.c (by omega))).g (GW.c (by omega))
        rw [if_pos rfl, k_end0 hb'.ne]
        exact Ev2.pure (RSL.bad hb' (F12.tr F3).fw GA)
    · rw [show F_X5_number 1 0 999 N1 = _ from n1, show F_X12_numberNow 67 0 999 A1 = _ from n2]
      dsimp only
      rw [if_pos (show bi false = 0 from rfl), if_neg (ywr_ne hcc), zbs rfl]
      dsimp only
      have hb0 : BAD cc (s_a (ynx y n s)) (up N1 1 8 (nI cc)) (up (ywr cc A1) 74 (7 + z) 0) := (BAD.of kc1 km2 hcc).g (GW.c (by omega))
      rw [show ast (ywr cc A1) (67 + 7) 14 (nI (7 + z)) 0 = some (up (ywr cc A1) 74 (7 + z) 0) from zast (by omega) (by omega), zbs rfl, xm_rows0 hb0.ne, zbs rfl]
      dsimp only
      rw [show ast (up (ywr cc A1) 74 (7 + z) 0) (67 + 8) 14 (nI (7 + z)) 0 = some (up (up (ywr cc A1) 74 (7 + z) 0) 75 (7 + z) 0) from zast (by omega) (by omega), zbs rfl]
      rw [show ald (up (up (ywr cc A1) 74 (7 + z) 0) 75 (7 + z) 0) (67 + 3) 14 10 = some ((up (up (ywr cc A1) 74 (7 + z) 0) 75 (7 + z) 0) 70 10) from zald (i := 10) (by omega) (by omega), zbs rfl, show ∀ x : Int32, ast (up (up (ywr cc A1) 74 (7 + z) 0) 75 (7 + z) 0) (67 + 3) 14 10 x = some (up (up (up (ywr cc A1) 74 (7 + z) 0) 75 (7 + z) 0) 70 10 x) from fun x => zast (i := 10) (by omega) (by omega), zbs rfl, zbs rfl]
      have hb1 : ∀ x : Int32, BAD cc (s_a (ynx y n s)) (up N1 1 8 (nI cc)) (up (up (up (ywr cc A1) 74 (7 + z) 0) 75 (7 + z) 0) 70 10 x) := fun x => (hb0.g (GW.c (by omega))).g (GW.c (by omega))
      rw [k_end0 (hb1 _).ne]
      exact Ev2.pure (RSL.bad (hb1 _) (F1.fw.tr (FW.f (by omega))) ((((G1'.1.tr ywr_G).tr (GW.c (by omega)).1).tr (GW.c (by omega)).1).tr (GW.c (by omega)).1))
  · have hz7 : z = 7 := by have := wp.2.2.1; omega
    rw [if_neg (show ¬ nI z < 7 by rw [hz7]; decide), if_pos (by rw [hz7]; rfl), show F_X12_wrong 67 2 Nm = ywr 2 Nm from ywr_eq (c := 2) m1, if_neg (ywr_ne (by omega)), zbs rfl]
    dsimp only
    rw [if_pos (show bi false = 0 from rfl), zbs rfl, k_end0 (ywr_ne (by omega))]
    exact Ev2.pure (RSL.bad (h.bad (c := 2) (by omega)) (FW.f (by omega)) ywr_G)
end PERSON
