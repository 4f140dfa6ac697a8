/-! ===== the round, the fogs ===== -/
def yPr (P : Pl) (j : Nat) (rr : Nat → Nat) : Pl := ((fun i => if i = 1 then j else P.1 i), rr, P.2.2)
def yPf (P : Pl) (j : Nat) (rr : Nat → Nat) : Pl := ((fun i => if i = 3 then j else P.1 i), P.2.1, P.2.2.1, rr, P.2.2.2.2)
/-- another plan, at another token, a STREET told or not -/
def yst (t : Nat × Nat × Nat) (s : St) (P : Pl) (f : Bool) : St := (t, P, s_pu s, s_wk s, s_o s, f)
section LINES3
variable {w n : Nat} {y : Nat → Nat} {s : St} {N Nm : Mem}
theorem nIm (j : Nat) (h : j < 1000) : ¬ nI j = -1 := by
  intro e
  have := congrArg Int32.toInt e
  rw [nI_toInt (by omega)] at this
  have e2 : (-1 : Int32).toInt = -1 := by decide
  omega
theorem k_round (hn : n ≤ 700) (hy : ∀ i, i < n → y i < 256) (hw : w = 3 ∨ w = 14) (h : SY w y n s N Nm) (hl : LI s) : Ev2 (F_X5_roundLine 1 N) (J_X12_readLine_j82 67 (s_o s) (-1) 2 Nm) (RSL w y n N Nm (s_a s)) := by
  unfold F_X5_roundLine
  by_cases o : s_o s &&& 2 = 0
  · rw [m_once h (by decide) (fun z => absurd z (by decide)) o]
    unfold F_X12_sayOnce
    rw [Option.bind_assoc]
    refine (k_once hn hy hw h o).bind (fun r Nm' hr => ?_)
    obtain ⟨r1, N1⟩ := r
    obtain ⟨e1, hS, F, G⟩ := hr
    obtain rfl : r1 = true := e1
    dsimp only
    unfold J_X12_sayOnce_j23
    rw [if_neg (show ¬ bi true = 0 by decide), if_neg (show ¬ (2 : Int32) = 1 by decide), if_pos rfl, Option.bind_assoc]
    have hoa := s_oa 2 h
    have hli := s_once 2 h hl (by decide)
    have eo : s_o (ynx y n (yso s (s_o s ||| 2))) = s_o s ||| 2 := rfl
    generalize hs1 : ynx y n (yso s (s_o s ||| 2)) = s1 at hS hoa hli eo
    obtain ⟨⟨⟨kc, x2, x9, x10, ⟨⟨⟨a1, a2, a3, a4, a5, a6, a7⟩, b, c, d, e, f, g⟩, h5⟩⟩, ⟨km, m1, m2, ⟨⟨c1, c2, c3, c4, c5, c6, c7⟩, d1, d2, d3, d4, d5, d6, d7⟩⟩⟩, tk, wp, lz⟩ := hS
    refine (k_rows (a := 72) (an := 16) (st := 8) (mx := 8) (zn := zns (s_P s1)) wp.1.2 (by omega) (by omega) (by omega) (by omega) hn hy hw tk kc x2 a1 km m1 c1).bind (fun r r' hr => ?_)
    obtain ⟨v, N2⟩ := r
    obtain ⟨v', Nm2⟩ := r'
    obtain ⟨F2, G2, hr⟩ := hr
    dsimp only at F2 G2
    rcases hr with ⟨j, s', rr, hj, ⟨ev, ev'⟩, ⟨tk', ha'⟩, kc', km', z21, ⟨zf, zf'⟩, hrr⟩ | ⟨ev, c0, q0, hb⟩
    · obtain rfl : v = nI j := ev
      obtain rfl : v' = nI j := ev'
      dsimp only at kc' km' z21 zf zf' hrr ⊢
      have q2 : N2 1 2 = nI w := by rw [F2.2 2 (by omega) (by omega) (by omega) (by omega) (by omega) (by omega)]; exact x2
      have q2' : (up N2 w 2 (nI j)) 1 2 = nI w := by rw [up_ne (by omega)]; exact q2
      obtain ⟨N4, e4, h4⟩ := zc_copyRow (M := up N2 w 2 (nI j)) (a := 13) (b := w + 2) (n := 8) (by omega) (by omega)
      rw [if_neg (nIm j (by omega)), ygrd hw q2, zbs rfl, ygrd hw q2', zbs rfl, show F_X11_copyRow (1 + 12) 8 (w + 2) 8 (up N2 w 2 (nI j)) = some N4 from e4, zbs rfl, show ast Nm2 (67 + 3) 14 9 (nI j) = some (up Nm2 70 9 (nI j)) from zast (i := 9) (by omega) (by omega), zbs rfl]
      unfold J_X12_sayOnce_j47 J_X12_sayOnce_j56 J_X12_sayOnce_j76
      rw [if_neg (show ¬ (2 : Int32) = 4 by decide), if_neg (show ¬ (2 : Int32) = 8 by decide), if_neg (show ¬ (2 : Int32) = 16 by decide), zbs rfl]
      have kc4 : ∀ c, c ≠ w → c ≠ w + 2 → N4 c = N2 c := fun c h1 h2 => by rw [h4.off h2, up_ne h1]
      have kcw : ∀ i, i ≠ 2 → N4 w i = N1 w i := fun i hi => by rw [h4.off (by omega), up_nk hi, F2.1 w (by omega) (by omega)]
      have kc1 : ∀ c, c ≠ w → c ≠ w + 2 → c ≠ 1 → c ≠ 13 → N4 c = N1 c := fun c h1 h2 h3 h6 => by rw [kc4 c h1 h2, F2.1 c h3 h6]
      have km1 : ∀ c, c ≠ 67 → c ≠ 70 → c ≠ 72 → (up Nm2 70 9 (nI j)) c = Nm' c := fun c h1 h2 h3 => by rw [up_ne h2, G2.1 c h1 h3]
      have km7 : ∀ i, i ≠ 9 → (up Nm2 70 9 (nI j)) 70 i = Nm' 70 i := fun i hi => by rw [up_nk hi, G2.1 70 (by omega) (by omega)]
      have hS2 : SY w y n (yst s'.1 s1 (yPr (s_P s1) j rr) true) N4 (up Nm2 70 9 (nI j)) := by
        refine ⟨⟨⟨KC.of (s := s') kc' (fun k hk => by rw [kc4 1 (by omega) (by omega)]) (kc4 2 (by omega) (by omega)), by rw [kc4 1 (by omega) (by omega)]; exact q2, ?_, by rw [kc4 1 (by omega) (by omega)]; exact zf, ⟨⟨⟨?_, ?_, ?_, ?_, ?_, ?_, ?_⟩, ?_, ?_, ?_, ?_, ?_, ?_⟩, ?_, ?_⟩⟩, ⟨KM.of (s := s') km' (fun k hk => by rw [up_ne (by omega)]) (up_ne (by omega)), by rw [up_ne (by omega)]; exact z21, by rw [up_ne (by omega)]; exact zf', ⟨⟨?_, ?_, up_at, ?_, ?_, ?_, ?_⟩, ?_, ?_, ?_, ?_, ?_, ?_, ?_⟩⟩⟩, tk', ?_, ?_⟩
        · rw [kc4 1 (by omega) (by omega), F2.2 9 (by omega) (by omega) (by omega) (by omega) (by omega) (by omega)]; exact x9
        · rw [kcw 0 (by omega)]; exact a1
        · rw [kcw 1 (by omega)]; exact a2
        · rw [h4.off (by omega)]; exact up_at
        · rw [kcw 3 (by omega)]; exact a4
        · rw [kcw 5 (by omega)]; exact a5
        · rw [kcw 6 (by omega)]; exact a6
        · rw [kc1 (w + 7) (by omega) (by omega) (by omega) (by omega)]; exact a7
        · rw [kcw 4 (by omega)]; exact b
        · rw [kc1 (w + 1) (by omega) (by omega) (by omega) (by omega)]; exact c
        · intro k hk
          have hk' : k < j := hk
          rw [h4.at0 (by omega), up_ne (by omega)]
          exact (hrr k hk').1
        · rw [kc1 (w + 4) (by omega) (by omega) (by omega) (by omega)]; exact e
        · rw [kc1 (w + 6) (by omega) (by omega) (by omega) (by omega)]; exact f
        · rw [kc1 (w + 8) (by omega) (by omega) (by omega) (by omega)]; exact g
        · rw [kc1 (w + 3) (by omega) (by omega) (by omega) (by omega), kc1 (w + 5) (by omega) (by omega) (by omega) (by omega)]; exact h5.1
        · rw [kcw 4 (by omega)]; exact h5.2
        · rw [km7 7 (by omega)]; exact c1
        · rw [km7 8 (by omega)]; exact c2
        · rw [km7 10 (by omega)]; exact c4
        · rw [km7 11 (by omega)]; exact c5
        · rw [km7 12 (by omega)]; exact c6
        · rw [km7 13 (by omega)]; exact c7
        · rw [km1 73 (by omega) (by omega) (by omega)]; exact d1
        · rw [km1 71 (by omega) (by omega) (by omega)]; exact d2
        · intro k hk
          have hk' : k < j := hk
          rw [up_ne (by omega)]
          exact (hrr k hk').2.1
        · rw [km1 75 (by omega) (by omega) (by omega)]; exact d4
        · rw [km1 77 (by omega) (by omega) (by omega)]; exact d5
        · rw [km1 78 (by omega) (by omega) (by omega)]; exact d6
        · rw [km1 74 (by omega) (by omega) (by omega), km1 76 (by omega) (by omega) (by omega)]; exact d7
        · obtain ⟨w1, w2, w3, w4, w5, w6, w7, w8, w9, w10⟩ := wp
          exact ⟨w1, hj, w3, w4, w5, w6, fun k hk => (hrr k hk).2.2, w8, w9, fun z => by cases z⟩
        · show znl (s_P s1) ≤ s_a s'
          omega
      have hli2 : LI (yst s'.1 s1 (yPr (s_P s1) j rr) true) := hli
      have ha2 : s_a s ≤ s_a (yst s'.1 s1 (yPr (s_P s1) j rr) true) := by
        show s_a s ≤ s_a s'
        omega
      refine k_end hn hy hw hS2 hli2 ha2 (x1 := s_o s) (x3 := 2) eo.symm ((F.tr F2.fw).tr ((FW.c (c := w) (k := 2) (v := nI j) hw (Or.inr ⟨Nat.le_refl w, Nat.le_add_right w 8⟩)).tr ?_)) ((G.1.tr (G2.gw (by omega))).tr (GW.c (by omega)).1)
      exact ⟨fun c h1 h2 h3 => h4.off (by omega), by rw [h4.off (by omega)], by rw [h4.off (by omega)], by rw [h4.off (by omega)]⟩
    · obtain rfl : v = -1 := ev
      dsimp only at hb ⊢
      have hb' : BAD c0 q0 N2 (up Nm2 70 9 v') := hb.g (GW.c (by omega))
      rw [if_pos rfl, show ast Nm2 (67 + 3) 14 9 v' = some (up Nm2 70 9 v') from zast (i := 9) (by omega) (by omega), zbs rfl]
      unfold J_X12_sayOnce_j47 J_X12_sayOnce_j56 J_X12_sayOnce_j76
      rw [if_neg (show ¬ (2 : Int32) = 4 by decide), if_neg (show ¬ (2 : Int32) = 8 by decide), if_neg (show ¬ (2 : Int32) = 16 by decide), zbs rfl, k_end0 hb'.ne]
      exact Ev2.pure (RSL.bad hb' (F.tr F2.fw) ((G.1.tr (G2.gw (by omega))).tr (GW.c (by omega)).1))
  · rw [k_once0 h o, m_once0 h (by decide) (fun z => absurd z (by decide)) o, zbs rfl, if_pos (show bi false = 0 from rfl)]
    exact Ev2.pure (RSL.bad (h.bad (c := 5) (by omega)) (FW.f (by omega)) ywr_G)
theorem k_fogl (hn : n ≤ 700) (hy : ∀ i, i < n → y i < 256) (hw : w = 3 ∨ w = 14) (h : SY w y n s N Nm) (hl : LI s) : Ev2 (F_X5_fogLine 1 N) (J_X12_readLine_j82 67 (s_o s) (-1) 4 Nm) (RSL w y n N Nm (s_a s)) := by
  unfold F_X5_fogLine
  by_cases o : s_o s &&& 4 = 0
  · rw [m_once h (by decide) (fun z => absurd z (by decide)) o]
    unfold F_X12_sayOnce
    rw [Option.bind_assoc]
    refine (k_once hn hy hw h o).bind (fun r Nm' hr => ?_)
    obtain ⟨r1, N1⟩ := r
    obtain ⟨e1, hS, F, G⟩ := hr
    obtain rfl : r1 = true := e1
    dsimp only
    unfold J_X12_sayOnce_j23 J_X12_sayOnce_j47
    rw [if_neg (show ¬ bi true = 0 by decide), if_neg (show ¬ (4 : Int32) = 1 by decide), if_neg (show ¬ (4 : Int32) = 2 by decide), if_pos rfl, Option.bind_assoc]
    have hoa := s_oa 4 h
    have hli := s_once 4 h hl (by decide)
    have eo : s_o (ynx y n (yso s (s_o s ||| 4))) = s_o s ||| 4 := rfl
    generalize hs1 : ynx y n (yso s (s_o s ||| 4)) = s1 at hS hoa hli eo
    obtain ⟨⟨⟨kc, x2, x9, x10, ⟨⟨⟨a1, a2, a3, a4, a5, a6, a7⟩, b, c, d, e, f, g⟩, h5⟩⟩, ⟨km, m1, m2, ⟨⟨c1, c2, c3, c4, c5, c6, c7⟩, d1, d2, d3, d4, d5, d6, d7⟩⟩⟩, tk, wp, lz⟩ := hS
    refine (k_fogs hn hy tk kc km m1).bind (fun r Nm2 hr => ?_)
    obtain ⟨v, N2⟩ := r
    obtain ⟨F2, x10', G2, hr⟩ := hr
    dsimp only at F2 G2 x10'
    rcases hr with ⟨j, s', rr, hj, ⟨ev, ev'⟩, ⟨tk', ha'⟩, kc', km', z21, zf', hGF, hrr⟩ | ⟨ev, c0, q0, hb⟩
    · obtain rfl : v = nI j := ev
      dsimp only at kc' hrr ⊢
      have q2 : N2 1 2 = nI w := by rw [F2.2 2 (by omega) (by omega) (by omega) (by omega) (by omega) (by omega)]; exact x2
      have q2' : (up N2 w 5 (nI j)) 1 2 = nI w := by rw [up_ne (by omega)]; exact q2
      obtain ⟨N4, e4, h4⟩ := zc_copyRow (M := up N2 w 5 (nI j)) (a := 13) (b := w + 6) (n := 8) (by omega) (by omega)
      rw [if_neg (nIm j (by omega)), ygrd hw q2, zbs rfl, ygrd hw q2', zbs rfl, show F_X11_copyRow (1 + 12) 8 (w + 6) 8 (up N2 w 5 (nI j)) = some N4 from e4, zbs rfl]
      unfold J_X12_sayOnce_j56 J_X12_sayOnce_j76
      rw [if_neg (show ¬ (4 : Int32) = 8 by decide), if_neg (show ¬ (4 : Int32) = 16 by decide), zbs rfl]
      have kc4 : ∀ c, c ≠ w → c ≠ w + 6 → N4 c = N2 c := fun c h1 h2 => by rw [h4.off h2, up_ne h1]
      have kcw : ∀ i, i ≠ 5 → N4 w i = N1 w i := fun i hi => by rw [h4.off (by omega), up_nk hi, F2.1 w (by omega) (by omega)]
      have kc1 : ∀ c, c ≠ w → c ≠ w + 6 → c ≠ 1 → c ≠ 13 → N4 c = N1 c := fun c h1 h2 h3 h6 => by rw [kc4 c h1 h2, F2.1 c h3 h6]
      have km1 : ∀ c, c ≠ 67 → c ≠ 70 → c ≠ 77 → Nm2 c = Nm' c := hGF.1
      have km7 : ∀ i, i ≠ 11 → Nm2 70 i = Nm' 70 i := hGF.2.1
      have ef1 : zf1 (yPf (s_P s1) j rr) = j := by
        unfold zf1
        show (if j = 0 then 1 else j) = j
        rw [if_neg (by omega)]
      have hS2 : SY w y n (yst s'.1 s1 (yPf (s_P s1) j rr) (s_f s1)) N4 Nm2 := by
        refine ⟨⟨⟨KC.of (s := s') kc' (fun k hk => by rw [kc4 1 (by omega) (by omega)]) (kc4 2 (by omega) (by omega)), by rw [kc4 1 (by omega) (by omega)]; exact q2, ?_, by rw [kc4 1 (by omega) (by omega), x10']; exact x10, ⟨⟨⟨?_, ?_, ?_, ?_, ?_, ?_, ?_⟩, ?_, ?_, ?_, ?_, ?_, ?_⟩, ?_, ?_⟩⟩, ⟨KM.of (s := s') km' (fun k hk => rfl) rfl, z21, by rw [zf']; exact m2, ⟨⟨?_, ?_, ?_, ?_, ev', ?_, ?_⟩, ?_, ?_, ?_, ?_, ?_, ?_, ?_⟩⟩⟩, tk', ?_, ?_⟩
        · rw [kc4 1 (by omega) (by omega), F2.2 9 (by omega) (by omega) (by omega) (by omega) (by omega) (by omega)]; exact x9
        · rw [kcw 0 (by omega)]; exact a1
        · rw [kcw 1 (by omega)]; exact a2
        · rw [kcw 2 (by omega)]; exact a3
        · rw [kcw 3 (by omega)]; exact a4
        · show N4 w 5 = nI (zf1 (yPf (s_P s1) j rr))
          rw [ef1, h4.off (by omega)]; exact up_at
        · rw [kcw 6 (by omega)]; exact a6
        · rw [kc1 (w + 7) (by omega) (by omega) (by omega) (by omega)]; exact a7
        · rw [kcw 4 (by omega)]; exact b
        · rw [kc1 (w + 1) (by omega) (by omega) (by omega) (by omega)]; exact c
        · rw [kc1 (w + 2) (by omega) (by omega) (by omega) (by omega)]; exact d
        · rw [kc1 (w + 4) (by omega) (by omega) (by omega) (by omega)]; exact e
        · intro k hk
          have hk' : k < j := by
            have : k < zf1 (yPf (s_P s1) j rr) := hk
            rw [ef1] at this; exact this
          have eg : zfg (s_P (yst s'.1 s1 (yPf (s_P s1) j rr) (s_f s1))) k = rr k := by
            unfold zfg
            show (if j = 0 then 0 else rr k) = rr k
            rw [if_neg (by omega)]
          rw [h4.at0 (by omega), up_ne (by omega), eg]
          exact (hrr k hk').1
        · rw [kc1 (w + 8) (by omega) (by omega) (by omega) (by omega)]; exact g
        · rw [kc1 (w + 3) (by omega) (by omega) (by omega) (by omega), kc1 (w + 5) (by omega) (by omega) (by omega) (by omega)]; exact h5.1
        · rw [kcw 4 (by omega)]; exact h5.2
        · rw [km7 7 (by omega)]; exact c1
        · rw [km7 8 (by omega)]; exact c2
        · rw [km7 9 (by omega)]; exact c3
        · rw [km7 10 (by omega)]; exact c4
        · rw [km7 12 (by omega)]; exact c6
        · rw [km7 13 (by omega)]; exact c7
        · rw [km1 73 (by omega) (by omega) (by omega)]; exact d1
        · rw [km1 71 (by omega) (by omega) (by omega)]; exact d2
        · rw [km1 72 (by omega) (by omega) (by omega)]; exact d3
        · rw [km1 75 (by omega) (by omega) (by omega)]; exact d4
        · intro k hk
          exact (hrr k hk).2.1
        · rw [km1 78 (by omega) (by omega) (by omega)]; exact d6
        · rw [km1 74 (by omega) (by omega) (by omega), km1 76 (by omega) (by omega) (by omega)]; exact d7
        · obtain ⟨w1, w2, w3, w4, w5, w6, w7, w8, w9, w10⟩ := wp
          exact ⟨w1, w2, w3, hj.2, w5, w6, w7, w8, fun k hk => (hrr k hk).2.2, w10⟩
        · show znl (s_P s1) ≤ s_a s'
          omega
      have hli2 : LI (yst s'.1 s1 (yPf (s_P s1) j rr) (s_f s1)) := hli
      have ha2 : s_a s ≤ s_a (yst s'.1 s1 (yPf (s_P s1) j rr) (s_f s1)) := by
        show s_a s ≤ s_a s'
        omega
      refine k_end hn hy hw hS2 hli2 ha2 (x1 := s_o s) (x3 := 4) eo.symm ((F.tr F2.fw).tr ((FW.c (c := w) (k := 5) (v := nI j) hw (Or.inr ⟨Nat.le_refl w, Nat.le_add_right w 8⟩)).tr ?_)) (G.1.tr G2)
      exact ⟨fun c h1 h2 h3 => h4.off (by omega), by rw [h4.off (by omega)], by rw [h4.off (by omega)], by rw [h4.off (by omega)]⟩
    · obtain rfl : v = -1 := ev
      dsimp only at hb ⊢
      rw [if_pos rfl]
      unfold J_X12_sayOnce_j56 J_X12_sayOnce_j76
      rw [if_neg (show ¬ (4 : Int32) = 8 by decide), if_neg (show ¬ (4 : Int32) = 16 by decide), zbs rfl, k_end0 hb.ne]
      exact Ev2.pure (RSL.bad hb (F.tr F2.fw) (G.1.tr G2))
  · rw [k_once0 h o, m_once0 h (by decide) (fun z => absurd z (by decide)) o, zbs rfl, if_pos (show bi false = 0 from rfl)]
    exact Ev2.pure (RSL.bad (h.bad (c := 5) (by omega)) (FW.f (by omega)) ywr_G)
end LINES3
