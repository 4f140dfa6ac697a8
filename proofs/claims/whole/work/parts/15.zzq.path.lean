/-! ===== a PATH's line ===== -/
def yPq (P : Pl) (a b : Nat) : Pl := ((fun i => if i = 5 then zpa P + 1 else P.1 i), p_rd P, p_ln P, p_fg P, p_bi P, (fun t => if t = b then p_nr P b ||| ((1 : Int32) <<< (nI a &&& 31)) else if t = a then p_nr P a ||| ((1 : Int32) <<< (nI b &&& 31)) else p_nr P t), p_cd P)
section PATH
variable {w n : Nat} {y : Nat → Nat} {s : St} {N Nm : Mem}
theorem m_path {x1 : Int32} (hk : F_X12_is 67 37 Nm = some true) : J_X12_readLine_j82 67 x1 (-1) 0 Nm = (F_X12_sayPath 67 Nm).bind fun q20 => J_X12_readLine_j165 67 x1 0 q20 := by
  unfold J_X12_readLine_j82 J_X12_readLine_j100 J_X12_readLine_j111 J_X12_readLine_j130
  rw [if_neg (by decide), if_pos Int32.zero_and, if_pos (Int32.le_refl 0), if_pos rfl, hk, zbs rfl, if_neg (show ¬ bi true = 0 by decide)]
theorem m_none {x1 : Int32} (hk : F_X12_is 67 37 Nm = some false) : J_X12_readLine_j82 67 x1 (-1) 0 Nm = J_X12_readLine_j165 67 x1 0 (F_X12_wrong 67 1 Nm) := by
  unfold J_X12_readLine_j82 J_X12_readLine_j100 J_X12_readLine_j111 J_X12_readLine_j130
  rw [if_neg (by decide), if_pos Int32.zero_and, if_pos (Int32.le_refl 0), if_pos rfl, hk, zbs rfl, if_pos (show bi false = 0 from rfl)]
theorem xm_snow0 (h0 : ¬ Nm 67 21 = 0) : F_X12_streetNow 67 Nm = (0, up Nm 67 24 1) := by
  have en : F_X12_numberNow 67 0 9999 Nm = (0, Nm) := by unfold F_X12_numberNow; rw [if_neg h0]
  unfold F_X12_streetNow J_X12_streetNow_j32
  rw [en, if_neg h0]
  show ((if (up Nm 67 24 (bi true)) 67 21 = 0 then (0 : Int32) else 0), _) = _
  split <;> rfl
theorem xc_join {M : Mem} {a b zp : Nat} (h1 : M w 1 = nI zp) (ha : a < 8) (hb : b < 8) (hab : a ≠ b) : F_X9_join w (nI a) (nI b) M = up (up (up M (w + 1) a (M (w + 1) a ||| ((1 : Int32) <<< (nI b &&& 31)))) (w + 1) b (M (w + 1) b ||| ((1 : Int32) <<< (nI a &&& 31)))) w 1 (nI (zp + 1)) := by
  unfold F_X9_join
  have e1 : F_X11_put (w + 1) 8 (nI a) ((F_X11_at (w + 1) 8 (nI a) M) ||| ((1 : Int32) <<< (nI b &&& 31))) M = up M (w + 1) a (M (w + 1) a ||| ((1 : Int32) <<< (nI b &&& 31))) := by
    rw [zat_at ha (by omega)]; exact zput_at ha (by omega)
  rw [e1]
  have e2 : F_X11_at (w + 1) 8 (nI b) (up M (w + 1) a (M (w + 1) a ||| ((1 : Int32) <<< (nI b &&& 31)))) = M (w + 1) b := by
    rw [zat_at hb (by omega), up_nk (by omega)]
  rw [e2]
  have e3 : F_X11_put (w + 1) 8 (nI b) (M (w + 1) b ||| ((1 : Int32) <<< (nI a &&& 31))) (up M (w + 1) a (M (w + 1) a ||| ((1 : Int32) <<< (nI b &&& 31)))) = up (up M (w + 1) a (M (w + 1) a ||| ((1 : Int32) <<< (nI b &&& 31)))) (w + 1) b (M (w + 1) b ||| ((1 : Int32) <<< (nI a &&& 31))) := zput_at hb (by omega)
  rw [e3, up_ne (by omega), up_ne (by omega), h1, nI_1]
theorem k_path (hn : n ≤ 700) (hy : ∀ i, i < n → y i < 256) (hw : w = 3 ∨ w = 14) (h : SY w y n s N Nm) (hl : LI s) : Ev2 (F_X5_pathLine 1 N) ((F_X12_sayPath 67 Nm).bind fun q20 => J_X12_readLine_j165 67 (s_o s) 0 q20) (RSL w y n N Nm (s_a s)) := by
  have hh := h
  obtain ⟨⟨⟨kc, x2, x9, x10, ⟨⟨⟨a1, a2, a3, a4, a5, a6, a7⟩, hbi, c, d, e, f, g⟩, h5, h6⟩⟩, ⟨km, m1, m2, ⟨⟨c1, c2, c3, c4, c5, c6, c7⟩, d1, d2, d3, d4, d5, d6, d7⟩⟩⟩, tk, wp, lz⟩ := hh
  unfold F_X5_pathLine F_X12_sayPath F_X12_another J_X12_another_j18
  rw [ygrd hw x2, zbs rfl, a2, show (7 : Int32) + 1 = nI 8 from by decide, show ald Nm (67 + 3) 14 (nI 8) = some (nI (zpa (s_P s))) from (zald (i := 8) (by omega) (by omega)).trans (congrArg some c2), zbs rfl]
  have w14 := wp.2.2.2.2.2.1
  have w8 := wp.1.2
  by_cases q : zpa (s_P s) < 14
  · rw [if_pos (zltr 14 14 rfl q (by omega)), if_neg (zne 14 14 rfl (by omega) (by omega) (by omega)), if_pos m1]
    obtain ⟨N1, e1, kc1, F1⟩ := k_adv hn hy tk kc
    obtain ⟨Nm1, f1, km1, G1⟩ := k_step hn hy tk km
    have tk1 := tk.nx
    have aa1 : s_a s ≤ s_a (ynx y n s) := by
      have h1 := ynx_a (y := y) (n := n) (s := s)
      have h2 := tk.b
      omega
    rw [zbs e1, zbs f1, zbs rfl]
    dsimp only
    rw [if_neg (show ¬ bi true = 0 by decide)]
    have q1 : N1 1 2 = nI w := by rw [F1.2 2 (by omega) (by omega) (by omega) (by omega)]; exact x2
    have z21 : Nm1 67 21 = 0 := by rw [G1.2 21 (by omega) (by omega) (by omega) (by omega) (by omega)]; exact m1
    unfold F_X12_readStreet
    rcases k_street (zn := zns (s_P s)) w8 tk1 hn hy hw kc1 q1 (by rw [F1.1 w (by omega)]; exact a1) km1 z21 (by rw [G1.1 70 (by omega)]; exact c1) with ⟨n1, n2, n3, n4, n5⟩ | ⟨cc, N', v', Nm', hb, F', G', n1, n2⟩
    · rw [n1, zbs rfl, n2]
      dsimp only
      rw [if_neg (show ¬ bi true = 0 by decide)]
      have z21' : (up Nm1 67 24 1) 67 21 = 0 := by rw [up_nk (by omega)]; exact z21
      rw [if_pos z21']
      generalize ha : yvl y (ynx y n s) = a at n3 n4 ⊢
      have kc1' : KC' y n (ynx y n s) (up N1 1 10 1) := KC.of kc1 (fun k hk => by rw [up_nk (by omega)]) (up_ne (by omega))
      have km1' : KM' y n (ynx y n s) (up Nm1 67 24 1) := KM.of km1 (fun k hk => by rw [up_nk (by omega)]) (up_ne (by omega))
      have F1' : FRo N (up N1 1 10 1) := F1.fr.tr (FRo.f (by omega))
      have G1' : GK Nm (up Nm1 67 24 1) := G1.gk.tr (GK.f (by omega))
      have n3' : (up N1 1 10 1) 1 7 = nI a := by rw [up_nk (by omega)]; exact n3
      generalize up N1 1 10 1 = B1 at kc1' F1' n3' ⊢
      generalize up Nm1 67 24 1 = C1 at km1' G1' z21' ⊢
      obtain ⟨N2, e2, kc2, F2⟩ := k_adv hn hy tk1 kc1'
      obtain ⟨C2, f2, km2, G2⟩ := k_step hn hy tk1 km1'
      have tk2 := tk1.nx
      have aa2 : s_a s ≤ s_a (ynx y n (ynx y n s)) := by
        have h1 := ynx_a (y := y) (n := n) (s := ynx y n s)
        have h2 := tk1.b
        omega
      rw [zbs e2, zbs f2, zbs rfl]
      dsimp only
      have F2' : FRo N N2 := F1'.tr F2.fr
      have G2' : GK Nm C2 := G1'.tr G2.gk
      have q2 : N2 1 2 = nI w := by rw [F2'.2 2 (by omega) (by omega) (by omega) (by omega) (by omega) (by omega)]; exact x2
      have y21 : C2 67 21 = 0 := by rw [G2.2 21 (by omega) (by omega) (by omega) (by omega) (by omega)]; exact z21'
      rcases k_street (zn := zns (s_P s)) w8 tk2 hn hy hw kc2 q2 (by rw [F2'.1 w (by omega) (by omega)]; exact a1) km2 y21 (by rw [G2'.1 70 (by omega)]; exact c1) with ⟨o1, o2, o3, o4, o5⟩ | ⟨cc, N', v', Nm', hb, F', G', o1, o2⟩
      · rw [o1, zbs rfl, o2]
        dsimp only
        rw [if_neg (show ¬ bi true = 0 by decide)]
        have y21' : (up C2 67 24 1) 67 21 = 0 := by rw [up_nk (by omega)]; exact y21
        rw [if_pos y21']
        generalize hb : yvl y (ynx y n (ynx y n s)) = b at o3 o4 ⊢
        have kc2' : KC' y n (ynx y n (ynx y n s)) (up N2 1 10 1) := KC.of kc2 (fun k hk => by rw [up_nk (by omega)]) (up_ne (by omega))
        have km2' : KM' y n (ynx y n (ynx y n s)) (up C2 67 24 1) := KM.of km2 (fun k hk => by rw [up_nk (by omega)]) (up_ne (by omega))
        have F3 : FRo N (up N2 1 10 1) := F2'.tr (FRo.f (by omega))
        have G3 : GK Nm (up C2 67 24 1) := G2'.tr (GK.f (by omega))
        have o3' : (up N2 1 10 1) 1 7 = nI b := by rw [up_nk (by omega)]; exact o3
        have q3 : (up N2 1 10 1) 1 2 = nI w := by rw [up_nk (by omega)]; exact q2
        have q10 : (up N2 1 10 1) 1 10 = 1 := up_at
        have r24 : (up C2 67 24 1) 67 24 = 1 := up_at
        generalize up N2 1 10 1 = B3 at kc2' F3 q3 q10 o3' ⊢
        generalize up C2 67 24 1 = C3 at km2' G3 y21' r24 ⊢
        have hbad4 : BAD 4 (s_a (ynx y n (ynx y n s))) (up B3 1 8 (nI 4)) (ywr 4 C3) := BAD.of kc2' km2' (by omega)
        have fin4 : Ev2 (some ((F_X5_refuse 1 4 B3).1, (F_X5_refuse 1 4 B3).2)) ((J_X12_sayPath_j54 67 (nI a) (nI b) (F_X12_wrong 67 4 C3)).bind fun q20 => J_X12_readLine_j165 67 (s_o s) 0 q20) (RSL w y n N Nm (s_a s)) := by
          rw [show F_X12_wrong 67 4 C3 = ywr 4 C3 from ywr_eq (c := 4) y21']
          unfold J_X12_sayPath_j54
          rw [if_neg (ywr_ne (by omega)), zbs rfl, k_end0 (ywr_ne (by omega))]
          exact Ev2.pure (RSL.bad hbad4 (F3.fw.tr (FW.f (by omega))) (G3.gw.tr ywr_G))
        unfold J_X5_pathLine_j78 J_X12_sayPath_j49
        by_cases eab : a = b
        · rw [if_pos (show B3 1 7 = B1 1 7 by rw [o3', n3', eab]), if_pos (by rw [eab])]
          exact fin4
        · have hcond : (((F_X11_at (w + 1) 8 (B1 1 7) B3) >>> ((B3 1 7) &&& 31)) &&& 1 = 0) ↔ bt (p_nr (s_P s) a) b = false := by
            rw [n3', o3', zat_at (by omega) (by omega), F3.1 (w + 1) (by omega) (by omega), c a (by omega)]
            exact zbit0 (by omega)
          rw [if_neg (show ¬ B3 1 7 = B1 1 7 by rw [o3', n3']; exact fun z => eab ((nI_eq (by omega) (by omega)).mp z).symm), if_neg (fun z => eab ((nI_eq (by omega) (by omega)).mp z)), ygrd hw q3, zbs rfl]
          rw [show (8 : Int32) + nI a = nI (8 + a) from nI_add 8 a, show ald C3 (67 + 4) 16 (nI (8 + a)) = some (p_nr (s_P s) a) from (zald (by omega) (by omega)).trans (congrArg some (by rw [show (67 + 4 : Nat) = 71 from rfl, G3.1 71 (by omega)]; exact d2 a (by omega))), zbs rfl, zbs rfl, zis (by omega)]
          rcases Bool.eq_false_or_eq_true (bt (p_nr (s_P s) a) b) with z | z
          · rw [if_neg (mt hcond.mp (by rw [z]; decide)), z, if_neg (show ¬ bi true = 0 by decide)]
            exact fin4
          · rw [if_pos (hcond.mpr z), z, if_pos (show bi false = 0 from rfl), n3', o3']
            have j1 := xc_join (w := w) (M := B3) (a := a) (b := b) (zp := zpa (s_P s)) (by rw [F3.1 w (by omega) (by omega)]; exact a2) (by omega) (by omega) eab
            rw [j1, F3.1 (w + 1) (by omega) (by omega), c a (by omega), c b (by omega)]
            have kc3 : KC' y n (ynx y n (ynx y n s)) (up (up (up B3 (w + 1) a (p_nr (s_P s) a ||| ((1 : Int32) <<< (nI b &&& 31)))) (w + 1) b (p_nr (s_P s) b ||| ((1 : Int32) <<< (nI a &&& 31)))) w 1 (nI (zpa (s_P s) + 1))) := KC.of kc2' (fun k hk => by rw [up_ne (by omega), up_ne (by omega), up_ne (by omega)]) (by rw [up_ne (by omega), up_ne (by omega), up_ne (by omega)])
            have hB : ∀ c, c ≠ w → c ≠ w + 1 → (up (up (up B3 (w + 1) a (p_nr (s_P s) a ||| ((1 : Int32) <<< (nI b &&& 31)))) (w + 1) b (p_nr (s_P s) b ||| ((1 : Int32) <<< (nI a &&& 31)))) w 1 (nI (zpa (s_P s) + 1))) c = B3 c := fun c x1 x2 => by rw [up_ne x1, up_ne x2, up_ne x2]
            have hBw : ∀ i, i ≠ 1 → (up (up (up B3 (w + 1) a (p_nr (s_P s) a ||| ((1 : Int32) <<< (nI b &&& 31)))) (w + 1) b (p_nr (s_P s) b ||| ((1 : Int32) <<< (nI a &&& 31)))) w 1 (nI (zpa (s_P s) + 1))) w i = N w i := fun i x1 => by rw [up_nk x1, up_ne (by omega), up_ne (by omega), F3.1 w (by omega) (by omega)]
            have hB1 : (up (up (up B3 (w + 1) a (p_nr (s_P s) a ||| ((1 : Int32) <<< (nI b &&& 31)))) (w + 1) b (p_nr (s_P s) b ||| ((1 : Int32) <<< (nI a &&& 31)))) w 1 (nI (zpa (s_P s) + 1))) w 1 = nI (zpa (s_P s) + 1) := up_at
            have hBn : ∀ t, t < 8 → (up (up (up B3 (w + 1) a (p_nr (s_P s) a ||| ((1 : Int32) <<< (nI b &&& 31)))) (w + 1) b (p_nr (s_P s) b ||| ((1 : Int32) <<< (nI a &&& 31)))) w 1 (nI (zpa (s_P s) + 1))) (w + 1) t = if t = b then p_nr (s_P s) b ||| ((1 : Int32) <<< (nI a &&& 31)) else if t = a then p_nr (s_P s) a ||| ((1 : Int32) <<< (nI b &&& 31)) else p_nr (s_P s) t := fun t ht => by
              rw [up_ne (by omega), up_app]
              by_cases x : t = b
              · rw [if_pos ⟨rfl, x⟩, if_pos x]
              · rw [if_neg (fun v => x v.2), if_neg x, up_app]
                by_cases x2 : t = a
                · rw [if_pos ⟨rfl, x2⟩, if_pos x2]
                · rw [if_neg (fun v => x2 v.2), if_neg x2, F3.1 (w + 1) (by omega) (by omega)]; exact c t ht
            have FB : FW w N (up (up (up B3 (w + 1) a (p_nr (s_P s) a ||| ((1 : Int32) <<< (nI b &&& 31)))) (w + 1) b (p_nr (s_P s) b ||| ((1 : Int32) <<< (nI a &&& 31)))) w 1 (nI (zpa (s_P s) + 1))) := ((F3.fw.tr (FW.c hw (by omega))).tr (FW.c hw (by omega))).tr (FW.c hw (by omega))
            generalize up (up (up B3 (w + 1) a (p_nr (s_P s) a ||| ((1 : Int32) <<< (nI b &&& 31)))) (w + 1) b (p_nr (s_P s) b ||| ((1 : Int32) <<< (nI a &&& 31)))) w 1 (nI (zpa (s_P s) + 1)) = B4 at kc3 hB hBw hB1 hBn FB ⊢
            obtain ⟨N5, e5, kc5, F5⟩ := k_adv hn hy tk2 kc3
            obtain ⟨C5, f5, km5, G5⟩ := k_step hn hy tk2 km2'
            have tk5 := tk2.nx
            have aa5 : s_a s ≤ s_a (ynx y n (ynx y n (ynx y n s))) := by
              have h1 := ynx_a (y := y) (n := n) (s := ynx y n (ynx y n s))
              have h2 := tk2.b
              omega
            have G5' : GK Nm C5 := G3.tr G5.gk
            unfold J_X12_sayPath_j54
            rw [if_pos y21', zbs e5, zbs f5]
            have l1 : C5 71 (8 + a) = p_nr (s_P s) a := by rw [G5'.1 71 (by omega)]; exact d2 a (by omega)
            have l2 : C5 71 (8 + b) = p_nr (s_P s) b := by rw [G5'.1 71 (by omega)]; exact d2 b (by omega)
            have l3 : C5 70 8 = nI (zpa (s_P s)) := by rw [G5'.1 70 (by omega)]; exact c2
            rw [show (8 : Int32) + nI a = nI (8 + a) from nI_add 8 a, show (8 : Int32) + nI b = nI (8 + b) from nI_add 8 b, show ald C5 (67 + 4) 16 (nI (8 + a)) = some (p_nr (s_P s) a) from (zald (by omega) (by omega)).trans (congrArg some l1), zbs rfl, show ast C5 (67 + 4) 16 (nI (8 + a)) (p_nr (s_P s) a ||| ((1 : Int32) <<< (nI b &&& 31))) = some (up C5 71 (8 + a) (p_nr (s_P s) a ||| ((1 : Int32) <<< (nI b &&& 31)))) from zast (by omega) (by omega), zbs rfl]
            have l2' : (up C5 71 (8 + a) (p_nr (s_P s) a ||| ((1 : Int32) <<< (nI b &&& 31)))) 71 (8 + b) = p_nr (s_P s) b := by rw [up_nk (by omega)]; exact l2
            rw [show ald (up C5 71 (8 + a) (p_nr (s_P s) a ||| ((1 : Int32) <<< (nI b &&& 31)))) (67 + 4) 16 (nI (8 + b)) = some (p_nr (s_P s) b) from (zald (by omega) (by omega)).trans (congrArg some l2'), zbs rfl, show ast (up C5 71 (8 + a) (p_nr (s_P s) a ||| ((1 : Int32) <<< (nI b &&& 31)))) (67 + 4) 16 (nI (8 + b)) (p_nr (s_P s) b ||| ((1 : Int32) <<< (nI a &&& 31))) = some (up (up C5 71 (8 + a) (p_nr (s_P s) a ||| ((1 : Int32) <<< (nI b &&& 31)))) 71 (8 + b) (p_nr (s_P s) b ||| ((1 : Int32) <<< (nI a &&& 31)))) from zast (by omega) (by omega), zbs rfl]
            have hC : ∀ c, c ≠ 71 → (up (up C5 71 (8 + a) (p_nr (s_P s) a ||| ((1 : Int32) <<< (nI b &&& 31)))) 71 (8 + b) (p_nr (s_P s) b ||| ((1 : Int32) <<< (nI a &&& 31)))) c = C5 c := fun c x1 => by rw [up_ne x1, up_ne x1]
            have hCn : ∀ t, t < 8 → (up (up C5 71 (8 + a) (p_nr (s_P s) a ||| ((1 : Int32) <<< (nI b &&& 31)))) 71 (8 + b) (p_nr (s_P s) b ||| ((1 : Int32) <<< (nI a &&& 31)))) 71 (8 + t) = if t = b then p_nr (s_P s) b ||| ((1 : Int32) <<< (nI a &&& 31)) else if t = a then p_nr (s_P s) a ||| ((1 : Int32) <<< (nI b &&& 31)) else p_nr (s_P s) t := fun t ht => by
              rw [up_app]
              by_cases x : t = b
              · rw [if_pos ⟨rfl, by omega⟩, if_pos x]
              · rw [if_neg (fun v => x (by omega)), if_neg x, up_app]
                by_cases x2 : t = a
                · rw [if_pos ⟨rfl, by omega⟩, if_pos x2]
                · rw [if_neg (fun v => x2 (by omega)), if_neg x2, G5'.1 71 (by omega)]; exact d2 t ht
            have GC : GW Nm (up (up C5 71 (8 + a) (p_nr (s_P s) a ||| ((1 : Int32) <<< (nI b &&& 31)))) 71 (8 + b) (p_nr (s_P s) b ||| ((1 : Int32) <<< (nI a &&& 31)))) := (G5'.gw.tr (GW.c (by omega)).1).tr (GW.c (by omega)).1
            generalize up (up C5 71 (8 + a) (p_nr (s_P s) a ||| ((1 : Int32) <<< (nI b &&& 31)))) 71 (8 + b) (p_nr (s_P s) b ||| ((1 : Int32) <<< (nI a &&& 31))) = C6 at hC hCn GC ⊢
            rw [show ald C6 (67 + 3) 14 8 = some (nI (zpa (s_P s))) from (zald (i := 8) (by omega) (by omega)).trans (congrArg some (by rw [show (67 + 3 : Nat) = 70 from rfl, hC 70 (by omega)]; exact l3)), zbs rfl, nI_1, show ast C6 (67 + 3) 14 8 (nI (zpa (s_P s) + 1)) = some (up C6 70 8 (nI (zpa (s_P s) + 1))) from zast (i := 8) (by omega) (by omega), zbs rfl, zbs rfl]
            have q5 : N5 1 2 = nI w := by rw [F5.2 2 (by omega) (by omega) (by omega) (by omega), hB 1 (by omega) (by omega)]; exact q3
            have k5 : ∀ c, c ≠ w → c ≠ w + 1 → c ≠ 1 → c ≠ 13 → N5 c = N c := fun c x1 x2 x3 x4 => by rw [F5.1 c x3, hB c x1 x2, F3.1 c x3 x4]
            have k5w : ∀ i, i ≠ 1 → N5 w i = N w i := fun i x1 => by rw [F5.1 w (by omega), hBw i x1]
            have km7 : ∀ i, i ≠ 8 → (up C6 70 8 (nI (zpa (s_P s) + 1))) 70 i = Nm 70 i := fun i hi => by rw [up_nk hi, hC 70 (by omega), G5'.1 70 (by omega)]
            have km1 : ∀ c, c ≠ 67 → c ≠ 70 → c ≠ 71 → (up C6 70 8 (nI (zpa (s_P s) + 1))) c = Nm c := fun c x1 x2 x3 => by rw [up_ne x2, hC c x3, G5'.1 c x1]
            have hS2 : SY w y n (yst (ynx y n (ynx y n (ynx y n s))).1 s (yPq (s_P s) a b) true) N5 (up C6 70 8 (nI (zpa (s_P s) + 1))) := by
              refine ⟨⟨⟨kc5, q5, ?_, ?_, ⟨⟨⟨?_, ?_, ?_, ?_, ?_, ?_, ?_⟩, ?_, ?_, ?_, ?_, ?_, ?_⟩, ?_, ?_⟩⟩, ⟨KM.of (s := ynx y n (ynx y n (ynx y n s))) km5 (fun k hk => by rw [up_ne (by omega), hC 67 (by omega)]) (by rw [up_ne (by omega), hC 80 (by omega)]), ?_, ?_, ⟨⟨?_, up_at, ?_, ?_, ?_, ?_, ?_⟩, ?_, ?_, ?_, ?_, ?_, ?_, ?_⟩⟩⟩, tk5, ?_, ?_⟩
              · rw [F5.2 9 (by omega) (by omega) (by omega) (by omega), hB 1 (by omega) (by omega), F3.2 9 (by omega) (by omega) (by omega) (by omega) (by omega) (by omega)]; exact x9
              · rw [F5.2 10 (by omega) (by omega) (by omega) (by omega), hB 1 (by omega) (by omega)]; exact q10
              · rw [k5w 0 (by omega)]; exact a1
              · rw [F5.1 w (by omega)]; exact hB1
              · rw [k5w 2 (by omega)]; exact a3
              · rw [k5w 3 (by omega)]; exact a4
              · rw [k5w 5 (by omega)]; exact a5
              · rw [k5w 6 (by omega)]; exact a6
              · rw [k5 (w + 7) (by omega) (by omega) (by omega) (by omega)]; exact a7
              · rw [k5w 4 (by omega)]; exact hbi
              · intro t ht
                rw [F5.1 (w + 1) (by omega)]; exact hBn t ht
              · rw [k5 (w + 2) (by omega) (by omega) (by omega) (by omega)]; exact d
              · rw [k5 (w + 4) (by omega) (by omega) (by omega) (by omega)]; exact e
              · rw [k5 (w + 6) (by omega) (by omega) (by omega) (by omega)]; exact f
              · rw [k5 (w + 8) (by omega) (by omega) (by omega) (by omega)]; exact g
              · rw [k5 (w + 3) (by omega) (by omega) (by omega) (by omega), k5 (w + 5) (by omega) (by omega) (by omega) (by omega)]; exact h5
              · rw [k5w 4 (by omega)]; exact h6
              · rw [up_ne (by omega), hC 67 (by omega), G5.2 21 (by omega) (by omega) (by omega) (by omega) (by omega)]; exact y21'
              · rw [up_ne (by omega), hC 67 (by omega), G5.2 24 (by omega) (by omega) (by omega) (by omega) (by omega)]; exact r24
              · rw [km7 7 (by omega)]; exact c1
              · rw [km7 9 (by omega)]; exact c3
              · rw [km7 10 (by omega)]; exact c4
              · rw [km7 11 (by omega)]; exact c5
              · rw [km7 12 (by omega)]; exact c6
              · rw [km7 13 (by omega)]; exact c7
              · rw [km1 73 (by omega) (by omega) (by omega)]; exact d1
              · intro t ht
                rw [up_ne (by omega)]; exact hCn t ht
              · rw [km1 72 (by omega) (by omega) (by omega)]; exact d3
              · rw [km1 75 (by omega) (by omega) (by omega)]; exact d4
              · rw [km1 77 (by omega) (by omega) (by omega)]; exact d5
              · rw [km1 78 (by omega) (by omega) (by omega)]; exact d6
              · rw [km1 74 (by omega) (by omega) (by omega), km1 76 (by omega) (by omega) (by omega)]; exact d7
              · obtain ⟨w1, w2, w3, w4, w5, w6, w7, w8, w9, w10⟩ := wp
                refine ⟨w1, w2, w3, w4, w5, ?_, w7, w8, w9, fun z => by cases z⟩
                show zpa (s_P s) + 1 ≤ 14
                omega
              · show znl (s_P s) ≤ s_a (ynx y n (ynx y n (ynx y n s)))
                omega
            have hli2 : LI (yst (ynx y n (ynx y n (ynx y n s))).1 s (yPq (s_P s) a b) true) := hl
            have ha2 : s_a s ≤ s_a (yst (ynx y n (ynx y n (ynx y n s))).1 s (yPq (s_P s) a b) true) := aa5
            exact k_end hn hy hw hS2 hli2 ha2 (x1 := s_o s) (x3 := 0) (z_or0 _) (FB.tr F5.fw) (GC.tr (GW.c (by omega)).1)
      · rw [o1, zbs rfl, o2]
        dsimp only
        rw [if_pos (show bi false = 0 from rfl), if_neg hb.ne]
        unfold J_X12_sayPath_j54
        rw [if_neg hb.ne, zbs rfl, k_end0 hb.ne]
        exact Ev2.pure (RSL.bad hb (F2'.tr F').fw (G2'.tr G').gw)
    · rw [n1, zbs rfl, n2]
      dsimp only
      rw [if_pos (show bi false = 0 from rfl), if_neg hb.ne, zbs rfl]
      dsimp only
      rw [xm_snow0 hb.ne]
      dsimp only
      have hb' : BAD cc (s_a (ynx y n s)) N' (up Nm' 67 24 1) := hb.g WG.f
      rw [if_neg hb'.ne]
      unfold J_X12_sayPath_j54
      rw [if_neg hb'.ne, zbs rfl, k_end0 hb'.ne]
      exact Ev2.pure (RSL.bad hb' (F1.fr.tr F').fw ((G1.gk.tr G').gw.tr WG.f.1))
  · have hz7 : zpa (s_P s) = 14 := by omega
    rw [if_neg (show ¬ nI (zpa (s_P s)) < 14 by rw [hz7]; decide), if_pos (by rw [hz7]; rfl), show F_X12_wrong 67 2 Nm = ywr 2 Nm from ywr_eq (c := 2) m1, if_neg (ywr_ne (by omega)), zbs rfl]
    dsimp only
    rw [if_pos (show bi false = 0 from rfl), zbs rfl, k_end0 (ywr_ne (by omega))]
    exact Ev2.pure (RSL.bad (h.bad (c := 2) (by omega)) (FW.f (by omega)) ywr_G)
end PATH
