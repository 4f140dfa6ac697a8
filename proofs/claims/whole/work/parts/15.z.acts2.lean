/-! ===== more acts ===== -/
theorem zngl2 (k : Int32) (b : Nat) (e : k = nI b) {a : Nat} (h : b ≤ a) (ha : a < 2147483648) : ¬ nI a < k := by rw [e]; exact nI_nlt h (by omega)
theorem agr_wander (p i s : Int32) : Agr (F_L_wander 0 106 p i s) (F_X12_wander 67 p i s) := by
  refine agr_set (fun w Z M hz hc => ?_)
  have hP := hz.1
  have h7 := hP.2.2.1
  have h8 := hP.1.2
  obtain ⟨hTW, hTC, h9⟩ := hz.2.1.1
  rcases znum p (znp (z_P Z)) (by omega) with ⟨p, hp, rfl⟩ | hx
  · have h6 := hP.2.2.2.2.2.2.2.1 p hp
    rcases znum i (p_ln (z_P Z) p) (by omega) with ⟨i, hi, rfl⟩ | hx
    · rcases znum s (zns (z_P Z)) (by omega) with ⟨s, hs, rfl⟩ | hx
      · right
        have hw8 := hTW.2.1 p i
        have was : F_X11_streetIn (F_X11_at (0 + 24 + 1 + 3) 7 (nI p) M) (nI i) = nI (t_w (b_t (z_B Z)) p i) := by rw [zat_at (by omega) (by omega)]; exact hc.T.w (by omega) (by omega)
        by_cases e0 : t_w (b_t (z_B Z)) p i = s
        · refine ⟨-1, zB Z (zrf (z_B Z) 1), hz.B (hz.2.1.rf 1), ⟨_, ?_, (hc.refuse (k := 1) (by omega)).1, (hc.refuse (k := 1) (by omega)).2⟩, fun M1 hm => ?_⟩
          · have e : F_X11_wander 0 (nI p) (nI i) (nI s) M = some (Sum.inr (-1, up M 35 1 (b_u (z_B Z) 1 + 1))) := by
              unfold F_X11_wander
              rw [zc_npl hc hp hP hi, zbs rfl]
              simp only [Sum.elim_inr]
              rw [zc_ns hc hs h8, zbs rfl]
              simp only [Sum.elim_inr]
              rw [was, if_pos (by rw [e0]), show F_X0_refuse (0 + 24) 1 M = (-1, up M 35 1 (b_u (z_B Z) 1 + 1)) from (zc_refuse hc.B (k := 1) (by omega)).1]
            unfold F_L_wander
            rw [zbs e]; rfl
          · obtain ⟨hm0, G0, c0⟩ := zm_0 hm
            unfold F_X12_wander
            generalize up M1 67 2 0 = M0 at hm0 G0 c0 ⊢
            obtain ⟨M2, e1, hm2, n2⟩ := zm_refuse hm0 (k := 1) (by omega)
            rw [zm_ip1 hm0 hp h7, if_neg (by decide), zald (by omega) (by omega), zbs rfl, hm0.P.2.2.2.2.1 p hp, zisn1 hi (by omega), if_neg (by decide), zm_is1 hm0 hs h8, if_neg (by decide), z6, nI_add, zald (by omega) (by omega), zbs rfl, hm0.T.w (by omega) (by omega), if_pos (by rw [e0]), zbs (show F_X12_refuse 67 1 M0 = some (-1, M2) from e1)]
            exact Evs.pure (sl_mk rfl (by show M2 67 2 = 0; rw [n2 67 (by omega)]; exact c0) hm2 (fun a ha => by show M2 a = _; rw [n2 a (by omega)]; exact G0.fr ha))
        · let T' : Tn := (t_n (b_t (z_B Z)), t_d (b_t (z_B Z)), t_h (b_t (z_B Z)), t_b (b_t (z_B Z)), t_c (b_t (z_B Z)), t_k (b_t (z_B Z)), fun q j => if q = p ∧ j = i then s else t_w (b_t (z_B Z)) q j)
          have hT' : TSt (z_P Z) T' := by
            refine ⟨⟨hTW.1, fun q j => ?_, hTW.2.2⟩, hTC, h9⟩
            show (if q = p ∧ j = i then s else t_w (b_t (z_B Z)) q j) < zns (z_P Z)
            split
            · exact hs
            · exact hTW.2.1 q j
          refine ⟨nI (t_w (b_t (z_B Z)) p i), zB Z (zT (zkp (z_B Z)) T'), hz.B (hz.2.1.kp.T hT'), ?_, fun M1 hm => ?_⟩
          · obtain ⟨M2, e1, hc2, n2⟩ := hc.kept hz
            have hs2 : F_X8_move 25 (nI p) (nI i) (nI s) M2 = up M2 28 p (F_X11_walkWith (M2 28 p) (nI i) (nI s)) := by
              unfold F_X8_move
              rw [zat_at (by omega) (by omega), zput_at (by omega) (by omega)]
            refine ⟨up M2 28 p (F_X11_walkWith (M2 28 p) (nI i) (nI s)), ?_, hc2.setT (CT.of ?_ ?_ ?_ ?_ ?_ ?_ ?_) (fun a ha => by rw [up_ne (by omega)]), fun a ha => by rw [up_ne (by omega)]; exact n2 a (by omega) (by omega)⟩
            · have e : F_X11_wander 0 (nI p) (nI i) (nI s) M = some (Sum.inr (nI (t_w (b_t (z_B Z)) p i), up M2 28 p (F_X11_walkWith (M2 28 p) (nI i) (nI s)))) := by
                unfold F_X11_wander
                rw [zc_npl hc hp hP hi, zbs rfl]
                simp only [Sum.elim_inr]
                rw [zc_ns hc hs h8, zbs rfl]
                simp only [Sum.elim_inr]
                rw [was, if_neg (fun z => e0 ((nI_eq (by omega) (by omega)).mp z)), zbs (show F_X0_keepAct (0 + 24) M = some M2 from e1), hs2]
              unfold F_L_wander
              rw [zbs e]; rfl
            · rw [up_ne (by omega)]; exact hc2.T.n
            · rw [up_ne (by omega)]; exact hc2.T.d
            · rw [up_ne (by omega)]; exact hc2.T.b
            · rw [up_ne (by omega)]; exact hc2.T.h
            · intro q hq; rw [up_ne (by omega)]; exact hc2.T.c hq
            · intro q hq; rw [up_ne (by omega)]; exact hc2.T.k hq
            · intro q hq j hj
              show F_X11_streetIn ((up M2 28 p (F_X11_walkWith (M2 28 p) (nI i) (nI s))) 28 q) (nI j) = nI (if q = p ∧ j = i then s else t_w (b_t (z_B Z)) q j)
              rw [up_app]
              by_cases e : q = p
              · subst e
                rw [if_pos ⟨rfl, rfl⟩, zwith (by omega) (by omega) hj]
                by_cases e2 : j = i
                · rw [if_pos e2, if_pos ⟨rfl, e2⟩]
                · rw [if_neg e2, if_neg (fun z => e2 z.2)]; exact hc2.T.w hq hj
              · rw [if_neg (fun z => e z.2), if_neg (fun z => e z.1)]; exact hc2.T.w hq hj
          · obtain ⟨hm0, G0, c0⟩ := zm_0 hm
            unfold F_X12_wander
            generalize up M1 67 2 0 = M0 at hm0 G0 c0 ⊢
            obtain ⟨M2, e1, hm2, n2, f2⟩ := zm_keep hm0 hz.2.1.2.1
            rw [zm_ip1 hm0 hp h7, if_neg (by decide), zald (by omega) (by omega), zbs rfl, hm0.P.2.2.2.2.1 p hp, zisn1 hi (by omega), if_neg (by decide), zm_is1 hm0 hs h8, if_neg (by decide), z6, nI_add, zald (by omega) (by omega), zbs rfl, hm0.T.w (by omega) (by omega), if_neg (fun z => e0 ((nI_eq (by omega) (by omega)).mp z)), zbs e1, zast (by omega) (by omega), zbs rfl]
            refine Evs.pure (sl_mk rfl ?_ (hm2.setT (MT.of ?_ ?_ ?_ ?_ ?_ ?_ ?_) (fun a x1 x2 x3 x4 => by rw [up_ne (by omega)]) (fun k hk => by rw [up_ne (by omega)])) (fun a ha => ?_))
            · rw [up_ne (by omega), f2 2 (by omega)]; exact c0
            · rw [up_ne (by omega)]; exact hm2.T.n
            · rw [up_ne (by omega)]; exact hm2.T.d
            · rw [up_ne (by omega)]; exact hm2.T.h
            · rw [up_ne (by omega)]; exact hm2.T.b
            · intro q hq; rw [up_ne (by omega)]; exact hm2.T.c hq
            · intro q hq; rw [up_ne (by omega)]; exact hm2.T.k hq
            · intro q hq j hj
              show (up M2 (67 + 16) (6 * p + i) (nI s)) 83 (6 * q + j) = nI (if q = p ∧ j = i then s else t_w (b_t (z_B Z)) q j)
              rw [up_app]
              by_cases e : q = p ∧ j = i
              · rw [if_pos e, if_pos ⟨rfl, by omega⟩]
              · rw [if_neg e, if_neg (fun z => e (by omega))]; exact hm2.T.w hq hj
            · rw [up_ne (by omega), n2 a (by omega) (by omega)]; exact G0.fr ha
      · left
        refine ⟨.inl 1, CL.thr (by omega) ?_, fun M1 hm => ?_⟩
        · have e : F_X11_wander 0 (nI p) (nI i) s M = some (Sum.inl 1) := by
            unfold F_X11_wander
            rw [zc_npl hc hp hP hi, zbs rfl]
            simp only [Sum.elim_inr]
            rw [zc_nsx hc hx, zbs rfl]; rfl
          unfold F_L_wander
          rw [zbs e]; rfl
        · obtain ⟨hm0, G0, c0⟩ := zm_0 hm
          unfold F_X12_wander
          generalize up M1 67 2 0 = M0 at hm0 G0 c0 ⊢
          rw [zm_ip1 hm0 hp h7, if_neg (by decide), zald (by omega) (by omega), zbs rfl, hm0.P.2.2.2.2.1 p hp, zisn1 hi (by omega), if_neg (by decide), zm_is0 hm0 h8 hx, if_pos (by decide)]
          exact Evs.pure (zm_fail (k := 1) G0)
    · left
      refine ⟨.inl 1, CL.thr (by omega) ?_, fun M1 hm => ?_⟩
      · have e : F_X11_wander 0 (nI p) i s M = some (Sum.inl 1) := by
          unfold F_X11_wander
          rw [zc_nplx2 hc hp hP hx, zbs rfl]; rfl
        unfold F_L_wander
        rw [zbs e]; rfl
      · obtain ⟨hm0, G0, c0⟩ := zm_0 hm
        unfold F_X12_wander
        generalize up M1 67 2 0 = M0 at hm0 G0 c0 ⊢
        rw [zm_ip1 hm0 hp h7, if_neg (by decide), zald (by omega) (by omega), zbs rfl, hm0.P.2.2.2.2.1 p hp, zisn0 (by omega) hx, if_pos (by decide)]
        exact Evs.pure (zm_fail (k := 1) G0)
  · left
    refine ⟨.inl 1, CL.thr (by omega) ?_, fun M1 hm => ?_⟩
    · have e : F_X11_wander 0 p i s M = some (Sum.inl 1) := by
        unfold F_X11_wander
        rw [zc_nplx1 hc hx, zbs rfl]; rfl
      unfold F_L_wander
      rw [zbs e]; rfl
    · obtain ⟨hm0, G0, c0⟩ := zm_0 hm
      unfold F_X12_wander
      generalize up M1 67 2 0 = M0 at hm0 G0 c0 ⊢
      rw [zm_ip0 hm0 h7 hx, if_pos (by decide)]
      exact Evs.pure (zm_fail (k := 1) G0)
theorem zi_earn {c : Int32} {n : Nat} (h0 : 0 ≤ c) (h1 : c ≤ 999) (hn : n ≤ 99) : 0 ≤ imin 999 (c + nI n) ∧ imin 999 (c + nI n) ≤ 999 := by
  obtain ⟨a, ha, rfl⟩ := nI_of2 (M := 999) (n := 999) (by decide) (Int32.not_lt.mpr h0) h1
  refine ⟨?_, zi_minl _ _⟩
  rw [nI_add]
  unfold imin
  split
  · exact nI_pos' (by omega)
  · decide
theorem agr_earn (p n : Int32) : Agr (F_L_earn 0 106 p n) (F_X12_earn 67 p n) := by
  refine agr_set (fun w Z M hz hc => ?_)
  have hP := hz.1
  have h7 := hP.2.2.1
  obtain ⟨hTW, hTC, h9⟩ := hz.2.1.1
  rcases znum p (znp (z_P Z)) (by omega) with ⟨p, hp, rfl⟩ | hx
  · right
    rcases zwin n 1 99 (by omega) (by omega) with ⟨n, hn1, hn2, rfl⟩ | hx
    · let T' : Tn := (t_n (b_t (z_B Z)), t_d (b_t (z_B Z)), t_h (b_t (z_B Z)), t_b (b_t (z_B Z)), upd (t_c (b_t (z_B Z))) p (imin 999 (t_c (b_t (z_B Z)) p + nI n)), t_k (b_t (z_B Z)), t_w (b_t (z_B Z)))
      have hT' : TSt (z_P Z) T' := by
        refine ⟨⟨hTW.1, hTW.2.1, fun q hq => ?_, hTW.2.2.2⟩, fun q => ?_, h9⟩
        · show upd _ p _ q = 0
          rw [upd_app, if_neg (by omega)]; exact hTW.2.2.1 q hq
        · show 0 ≤ upd _ p _ q ∧ upd _ p _ q ≤ 999
          rw [upd_app]
          split
          · exact zi_earn (hTC p).1 (hTC p).2 hn2
          · exact hTC q
      refine ⟨imin 999 (t_c (b_t (z_B Z)) p + nI n), zB Z (zT (zkp (z_B Z)) T'), hz.B (hz.2.1.kp.T hT'), ?_, fun M1 hm => ?_⟩
      · obtain ⟨M2, e1, hc2, n2⟩ := hc.kept hz
        have hs : F_X8_addCoins 25 (nI p) (nI n) M2 = up M2 26 p (imin 999 (t_c (b_t (z_B Z)) p + nI n)) := by
          unfold F_X8_addCoins
          rw [zat_at (by omega) (by omega), zput_at (by omega) (by omega), show M2 (25 + 1) p = t_c (b_t (z_B Z)) p from hc2.T.c (by omega)]
        refine ⟨up M2 26 p (imin 999 (t_c (b_t (z_B Z)) p + nI n)), ?_, hc2.setT (CT.of ?_ ?_ ?_ ?_ ?_ ?_ ?_) (fun a ha => by rw [up_ne (by omega)]), fun a ha => by rw [up_ne (by omega)]; exact n2 a (by omega) (by omega)⟩
        · have e : F_X11_earn 0 (nI p) (nI n) M = some (Sum.inr (imin 999 (t_c (b_t (z_B Z)) p + nI n), up M2 26 p (imin 999 (t_c (b_t (z_B Z)) p + nI n)))) := by
            unfold F_X11_earn
            rw [zc_np hc hp h7, zbs rfl]
            simp only [Sum.elim_inr]
            rw [if_neg (zngl2 1 1 rfl hn1 (by omega)), if_pos (zlel 99 99 rfl hn2 (by omega)), zbs (show F_X0_keepAct (0 + 24) M = some M2 from e1), show (0 + 24 + 1 : Nat) = 25 from rfl, hs, zat_at (by omega) (by omega)]
            rw [show (up M2 26 p (imin 999 (t_c (b_t (z_B Z)) p + nI n))) (25 + 1) p = imin 999 (t_c (b_t (z_B Z)) p + nI n) by rw [up_app, if_pos ⟨rfl, rfl⟩]]
          unfold F_L_earn
          rw [zbs e]; rfl
        · rw [up_ne (by omega)]; exact hc2.T.n
        · rw [up_ne (by omega)]; exact hc2.T.d
        · rw [up_ne (by omega)]; exact hc2.T.b
        · rw [up_ne (by omega)]; exact hc2.T.h
        · intro q hq
          rw [up_app]
          show _ = upd _ p _ q
          rw [upd_app]
          by_cases e : q = p
          · rw [if_pos ⟨rfl, e⟩, if_pos e]
          · rw [if_neg (fun z => e z.2), if_neg e]; exact hc2.T.c hq
        · intro q hq; rw [up_ne (by omega)]; exact hc2.T.k hq
        · intro q hq i hi; rw [up_ne (by omega)]; exact hc2.T.w hq hi
      · obtain ⟨hm0, G0, c0⟩ := zm_0 hm
        unfold F_X12_earn
        generalize up M1 67 2 0 = M0 at hm0 G0 c0 ⊢
        obtain ⟨M2, e1, hm2, n2, f2⟩ := zm_keep hm0 hz.2.1.2.1
        rw [zm_ip1 hm0 hp h7, if_neg (by decide), zisw1 (a := 1) (b := 99) (A := 1) (B := 99) rfl rfl hn1 hn2 (by omega), if_neg (by decide), zbs e1, zald (by omega) (by omega), zbs rfl, zast (by omega) (by omega), zbs rfl, zald (by omega) (by omega), zbs rfl, show M2 (67 + 14) p = t_c (b_t (z_B Z)) p from hm2.T.c (by omega)]
        refine Evs.pure (sl_mk ?_ ?_ (hm2.setT (MT.of ?_ ?_ ?_ ?_ ?_ ?_ ?_) (fun a x1 x2 x3 x4 => by rw [up_ne (by omega)]) (fun k hk => by rw [up_ne (by omega)])) (fun a ha => ?_))
        · rw [up_app, if_pos ⟨rfl, rfl⟩]
        · rw [up_ne (by omega), f2 2 (by omega)]; exact c0
        · rw [up_ne (by omega)]; exact hm2.T.n
        · rw [up_ne (by omega)]; exact hm2.T.d
        · rw [up_ne (by omega)]; exact hm2.T.h
        · rw [up_ne (by omega)]; exact hm2.T.b
        · intro q hq
          rw [up_app]
          show _ = upd _ p _ q
          rw [upd_app]
          by_cases e : q = p
          · rw [if_pos ⟨rfl, e⟩, if_pos e]
          · rw [if_neg (fun z => e z.2), if_neg e]; exact hm2.T.c hq
        · intro q hq; rw [up_ne (by omega)]; exact hm2.T.k hq
        · intro q hq i hi; rw [up_ne (by omega)]; exact hm2.T.w hq hi
        · rw [up_ne (by omega), n2 a (by omega) (by omega)]; exact G0.fr ha
    · refine ⟨-1, zB Z (zrf (z_B Z) 1), hz.B (hz.2.1.rf 1), ⟨_, ?_, (hc.refuse (k := 1) (by omega)).1, (hc.refuse (k := 1) (by omega)).2⟩, fun M1 hm => ?_⟩
      · have e : F_X11_earn 0 (nI p) n M = some (Sum.inr (-1, up M 35 1 (b_u (z_B Z) 1 + 1))) := by
          unfold F_X11_earn
          rw [zc_np hc hp h7, zbs rfl]
          simp only [Sum.elim_inr]
          have er : J_X11_earn_j16 0 M = some (Sum.inr (-1, up M 35 1 (b_u (z_B Z) 1 + 1))) := by
            unfold J_X11_earn_j16
            rw [show F_X0_refuse (0 + 24) 1 M = (-1, up M 35 1 (b_u (z_B Z) 1 + 1)) from (zc_refuse hc.B (k := 1) (by omega)).1]
          rcases hx with hx | ⟨hx, hx2⟩
          · rw [if_pos (show n < 1 from hx), er]
          · rw [if_neg (show ¬ n < 1 from hx), if_neg (show ¬ n ≤ 99 from hx2), er]
        unfold F_L_earn
        rw [zbs e]; rfl
      · obtain ⟨hm0, G0, c0⟩ := zm_0 hm
        unfold F_X12_earn
        generalize up M1 67 2 0 = M0 at hm0 G0 c0 ⊢
        obtain ⟨M2, e1, hm2, n2⟩ := zm_refuse hm0 (k := 1) (by omega)
        rw [zm_ip1 hm0 hp h7, if_neg (by decide), zisw0 (a := 1) (b := 99) (A := 1) (B := 99) rfl rfl hx, if_pos (by decide), zbs (show F_X12_refuse 67 1 M0 = some (-1, M2) from e1)]
        exact Evs.pure (sl_mk rfl (by show M2 67 2 = 0; rw [n2 67 (by omega)]; exact c0) hm2 (fun a ha => by show M2 a = _; rw [n2 a (by omega)]; exact G0.fr ha))
  · left
    refine ⟨.inl 1, CL.thr (by omega) ?_, fun M1 hm => ?_⟩
    · have e : F_X11_earn 0 p n M = some (Sum.inl 1) := by
        unfold F_X11_earn
        rw [zc_npx hc hx, zbs rfl]; rfl
      unfold F_L_earn
      rw [zbs e]; rfl
    · obtain ⟨hm0, G0, c0⟩ := zm_0 hm
      unfold F_X12_earn
      generalize up M1 67 2 0 = M0 at hm0 G0 c0 ⊢
      rw [zm_ip0 hm0 h7 hx, if_pos (by decide)]
      exact Evs.pure (zm_fail (k := 1) G0)
/-- the coins' reserve -/
theorem agr_reserve (n : Int32) : Ag3 (F_X11_reserve 0 n) (F_X12_reserve 67 n) := by
  refine agr_set3 (fun w Z M hz hc => ?_)
  obtain ⟨hTW, hTC, h9⟩ := hz.2.1.1
  rcases zwin n 0 99 (by omega) (by omega) with ⟨n, hn1, hn2, rfl⟩ | hx
  · let T' : Tn := (t_n (b_t (z_B Z)), t_d (b_t (z_B Z)), nI n, t_b (b_t (z_B Z)), t_c (b_t (z_B Z)), t_k (b_t (z_B Z)), t_w (b_t (z_B Z)))
    have hT' : TSt (z_P Z) T' := ⟨hTW, hTC, h9⟩
    refine ⟨t_h (b_t (z_B Z)), zB Z (zT (zkp (z_B Z)) T'), hz.B (hz.2.1.kp.T hT'), ?_, fun M1 hm => ?_⟩
    · obtain ⟨M2, e1, hc2, n2⟩ := hc.kept hz
      refine ⟨up M2 25 3 (nI n), ?_, hc2.setT (CT.of ?_ ?_ ?_ ?_ ?_ ?_ ?_) (fun a ha => by rw [up_ne (by omega)]), fun a ha => by rw [up_ne (by omega)]; exact n2 a (by omega) (by omega)⟩
      · unfold F_X11_reserve
        rw [if_neg (nI_pos (by omega)), if_pos (zlel 99 99 rfl hn2 (by omega)), zbs (show F_X0_keepAct (0 + 24) M = some M2 from e1), show M2 (0 + 24 + 1) 3 = t_h (b_t (z_B Z)) from hc2.T.h]
      · rw [up_app, if_neg (by omega)]; exact hc2.T.n
      · rw [up_app, if_neg (by omega)]; exact hc2.T.d
      · rw [up_app, if_neg (by omega)]; exact hc2.T.b
      · rw [up_app, if_pos ⟨rfl, rfl⟩]
      · intro q hq; rw [up_ne (by omega)]; exact hc2.T.c hq
      · intro q hq; rw [up_ne (by omega)]; exact hc2.T.k hq
      · intro q hq i hi; rw [up_ne (by omega)]; exact hc2.T.w hq hi
    · obtain ⟨hm0, G0, c0⟩ := zm_0 hm
      unfold F_X12_reserve
      generalize up M1 67 2 0 = M0 at hm0 G0 c0 ⊢
      obtain ⟨M2, e1, hm2, n2, f2⟩ := zm_keep hm0 hz.2.1.2.1
      rw [zisw1 (a := 0) (b := 99) (A := 0) (B := 99) rfl rfl hn1 hn2 (by omega), if_neg (by decide), zbs e1]
      refine Evs.pure (sl_mk3 hm2.T.h (hm2.setT (MT.of ?_ ?_ ?_ ?_ ?_ ?_ ?_) (fun a x1 x2 x3 x4 => by rw [up_ne x1]) (fun k hk => by rw [up_app, if_neg (by omega)])) (fun a ha => ?_))
      · rw [up_app, if_neg (by omega)]; exact hm2.T.n
      · rw [up_app, if_neg (by omega)]; exact hm2.T.d
      · rw [up_app, if_pos ⟨rfl, rfl⟩]
      · rw [up_app, if_neg (by omega)]; exact hm2.T.b
      · intro q hq; rw [up_ne (by omega)]; exact hm2.T.c hq
      · intro q hq; rw [up_ne (by omega)]; exact hm2.T.k hq
      · intro q hq i hi; rw [up_ne (by omega)]; exact hm2.T.w hq hi
      · rw [up_ne (by omega), n2 a (by omega) (by omega)]; exact G0.fr (Or.inl ha)
  · refine ⟨-1, zB Z (zrf (z_B Z) 1), hz.B (hz.2.1.rf 1), ⟨_, ?_, (hc.refuse (k := 1) (by omega)).1, (hc.refuse (k := 1) (by omega)).2⟩, fun M1 hm => ?_⟩
    · have er : J_X11_reserve_j10 0 M = some (-1, up M 35 1 (b_u (z_B Z) 1 + 1)) := by
        unfold J_X11_reserve_j10
        rw [show F_X0_refuse (0 + 24) 1 M = (-1, up M 35 1 (b_u (z_B Z) 1 + 1)) from (zc_refuse hc.B (k := 1) (by omega)).1]
      unfold F_X11_reserve
      rcases hx with hx | ⟨hx, hx2⟩
      · rw [if_pos (show n < 0 from hx), er]
      · rw [if_neg (show ¬ n < 0 from hx), if_neg (show ¬ n ≤ 99 from hx2), er]
    · obtain ⟨hm0, G0, c0⟩ := zm_0 hm
      unfold F_X12_reserve
      generalize up M1 67 2 0 = M0 at hm0 G0 c0 ⊢
      obtain ⟨M2, e1, hm2, n2⟩ := zm_refuse hm0 (k := 1) (by omega)
      rw [zisw0 (a := 0) (b := 99) (A := 0) (B := 99) rfl rfl hx, if_pos (by decide), zbs (show F_X12_refuse 67 1 M0 = some (-1, M2) from e1)]
      exact Evs.pure (sl_mk3 rfl hm2 (fun a ha => by show M2 a = _; rw [n2 a (by omega)]; exact G0.fr (Or.inl ha)))
