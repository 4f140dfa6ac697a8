/-! ===== calls that look ahead ===== -/
theorem agr_lots (k : Int32) : Agr (F_L_lots 0 106 k) (F_X12_lots 67 k) := by
  refine agr_read (fun w Z M hz hc => ?_)
  have hP := hz.1
  have h7 := hP.2.2.1
  have h8 := hP.1.2
  have hTS := hz.2.1.1
  have hn9 := hTS.2.2
  rcases zwin k 1 40 (by omega) (by omega) with ⟨k, h1_k, h2_k, rfl⟩ | hx
  · refine ⟨.inr (zlk (z_P Z) (b_t (z_B Z)) k), CL.val (M' := M) ?_ Fz.rf, fun M1 hm => ?_⟩
    · have e : F_X11_lots 0 (nI k) M = some (Sum.inr (zlk (z_P Z) (b_t (z_B Z)) k)) := by
        unfold F_X11_lots
        rw [show F_X11_needWithin (nI k) 1 40 M = Sum.inr () from zwithin1 (a := 1) (b := 40) (by omega) (by omega) (by omega)]
        simp only [Sum.elim_inr]
        rw [hc.grd, zbs rfl, zc_lots hP hc.P hc.T hTS.1 (by omega) (by omega), zbs rfl]
      unfold F_L_lots
      rw [zbs e]; rfl
    · obtain ⟨hm0, G0, c0⟩ := zm_0 hm
      unfold F_X12_lots
      generalize up M1 67 2 0 = M0 at hm0 G0 c0 ⊢
      rw [zisw1 (a := 1) (b := 40) (A := 1) (B := 40) rfl rfl (by omega) (by omega) (by omega), if_neg (by decide)]
      obtain ⟨A1, A2, A3, e1, e2, e3, k1, k2, k3, k4, k5, k6, k7⟩ := zm_ahead hz hm0 (n := k) (by omega)
      rw [zbs e1, zbs e2, zbs e3]
      exact Evs.pure (ML.val (by show A3 67 39 = _; rw [k5]; exact (k2 (by omega)).2) (by show A3 67 2 = 0; rw [k4]; exact c0) (G0.tr k3))
  · refine ⟨.inl 1, CL.thr (by omega) ?_, fun M1 hm => ?_⟩
    · have e : F_X11_lots 0 k M = some (Sum.inl 2) := by
        unfold F_X11_lots
        rw [show F_X11_needWithin k 1 40 M = Sum.inl 2 from zwithin0 (a := 1) (b := 40) hx]; rfl
      unfold F_L_lots
      rw [zbs e]; rfl
    · obtain ⟨hm0, G0, c0⟩ := zm_0 hm
      unfold F_X12_lots
      generalize up M1 67 2 0 = M0 at hm0 G0 c0 ⊢
      rw [zisw0 (a := 1) (b := 40) (A := 1) (B := 40) rfl rfl hx, if_pos (by decide)]
      exact Evs.pure (zm_fail (k := 1) G0)
theorem agr_dark (n : Int32) : Agr (F_L_dark 0 106 n) (F_X12_dark 67 n) := by
  refine agr_read (fun w Z M hz hc => ?_)
  have hP := hz.1
  have h7 := hP.2.2.1
  have h8 := hP.1.2
  have hTS := hz.2.1.1
  have hn9 := hTS.2.2
  rcases zwin n 0 40 (by omega) (by omega) with ⟨n, h1_n, h2_n, rfl⟩ | hx
  · obtain ⟨M', e0, q1, q2, F⟩ := zc_go hz hc (n := n) (by omega)
    refine ⟨.inr (t_d (zgo (z_P Z) (b_t (z_B Z)) n)), CL.val (M' := M') ?_ F, fun M1 hm => ?_⟩
    · have e : F_X11_dark 0 (nI n) M = some (Sum.inr ((t_d (zgo (z_P Z) (b_t (z_B Z)) n)), M')) := by
        unfold F_X11_dark
        rw [show F_X11_needWithin (nI n) 0 40 M = Sum.inr () from zwithin1 (a := 0) (b := 40) (by omega) (by omega) (by omega)]
        simp only [Sum.elim_inr]
        rw [zbs e0]
        show some (Sum.inr (M' 48 1, M')) = _
        rw [q1.d]
      unfold F_L_dark
      rw [zbs e]; rfl
    · obtain ⟨hm0, G0, c0⟩ := zm_0 hm
      unfold F_X12_dark
      generalize up M1 67 2 0 = M0 at hm0 G0 c0 ⊢
      rw [zisw1 (a := 0) (b := 40) (A := 0) (B := 40) rfl rfl (by omega) (by omega) (by omega), if_neg (by decide)]
      obtain ⟨A1, A2, A3, e1, e2, e3, k1, k2, k3, k4, k5, k6, k7⟩ := zm_ahead hz hm0 (n := n) (by omega)
      rw [zbs e1, zbs e2, zbs e3]
      exact Evs.pure (ML.val (by show A2 67 30 = _; exact k1.d) (by show A3 67 2 = 0; rw [k4]; exact c0) (G0.tr k3))
  · refine ⟨.inl 1, CL.thr (by omega) ?_, fun M1 hm => ?_⟩
    · have e : F_X11_dark 0 n M = some (Sum.inl 2) := by
        unfold F_X11_dark
        rw [show F_X11_needWithin n 0 40 M = Sum.inl 2 from zwithin0 (a := 0) (b := 40) hx]; rfl
      unfold F_L_dark
      rw [zbs e]; rfl
    · obtain ⟨hm0, G0, c0⟩ := zm_0 hm
      unfold F_X12_dark
      generalize up M1 67 2 0 = M0 at hm0 G0 c0 ⊢
      rw [zisw0 (a := 0) (b := 40) (A := 0) (B := 40) rfl rfl hx, if_pos (by decide)]
      exact Evs.pure (zm_fail (k := 1) G0)
theorem agr_then (p n i : Int32) : Agr (F_L_then 0 106 p n i) (F_X12_then 67 p n i) := by
  refine agr_read (fun w Z M hz hc => ?_)
  have hP := hz.1
  have h7 := hP.2.2.1
  have h8 := hP.1.2
  have hTS := hz.2.1.1
  have hn9 := hTS.2.2
  rcases znum p (znp (z_P Z)) (by omega) with ⟨p, h_p, rfl⟩ | hx
  · rcases znum i 2 (by omega) with ⟨i, h_i, rfl⟩ | hx
    · rcases zwin n 0 40 (by omega) (by omega) with ⟨n, h1_n, h2_n, rfl⟩ | hx
      · have h9 : i = 0 ∨ i = 1 := by omega
        rcases h9 with rfl | rfl
        · obtain ⟨M', e0, q1, q2, F⟩ := zc_go hz hc (n := n) (by omega)
          refine ⟨.inr (t_c (zgo (z_P Z) (b_t (z_B Z)) n) p), CL.val (M' := M') ?_ F, fun M1 hm => ?_⟩
          · have e : F_X11_then 0 (nI p) (nI n) (nI 0) M = some (Sum.inr ((t_c (zgo (z_P Z) (b_t (z_B Z)) n) p), M')) := by
              unfold F_X11_then
              rw [zc_np hc h_p h7, zbs rfl]
              simp only [Sum.elim_inr]
              rw [show F_X11_needWhat (nI 0) 2 M = Sum.inr () from zwhat1 (n := 2) (by omega) (by omega)]
              simp only [Sum.elim_inr]
              rw [show F_X11_needWithin (nI n) 0 40 M = Sum.inr () from zwithin1 (a := 0) (b := 40) (by omega) (by omega) (by omega)]
              simp only [Sum.elim_inr]
              rw [zbs e0, if_pos (by decide), zat_at (by omega) (by omega), q1.c (by omega)]
            unfold F_L_then
            rw [zbs e]; rfl
          · obtain ⟨hm0, G0, c0⟩ := zm_0 hm
            unfold F_X12_then
            generalize up M1 67 2 0 = M0 at hm0 G0 c0 ⊢
            rw [zm_ip1 hm0 h_p h7, if_neg (by decide), if_neg (nI_pos (by omega)), if_pos (zlel 1 1 rfl (by omega) (by omega)), zisw1 (a := 0) (b := 40) (A := 0) (B := 40) rfl rfl (by omega) (by omega) (by omega), if_neg (by decide)]
            obtain ⟨A1, A2, A3, e1, e2, e3, k1, k2, k3, k4, k5, k6, k7⟩ := zm_ahead hz hm0 (n := n) (by omega)
            rw [zbs e1, zbs e2, if_pos (by decide), zald (by omega) (by omega), zbs rfl]
            unfold J_X12_then_j79
            rw [zbs e3]
            exact Evs.pure (ML.val (by show A2 81 p = _; exact k1.c (by omega)) (by show A3 67 2 = 0; rw [k4]; exact c0) (G0.tr k3))
        · obtain ⟨M', e0, q1, q2, F⟩ := zc_go hz hc (n := n) (by omega)
          refine ⟨.inr (t_k (zgo (z_P Z) (b_t (z_B Z)) n) p), CL.val (M' := M') ?_ F, fun M1 hm => ?_⟩
          · have e : F_X11_then 0 (nI p) (nI n) (nI 1) M = some (Sum.inr ((t_k (zgo (z_P Z) (b_t (z_B Z)) n) p), M')) := by
              unfold F_X11_then
              rw [zc_np hc h_p h7, zbs rfl]
              simp only [Sum.elim_inr]
              rw [show F_X11_needWhat (nI 1) 2 M = Sum.inr () from zwhat1 (n := 2) (by omega) (by omega)]
              simp only [Sum.elim_inr]
              rw [show F_X11_needWithin (nI n) 0 40 M = Sum.inr () from zwithin1 (a := 0) (b := 40) (by omega) (by omega) (by omega)]
              simp only [Sum.elim_inr]
              rw [zbs e0, if_neg (by decide), zat_at (by omega) (by omega), q1.k (by omega)]
            unfold F_L_then
            rw [zbs e]; rfl
          · obtain ⟨hm0, G0, c0⟩ := zm_0 hm
            unfold F_X12_then
            generalize up M1 67 2 0 = M0 at hm0 G0 c0 ⊢
            rw [zm_ip1 hm0 h_p h7, if_neg (by decide), if_neg (nI_pos (by omega)), if_pos (zlel 1 1 rfl (by omega) (by omega)), zisw1 (a := 0) (b := 40) (A := 0) (B := 40) rfl rfl (by omega) (by omega) (by omega), if_neg (by decide)]
            obtain ⟨A1, A2, A3, e1, e2, e3, k1, k2, k3, k4, k5, k6, k7⟩ := zm_ahead hz hm0 (n := n) (by omega)
            rw [zbs e1, zbs e2, if_neg (by decide), zald (by omega) (by omega), zbs rfl]
            unfold J_X12_then_j79
            rw [zbs e3]
            exact Evs.pure (ML.val (by show A2 82 p = _; exact k1.k (by omega)) (by show A3 67 2 = 0; rw [k4]; exact c0) (G0.tr k3))
      · refine ⟨.inl 2, CL.thr (by omega) ?_, fun M1 hm => ?_⟩
        · have e : F_X11_then 0 (nI p) n (nI i) M = some (Sum.inl 2) := by
            unfold F_X11_then
            rw [zc_np hc h_p h7, zbs rfl]
            simp only [Sum.elim_inr]
            rw [show F_X11_needWhat (nI i) 2 M = Sum.inr () from zwhat1 (n := 2) (by omega) (by omega)]
            simp only [Sum.elim_inr]
            rw [show F_X11_needWithin n 0 40 M = Sum.inl 2 from zwithin0 (a := 0) (b := 40) hx]; rfl
          unfold F_L_then
          rw [zbs e]; rfl
        · obtain ⟨hm0, G0, c0⟩ := zm_0 hm
          unfold F_X12_then
          generalize up M1 67 2 0 = M0 at hm0 G0 c0 ⊢
          rw [zm_ip1 hm0 h_p h7, if_neg (by decide), if_neg (nI_pos (by omega)), if_pos (zlel 1 1 rfl (by omega) (by omega))]
          rw [zisw0 (a := 0) (b := 40) (A := 0) (B := 40) rfl rfl hx, if_pos (by decide)]
          exact Evs.pure (zm_fail (k := 2) G0)
    · refine ⟨.inl 1, CL.thr (by omega) ?_, fun M1 hm => ?_⟩
      · have e : F_X11_then 0 (nI p) n i M = some (Sum.inl 1) := by
          unfold F_X11_then
          rw [zc_np hc h_p h7, zbs rfl]
          simp only [Sum.elim_inr]
          rw [show F_X11_needWhat i 2 M = Sum.inl 1 from zwhat0 (n := 2) hx]; rfl
        unfold F_L_then
        rw [zbs e]; rfl
      · obtain ⟨hm0, G0, c0⟩ := zm_0 hm
        unfold F_X12_then
        generalize up M1 67 2 0 = M0 at hm0 G0 c0 ⊢
        rw [zm_ip1 hm0 h_p h7, if_neg (by decide)]
        rcases hx with hx | hx
        · rw [if_pos hx]
          exact Evs.pure (zm_fail (k := 1) G0)
        · rw [if_neg hx.1, if_neg (fun z => hx.2 (Int32.lt_of_le_of_lt z (show (1 : Int32) < nI 2 by decide)))]
          exact Evs.pure (zm_fail (k := 1) G0)
  · refine ⟨.inl 1, CL.thr (by omega) ?_, fun M1 hm => ?_⟩
    · have e : F_X11_then 0 p n i M = some (Sum.inl 1) := by
        unfold F_X11_then
        rw [zc_npx hc hx, zbs rfl]; rfl
      unfold F_L_then
      rw [zbs e]; rfl
    · obtain ⟨hm0, G0, c0⟩ := zm_0 hm
      unfold F_X12_then
      generalize up M1 67 2 0 = M0 at hm0 G0 c0 ⊢
      rw [zm_ip0 hm0 h7 hx, if_pos (by decide)]
      exact Evs.pure (zm_fail (k := 1) G0)
theorem agr_sold (p n i : Int32) : Agr (F_L_sold 0 106 p n i) (F_X12_sold 67 p n i) := by
  refine agr_read (fun w Z M hz hc => ?_)
  have hP := hz.1
  have h7 := hP.2.2.1
  have h8 := hP.1.2
  have hTS := hz.2.1.1
  have hn9 := hTS.2.2
  rcases znum p (znp (z_P Z)) (by omega) with ⟨p, h_p, rfl⟩ | hx
  · rcases znum i 2 (by omega) with ⟨i, h_i, rfl⟩ | hx
    · rcases zwin n 1 40 (by omega) (by omega) with ⟨n, h1_n, h2_n, rfl⟩ | hx
      · have h9 : i = 0 ∨ i = 1 := by omega
        rcases h9 with rfl | rfl
        · obtain ⟨M', e0, q1, q2, F⟩ := zc_go hz hc (n := n) (by omega)
          refine ⟨.inr ((zlast (z_P Z) (b_t (z_B Z)) (n - 1)).2.1 p), CL.val (M' := M') ?_ F, fun M1 hm => ?_⟩
          · have e : F_X11_sold 0 (nI p) (nI n) (nI 0) M = some (Sum.inr (((zlast (z_P Z) (b_t (z_B Z)) (n - 1)).2.1 p), M')) := by
              unfold F_X11_sold
              rw [zc_np hc h_p h7, zbs rfl]
              simp only [Sum.elim_inr]
              rw [show F_X11_needWhat (nI 0) 2 M = Sum.inr () from zwhat1 (n := 2) (by omega) (by omega)]
              simp only [Sum.elim_inr]
              rw [show F_X11_needWithin (nI n) 1 40 M = Sum.inr () from zwithin1 (a := 1) (b := 40) (by omega) (by omega) (by omega)]
              simp only [Sum.elim_inr]
              rw [zbs e0, if_pos (by decide), zat_at (by omega) (by omega), (q2 (by omega)).2.1 p (by omega)]
            unfold F_L_sold
            rw [zbs e]; rfl
          · obtain ⟨hm0, G0, c0⟩ := zm_0 hm
            unfold F_X12_sold
            generalize up M1 67 2 0 = M0 at hm0 G0 c0 ⊢
            rw [zm_ip1 hm0 h_p h7, if_neg (by decide), if_neg (nI_pos (by omega)), if_pos (zlel 1 1 rfl (by omega) (by omega)), zisw1 (a := 1) (b := 40) (A := 1) (B := 40) rfl rfl (by omega) (by omega) (by omega), if_neg (by decide)]
            obtain ⟨A1, A2, A3, e1, e2, e3, k1, k2, k3, k4, k5, k6, k7⟩ := zm_ahead hz hm0 (n := n) (by omega)
            rw [zbs e1, zbs e2, zbs e3]
            rw [if_pos (by decide), zald (by omega) (by omega), zbs rfl]
            exact Evs.pure (ML.val (by show A3 88 p = _; rw [k6]; exact (k2 (by omega)).1.2.1 p (by omega)) (by show A3 67 2 = 0; rw [k4]; exact c0) (G0.tr k3))
        · obtain ⟨M', e0, q1, q2, F⟩ := zc_go hz hc (n := n) (by omega)
          refine ⟨.inr ((zlast (z_P Z) (b_t (z_B Z)) (n - 1)).2.2.1 p), CL.val (M' := M') ?_ F, fun M1 hm => ?_⟩
          · have e : F_X11_sold 0 (nI p) (nI n) (nI 1) M = some (Sum.inr (((zlast (z_P Z) (b_t (z_B Z)) (n - 1)).2.2.1 p), M')) := by
              unfold F_X11_sold
              rw [zc_np hc h_p h7, zbs rfl]
              simp only [Sum.elim_inr]
              rw [show F_X11_needWhat (nI 1) 2 M = Sum.inr () from zwhat1 (n := 2) (by omega) (by omega)]
              simp only [Sum.elim_inr]
              rw [show F_X11_needWithin (nI n) 1 40 M = Sum.inr () from zwithin1 (a := 1) (b := 40) (by omega) (by omega) (by omega)]
              simp only [Sum.elim_inr]
              rw [zbs e0, if_neg (by decide), zat_at (by omega) (by omega), (q2 (by omega)).2.2.1 p (by omega)]
            unfold F_L_sold
            rw [zbs e]; rfl
          · obtain ⟨hm0, G0, c0⟩ := zm_0 hm
            unfold F_X12_sold
            generalize up M1 67 2 0 = M0 at hm0 G0 c0 ⊢
            rw [zm_ip1 hm0 h_p h7, if_neg (by decide), if_neg (nI_pos (by omega)), if_pos (zlel 1 1 rfl (by omega) (by omega)), zisw1 (a := 1) (b := 40) (A := 1) (B := 40) rfl rfl (by omega) (by omega) (by omega), if_neg (by decide)]
            obtain ⟨A1, A2, A3, e1, e2, e3, k1, k2, k3, k4, k5, k6, k7⟩ := zm_ahead hz hm0 (n := n) (by omega)
            rw [zbs e1, zbs e2, zbs e3]
            rw [if_neg (by decide), zald (by omega) (by omega), zbs rfl]
            exact Evs.pure (ML.val (by show A3 89 p = _; rw [k7]; exact (k2 (by omega)).1.2.2.1 p (by omega)) (by show A3 67 2 = 0; rw [k4]; exact c0) (G0.tr k3))
      · refine ⟨.inl 2, CL.thr (by omega) ?_, fun M1 hm => ?_⟩
        · have e : F_X11_sold 0 (nI p) n (nI i) M = some (Sum.inl 2) := by
            unfold F_X11_sold
            rw [zc_np hc h_p h7, zbs rfl]
            simp only [Sum.elim_inr]
            rw [show F_X11_needWhat (nI i) 2 M = Sum.inr () from zwhat1 (n := 2) (by omega) (by omega)]
            simp only [Sum.elim_inr]
            rw [show F_X11_needWithin n 1 40 M = Sum.inl 2 from zwithin0 (a := 1) (b := 40) hx]; rfl
          unfold F_L_sold
          rw [zbs e]; rfl
        · obtain ⟨hm0, G0, c0⟩ := zm_0 hm
          unfold F_X12_sold
          generalize up M1 67 2 0 = M0 at hm0 G0 c0 ⊢
          rw [zm_ip1 hm0 h_p h7, if_neg (by decide), if_neg (nI_pos (by omega)), if_pos (zlel 1 1 rfl (by omega) (by omega))]
          rw [zisw0 (a := 1) (b := 40) (A := 1) (B := 40) rfl rfl hx, if_pos (by decide)]
          exact Evs.pure (zm_fail (k := 2) G0)
    · refine ⟨.inl 1, CL.thr (by omega) ?_, fun M1 hm => ?_⟩
      · have e : F_X11_sold 0 (nI p) n i M = some (Sum.inl 1) := by
          unfold F_X11_sold
          rw [zc_np hc h_p h7, zbs rfl]
          simp only [Sum.elim_inr]
          rw [show F_X11_needWhat i 2 M = Sum.inl 1 from zwhat0 (n := 2) hx]; rfl
        unfold F_L_sold
        rw [zbs e]; rfl
      · obtain ⟨hm0, G0, c0⟩ := zm_0 hm
        unfold F_X12_sold
        generalize up M1 67 2 0 = M0 at hm0 G0 c0 ⊢
        rw [zm_ip1 hm0 h_p h7, if_neg (by decide)]
        rcases hx with hx | hx
        · rw [if_pos hx]
          exact Evs.pure (zm_fail (k := 1) G0)
        · rw [if_neg hx.1, if_neg (fun z => hx.2 (Int32.lt_of_le_of_lt z (show (1 : Int32) < nI 2 by decide)))]
          exact Evs.pure (zm_fail (k := 1) G0)
  · refine ⟨.inl 1, CL.thr (by omega) ?_, fun M1 hm => ?_⟩
    · have e : F_X11_sold 0 p n i M = some (Sum.inl 1) := by
        unfold F_X11_sold
        rw [zc_npx hc hx, zbs rfl]; rfl
      unfold F_L_sold
      rw [zbs e]; rfl
    · obtain ⟨hm0, G0, c0⟩ := zm_0 hm
      unfold F_X12_sold
      generalize up M1 67 2 0 = M0 at hm0 G0 c0 ⊢
      rw [zm_ip0 hm0 h7 hx, if_pos (by decide)]
      exact Evs.pure (zm_fail (k := 1) G0)
theorem agr_first (p : Int32) : Agr (F_L_first 0 106 p) (F_X12_first 67 p) := by
  refine agr_read (fun w Z M hz hc => ?_)
  have hP := hz.1
  have h7 := hP.2.2.1
  have h8 := hP.1.2
  have hTS := hz.2.1.1
  have hn9 := hTS.2.2
  rcases znum p (znp (z_P Z)) (by omega) with ⟨p, h_p, rfl⟩ | hx
  · refine ⟨.inr (zfst (z_P Z) (b_t (z_B Z)) p 40 1), CL.val (M' := M) ?_ Fz.rf, fun M1 hm => ?_⟩
    · have e : F_X11_first 0 (nI p) M = some (Sum.inr (zfst (z_P Z) (b_t (z_B Z)) p 40 1)) := by
        unfold F_X11_first
        rw [zc_np hc h_p h7, zbs rfl]
        simp only [Sum.elim_inr]
        rw [zc_first hz hc h_p, zbs rfl]
      unfold F_L_first
      rw [zbs e]; rfl
    · obtain ⟨hm0, G0, c0⟩ := zm_0 hm
      unfold F_X12_first
      generalize up M1 67 2 0 = M0 at hm0 G0 c0 ⊢
      rw [zm_ip1 hm0 h_p h7, if_neg (by decide)]
      refine Evs.bind (zm_first hz hm0 h_p) (fun r hr => ?_)
      exact Evs.pure (ML.val hr.1 (by rw [hr.2.2]; exact c0) (G0.tr hr.2.1))
  · refine ⟨.inl 1, CL.thr (by omega) ?_, fun M1 hm => ?_⟩
    · have e : F_X11_first 0 p M = some (Sum.inl 1) := by
        unfold F_X11_first
        rw [zc_npx hc hx, zbs rfl]; rfl
      unfold F_L_first
      rw [zbs e]; rfl
    · obtain ⟨hm0, G0, c0⟩ := zm_0 hm
      unfold F_X12_first
      generalize up M1 67 2 0 = M0 at hm0 G0 c0 ⊢
      rw [zm_ip0 hm0 h7 hx, if_pos (by decide)]
      exact Evs.pure (zm_fail (k := 1) G0)
theorem agr_watch (k h : Int32) : Agr (F_L_watch 0 106 k h) (F_X12_watch 67 k h) := by
  refine agr_read (fun w Z M hz hc => ?_)
  have hP := hz.1
  have h7 := hP.2.2.1
  have h8 := hP.1.2
  have hTS := hz.2.1.1
  have hn9 := hTS.2.2
  rcases zwin k 1 40 (by omega) (by omega) with ⟨k, h1_k, h2_k, rfl⟩ | hx
  · rcases zwin h 0 5 (by omega) (by omega) with ⟨h, h1_h, h2_h, rfl⟩ | hx
    · refine ⟨.inr (nI (zw (z_P Z) (t_n (b_t (z_B Z)) + k - 1) h)), CL.val (M' := M) ?_ Fz.rf, fun M1 hm => ?_⟩
      · have e : F_X11_watch 0 (nI k) (nI h) M = some (Sum.inr (nI (zw (z_P Z) (t_n (b_t (z_B Z)) + k - 1) h))) := by
          unfold F_X11_watch
          rw [show F_X11_needWithin (nI k) 1 40 M = Sum.inr () from zwithin1 (a := 1) (b := 40) (by omega) (by omega) (by omega)]
          simp only [Sum.elim_inr]
          rw [show F_X11_needWithin (nI h) 0 5 M = Sum.inr () from zwithin1 (a := 0) (b := 5) (by omega) (by omega) (by omega)]
          simp only [Sum.elim_inr]
          rw [hc.grd, zbs rfl, hc.T.n, nI_add, zsub1 (by omega), zc_wat hP hc.P (by omega) (by omega), zbs rfl]
        unfold F_L_watch
        rw [zbs e]; rfl
      · obtain ⟨hm0, G0, c0⟩ := zm_0 hm
        unfold F_X12_watch
        generalize up M1 67 2 0 = M0 at hm0 G0 c0 ⊢
        rw [zisw1 (a := 1) (b := 40) (A := 1) (B := 40) rfl rfl (by omega) (by omega) (by omega), if_neg (by decide), zisw1 (a := 0) (b := 5) (A := 0) (B := 5) rfl rfl (by omega) (by omega) (by omega), if_neg (by decide)]
        rw [hm0.T.n, nI_add, zsub1 (by omega), zm_wat hP hm0.P (by omega) (by omega), zbs rfl]
        exact Evs.pure (ML.val rfl c0 G0)
    · refine ⟨.inl 1, CL.thr (by omega) ?_, fun M1 hm => ?_⟩
      · have e : F_X11_watch 0 (nI k) h M = some (Sum.inl 2) := by
          unfold F_X11_watch
          rw [show F_X11_needWithin (nI k) 1 40 M = Sum.inr () from zwithin1 (a := 1) (b := 40) (by omega) (by omega) (by omega)]
          simp only [Sum.elim_inr]
          rw [show F_X11_needWithin h 0 5 M = Sum.inl 2 from zwithin0 (a := 0) (b := 5) hx]; rfl
        unfold F_L_watch
        rw [zbs e]; rfl
      · obtain ⟨hm0, G0, c0⟩ := zm_0 hm
        unfold F_X12_watch
        generalize up M1 67 2 0 = M0 at hm0 G0 c0 ⊢
        rw [zisw1 (a := 1) (b := 40) (A := 1) (B := 40) rfl rfl (by omega) (by omega) (by omega), if_neg (by decide)]
        rw [zisw0 (a := 0) (b := 5) (A := 0) (B := 5) rfl rfl hx, if_pos (by decide)]
        exact Evs.pure (zm_fail (k := 1) G0)
  · refine ⟨.inl 1, CL.thr (by omega) ?_, fun M1 hm => ?_⟩
    · have e : F_X11_watch 0 k h M = some (Sum.inl 2) := by
        unfold F_X11_watch
        rw [show F_X11_needWithin k 1 40 M = Sum.inl 2 from zwithin0 (a := 1) (b := 40) hx]; rfl
      unfold F_L_watch
      rw [zbs e]; rfl
    · obtain ⟨hm0, G0, c0⟩ := zm_0 hm
      unfold F_X12_watch
      generalize up M1 67 2 0 = M0 at hm0 G0 c0 ⊢
      rw [zisw0 (a := 1) (b := 40) (A := 1) (B := 40) rfl rfl hx, if_pos (by decide)]
      exact Evs.pure (zm_fail (k := 1) G0)
