/-! ===== years ===== -/
theorem agr_years (sd n i : Int32) : Agr (F_L_years 0 106 sd n i) (F_X12_years 67 sd n i) := by
  refine agr_read (fun w Z M hz hc => ?_)
  have hP := hz.1
  have h7 := hP.2.2.1
  have h8 := hP.1.2
  have hTS := hz.2.1.1
  have hn9 := hTS.2.2
  rcases znum i 3 (by omega) with ⟨i, h_i, rfl⟩ | hx
  · rcases zwin n 0 40 (by omega) (by omega) with ⟨n, h1_n, h2_n, rfl⟩ | hx
    · have h9 : i = 0 ∨ i = 1 ∨ i = 2 := by omega
      rcases h9 with rfl | rfl | rfl
      · obtain ⟨M1, r, e0, e1, q1, q2, F⟩ := zc_years hz hc (n := n) sd (nI 0) (by omega)
        let M' := r.2
        refine ⟨.inr ((zyr (z_P Z) sd (b_t (z_B Z)) n).2.2), CL.val (M' := M') ?_ F, fun M1 hm => ?_⟩
        · have e : F_X11_years 0 sd (nI n) (nI 0) M = some (Sum.inr (((zyr (z_P Z) sd (b_t (z_B Z)) n).2.2), M')) := by
            unfold F_X11_years
            rw [show F_X11_needWhat (nI 0) 3 M = Sum.inr () from zwhat1 (n := 3) (by omega) (by omega)]
            simp only [Sum.elim_inr]
            rw [show F_X11_needWithin (nI n) 0 40 M = Sum.inr () from zwithin1 (a := 0) (b := 40) (by omega) (by omega) (by omega)]
            simp only [Sum.elim_inr]
            rw [zbs e0, zbs e1, if_pos (by decide), q1]
          unfold F_L_years
          rw [zbs e]; rfl
        · obtain ⟨hm0, G0, c0⟩ := zm_0 hm
          unfold F_X12_years
          generalize up M1 67 2 0 = M0 at hm0 G0 c0 ⊢
          rw [zisw1 (a := 0) (b := 2) (A := 0) (B := 2) rfl rfl (by omega) (by omega) (by omega), if_neg (by decide), zisw1 (a := 0) (b := 40) (A := 0) (B := 40) rfl rfl (by omega) (by omega) (by omega), if_neg (by decide)]
          obtain ⟨A1, A2, A3, k1, k2, k3, k4, k5, k6, k7, k8, k9⟩ := zm_years hz hm0 (n := n) sd (nI 0) (by omega)
          rw [zbs k1, zbs k2, if_pos (by decide)]
          unfold J_X12_years_j120
          rw [zbs k7]
          exact Evs.pure (ML.val k3 (by show A3 67 2 = 0; rw [k9]; exact c0) (G0.tr k8))
      · obtain ⟨M1, r, e0, e1, q1, q2, F⟩ := zc_years hz hc (n := n) sd (nI 1) (by omega)
        let M' := r.2
        refine ⟨.inr (t_d (zyr (z_P Z) sd (b_t (z_B Z)) n).2.1), CL.val (M' := M') ?_ F, fun M1 hm => ?_⟩
        · have e : F_X11_years 0 sd (nI n) (nI 1) M = some (Sum.inr ((t_d (zyr (z_P Z) sd (b_t (z_B Z)) n).2.1), M')) := by
            unfold F_X11_years
            rw [show F_X11_needWhat (nI 1) 3 M = Sum.inr () from zwhat1 (n := 3) (by omega) (by omega)]
            simp only [Sum.elim_inr]
            rw [show F_X11_needWithin (nI n) 0 40 M = Sum.inr () from zwithin1 (a := 0) (b := 40) (by omega) (by omega) (by omega)]
            simp only [Sum.elim_inr]
            rw [zbs e0, zbs e1, if_neg (by decide), if_pos (by decide)]
            show some (Sum.inr (r.2 48 1, r.2)) = _
            rw [q2.d]
          unfold F_L_years
          rw [zbs e]; rfl
        · obtain ⟨hm0, G0, c0⟩ := zm_0 hm
          unfold F_X12_years
          generalize up M1 67 2 0 = M0 at hm0 G0 c0 ⊢
          rw [zisw1 (a := 0) (b := 2) (A := 0) (B := 2) rfl rfl (by omega) (by omega) (by omega), if_neg (by decide), zisw1 (a := 0) (b := 40) (A := 0) (B := 40) rfl rfl (by omega) (by omega) (by omega), if_neg (by decide)]
          obtain ⟨A1, A2, A3, k1, k2, k3, k4, k5, k6, k7, k8, k9⟩ := zm_years hz hm0 (n := n) sd (nI 1) (by omega)
          rw [zbs k1, zbs k2, if_neg (by decide), if_pos (by decide)]
          unfold J_X12_years_j120
          rw [zbs k7]
          exact Evs.pure (ML.val (by show (up A2.2 67 35 (-1)) 67 30 = _; rw [up_app, if_neg (by omega)]; exact k4.d) (by show A3 67 2 = 0; rw [k9]; exact c0) (G0.tr k8))
      · obtain ⟨M1, r, e0, e1, q1, q2, F⟩ := zc_years hz hc (n := n) sd (nI 2) (by omega)
        let M' := r.2
        refine ⟨.inr (zsum (t_c (zyr (z_P Z) sd (b_t (z_B Z)) n).2.1) 7), CL.val (M' := M') ?_ F, fun M1 hm => ?_⟩
        · have e : F_X11_years 0 sd (nI n) (nI 2) M = some (Sum.inr ((zsum (t_c (zyr (z_P Z) sd (b_t (z_B Z)) n).2.1) 7), M')) := by
            unfold F_X11_years
            rw [show F_X11_needWhat (nI 2) 3 M = Sum.inr () from zwhat1 (n := 3) (by omega) (by omega)]
            simp only [Sum.elim_inr]
            rw [show F_X11_needWithin (nI n) 0 40 M = Sum.inr () from zwithin1 (a := 0) (b := 40) (by omega) (by omega) (by omega)]
            simp only [Sum.elim_inr]
            rw [zbs e0, zbs e1, if_neg (by decide), if_neg (by decide), show F_X8_coinsOfAll (0 + 48) r.2 = _ from zc_all q2, zbs rfl]
          unfold F_L_years
          rw [zbs e]; rfl
        · obtain ⟨hm0, G0, c0⟩ := zm_0 hm
          unfold F_X12_years
          generalize up M1 67 2 0 = M0 at hm0 G0 c0 ⊢
          rw [zisw1 (a := 0) (b := 2) (A := 0) (B := 2) rfl rfl (by omega) (by omega) (by omega), if_neg (by decide), zisw1 (a := 0) (b := 40) (A := 0) (B := 40) rfl rfl (by omega) (by omega) (by omega), if_neg (by decide)]
          obtain ⟨A1, A2, A3, k1, k2, k3, k4, k5, k6, k7, k8, k9⟩ := zm_years hz hm0 (n := n) sd (nI 2) (by omega)
          rw [zbs k1, zbs k2, if_neg (by decide), if_neg (by decide), zm_all hP (k5.y Gy.f) (k4.s (k := 35) (by omega)) k6, zbs rfl]
          unfold J_X12_years_j120
          rw [zbs k7]
          exact Evs.pure (ML.val rfl (by show A3 67 2 = 0; rw [k9]; exact c0) (G0.tr k8))
    · refine ⟨.inl 2, CL.thr (by omega) ?_, fun M1 hm => ?_⟩
      · have e : F_X11_years 0 sd n (nI i) M = some (Sum.inl 2) := by
          unfold F_X11_years
          rw [show F_X11_needWhat (nI i) 3 M = Sum.inr () from zwhat1 (n := 3) (by omega) (by omega)]
          simp only [Sum.elim_inr]
          rw [show F_X11_needWithin n 0 40 M = Sum.inl 2 from zwithin0 (a := 0) (b := 40) hx]; rfl
        unfold F_L_years
        rw [zbs e]; rfl
      · obtain ⟨hm0, G0, c0⟩ := zm_0 hm
        unfold F_X12_years
        generalize up M1 67 2 0 = M0 at hm0 G0 c0 ⊢
        rw [zisw1 (a := 0) (b := 2) (A := 0) (B := 2) rfl rfl (by omega) (by omega) (by omega), if_neg (by decide)]
        rw [zisw0 (a := 0) (b := 40) (A := 0) (B := 40) rfl rfl hx, if_pos (by decide)]
        exact Evs.pure (zm_fail (k := 2) G0)
  · refine ⟨.inl 1, CL.thr (by omega) ?_, fun M1 hm => ?_⟩
    · have e : F_X11_years 0 sd n i M = some (Sum.inl 1) := by
        unfold F_X11_years
        rw [show F_X11_needWhat i 3 M = Sum.inl 1 from zwhat0 (n := 3) hx]; rfl
      unfold F_L_years
      rw [zbs e]; rfl
    · obtain ⟨hm0, G0, c0⟩ := zm_0 hm
      unfold F_X12_years
      generalize up M1 67 2 0 = M0 at hm0 G0 c0 ⊢
      rw [zisw0 (a := 0) (b := 2) (A := 0) (B := 2) rfl rfl (zw0 (by omega) hx), if_pos (by decide)]
      exact Evs.pure (zm_fail (k := 1) G0)
