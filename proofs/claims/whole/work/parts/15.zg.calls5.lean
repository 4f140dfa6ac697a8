/-! ===== toWin ===== -/
theorem agr_toWin (p o : Int32) : Agr (F_L_toWin 0 106 p o) (F_X12_toWin 67 p o) := by
  refine agr_read (fun w Z M hz hc => ?_)
  have hP := hz.1
  have h7 := hP.2.2.1
  have h8 := hP.1.2
  have hTS := hz.2.1.1
  have hn9 := hTS.2.2
  rcases znum p (znp (z_P Z)) (by omega) with ⟨p, h_p, rfl⟩ | hx
  · rcases znum o (znp (z_P Z)) (by omega) with ⟨o, h_o, rfl⟩ | hx
    · by_cases s0 : zseen (z_P Z) (b_t (z_B Z)) (zfog (z_P Z) (t_n (b_t (z_B Z)))) o = 0
      · have F : Fz w M M := Fz.rf
        let M' := M
        refine ⟨.inr (-1), CL.val (M' := M') ?_ F, fun M1 hm => ?_⟩
        · have e : F_X11_toWin 0 (nI p) (nI o) M = some (Sum.inr ((-1), M')) := by
            unfold F_X11_toWin
            rw [zc_np hc h_p h7, zbs rfl]
            simp only [Sum.elim_inr]
            rw [zc_np hc h_o h7, zbs rfl]
            simp only [Sum.elim_inr]
            rw [hc.grd, zbs rfl, zat_at (by omega) (by omega), show F_X9_seenIn w (0 + 24 + 1) (nI o) (M (0 + 24 + 1 + 3) o) 1 M = some (zseen (z_P Z) (b_t (z_B Z)) (zfog (z_P Z) (t_n (b_t (z_B Z)))) o) from (zc_seen (k := 1) hP hc.P hc.T.n hc.T.b (by omega) h_o (by omega) (by omega) (fun i hi => hc.T.w (by omega) hi) (fun i => Nat.lt_of_lt_of_le (hTS.1.2.1 o i) hP.1.2)).trans (by rw [zsk_1]), zbs rfl]
            rw [if_pos s0]
          unfold F_L_toWin
          rw [zbs e]; rfl
        · obtain ⟨hm0, G0, c0⟩ := zm_0 hm
          unfold F_X12_toWin
          generalize up M1 67 2 0 = M0 at hm0 G0 c0 ⊢
          rw [zm_ip1 hm0 h_p h7, if_neg (by decide), zm_ip1 hm0 h_o h7, if_neg (by decide)]
          refine (zm_win hz hm0 h_p h_o).mono (fun r hr => ML.val (by rw [hr.1, if_pos s0]) (by rw [hr.2.2]; exact c0) (G0.tr hr.2.1))
      · obtain ⟨q, M', e1, e2, F⟩ := zc_win hz hc h_p h_o
        refine ⟨.inr (zfw (z_P Z) (b_t (z_B Z)) p o 1000 0), CL.val (M' := M') ?_ F, fun M1 hm => ?_⟩
        · have e : F_X11_toWin 0 (nI p) (nI o) M = some (Sum.inr ((zfw (z_P Z) (b_t (z_B Z)) p o 1000 0), M')) := by
            unfold F_X11_toWin
            rw [zc_np hc h_p h7, zbs rfl]
            simp only [Sum.elim_inr]
            rw [zc_np hc h_o h7, zbs rfl]
            simp only [Sum.elim_inr]
            rw [hc.grd, zbs rfl, zat_at (by omega) (by omega), show F_X9_seenIn w (0 + 24 + 1) (nI o) (M (0 + 24 + 1 + 3) o) 1 M = some (zseen (z_P Z) (b_t (z_B Z)) (zfog (z_P Z) (t_n (b_t (z_B Z)))) o) from (zc_seen (k := 1) hP hc.P hc.T.n hc.T.b (by omega) h_o (by omega) (by omega) (fun i hi => hc.T.w (by omega) hi) (fun i => Nat.lt_of_lt_of_le (hTS.1.2.1 o i) hP.1.2)).trans (by rw [zsk_1]), zbs rfl]
            rw [if_neg s0]
            exact (zbs e1).trans e2
          unfold F_L_toWin
          rw [zbs e]; rfl
        · obtain ⟨hm0, G0, c0⟩ := zm_0 hm
          unfold F_X12_toWin
          generalize up M1 67 2 0 = M0 at hm0 G0 c0 ⊢
          rw [zm_ip1 hm0 h_p h7, if_neg (by decide), zm_ip1 hm0 h_o h7, if_neg (by decide)]
          refine (zm_win hz hm0 h_p h_o).mono (fun r hr => ML.val (by rw [hr.1, if_neg s0]) (by rw [hr.2.2]; exact c0) (G0.tr hr.2.1))
    · refine ⟨.inl 1, CL.thr (by omega) ?_, fun M1 hm => ?_⟩
      · have e : F_X11_toWin 0 (nI p) o M = some (Sum.inl 1) := by
          unfold F_X11_toWin
          rw [zc_np hc h_p h7, zbs rfl]
          simp only [Sum.elim_inr]
          rw [zc_npx hc hx, zbs rfl]; rfl
        unfold F_L_toWin
        rw [zbs e]; rfl
      · obtain ⟨hm0, G0, c0⟩ := zm_0 hm
        unfold F_X12_toWin
        generalize up M1 67 2 0 = M0 at hm0 G0 c0 ⊢
        rw [zm_ip1 hm0 h_p h7, if_neg (by decide)]
        rw [zm_ip0 hm0 h7 hx, if_pos (by decide)]
        exact Evs.pure (zm_fail (k := 1) G0)
  · refine ⟨.inl 1, CL.thr (by omega) ?_, fun M1 hm => ?_⟩
    · have e : F_X11_toWin 0 p o M = some (Sum.inl 1) := by
        unfold F_X11_toWin
        rw [zc_npx hc hx, zbs rfl]; rfl
      unfold F_L_toWin
      rw [zbs e]; rfl
    · obtain ⟨hm0, G0, c0⟩ := zm_0 hm
      unfold F_X12_toWin
      generalize up M1 67 2 0 = M0 at hm0 G0 c0 ⊢
      rw [zm_ip0 hm0 h7 hx, if_pos (by decide)]
      exact Evs.pure (zm_fail (k := 1) G0)
