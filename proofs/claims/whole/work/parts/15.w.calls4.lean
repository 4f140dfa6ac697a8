/-! ===== spends, haunt ===== -/
theorem agr_haunt (n : Int32) : Agr (F_L_haunt 0 106 n) (F_X12_haunt 67 n) := by
  refine agr_read (fun w Z M hz hc => ?_)
  have hP := hz.1
  have h7 := hP.2.2.1
  have h8 := hP.1.2
  have hTS := hz.2.1.1
  have hn9 := hTS.2.2
  rcases zwin n 1 40 (by omega) (by omega) with ⟨n, h1_n, h2_n, rfl⟩ | hx
  · refine ⟨.inr ((zbe (fun s => zhn (z_P Z) (b_t (z_B Z)) s n) (zns (z_P Z))).1), CL.val (M' := M) ?_ Fz.rf, fun M1 hm => ?_⟩
    · have e : F_X11_haunt 0 (nI n) M = some (Sum.inr ((zbe (fun s => zhn (z_P Z) (b_t (z_B Z)) s n) (zns (z_P Z))).1)) := by
        unfold F_X11_haunt
        rw [show F_X11_needWithin (nI n) 1 40 M = Sum.inr () from zwithin1 (a := 1) (b := 40) (by omega) (by omega) (by omega)]
        simp only [Sum.elim_inr]
        rw [zbs (zc_haunt hz hc (by omega))]
      unfold F_L_haunt
      rw [zbs e]; rfl
    · obtain ⟨hm0, G0, c0⟩ := zm_0 hm
      unfold F_X12_haunt
      generalize up M1 67 2 0 = M0 at hm0 G0 c0 ⊢
      rw [zisw1 (a := 1) (b := 40) (A := 1) (B := 40) rfl rfl (by omega) (by omega) (by omega), if_neg (by decide)]
      refine (zm_haunt hz hm0 (n := n) (by omega)).mono (fun r hr => ML.val hr.1 (by rw [hr.2.2]; exact c0) (G0.tr hr.2.1))
  · refine ⟨.inl 1, CL.thr (by omega) ?_, fun M1 hm => ?_⟩
    · have e : F_X11_haunt 0 n M = some (Sum.inl 2) := by
        unfold F_X11_haunt
        rw [show F_X11_needWithin n 1 40 M = Sum.inl 2 from zwithin0 (a := 1) (b := 40) hx]; rfl
      unfold F_L_haunt
      rw [zbs e]; rfl
    · obtain ⟨hm0, G0, c0⟩ := zm_0 hm
      unfold F_X12_haunt
      generalize up M1 67 2 0 = M0 at hm0 G0 c0 ⊢
      rw [zisw0 (a := 1) (b := 40) (A := 1) (B := 40) rfl rfl hx, if_pos (by decide)]
      exact Evs.pure (zm_fail (k := 1) G0)
theorem agr_spends (p n : Int32) : Agr (F_L_spends 0 106 p n) (F_X12_spends 67 p n) := by
  refine agr_read (fun w Z M hz hc => ?_)
  have hP := hz.1
  have h7 := hP.2.2.1
  have h8 := hP.1.2
  have hTS := hz.2.1.1
  have hn9 := hTS.2.2
  rcases znum p (znp (z_P Z)) (by omega) with ⟨p, h_p, rfl⟩ | hx
  · rcases zwin n 0 40 (by omega) (by omega) with ⟨n, h1_n, h2_n, rfl⟩ | hx
    · obtain ⟨M1, M', e0, e1, F⟩ := zc_spends hz hc (p := p) (n := n) (by omega)
      refine ⟨.inr (zspd (z_P Z) (b_t (z_B Z)) p n), CL.val (M' := M') ?_ F, fun M1 hm => ?_⟩
      · have e : F_X11_spends 0 (nI p) (nI n) M = some (Sum.inr ((zspd (z_P Z) (b_t (z_B Z)) p n), M')) := by
          unfold F_X11_spends
          rw [zc_np hc h_p h7, zbs rfl]
          simp only [Sum.elim_inr]
          rw [show F_X11_needWithin (nI n) 0 40 M = Sum.inr () from zwithin1 (a := 0) (b := 40) (by omega) (by omega) (by omega)]
          simp only [Sum.elim_inr]
          rw [zbs e0, zbs e1]
        unfold F_L_spends
        rw [zbs e]; rfl
      · obtain ⟨hm0, G0, c0⟩ := zm_0 hm
        unfold F_X12_spends
        generalize up M1 67 2 0 = M0 at hm0 G0 c0 ⊢
        rw [zm_ip1 hm0 h_p h7, if_neg (by decide), zisw1 (a := 0) (b := 40) (A := 0) (B := 40) rfl rfl (by omega) (by omega) (by omega), if_neg (by decide)]
        obtain ⟨A1, A2, A3, e2, e3, e4, G, k2⟩ := zm_spends hz hm0 (p := p) (n := n) (by omega) (by omega)
        rw [zbs e2, zbs e3, zbs e4]
        exact Evs.pure (ML.val rfl (by show A3 67 2 = 0; rw [k2]; exact c0) (G0.tr G))
    · refine ⟨.inl 2, CL.thr (by omega) ?_, fun M1 hm => ?_⟩
      · have e : F_X11_spends 0 (nI p) n M = some (Sum.inl 2) := by
          unfold F_X11_spends
          rw [zc_np hc h_p h7, zbs rfl]
          simp only [Sum.elim_inr]
          rw [show F_X11_needWithin n 0 40 M = Sum.inl 2 from zwithin0 (a := 0) (b := 40) hx]; rfl
        unfold F_L_spends
        rw [zbs e]; rfl
      · obtain ⟨hm0, G0, c0⟩ := zm_0 hm
        unfold F_X12_spends
        generalize up M1 67 2 0 = M0 at hm0 G0 c0 ⊢
        rw [zm_ip1 hm0 h_p h7, if_neg (by decide)]
        rw [zisw0 (a := 0) (b := 40) (A := 0) (B := 40) rfl rfl hx, if_pos (by decide)]
        exact Evs.pure (zm_fail (k := 2) G0)
  · refine ⟨.inl 1, CL.thr (by omega) ?_, fun M1 hm => ?_⟩
    · have e : F_X11_spends 0 p n M = some (Sum.inl 1) := by
        unfold F_X11_spends
        rw [zc_npx hc hx, zbs rfl]; rfl
      unfold F_L_spends
      rw [zbs e]; rfl
    · obtain ⟨hm0, G0, c0⟩ := zm_0 hm
      unfold F_X12_spends
      generalize up M1 67 2 0 = M0 at hm0 G0 c0 ⊢
      rw [zm_ip0 hm0 h7 hx, if_pos (by decide)]
      exact Evs.pure (zm_fail (k := 1) G0)
