/-! ===== calls that read: streets, places, knowers ===== -/
theorem agr_way (a b : Int32) : Agr (F_L_way 0 106 a b) (F_X12_way 67 a b) := by
  refine agr_read (fun w Z M hz hc => ?_)
  have hP := hz.1
  have h7 := hP.2.2.1
  have h8 := hP.1.2
  have hTS := hz.2.1.1
  have hn9 := hTS.2.2
  rcases znum a (zns (z_P Z)) (by omega) with ⟨a, h_a, rfl⟩ | hx
  · rcases znum b (zns (z_P Z)) (by omega) with ⟨b, h_b, rfl⟩ | hx
    · obtain ⟨q, e1, e2⟩ := zc_way hz hc (b := b) (by omega) ((1 : Int32) <<< (nI a &&& 31))
      refine ⟨.inr (zway (z_P Z) b 8 0 ((1 : Int32) <<< (nI a &&& 31))), CL.val (M' := M) ?_ Fz.rf, fun M1 hm => ?_⟩
      · have e : F_X11_way 0 (nI a) (nI b) M = some (Sum.inr (zway (z_P Z) b 8 0 ((1 : Int32) <<< (nI a &&& 31)))) := by
          unfold F_X11_way
          rw [zc_ns hc h_a h8, zbs rfl]
          simp only [Sum.elim_inr]
          rw [zc_ns hc h_b h8, zbs rfl]
          simp only [Sum.elim_inr]
          exact (zbs e1).trans e2
        unfold F_L_way
        rw [zbs e]; rfl
      · obtain ⟨hm0, G0, c0⟩ := zm_0 hm
        unfold F_X12_way
        generalize up M1 67 2 0 = M0 at hm0 G0 c0 ⊢
        rw [zm_is1 hm0 h_a h8, if_neg (by decide), zm_is1 hm0 h_b h8, if_neg (by decide)]
        obtain ⟨q, e1, e2⟩ := zm_way hz hm0 (b := b) (by omega) ((1 : Int32) <<< (nI a &&& 31))
        exact Evs.of ((zbs e1).trans e2) (ML.val rfl c0 G0)
    · refine ⟨.inl 1, CL.thr (by omega) ?_, fun M1 hm => ?_⟩
      · have e : F_X11_way 0 (nI a) b M = some (Sum.inl 1) := by
          unfold F_X11_way
          rw [zc_ns hc h_a h8, zbs rfl]
          simp only [Sum.elim_inr]
          rw [zc_nsx hc hx, zbs rfl]; rfl
        unfold F_L_way
        rw [zbs e]; rfl
      · obtain ⟨hm0, G0, c0⟩ := zm_0 hm
        unfold F_X12_way
        generalize up M1 67 2 0 = M0 at hm0 G0 c0 ⊢
        rw [zm_is1 hm0 h_a h8, if_neg (by decide)]
        rw [zm_is0 hm0 h8 hx, if_pos (by decide)]
        exact Evs.pure (zm_fail (k := 1) G0)
  · refine ⟨.inl 1, CL.thr (by omega) ?_, fun M1 hm => ?_⟩
    · have e : F_X11_way 0 a b M = some (Sum.inl 1) := by
        unfold F_X11_way
        rw [zc_nsx hc hx, zbs rfl]; rfl
      unfold F_L_way
      rw [zbs e]; rfl
    · obtain ⟨hm0, G0, c0⟩ := zm_0 hm
      unfold F_X12_way
      generalize up M1 67 2 0 = M0 at hm0 G0 c0 ⊢
      rw [zm_is0 hm0 h8 hx, if_pos (by decide)]
      exact Evs.pure (zm_fail (k := 1) G0)
theorem agr_sneak (a b : Int32) : Agr (F_L_sneak 0 106 a b) (F_X12_sneak 67 a b) := by
  refine agr_read (fun w Z M hz hc => ?_)
  have hP := hz.1
  have h7 := hP.2.2.1
  have h8 := hP.1.2
  have hTS := hz.2.1.1
  have hn9 := hTS.2.2
  rcases znum a (zns (z_P Z)) (by omega) with ⟨a, h_a, rfl⟩ | hx
  · rcases znum b (zns (z_P Z)) (by omega) with ⟨b, h_b, rfl⟩ | hx
    · obtain ⟨q, e1, e2⟩ := zc_snk hz hc (b := b) (by omega) ((1 : Int32) <<< (nI a &&& 31))
      refine ⟨.inr (zsnk (z_P Z) (t_n (b_t (z_B Z))) b 6 0 ((1 : Int32) <<< (nI a &&& 31))), CL.val (M' := M) ?_ Fz.rf, fun M1 hm => ?_⟩
      · have e : F_X11_sneak 0 (nI a) (nI b) M = some (Sum.inr (zsnk (z_P Z) (t_n (b_t (z_B Z))) b 6 0 ((1 : Int32) <<< (nI a &&& 31)))) := by
          unfold F_X11_sneak
          rw [zc_ns hc h_a h8, zbs rfl]
          simp only [Sum.elim_inr]
          rw [zc_ns hc h_b h8, zbs rfl]
          simp only [Sum.elim_inr]
          exact (zbs e1).trans e2
        unfold F_L_sneak
        rw [zbs e]; rfl
      · obtain ⟨hm0, G0, c0⟩ := zm_0 hm
        unfold F_X12_sneak
        generalize up M1 67 2 0 = M0 at hm0 G0 c0 ⊢
        rw [zm_is1 hm0 h_a h8, if_neg (by decide), zm_is1 hm0 h_b h8, if_neg (by decide)]
        obtain ⟨q, e1, e2⟩ := zm_snk hz hm0 (b := b) (by omega) ((1 : Int32) <<< (nI a &&& 31))
        exact Evs.of ((zbs e1).trans e2) (ML.val rfl c0 G0)
    · refine ⟨.inl 1, CL.thr (by omega) ?_, fun M1 hm => ?_⟩
      · have e : F_X11_sneak 0 (nI a) b M = some (Sum.inl 1) := by
          unfold F_X11_sneak
          rw [zc_ns hc h_a h8, zbs rfl]
          simp only [Sum.elim_inr]
          rw [zc_nsx hc hx, zbs rfl]; rfl
        unfold F_L_sneak
        rw [zbs e]; rfl
      · obtain ⟨hm0, G0, c0⟩ := zm_0 hm
        unfold F_X12_sneak
        generalize up M1 67 2 0 = M0 at hm0 G0 c0 ⊢
        rw [zm_is1 hm0 h_a h8, if_neg (by decide)]
        rw [zm_is0 hm0 h8 hx, if_pos (by decide)]
        exact Evs.pure (zm_fail (k := 1) G0)
  · refine ⟨.inl 1, CL.thr (by omega) ?_, fun M1 hm => ?_⟩
    · have e : F_X11_sneak 0 a b M = some (Sum.inl 1) := by
        unfold F_X11_sneak
        rw [zc_nsx hc hx, zbs rfl]; rfl
      unfold F_L_sneak
      rw [zbs e]; rfl
    · obtain ⟨hm0, G0, c0⟩ := zm_0 hm
      unfold F_X12_sneak
      generalize up M1 67 2 0 = M0 at hm0 G0 c0 ⊢
      rw [zm_is0 hm0 h8 hx, if_pos (by decide)]
      exact Evs.pure (zm_fail (k := 1) G0)
theorem agr_safe (p : Int32) : Agr (F_L_safe 0 106 p) (F_X12_safe 67 p) := by
  refine agr_read (fun w Z M hz hc => ?_)
  have hP := hz.1
  have h7 := hP.2.2.1
  have h8 := hP.1.2
  have hTS := hz.2.1.1
  have hn9 := hTS.2.2
  rcases znum p (znp (z_P Z)) (by omega) with ⟨p, h_p, rfl⟩ | hx
  · refine ⟨.inr (zmk (zsf (z_P Z) (b_t (z_B Z)) p) (p_ln (z_P Z) p)), CL.val (M' := M) ?_ Fz.rf, fun M1 hm => ?_⟩
    · have e : F_X11_safe 0 (nI p) M = some (Sum.inr (zmk (zsf (z_P Z) (b_t (z_B Z)) p) (p_ln (z_P Z) p))) := by
        unfold F_X11_safe
        rw [zc_np hc h_p h7, zbs rfl]
        simp only [Sum.elim_inr]
        rw [hc.grd, zbs rfl, zat_at (by omega) (by omega), hc.P.2.2.2.2.1 p h_p, zbs (zc_safes hz hc h_p)]
      unfold F_L_safe
      rw [zbs e]; rfl
    · obtain ⟨hm0, G0, c0⟩ := zm_0 hm
      unfold F_X12_safe
      generalize up M1 67 2 0 = M0 at hm0 G0 c0 ⊢
      rw [zm_ip1 hm0 h_p h7, if_neg (by decide)]
      rw [zbs (zm_safes hz hm0 h_p)]
      exact Evs.pure (ML.val rfl c0 G0)
  · refine ⟨.inl 1, CL.thr (by omega) ?_, fun M1 hm => ?_⟩
    · have e : F_X11_safe 0 p M = some (Sum.inl 1) := by
        unfold F_X11_safe
        rw [zc_npx hc hx, zbs rfl]; rfl
      unfold F_L_safe
      rw [zbs e]; rfl
    · obtain ⟨hm0, G0, c0⟩ := zm_0 hm
      unfold F_X12_safe
      generalize up M1 67 2 0 = M0 at hm0 G0 c0 ⊢
      rw [zm_ip0 hm0 h7 hx, if_pos (by decide)]
      exact Evs.pure (zm_fail (k := 1) G0)
theorem agr_toHide (p : Int32) : Agr (F_L_toHide 0 106 p) (F_X12_toHide 67 p) := by
  refine agr_read (fun w Z M hz hc => ?_)
  have hP := hz.1
  have h7 := hP.2.2.1
  have h8 := hP.1.2
  have hTS := hz.2.1.1
  have hn9 := hTS.2.2
  rcases znum p (znp (z_P Z)) (by omega) with ⟨p, h_p, rfl⟩ | hx
  · obtain ⟨q, e1, e2⟩ := zc_hides hz hc h_p
    refine ⟨.inr (zhid (z_P Z) (b_t (z_B Z)) p (p_ln (z_P Z) p) 0 0), CL.val (M' := M) ?_ Fz.rf, fun M1 hm => ?_⟩
    · have e : F_X11_toHide 0 (nI p) M = some (Sum.inr (zhid (z_P Z) (b_t (z_B Z)) p (p_ln (z_P Z) p) 0 0)) := by
        unfold F_X11_toHide
        rw [zc_np hc h_p h7, zbs rfl]
        simp only [Sum.elim_inr]
        rw [hc.grd, zbs rfl, zat_at (by omega) (by omega), hc.P.2.2.2.2.1 p h_p]
        exact (zbs e1).trans e2
      unfold F_L_toHide
      rw [zbs e]; rfl
    · obtain ⟨hm0, G0, c0⟩ := zm_0 hm
      unfold F_X12_toHide
      generalize up M1 67 2 0 = M0 at hm0 G0 c0 ⊢
      rw [zm_ip1 hm0 h_p h7, if_neg (by decide)]
      obtain ⟨q, e1, e2⟩ := zm_hides hz hm0 h_p
      exact Evs.of ((zbs e1).trans e2) (ML.val rfl c0 G0)
  · refine ⟨.inl 1, CL.thr (by omega) ?_, fun M1 hm => ?_⟩
    · have e : F_X11_toHide 0 p M = some (Sum.inl 1) := by
        unfold F_X11_toHide
        rw [zc_npx hc hx, zbs rfl]; rfl
      unfold F_L_toHide
      rw [zbs e]; rfl
    · obtain ⟨hm0, G0, c0⟩ := zm_0 hm
      unfold F_X12_toHide
      generalize up M1 67 2 0 = M0 at hm0 G0 c0 ⊢
      rw [zm_ip0 hm0 h7 hx, if_pos (by decide)]
      exact Evs.pure (zm_fail (k := 1) G0)
theorem agr_most (i : Int32) : Agr (F_L_most 0 106 i) (F_X12_most 67 i) := by
  refine agr_read (fun w Z M hz hc => ?_)
  have hP := hz.1
  have h7 := hP.2.2.1
  have h8 := hP.1.2
  have hTS := hz.2.1.1
  have hn9 := hTS.2.2
  rcases znum i 2 (by omega) with ⟨i, h_i, rfl⟩ | hx
  · refine ⟨.inr ((zmo (zmv (b_t (z_B Z)) i) (znp (z_P Z))).1), CL.val (M' := M) ?_ Fz.rf, fun M1 hm => ?_⟩
    · have e : F_X11_most 0 (nI i) M = some (Sum.inr ((zmo (zmv (b_t (z_B Z)) i) (znp (z_P Z))).1)) := by
        unfold F_X11_most
        rw [show F_X11_needWhat (nI i) 2 M = Sum.inr () from zwhat1 (n := 2) (by omega) (by omega)]
        simp only [Sum.elim_inr]
        rw [zbs (zc_most hz hc h_i)]
      unfold F_L_most
      rw [zbs e]; rfl
    · obtain ⟨hm0, G0, c0⟩ := zm_0 hm
      unfold F_X12_most
      generalize up M1 67 2 0 = M0 at hm0 G0 c0 ⊢
      rw [if_neg (nI_pos (by omega)), if_pos (zlel 1 1 rfl (by omega) (by omega))]
      rw [zbs (zm_most hz hm0 h_i)]
      exact Evs.pure (ML.val rfl c0 G0)
  · refine ⟨.inl 1, CL.thr (by omega) ?_, fun M1 hm => ?_⟩
    · have e : F_X11_most 0 i M = some (Sum.inl 1) := by
        unfold F_X11_most
        rw [show F_X11_needWhat i 2 M = Sum.inl 1 from zwhat0 (n := 2) hx]; rfl
      unfold F_L_most
      rw [zbs e]; rfl
    · obtain ⟨hm0, G0, c0⟩ := zm_0 hm
      unfold F_X12_most
      generalize up M1 67 2 0 = M0 at hm0 G0 c0 ⊢
      rcases hx with hx | hx
      · rw [if_pos hx]
        exact Evs.pure (zm_fail (k := 1) G0)
      · rw [if_neg hx.1, if_neg (fun z => hx.2 (Int32.lt_of_le_of_lt z (show (1 : Int32) < nI 2 by decide)))]
        exact Evs.pure (zm_fail (k := 1) G0)
theorem agr_lantern (s : Int32) : Agr (F_L_lantern 0 106 s) (F_X12_lantern 67 s) := by
  refine agr_read (fun w Z M hz hc => ?_)
  have hP := hz.1
  have h7 := hP.2.2.1
  have h8 := hP.1.2
  have hTS := hz.2.1.1
  have hn9 := hTS.2.2
  rcases znum s (zns (z_P Z)) (by omega) with ⟨s, h_s, rfl⟩ | hx
  · refine ⟨.inr (zmk (fun h => zw (z_P Z) (t_n (b_t (z_B Z))) h == s) 6), CL.val (M' := M) ?_ Fz.rf, fun M1 hm => ?_⟩
    · have e : F_X11_lantern 0 (nI s) M = some (Sum.inr (zmk (fun h => zw (z_P Z) (t_n (b_t (z_B Z))) h == s) 6)) := by
        unfold F_X11_lantern
        rw [zc_ns hc h_s h8, zbs rfl]
        simp only [Sum.elim_inr]
        rw [zbs (zc_lant hz hc (by omega))]
      unfold F_L_lantern
      rw [zbs e]; rfl
    · obtain ⟨hm0, G0, c0⟩ := zm_0 hm
      unfold F_X12_lantern
      generalize up M1 67 2 0 = M0 at hm0 G0 c0 ⊢
      rw [zm_is1 hm0 h_s h8, if_neg (by decide)]
      rw [zbs (zm_lant hz hm0 (by omega))]
      exact Evs.pure (ML.val rfl c0 G0)
  · refine ⟨.inl 1, CL.thr (by omega) ?_, fun M1 hm => ?_⟩
    · have e : F_X11_lantern 0 s M = some (Sum.inl 1) := by
        unfold F_X11_lantern
        rw [zc_nsx hc hx, zbs rfl]; rfl
      unfold F_L_lantern
      rw [zbs e]; rfl
    · obtain ⟨hm0, G0, c0⟩ := zm_0 hm
      unfold F_X12_lantern
      generalize up M1 67 2 0 = M0 at hm0 G0 c0 ⊢
      rw [zm_is0 hm0 h8 hx, if_pos (by decide)]
      exact Evs.pure (zm_fail (k := 1) G0)
theorem agr_meet (p o : Int32) : Agr (F_L_meet 0 106 p o) (F_X12_meet 67 p o) := by
  refine agr_read (fun w Z M hz hc => ?_)
  have hP := hz.1
  have h7 := hP.2.2.1
  have h8 := hP.1.2
  have hTS := hz.2.1.1
  have hn9 := hTS.2.2
  rcases znum p (znp (z_P Z)) (by omega) with ⟨p, h_p, rfl⟩ | hx
  · rcases znum o (znp (z_P Z)) (by omega) with ⟨o, h_o, rfl⟩ | hx
    · refine ⟨.inr (zmk (zme (z_P Z) (b_t (z_B Z)) p o) 6), CL.val (M' := M) ?_ Fz.rf, fun M1 hm => ?_⟩
      · have e : F_X11_meet 0 (nI p) (nI o) M = some (Sum.inr (zmk (zme (z_P Z) (b_t (z_B Z)) p o) 6)) := by
          unfold F_X11_meet
          rw [zc_np hc h_p h7, zbs rfl]
          simp only [Sum.elim_inr]
          rw [zc_np hc h_o h7, zbs rfl]
          simp only [Sum.elim_inr]
          rw [zbs (zc_meet hz hc h_p h_o)]
        unfold F_L_meet
        rw [zbs e]; rfl
      · obtain ⟨hm0, G0, c0⟩ := zm_0 hm
        unfold F_X12_meet
        generalize up M1 67 2 0 = M0 at hm0 G0 c0 ⊢
        rw [zm_ip1 hm0 h_p h7, if_neg (by decide), zm_ip1 hm0 h_o h7, if_neg (by decide)]
        rw [zbs (zm_meet hz hm0 h_p h_o)]
        exact Evs.pure (ML.val rfl c0 G0)
    · refine ⟨.inl 1, CL.thr (by omega) ?_, fun M1 hm => ?_⟩
      · have e : F_X11_meet 0 (nI p) o M = some (Sum.inl 1) := by
          unfold F_X11_meet
          rw [zc_np hc h_p h7, zbs rfl]
          simp only [Sum.elim_inr]
          rw [zc_npx hc hx, zbs rfl]; rfl
        unfold F_L_meet
        rw [zbs e]; rfl
      · obtain ⟨hm0, G0, c0⟩ := zm_0 hm
        unfold F_X12_meet
        generalize up M1 67 2 0 = M0 at hm0 G0 c0 ⊢
        rw [zm_ip1 hm0 h_p h7, if_neg (by decide)]
        rw [zm_ip0 hm0 h7 hx, if_pos (by decide)]
        exact Evs.pure (zm_fail (k := 1) G0)
  · refine ⟨.inl 1, CL.thr (by omega) ?_, fun M1 hm => ?_⟩
    · have e : F_X11_meet 0 p o M = some (Sum.inl 1) := by
        unfold F_X11_meet
        rw [zc_npx hc hx, zbs rfl]; rfl
      unfold F_L_meet
      rw [zbs e]; rfl
    · obtain ⟨hm0, G0, c0⟩ := zm_0 hm
      unfold F_X12_meet
      generalize up M1 67 2 0 = M0 at hm0 G0 c0 ⊢
      rw [zm_ip0 hm0 h7 hx, if_pos (by decide)]
      exact Evs.pure (zm_fail (k := 1) G0)
theorem agr_unknown (p : Int32) : Agr (F_L_unknown 0 106 p) (F_X12_unknown 67 p) := by
  refine agr_read (fun w Z M hz hc => ?_)
  have hP := hz.1
  have h7 := hP.2.2.1
  have h8 := hP.1.2
  have hTS := hz.2.1.1
  have hn9 := hTS.2.2
  rcases znum p (znp (z_P Z)) (by omega) with ⟨p, h_p, rfl⟩ | hx
  · refine ⟨.inr (((((1 : Int32) <<< (nI (znp (z_P Z)) &&& 31)) - 1) &&& (((1 : Int32) <<< (nI p &&& 31)) ^^^ (-1))) &&& (zkn (b_t (z_B Z)) p ^^^ (-1))), CL.val (M' := M) ?_ Fz.rf, fun M1 hm => ?_⟩
    · have e : F_X11_unknown 0 (nI p) M = some (Sum.inr (((((1 : Int32) <<< (nI (znp (z_P Z)) &&& 31)) - 1) &&& (((1 : Int32) <<< (nI p &&& 31)) ^^^ (-1))) &&& (zkn (b_t (z_B Z)) p ^^^ (-1)))) := by
        unfold F_X11_unknown
        rw [zc_np hc h_p h7, zbs rfl]
        simp only [Sum.elim_inr]
        rw [hc.grd, zbs rfl, zc_knw hc.T (by omega), zbs rfl, hc.P.1.2.2.2.1]
      unfold F_L_unknown
      rw [zbs e]; rfl
    · obtain ⟨hm0, G0, c0⟩ := zm_0 hm
      unfold F_X12_unknown
      generalize up M1 67 2 0 = M0 at hm0 G0 c0 ⊢
      rw [zm_ip1 hm0 h_p h7, if_neg (by decide)]
      rw [zm_knw hz hm0 (by omega), zbs rfl, hm0.P.1.2.2.2.1]
      exact Evs.pure (ML.val (by show (_ &&& _) &&& _ = (_ &&& _) &&& _; rw [Int32.and_assoc, Int32.and_comm (zkn _ _ ^^^ _), ← Int32.and_assoc]) c0 G0)
  · refine ⟨.inl 1, CL.thr (by omega) ?_, fun M1 hm => ?_⟩
    · have e : F_X11_unknown 0 p M = some (Sum.inl 1) := by
        unfold F_X11_unknown
        rw [zc_npx hc hx, zbs rfl]; rfl
      unfold F_L_unknown
      rw [zbs e]; rfl
    · obtain ⟨hm0, G0, c0⟩ := zm_0 hm
      unfold F_X12_unknown
      generalize up M1 67 2 0 = M0 at hm0 G0 c0 ⊢
      rw [zm_ip0 hm0 h7 hx, if_pos (by decide)]
      exact Evs.pure (zm_fail (k := 1) G0)
