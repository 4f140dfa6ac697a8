/-! ===== otherwise ===== -/
theorem agr_otherwise (p : Int32) : Agr (F_L_otherwise 0 106 p) (F_X12_otherwise 67 p) := by
  refine agr_read (fun w Z M hz hc => ?_)
  have hw := hc.ww
  rcases znum p 3 (by omega) with ⟨i, hi, rfl⟩ | hx
  · obtain ⟨M', e0, c1, c2, c3⟩ := zc_scan hz hc
    have F : Fz w M M' := ⟨fun a x => c3 a (by omega) (by omega) (by omega), by rw [c3 _ (by omega) (by omega) (by omega)]⟩
    have hL := yL_len (T := b_t (z_B Z)) (B := z_B Z) hz.1.1.2 (fun q h => (hz.1.2.2.2.2.2.2.2.1 q h).2) (znp (z_P Z)) (Nat.le_refl _)
    have h7 := hz.1.2.2.1
    refine ⟨.inr (if i = 0 then nI (yL (z_P Z) (b_t (z_B Z)) (z_B Z) (znp (z_P Z))).length else if i = 1 then yfst (yL (z_P Z) (b_t (z_B Z)) (z_B Z) (znp (z_P Z))) else bi (yha (z_P Z) (b_t (z_B Z)) (z_B Z))), CL.val (M' := M') ?_ F, fun M1 hm => ?_⟩
    · have e : F_X11_otherwise 0 (nI i) M = some (Sum.inr ((if i = 0 then nI (yL (z_P Z) (b_t (z_B Z)) (z_B Z) (znp (z_P Z))).length else if i = 1 then yfst (yL (z_P Z) (b_t (z_B Z)) (z_B Z) (znp (z_P Z))) else bi (yha (z_P Z) (b_t (z_B Z)) (z_B Z))), M')) := by
        unfold F_X11_otherwise
        rw [show F_X11_needWhat (nI i) 3 M = Sum.inr () from zwhat1 (n := 3) hi (by omega)]
        simp only [Sum.elim_inr]
        rw [hc.grd, zbs rfl, zbs (show F_X4_scan (0 + 61) w ((0 + 24) + 1) ((0 + 24) + 7) M = some M' from e0)]
        obtain rfl | rfl | rfl : i = 0 ∨ i = 1 ∨ i = 2 := by omega
        · rw [if_neg (by decide), if_pos (by decide), if_pos rfl, show M' (0 + 61) 2 = _ from c1.1]
        · rw [if_neg (by decide), if_neg (by decide), if_neg (by omega), if_pos rfl, show M' (0 + 61) 3 = _ from c1.2.1]
        · rw [if_pos (show nI 2 = 2 by decide), if_neg (show ¬ (2 : Nat) = 0 by omega), if_neg (show ¬ (2 : Nat) = 1 by omega), show M' (0 + 61) 4 = _ from c2]
          cases yha (z_P Z) (b_t (z_B Z)) (z_B Z) <;> rfl
      unfold F_L_otherwise
      rw [zbs e]; rfl
    · obtain ⟨hm0, G0, c0⟩ := zm_0 hm
      unfold F_X12_otherwise
      generalize up M1 67 2 0 = M0 at hm0 G0 c0 ⊢
      rw [zisw1 (a := 0) (b := 2) (A := 0) (B := 2) rfl rfl (by omega) (by omega) (by omega), if_neg (by decide)]
      obtain rfl | rfl | rfl : i = 0 ∨ i = 1 ∨ i = 2 := by omega
      · rw [if_neg (by decide)]
        refine Evs.bind (zm_fits hz hm0) (fun M2 h2 => ?_)
        rw [if_pos (by decide)]
        exact Evs.pure (ML.val (by rw [if_pos rfl]; exact h2.1.1) (h2.2.2.trans c0) (G0.tr h2.2.1))
      · rw [if_neg (by decide)]
        refine Evs.bind (zm_fits hz hm0) (fun M2 h2 => ?_)
        rw [if_neg (by decide), if_neg (show ¬ (1 : Nat) = 0 by omega), if_pos rfl]
        obtain ⟨⟨t1, t2⟩, t3, t4⟩ := h2
        revert t1 t2 hL
        generalize yL (z_P Z) (b_t (z_B Z)) (z_B Z) (znp (z_P Z)) = L
        intro hL t1 t2
        cases L with
        | nil =>
          rw [if_pos (show M2 67 52 = 0 from t1)]
          exact Evs.pure (ML.val rfl (t4.trans c0) (G0.tr t3))
        | cons e L =>
          rw [if_neg (by rw [t1]; exact nI_ne0 (by simp) (by omega))]
          exact Evs.pure (ML.val (t2 0 e rfl) (t4.trans c0) (G0.tr t3))
      · rw [if_pos (by decide)]
        refine Evs.bind (zm_as hz hm0) (fun r hr => Evs.pure (ML.val ?_ (hr.2.2.1.trans c0) (G0.tr hr.2.1)))
        show (if bi r.1 = 0 then (0 : Int32) else 1) = _
        rw [hr.1]
        cases yha (z_P Z) (b_t (z_B Z)) (z_B Z) <;> rfl
  · refine ⟨.inl 1, CL.thr (by omega) ?_, fun M1 hm => ?_⟩
    · have e : F_X11_otherwise 0 p M = some (Sum.inl 1) := by
        unfold F_X11_otherwise
        rw [show F_X11_needWhat p 3 M = Sum.inl 1 from zwhat0 (n := 3) hx]; rfl
      unfold F_L_otherwise
      rw [zbs e]; rfl
    · obtain ⟨hm0, G0, c0⟩ := zm_0 hm
      unfold F_X12_otherwise
      generalize up M1 67 2 0 = M0 at hm0 G0 c0 ⊢
      rw [zisw0 (a := 0) (b := 2) (A := 0) (B := 2) rfl rfl (hx.imp_right (fun h => ⟨h.1, fun z => h.2 (Int32.lt_of_le_of_lt z (show nI 2 < nI 3 by decide))⟩)), if_pos (by decide)]
      exact Evs.pure (zm_fail (k := 1) G0)
