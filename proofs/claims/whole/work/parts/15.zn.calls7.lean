/-! ===== game ===== -/
theorem agr_game (p o i : Int32) : Agr (F_L_game 0 106 p o i) (F_X12_game 67 p o i) := by
  refine agr_read (fun w Z M hz hc => ?_)
  have hP := hz.1
  have h7 := hP.2.2.1
  have h8 := hP.1.2
  have hTS := hz.2.1.1
  have hn9 := hTS.2.2
  rcases znum p (znp (z_P Z)) (by omega) with ⟨p, h_p, rfl⟩ | hx
  · rcases znum o (znp (z_P Z)) (by omega) with ⟨o, h_o, rfl⟩ | hx
    · rcases znum i 2 (by omega) with ⟨i, h_i, rfl⟩ | hx
      · by_cases po : p = o
        · have po2 : nI p = nI o := by rw [po]
          refine ⟨.inl 2, CL.thr (by omega) ?_, fun M1 hm => ?_⟩
          · have e : F_X11_game 0 (nI p) (nI o) (nI i) M = some (Sum.inl 2) := by
              unfold F_X11_game
              rw [zc_np hc h_p h7, zbs rfl]
              simp only [Sum.elim_inr]
              rw [zc_np hc h_o h7, zbs rfl]
              simp only [Sum.elim_inr]
              rw [show F_X11_needWhat (nI i) 2 M = Sum.inr () from zwhat1 (n := 2) (by omega) (by omega)]
              simp only [Sum.elim_inr]
              rw [if_pos po2]
            unfold F_L_game
            rw [zbs e]; rfl
          · obtain ⟨hm0, G0, c0⟩ := zm_0 hm
            unfold F_X12_game
            generalize up M1 67 2 0 = M0 at hm0 G0 c0 ⊢
            rw [zm_ip1 hm0 h_p h7, if_neg (by decide), zm_ip1 hm0 h_o h7, if_neg (by decide), if_neg (nI_pos (by omega)), if_pos (zlel 1 1 rfl (by omega) (by omega)), if_pos po2]
            exact Evs.pure (zm_fail (k := 2) G0)
        · have po2 : ¬ nI p = nI o := fun z => po ((nI_eq (by omega) (by omega)).mp z)
          have ec1 : (if bi (!(bt (t_b (b_t (z_B Z))) p) && decide (¬ t_c (b_t (z_B Z)) p < 5)) = 0 then (1 : Int32) else 2) = nI (if (!(bt (t_b (b_t (z_B Z))) p) && decide (¬ t_c (b_t (z_B Z)) p < 5)) then 2 else 1) := zbC _
          have ec2 : (if bi (!(bt (t_b (b_t (z_B Z))) o) && decide (¬ t_c (b_t (z_B Z)) o < 5)) = 0 then (1 : Int32) else 2) = nI (if (!(bt (t_b (b_t (z_B Z))) o) && decide (¬ t_c (b_t (z_B Z)) o < 5)) then 2 else 1) := zbC _
          generalize hb1 : (!(bt (t_b (b_t (z_B Z))) p) && decide (¬ t_c (b_t (z_B Z)) p < 5)) = b1 at ec1
          generalize hb2 : (!(bt (t_b (b_t (z_B Z))) o) && decide (¬ t_c (b_t (z_B Z)) o < 5)) = b2 at ec2
          have l1 : (if b1 then 2 else 1) ≤ 2 := by cases b1 <;> decide
          have l2 : (if b2 then 2 else 1) ≤ 2 := by cases b2 <;> decide
          have g1 : 1 ≤ (if b1 then 2 else 1) := by cases b1 <;> decide
          have g2 : 1 ≤ (if b2 then 2 else 1) := by cases b2 <;> decide
          obtain ⟨M', e0, hv, F⟩ := zc_play hz hc (p := p) (o := o) (C1 := if b1 then 2 else 1) (C2 := if b2 then 2 else 1) h_p h_o l1 l2
          have eg := zc_gm (M := M') (P := z_P Z) (T := b_t (z_B Z)) (p := p) (o := o) (nI i) l1 l2 g1 g2 hv
          refine ⟨.inr (if nI i = 0 then nI (zgm (z_P Z) (b_t (z_B Z)) p o (if b1 then 2 else 1) (if b2 then 2 else 1) 4).1 else (zgm (z_P Z) (b_t (z_B Z)) p o (if b1 then 2 else 1) (if b2 then 2 else 1) 4).2), CL.val (M' := M') ?_ F, fun M1 hm => ?_⟩
          · have e : F_X11_game 0 (nI p) (nI o) (nI i) M = some (Sum.inr ((if nI i = 0 then nI (zgm (z_P Z) (b_t (z_B Z)) p o (if b1 then 2 else 1) (if b2 then 2 else 1) 4).1 else (zgm (z_P Z) (b_t (z_B Z)) p o (if b1 then 2 else 1) (if b2 then 2 else 1) 4).2), M')) := by
              unfold F_X11_game
              rw [zc_np hc h_p h7, zbs rfl]
              simp only [Sum.elim_inr]
              rw [zc_np hc h_o h7, zbs rfl]
              simp only [Sum.elim_inr]
              rw [show F_X11_needWhat (nI i) 2 M = Sum.inr () from zwhat1 (n := 2) (by omega) (by omega)]
              simp only [Sum.elim_inr]
              rw [if_neg po2, show (0 + 24 + 1 : Nat) = 25 from rfl, zc_can hc (p := p) (by omega), zc_can hc (p := o) (by omega), hb1, hb2, ec1, ec2, zbs e0, zbs eg]
            unfold F_L_game
            rw [zbs e]; rfl
          · obtain ⟨hm0, G0, c0⟩ := zm_0 hm
            unfold F_X12_game
            generalize up M1 67 2 0 = M0 at hm0 G0 c0 ⊢
            obtain ⟨A, a1, a2, a3, a4⟩ := zm_gains hz hm0 (p := p) (o := o) h_p h_o
            rw [zm_ip1 hm0 h_p h7, if_neg (by decide), zm_ip1 hm0 h_o h7, if_neg (by decide), if_neg (nI_pos (by omega)), if_pos (zlel 1 1 rfl (by omega) (by omega)), if_neg po2, zm_can hm0 (p := p) (by omega), zbs rfl, zm_can hm0 (p := o) (by omega), zbs rfl, hb1, hb2, zbs a1, zbs (zm_gm (nI i) b1 b2 a2)]
            exact Evs.pure (ML.val rfl (by show A 67 2 = 0; rw [a4]; exact c0) (G0.tr a3))
      · refine ⟨.inl 1, CL.thr (by omega) ?_, fun M1 hm => ?_⟩
        · have e : F_X11_game 0 (nI p) (nI o) i M = some (Sum.inl 1) := by
            unfold F_X11_game
            rw [zc_np hc h_p h7, zbs rfl]
            simp only [Sum.elim_inr]
            rw [zc_np hc h_o h7, zbs rfl]
            simp only [Sum.elim_inr]
            rw [show F_X11_needWhat i 2 M = Sum.inl 1 from zwhat0 (n := 2) hx]; rfl
          unfold F_L_game
          rw [zbs e]; rfl
        · obtain ⟨hm0, G0, c0⟩ := zm_0 hm
          unfold F_X12_game
          generalize up M1 67 2 0 = M0 at hm0 G0 c0 ⊢
          rw [zm_ip1 hm0 h_p h7, if_neg (by decide), zm_ip1 hm0 h_o h7, if_neg (by decide)]
          rcases hx with hx | hx
          · rw [if_pos hx]
            exact Evs.pure (zm_fail (k := 1) G0)
          · rw [if_neg hx.1, if_neg (fun z => hx.2 (Int32.lt_of_le_of_lt z (show (1 : Int32) < nI 2 by decide)))]
            exact Evs.pure (zm_fail (k := 1) G0)
    · refine ⟨.inl 1, CL.thr (by omega) ?_, fun M1 hm => ?_⟩
      · have e : F_X11_game 0 (nI p) o i M = some (Sum.inl 1) := by
          unfold F_X11_game
          rw [zc_np hc h_p h7, zbs rfl]
          simp only [Sum.elim_inr]
          rw [zc_npx hc hx, zbs rfl]; rfl
        unfold F_L_game
        rw [zbs e]; rfl
      · obtain ⟨hm0, G0, c0⟩ := zm_0 hm
        unfold F_X12_game
        generalize up M1 67 2 0 = M0 at hm0 G0 c0 ⊢
        rw [zm_ip1 hm0 h_p h7, if_neg (by decide)]
        rw [zm_ip0 hm0 h7 hx, if_pos (by decide)]
        exact Evs.pure (zm_fail (k := 1) G0)
  · refine ⟨.inl 1, CL.thr (by omega) ?_, fun M1 hm => ?_⟩
    · have e : F_X11_game 0 p o i M = some (Sum.inl 1) := by
        unfold F_X11_game
        rw [zc_npx hc hx, zbs rfl]; rfl
      unfold F_L_game
      rw [zbs e]; rfl
    · obtain ⟨hm0, G0, c0⟩ := zm_0 hm
      unfold F_X12_game
      generalize up M1 67 2 0 = M0 at hm0 G0 c0 ⊢
      rw [zm_ip0 hm0 h7 hx, if_pos (by decide)]
      exact Evs.pure (zm_fail (k := 1) G0)
