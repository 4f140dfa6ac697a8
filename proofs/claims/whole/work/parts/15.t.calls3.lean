/-! ===== gossip ===== -/
theorem agr_gossip (p : Int32) : Agr (F_L_gossip 0 106 p) (F_X12_gossip 67 p) := by
  refine agr_read (fun w Z M hz hc => ?_)
  have hP := hz.1
  have h7 := hP.2.2.1
  have h8 := hP.1.2
  have hTS := hz.2.1.1
  have hn9 := hTS.2.2
  rcases znum p (znp (z_P Z)) (by omega) with ⟨p, h_p, rfl⟩ | hx
  · refine ⟨.inr (zhd (b_t (z_B Z)) ((1 : Int32) <<< (nI p &&& 31)) 7 &&& (((1 : Int32) <<< (nI p &&& 31)) ^^^ (-1))), CL.val (M' := M) ?_ Fz.rf, fun M1 hm => ?_⟩
    · have e : F_X11_gossip 0 (nI p) M = some (Sum.inr (zhd (b_t (z_B Z)) ((1 : Int32) <<< (nI p &&& 31)) 7 &&& (((1 : Int32) <<< (nI p &&& 31)) ^^^ (-1)))) := by
        unfold F_X11_gossip
        rw [zc_np hc h_p h7, zbs rfl]
        simp only [Sum.elim_inr]
        rw [zbs (zc_gos hc _)]
      unfold F_L_gossip
      rw [zbs e]; rfl
    · obtain ⟨hm0, G0, c0⟩ := zm_0 hm
      unfold F_X12_gossip
      generalize up M1 67 2 0 = M0 at hm0 G0 c0 ⊢
      rw [zm_ip1 hm0 h_p h7, if_neg (by decide)]
      rw [zald (by omega) (by omega), zbs rfl, hm0.T.k (by omega), zbs (zm_gos hz hm0 _)]
      exact Evs.pure (ML.val (zgossip hP hTS.1 h_p) c0 G0)
  · refine ⟨.inl 1, CL.thr (by omega) ?_, fun M1 hm => ?_⟩
    · have e : F_X11_gossip 0 p M = some (Sum.inl 1) := by
        unfold F_X11_gossip
        rw [zc_npx hc hx, zbs rfl]; rfl
      unfold F_L_gossip
      rw [zbs e]; rfl
    · obtain ⟨hm0, G0, c0⟩ := zm_0 hm
      unfold F_X12_gossip
      generalize up M1 67 2 0 = M0 at hm0 G0 c0 ⊢
      rw [zm_ip0 hm0 h7 hx, if_pos (by decide)]
      exact Evs.pure (zm_fail (k := 1) G0)
