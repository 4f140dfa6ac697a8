/-! ===== tell, feed ===== -/
theorem znar : ∀ b : Bool, vp_nar .boolean (bi b) = bi b := by intro b; cases b <;> rfl
theorem zbis (b : Bool) : bi b = if b then (1 : Int32) else 0 := by cases b <;> rfl
theorem zad {t : Nat} {p0 p1 p2 : Int32} {M M1 M2 M3 : Mem} (e1 : F_X11_put (t + 1) 8 (M t 3) p0 M = M1) (e2 : F_X11_put (t + 2) 8 (M1 t 3) p1 M1 = M2) (e3 : F_X11_put (t + 3) 8 (M2 t 3) (if p2 = 0 then (0 : Int32) else (1 : Int32)) M2 = M3) : F_X7_add t p0 p1 p2 M = up M3 t 3 ((M3 t 3) + 1) := by
  subst e1; subst e2; subst e3; rfl
theorem agr_tell (p k : Int32) (s : Bool) : Agr (F_L_tell 0 106 p k (bi s)) (F_X12_tell 67 p k (bi s)) := by
  refine agr_set (fun w Z M hz hc => ?_)
  have hP := hz.1
  have h7 := hP.2.2.1
  have hw := hc.ww
  have hm8 := hz.2.1.2.2.2.1
  rcases znum p (znp (z_P Z)) (by omega) with ⟨p, hp, rfl⟩ | hx
  · right
    have no : (F_X11_tell 0 (nI p) k (bi s) M = J_X11_tell_j29 0 M) → (∀ M0, RM Z M0 → (if (M0 67 34) = 8 then J_X12_tell_j40 67 M0 else if (bi (F_X12_isIn k.toInt64 1 12)) = 0 then J_X12_tell_j40 67 M0 else (ast M0 (67 + 26) 8 (M0 67 34) (nI p)).bind fun M5 => (ast M5 (67 + 27) 8 (M5 67 34) k).bind fun M6 => (zst M6 (67 + 29) 8 (M6 67 34) (bi s)).bind fun M7 => some (((up M7 67 34 ((M7 67 34) + 1)) 67 34), (up M7 67 34 ((M7 67 34) + 1)))) = J_X12_tell_j40 67 M0) →
        ∃ (v : Int32) (Z' : Zs), ZW Z' ∧ (∃ M', F_L_tell 0 106 (nI p) k (bi s) M = some (0, up M' 106 0 v) ∧ RC w Z' M' ∧ ∀ a, 67 ≤ a → M' a = M a) ∧ ∀ M1, RM Z M1 → Evs (F_X12_tell 67 (nI p) k (bi s) M1) (fun r => r.1 = v ∧ r.2 67 2 = 0 ∧ RM Z' r.2 ∧ ∀ a, a < 67 ∨ a = 106 → r.2 a = M1 a) := by
      intro k1 k2
      refine ⟨-1, zB Z (zrf (z_B Z) 2), hz.B (hz.2.1.rf 2), ⟨_, ?_, (hc.refuse (k := 2) (by omega)).1, (hc.refuse (k := 2) (by omega)).2⟩, fun M1 hm => ?_⟩
      · have e : F_X11_tell 0 (nI p) k (bi s) M = some (Sum.inr (-1, up M 35 2 (b_u (z_B Z) 2 + 1))) := by
          rw [k1]
          unfold J_X11_tell_j29
          rw [show F_X0_refuse (0 + 24) 2 M = (-1, up M 35 2 (b_u (z_B Z) 2 + 1)) from (zc_refuse hc.B (k := 2) (by omega)).1]
        unfold F_L_tell
        rw [zbs e]; rfl
      · obtain ⟨hm0, G0, c0⟩ := zm_0 hm
        unfold F_X12_tell
        generalize up M1 67 2 0 = M0 at hm0 G0 c0 ⊢
        obtain ⟨M2, e1, hm2, n2⟩ := zm_refuse hm0 (k := 2) (by omega)
        rw [zm_ip1 hm0 hp h7, if_neg (by decide), k2 M0 hm0]
        unfold J_X12_tell_j40
        rw [zbs (show F_X12_refuse 67 2 M0 = some (-1, M2) from e1)]
        exact Evs.pure (sl_mk rfl (by show M2 67 2 = 0; rw [n2 67 (by omega)]; exact c0) hm2 (fun a ha => by show M2 a = _; rw [n2 a (by omega)]; exact G0.fr ha))
    have room : ∀ M0, M0 31 3 = nI (b_m (z_B Z)) → F_X7_hasRoom (0 + 24 + 7) M0 = decide (b_m (z_B Z) < 8) := by
      intro M0 e
      unfold F_X7_hasRoom
      rw [show M0 (0 + 24 + 7) 3 = nI (b_m (z_B Z)) from e]
      by_cases c : b_m (z_B Z) < 8
      · rw [if_neg (znge 8 8 rfl c (by omega))]; simp [c]
      · rw [if_pos (zle 8 8 rfl (by omega) (by omega))]; simp [c]
    rcases zwin k 1 12 (by omega) (by omega) with ⟨k, hk1, hk2, rfl⟩ | hx
    · by_cases rm : b_m (z_B Z) < 8
      · have hB' : BW (z_P Z) (zte (z_B Z) p k s) := by
          refine ⟨hz.2.1.1, hz.2.1.2.1, hz.2.1.2.2.1, by show b_m (z_B Z) + 1 ≤ 8; omega, fun i hi => ?_⟩
          have hi : i < b_m (z_B Z) + 1 := hi
          show (if i = b_m (z_B Z) then p else b_q (z_B Z) i) < _ ∧ 1 ≤ (if i = b_m (z_B Z) then k else b_i (z_B Z) i) ∧ (if i = b_m (z_B Z) then k else b_i (z_B Z) i) ≤ 12
          by_cases e : i = b_m (z_B Z)
          · rw [if_pos e, if_pos e]; exact ⟨hp, hk1, hk2⟩
          · rw [if_neg e, if_neg e]; exact hz.2.1.2.2.2.2 i (by omega)
        refine ⟨nI (b_m (z_B Z) + 1), zB Z (zte (z_B Z) p k s), hz.B hB', ?_, fun M1 hm => ?_⟩
        · obtain ⟨a1, a2, a3, a4, a5, a6⟩ := hc.B
          have e2 : (if bi s = 0 then (0 : Int32) else 1) = bi s := by cases s <;> rfl
          have ea : F_X7_add 31 (nI p) (nI k) (bi s) M = up (up (up (up M 32 (b_m (z_B Z)) (nI p)) 33 (b_m (z_B Z)) (nI k)) 34 (b_m (z_B Z)) (bi s)) 31 3 (nI (b_m (z_B Z) + 1)) := by
            rw [zad (M1 := up M 32 (b_m (z_B Z)) (nI p)) (M2 := up (up M 32 (b_m (z_B Z)) (nI p)) 33 (b_m (z_B Z)) (nI k)) (M3 := up (up (up M 32 (b_m (z_B Z)) (nI p)) 33 (b_m (z_B Z)) (nI k)) 34 (b_m (z_B Z)) (bi s))]
            · rw [up_ne (j := 31) (by omega), up_ne (by omega), up_ne (by omega), show M 31 3 = nI (b_m (z_B Z)) from a4, nI_1]
            · rw [show M 31 3 = nI (b_m (z_B Z)) from a4, zput_at rm (by omega)]
            · rw [up_ne (j := 31) (by omega), show M 31 3 = nI (b_m (z_B Z)) from a4, zput_at rm (by omega)]
            · rw [up_ne (j := 31) (by omega), up_ne (by omega), show M 31 3 = nI (b_m (z_B Z)) from a4, zput_at rm (by omega), e2]
          refine ⟨up (up (up (up M 32 (b_m (z_B Z)) (nI p)) 33 (b_m (z_B Z)) (nI k)) 34 (b_m (z_B Z)) (bi s)) 31 3 (nI (b_m (z_B Z) + 1)), ?_, hc.setB (fun a ha => by rw [up_ne (by omega), up_ne (by omega), up_ne (by omega), up_ne (by omega)]) (by rw [up_ne (by omega), up_ne (by omega), up_ne (by omega), up_ne (by omega)]) ⟨?_, ?_, ?_, ?_, fun i hi => ?_, ?_⟩, fun a ha => by rw [up_ne (by omega), up_ne (by omega), up_ne (by omega), up_ne (by omega)]⟩
          · have e : F_X11_tell 0 (nI p) (nI k) (bi s) M = some (Sum.inr (nI (b_m (z_B Z) + 1), up (up (up (up M 32 (b_m (z_B Z)) (nI p)) 33 (b_m (z_B Z)) (nI k)) 34 (b_m (z_B Z)) (bi s)) 31 3 (nI (b_m (z_B Z) + 1)))) := by
              unfold F_X11_tell
              rw [zc_np hc hp h7, zbs rfl]
              simp only [Sum.elim_inr]
              rw [if_neg (zngl2 1 1 rfl hk1 (by omega)), if_neg (zngl 12 12 rfl hk2 (by omega)), room M a4, if_neg (by simp [rm, bi]), show (0 + 24 + 7 : Nat) = 31 from rfl, ea, up_app, if_pos ⟨rfl, rfl⟩]
            unfold F_L_tell
            rw [zbs e]; rfl
          · rw [crow_of (M := M) (fun a h1 h2 => by rw [up_ne (by omega), up_ne (by omega), up_ne (by omega), up_ne (by omega)])]; exact a1
          · rw [up_ne (by omega), up_ne (by omega), up_ne (by omega), up_ne (by omega)]; exact a2
          · rw [up_ne (by omega), up_ne (by omega), up_ne (by omega), up_ne (by omega)]; exact a3
          · rw [up_app, if_pos ⟨rfl, rfl⟩]; rfl
          · have hi : i < b_m (z_B Z) + 1 := hi
            show _ = nI (if i = b_m (z_B Z) then p else b_q (z_B Z) i) ∧ _ = nI (if i = b_m (z_B Z) then k else b_i (z_B Z) i) ∧ _ = if (if i = b_m (z_B Z) then s else b_s (z_B Z) i) = true then 1 else 0
            by_cases e : i = b_m (z_B Z)
            · rw [if_pos e, if_pos e, if_pos e, e]
              refine ⟨?_, ?_, ?_⟩
              · rw [up_ne (by omega), up_ne (by omega), up_ne (by omega), up_app, if_pos ⟨rfl, rfl⟩]
              · rw [up_ne (by omega), up_ne (by omega), up_app, if_pos ⟨rfl, rfl⟩]
              · rw [up_ne (by omega), up_app, if_pos ⟨rfl, rfl⟩]; exact zbis s
            · have hi2 : i < b_m (z_B Z) := by omega
              rw [if_neg e, if_neg e, if_neg e]
              refine ⟨?_, ?_, ?_⟩
              · rw [up_ne (by omega), up_ne (by omega), up_ne (by omega), up_app, if_neg (fun z => e z.2)]; exact (a5 i hi2).1
              · rw [up_ne (by omega), up_ne (by omega), up_app, if_neg (fun z => e z.2), up_ne (by omega)]; exact (a5 i hi2).2.1
              · rw [up_ne (by omega), up_app, if_neg (fun z => e z.2), up_ne (by omega), up_ne (by omega)]; exact (a5 i hi2).2.2
          · rw [up_ne (by omega), up_ne (by omega), up_ne (by omega), up_ne (by omega)]; exact a6
        · obtain ⟨hm0, G0, c0⟩ := zm_0 hm
          unfold F_X12_tell
          generalize up M1 67 2 0 = M0 at hm0 G0 c0 ⊢
          obtain ⟨a1, a2, a3, a4, a5, a6⟩ := hm0.2.1
          have ez : ∀ M6 : Mem, zst M6 (67 + 29) 8 (nI (b_m (z_B Z))) (bi s) = some (up M6 96 (b_m (z_B Z)) (bi s)) := by
            intro M6
            unfold zst
            rw [if_pos (nI_in rm (by omega)), nI_clamp (by omega), znar]
          rw [zm_ip1 hm0 hp h7, if_neg (by decide), a4, if_neg (zne 8 8 rfl (by omega) (by omega) (by omega)), zisw1 (a := 1) (b := 12) (A := 1) (B := 12) rfl rfl hk1 hk2 (by omega), if_neg (by decide), zast rm (by omega), zbs rfl, up_ne (i := 67 + 26) (j := 67) (by omega), a4, zast rm (by omega), zbs rfl, up_ne (i := 67 + 27) (j := 67) (by omega), up_ne (i := 67 + 26) (j := 67) (by omega), a4, ez, zbs rfl, up_ne (i := 96) (j := 67) (by omega), up_ne (i := 67 + 27) (j := 67) (by omega), up_ne (i := 67 + 26) (j := 67) (by omega), a4, nI_1]
          refine Evs.pure (sl_mk ?_ ?_ (hm0.setB (fun a ha => by rw [up_ne (by omega), up_ne (by omega), up_ne (by omega), up_ne (by omega)]) (fun k hk => by rw [up_app, if_neg (by omega), up_ne (by omega), up_ne (by omega), up_ne (by omega)]) ⟨?_, ?_, ?_, ?_, fun i hi => ?_, ?_⟩) (fun a ha => ?_))
          · rw [up_app, if_pos ⟨rfl, rfl⟩]
          · rw [up_app, if_neg (by omega), up_ne (by omega), up_ne (by omega), up_ne (by omega)]; exact c0
          · rw [mrow_of (M := M0) (fun k _ _ => by rw [up_app, if_neg (by omega), up_ne (by omega), up_ne (by omega), up_ne (by omega)]) (by rw [up_ne (by omega), up_ne (by omega), up_ne (by omega), up_ne (by omega)]) (by rw [up_ne (by omega), up_ne (by omega), up_ne (by omega), up_ne (by omega)]) (by rw [up_ne (by omega), up_ne (by omega), up_ne (by omega), up_ne (by omega)])]; exact a1
          · rw [up_app, if_neg (by omega), up_ne (by omega), up_ne (by omega), up_ne (by omega)]; exact a2
          · rw [up_ne (by omega), up_ne (by omega), up_ne (by omega), up_ne (by omega)]; exact a3
          · rw [up_app, if_pos ⟨rfl, rfl⟩]; rfl
          · have hi : i < b_m (z_B Z) + 1 := hi
            show _ = nI (if i = b_m (z_B Z) then p else b_q (z_B Z) i) ∧ _ = nI (if i = b_m (z_B Z) then k else b_i (z_B Z) i) ∧ _ = if (if i = b_m (z_B Z) then s else b_s (z_B Z) i) = true then 1 else 0
            by_cases e : i = b_m (z_B Z)
            · rw [if_pos e, if_pos e, if_pos e, e]
              refine ⟨?_, ?_, ?_⟩
              · rw [up_ne (by omega), up_ne (by omega), up_ne (by omega), up_app, if_pos ⟨rfl, rfl⟩]
              · rw [up_ne (by omega), up_ne (by omega), up_app, if_pos ⟨rfl, rfl⟩]
              · rw [up_ne (by omega), up_app, if_pos ⟨rfl, rfl⟩]; exact zbis s
            · have hi2 : i < b_m (z_B Z) := by omega
              rw [if_neg e, if_neg e, if_neg e]
              refine ⟨?_, ?_, ?_⟩
              · rw [up_ne (by omega), up_ne (by omega), up_ne (by omega), up_app, if_neg (fun z => e z.2)]; exact (a5 i hi2).1
              · rw [up_ne (by omega), up_ne (by omega), up_app, if_neg (fun z => e z.2), up_ne (by omega)]; exact (a5 i hi2).2.1
              · rw [up_ne (by omega), up_app, if_neg (fun z => e z.2), up_ne (by omega), up_ne (by omega)]; exact (a5 i hi2).2.2
          · rw [up_ne (by omega), up_ne (by omega), up_ne (by omega), up_ne (by omega)]; exact a6
          · rw [up_ne (by omega), up_ne (by omega), up_ne (by omega), up_ne (by omega)]; exact G0.fr ha
      · have e8 : b_m (z_B Z) = 8 := by omega
        refine no ?_ (fun M0 hm0 => ?_)
        · unfold F_X11_tell
          rw [zc_np hc hp h7, zbs rfl]
          simp only [Sum.elim_inr]
          rw [if_neg (zngl2 1 1 rfl hk1 (by omega)), if_neg (zngl 12 12 rfl hk2 (by omega)), room M hc.B.2.2.2.1, if_pos (by simp [rm, bi])]
        · rw [hm0.2.1.2.2.2.1, e8, if_pos (by decide)]
    · refine no ?_ (fun M0 hm0 => ?_)
      · unfold F_X11_tell
        rw [zc_np hc hp h7, zbs rfl]
        simp only [Sum.elim_inr]
        rcases hx with hx | ⟨hx, hx2⟩
        · rw [if_pos (show k < 1 from hx)]
        · rw [if_neg (show ¬ k < 1 from hx), if_pos (show (12 : Int32) < k from Int32.not_le.mp hx2)]
      · rw [zisw0 (a := 1) (b := 12) (A := 1) (B := 12) rfl rfl hx, if_pos (show bi false = 0 from rfl)]
        split <;> rfl
  · left
    refine ⟨.inl 1, CL.thr (by omega) ?_, fun M1 hm => ?_⟩
    · have e : F_X11_tell 0 p k (bi s) M = some (Sum.inl 1) := by
        unfold F_X11_tell
        rw [zc_npx hc hx, zbs rfl]; rfl
      unfold F_L_tell
      rw [zbs e]; rfl
    · obtain ⟨hm0, G0, c0⟩ := zm_0 hm
      unfold F_X12_tell
      generalize up M1 67 2 0 = M0 at hm0 G0 c0 ⊢
      rw [zm_ip0 hm0 h7 hx, if_pos (by decide)]
      exact Evs.pure (zm_fail (k := 1) G0)
