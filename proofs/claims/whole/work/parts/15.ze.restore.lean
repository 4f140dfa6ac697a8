/-! ===== restore ===== -/
theorem agr_restore : ∀ M, RR M → ∃ b M1 M2, F_X11_restore 0 M = some (b, M1) ∧ F_X12_restore 67 M1 = some (b, M2) ∧ RR M2 := by
  intro M ⟨w, Z, hz, hc, hm⟩
  have hw := hc.ww
  cases hI : z_I Z with
  | none =>
    have e0 := hc.2.2.2.2.2.2.1 hI
    refine ⟨false, M, up M 67 2 0, ?_, ?_, ?_⟩
    · unfold F_X11_restore
      rw [e0, if_pos rfl]; rfl
    · unfold F_X12_restore
      rw [show (up M 67 2 0) 67 55 = 0 by rw [up_app, if_neg (by omega)]; exact hm.2.2.2.2.2.2.1 hI, if_pos rfl]
    · obtain ⟨hm0, G0, c0⟩ := zm_0 hm
      exact ⟨w, Z, hz, hc.of (fun a h => G0.fr (Or.inl h)), hm0⟩
  | some B =>
    obtain ⟨hz1, hz2, hz3, hz4, hz5⟩ := hz
    have hB := hz3 B hI
    obtain ⟨f1, f2⟩ := hc.2.2.2.2.2.2.2.1 B hI
    obtain ⟨M1, e1, b1, n1⟩ := zc_bk (s := 36) (t := 24) (Or.inr ⟨rfl, rfl⟩) f2 hB.2.1 hB.2.2.2.1
    have hc1 : RC w (zB Z B) M1 := hc.setB (fun a ha => n1 a (by omega)) (by rw [n1 _ (by omega)]) b1
    have hm1 : RM Z M1 := hm.of (fun a h1 h2 => n1 a (by omega))
    have eX : F_X11_restore 0 M = some (true, M1) := by
      unfold F_X11_restore
      rw [f1, if_neg (by decide), zbs (show F_X0_copy (0 + 24) (0 + 36) M = some M1 from e1), show M1 0 5 = 1 by rw [n1 0 (by omega)]; exact f1]
      rfl
    have main : Evs (F_X12_restore 67 M1) (fun r => r.1 = true ∧ RM (zB Z B) r.2 ∧ ∀ a, a < 67 → r.2 a = M1 a) := by
      have i55 := (hm1.2.2.2.2.2.2.2 B hI).1
      obtain ⟨q1, q2, q3, q4, q5, q6⟩ := (hm1.2.2.2.2.2.2.2 B hI).2
      unfold F_X12_restore
      have x55 : (up M1 67 2 0) 67 55 = 1 := by rw [up_app, if_neg (by omega)]; exact i55
      have x56 : (up M1 67 2 0) 67 56 = M1 67 56 := by rw [up_app, if_neg (by omega)]
      have x57 : (up (up M1 67 2 0) 67 33 (M1 67 56)) 67 57 = M1 67 57 := by rw [up_app, if_neg (by omega), up_app, if_neg (by omega)]
      rw [x55, if_neg (by decide), x56, x57]
      generalize hN0 : up (up (up M1 67 2 0) 67 33 (M1 67 56)) 67 34 (M1 67 57) = N0
      have g0 : ∀ k, k ≠ 2 → k ≠ 33 → k ≠ 34 → N0 67 k = M1 67 k := fun k x1 x2 x3 => by subst hN0; rw [up_app, if_neg (by omega), up_app, if_neg (by omega), up_app, if_neg (by omega)]
      have ga : ∀ a, a ≠ 67 → N0 a = M1 a := fun a x1 => by subst hN0; rw [up_ne x1, up_ne x1, up_ne x1]
      have g33 : N0 67 33 = M1 67 56 := by subst hN0; rw [up_app, if_neg (by omega), up_app, if_pos ⟨rfl, rfl⟩]
      have g34 : N0 67 34 = M1 67 57 := by subst hN0; rw [up_app, if_pos ⟨rfl, rfl⟩]
      obtain ⟨N1, e1, h1⟩ := zm_unpack (M := N0) (a := 100) (n := 60) (f := 0) (by omega) (by omega) (by omega)
      have o1 : ∀ b, b ≠ 67 → b ≠ 81 → b ≠ 82 → b ≠ 83 → N1 b = N0 b := fun b x1 x2 x3 x4 => h1.cell (fun k _ => by have := mloc_cell k; omega)
      have o67 : ∀ k, (k < 29 ∨ 32 < k) → N1 67 k = N0 67 k := fun k hk => h1.2 67 k (fun i hi e => by unfold mloc at e; (repeat' split at e) <;> simp at e <;> omega)
      obtain ⟨N2, e2, h2⟩ := zm_copyTo (M := N1) (a := 101) (b := 84) (n := 2400) (by omega) (by omega)
      obtain ⟨N3, e3, h3⟩ := zm_copyTo (M := N2) (a := 102) (b := 93) (n := 8) (by omega) (by omega)
      obtain ⟨N4, e4, h4⟩ := zm_copyTo (M := N3) (a := 103) (b := 94) (n := 8) (by omega) (by omega)
      have bl : Evs (L_X12_restore_74 67 FU 0 N4) (fun N5 => (∀ i, i < 8 → N5 96 i = vp_nar .boolean (N4 105 i)) ∧ ∀ a, a ≠ 96 → N5 a = N4 a) := by
        have key : ∀ j k f (N5 : Mem), k + j = 8 → j < f → (∀ i, i < k → N5 96 i = vp_nar .boolean (N4 105 i)) → (∀ a, a ≠ 96 → N5 a = N4 a) → Evs (L_X12_restore_74 67 f (nI k) N5) (fun N5 => (∀ i, i < 8 → N5 96 i = vp_nar .boolean (N4 105 i)) ∧ ∀ a, a ≠ 96 → N5 a = N4 a) := by
          intro j
          induction j with
          | zero =>
            intro k f N5 e hf b1 b2
            obtain ⟨f, rfl⟩ : ∃ f', f = f' + 1 := ⟨f - 1, by omega⟩
            obtain rfl : k = 8 := by omega
            rw [L_X12_restore_74, if_pos (by decide)]
            exact Evs.pure ⟨b1, b2⟩
          | succ j ih =>
            intro k f N5 e hf b1 b2
            obtain ⟨f, rfl⟩ : ∃ f', f = f' + 1 := ⟨f - 1, by omega⟩
            have ez : zst N5 (67 + 29) 8 (nI k) (N5 (67 + 38) k) = some (up N5 96 k (vp_nar .boolean (N4 105 k))) := by
              unfold zst
              rw [if_pos (nI_in (by omega) (by omega)), nI_clamp (by omega), b2 _ (by omega)]
            rw [L_X12_restore_74, if_neg (znge 8 8 rfl (by omega) (by omega)), zald (by omega) (by omega), zbs rfl, ez, zbs rfl, nI_1]
            refine ih (k + 1) f _ (by omega) (by omega) (fun i hi => ?_) (fun a ha => by rw [up_ne ha]; exact b2 a ha)
            rw [up_app]
            by_cases q : i = k
            · rw [if_pos ⟨rfl, q⟩, q]
            · rw [if_neg (fun z => q z.2)]; exact b1 i (by omega)
        exact key 8 0 FU N4 (by omega) (by decide) (fun i hi => by omega) (fun _ _ => rfl)
      obtain ⟨N5, e5, h5, o5⟩ := bl
      obtain ⟨N6, e6, h6⟩ := zm_copyTo (M := N5) (a := 104) (b := 79) (n := 3) (by omega) (by omega)
      have ch : ∀ a, a ≠ 67 → a ≠ 81 → a ≠ 82 → a ≠ 83 → a ≠ 84 → a ≠ 93 → a ≠ 94 → a ≠ 96 → a ≠ 79 → N6 a = M1 a := fun a x0 x1 x2 x3 x4 x5 x6 x7 x8 => by rw [h6.off x8, o5 a x7, h4.off x6, h3.off x5, h2.off x4, o1 a x0 x1 x2 x3, ga a x0]
      have c67 : N6 67 = N1 67 := by rw [h6.off (by omega), o5 _ (by omega), h4.off (by omega), h3.off (by omega), h2.off (by omega)]
      have fk : ∀ k, k ≠ 2 → k ≠ 33 → k ≠ 34 → (k < 29 ∨ 32 < k) → N6 67 k = M1 67 k := fun k x1 x2 x3 x4 => by rw [c67, o67 k x4, g0 k x1 x2 x3]
      refine Evs.of (a := (true, N6)) ?_ ⟨rfl, hm1.setB (fun a ha => ch a (by omega) (by omega) (by omega) (by omega) (by omega) (by omega) (by omega) (by omega) (by omega)) (fun k hk => fk k (by omega) (by omega) (by omega) (by omega)) ⟨?_, ?_, fun j hj => ?_, ?_, fun j hj => ⟨?_, ?_, ?_⟩, fun j hj => ?_⟩, fun a ha => ch a (by omega) (by omega) (by omega) (by omega) (by omega) (by omega) (by omega) (by omega) (by omega)⟩
      · rw [zbs (show F_X12_unpack 67 (67 + 33) 60 0 N0 = some N1 from e1), zbs (show F_X12_copyTo (67 + 17) 2400 (67 + 34) 2400 N1 = some N2 from e2), zbs (show F_X12_copyTo (67 + 26) 8 (67 + 35) 8 N2 = some N3 from e3), zbs (show F_X12_copyTo (67 + 27) 8 (67 + 36) 8 N3 = some N4 from e4), zbs e5, zbs (show F_X12_copyTo (67 + 12) 3 (67 + 37) 3 N5 = some N6 from e6)]
      · refine q1.cong (fun k hk => ?_)
        show mrow N6 k = _
        rw [mrow_of (M := N1) (fun k _ _ => by rw [c67]) (by rw [h6.off (by omega), o5 _ (by omega), h4.off (by omega), h3.off (by omega), h2.off (by omega)]) (by rw [h6.off (by omega), o5 _ (by omega), h4.off (by omega), h3.off (by omega), h2.off (by omega)]) (by rw [h6.off (by omega), o5 _ (by omega), h4.off (by omega), h3.off (by omega), h2.off (by omega)])]
        rw [← mloc_row N1 k, h1.1 k hk trivial]
        show N0 100 (0 + k) = _
        rw [ga _ (by omega), Nat.zero_add]
      · show N6 67 33 = _
        rw [c67, o67 33 (by omega), g33]; exact q2
      · refine (q3 j hj).cong (fun k hk => ?_)
        show N6 84 (60 * j + k) = M1 101 (60 * j + k)
        have := hB.2.1
        rw [h6.off (by omega), o5 _ (by omega), h4.off (by omega), h3.off (by omega), h2.at0 (by omega), o1 _ (by omega) (by omega) (by omega) (by omega), ga _ (by omega)]
      · show N6 67 34 = _
        rw [c67, o67 34 (by omega), g34]; exact q4
      · have := hB.2.2.2.1
        show N6 93 j = _
        rw [h6.off (by omega), o5 _ (by omega), h4.off (by omega), h3.at0 (by omega), h2.off (by omega), o1 _ (by omega) (by omega) (by omega) (by omega), ga _ (by omega)]; exact (q5 j hj).1
      · have := hB.2.2.2.1
        show N6 94 j = _
        rw [h6.off (by omega), o5 _ (by omega), h4.at0 (by omega), h3.off (by omega), h2.off (by omega), o1 _ (by omega) (by omega) (by omega) (by omega), ga _ (by omega)]; exact (q5 j hj).2.1
      · have := hB.2.2.2.1
        show N6 96 j = _
        rw [h6.off (by omega), h5 j (by omega), h4.off (by omega), h3.off (by omega), h2.off (by omega), o1 _ (by omega) (by omega) (by omega) (by omega), ga _ (by omega), (q5 j hj).2.2, ← zbis, znar]
      · show N6 79 j = _
        rw [h6.at0 hj, o5 _ (by omega), h4.off (by omega), h3.off (by omega), h2.off (by omega), o1 _ (by omega) (by omega) (by omega) (by omega), ga _ (by omega)]; exact q6 j hj
    obtain ⟨r, e2, r1, hm2, G⟩ := main
    exact ⟨true, M1, r.2, eX, by rw [e2, ← r1], w, zB Z B, ⟨hz1, hB, hz3, hz4, hz5⟩, hc1.of G, hm2⟩
