/-! ===== image, restore ===== -/
section IMG
variable {M : Mem} {w : Nat} {Z : Zs} {B : Bk}
theorem zm_copyTo {a b n : Nat} (hab : a ≠ b) (hn : n ≤ 3000) : Evs (F_X12_copyTo b n a n M) (Al (sloc b 0) n (M a) M (fun k => k < n)) := by
  have key : ∀ j k f (M1 : Mem), k + j = n → j < f → Al (sloc b 0) n (M a) M (fun i => i < k) M1 → Evs (L_X12_copyTo_2 b n a n f (nI k) M1) (Al (sloc b 0) n (M a) M (fun i => i < n)) := by
    intro j
    induction j with
    | zero =>
      intro k f M1 e hf h
      obtain ⟨f, rfl⟩ : ∃ f', f = f' + 1 := ⟨f - 1, by omega⟩
      obtain rfl : k = n := by omega
      rw [L_X12_copyTo_2, if_pos (nI_le (by omega) (by omega))]
      exact Evs.pure h
    | succ j ih =>
      intro k f M1 e hf h
      obtain ⟨f, rfl⟩ : ∃ f', f = f' + 1 := ⟨f - 1, by omega⟩
      have ha : M1 a = M a := h.cell (fun i _ => Ne.symm hab)
      rw [L_X12_copyTo_2, if_neg (nI_ge (by omega) (by omega)), zald (by omega) (by omega), zbs rfl, zast (by omega) (by omega), zbs rfl, nI_1, ha]
      exact ih (k + 1) f _ (by omega) (by omega) ((h.st sloc_inj (k := k) (by omega) (by simp [sloc]) rfl).mono (fun i _ hi => by omega))
  unfold F_X12_copyTo
  exact Evs.bind (key n 0 FU M (by omega) (by unfold FU; omega) (Al.rf.mono (fun i _ h => by omega))) (fun M' h => Evs.pure h)
theorem Al.at0 {a b n : Nat} {M M' : Mem} (h : Al (sloc b 0) n (M a) M (fun k => k < n) M') {k : Nat} (hk : k < n) : M' b k = M a k := by
  have := h.1 k hk hk
  simpa [sloc] using this
theorem Al.off {b n : Nat} {r : Nat → Int32} {W : Nat → Prop} {M M' : Mem} (h : Al (sloc b 0) n r M W M') {c : Nat} (hc : c ≠ b) : M' c = M c := h.cell (fun k _ => by simp [sloc]; omega)
/-- the class's book copied -/
theorem zc_bk {s t : Nat} (hst : (s = 24 ∧ t = 36) ∨ (s = 36 ∧ t = 24)) (h : BC M s B) (ha : b_a B ≤ 40) (hm : b_m B ≤ 8) : ∃ M', F_X0_copy t s M = some M' ∧ BC M' t B ∧ ∀ a, (a < t ∨ t + 11 < a) → M' a = M a := by
  obtain ⟨a1, a2, a3, a4, a5, a6⟩ := h
  obtain ⟨M1, e1, h1⟩ := zc_copy (M := M) (t := t + 1) (s := s + 1) (by omega)
  have n1 : ∀ a, (a < t + 1 ∨ t + 4 < a) → M1 a = M a := fun a ha => h1.cell (fun k _ => by have := cloc_cell (t + 1) k; omega)
  -- the diary
  have dia : Evs (F_X1_copy (t + 5) (s + 5) M1) (fun M2 => M2 (t + 5) 1 = nI (b_a B) ∧ (∀ i, i < 25 * b_a B → M2 (t + 6) i = M1 (s + 6) i) ∧ ∀ a, a ≠ t + 5 → a ≠ t + 6 → M2 a = M1 a) := by
    have e0 : M1 (s + 5) 1 = nI (b_a B) := by rw [n1 _ (by omega)]; exact a2
    have key : ∀ j k f (M2 : Mem), k + j = 25 * b_a B → j < f → M2 (t + 5) 1 = nI (b_a B) → (∀ i, i < k → M2 (t + 6) i = M1 (s + 6) i) → (∀ a, a ≠ t + 5 → a ≠ t + 6 → M2 a = M1 a) → Evs (L_X1_copy_10 (t + 5) (s + 5) f (nI k) M2) (fun M2 => M2 (t + 5) 1 = nI (b_a B) ∧ (∀ i, i < 25 * b_a B → M2 (t + 6) i = M1 (s + 6) i) ∧ ∀ a, a ≠ t + 5 → a ≠ t + 6 → M2 a = M1 a) := by
      intro j
      induction j with
      | zero =>
        intro k f M2 e hf b1 b2 b3
        obtain ⟨f, rfl⟩ : ∃ f', f = f' + 1 := ⟨f - 1, by omega⟩
        have e25 : nI (b_a B) * 25 = nI (25 * b_a B) := by rw [show (25 : Int32) = nI 25 from rfl, zmul, Nat.mul_comm]
        rw [L_X1_copy_10, b1, e25, if_pos (nI_le (by omega) (by omega))]
        exact Evs.pure ⟨b1, fun i hi => b2 i (by omega), b3⟩
      | succ j ih =>
        intro k f M2 e hf b1 b2 b3
        obtain ⟨f, rfl⟩ : ∃ f', f = f' + 1 := ⟨f - 1, by omega⟩
        have e25 : nI (b_a B) * 25 = nI (25 * b_a B) := by rw [show (25 : Int32) = nI 25 from rfl, zmul, Nat.mul_comm]
        rw [L_X1_copy_10, b1, e25, if_neg (nI_ge (by omega) (by omega)), zat_at (by omega) (by omega), zput_at (by omega) (by omega), nI_1]
        refine ih (k + 1) f _ (by omega) (by omega) (by rw [up_ne (by omega)]; exact b1) (fun i hi => ?_) (fun a x1 x2 => by rw [up_ne (by omega)]; exact b3 a x1 x2)
        rw [up_app]
        by_cases q : i = k
        · rw [if_pos ⟨by omega, q⟩, b3 _ (by omega) (by omega), q]
        · rw [if_neg (fun z => q z.2)]; exact b2 i (by omega)
    unfold F_X1_copy
    refine Evs.bind (key (25 * b_a B) 0 FU (up M1 (t + 5) 1 (M1 (s + 5) 1)) (by omega) (by unfold FU; omega) ?_ (fun i hi => by omega) (fun a x1 x2 => by rw [up_ne x1])) (fun M2 h2 => Evs.pure h2)
    rw [up_app, if_pos ⟨rfl, rfl⟩, e0]
  obtain ⟨M2, e2, d1, d2, d3⟩ := dia
  -- what is told
  have c7 : F_X7_copy (t + 7) (s + 7) M2 = ((F_X11_copyRow (s + 8) 8 (t + 8) 8 (up M2 (t + 7) 3 (M2 (s + 7) 3))).bind fun q1 => (F_X11_copyRow (s + 9) 8 (t + 9) 8 q1).bind fun q2 => (F_X11_copyRow (s + 10) 8 (t + 10) 8 q2).bind fun q3 => some q3) := rfl
  obtain ⟨M3, e3, h3⟩ := zc_copyRow (M := up M2 (t + 7) 3 (M2 (s + 7) 3)) (a := s + 8) (b := t + 8) (n := 8) (by omega) (by omega)
  obtain ⟨M4, e4, h4⟩ := zc_copyRow (M := M3) (a := s + 9) (b := t + 9) (n := 8) (by omega) (by omega)
  obtain ⟨M5, e5, h5⟩ := zc_copyRow (M := M4) (a := s + 10) (b := t + 10) (n := 8) (by omega) (by omega)
  obtain ⟨M6, e6, h6⟩ := zc_copyRow (M := M5) (a := s + 11) (b := t + 11) (n := 3) (by omega) (by omega)
  have n6 : ∀ a, (a < t ∨ t + 11 < a) → M6 a = M a := fun a ha => by rw [h6.off (by omega), h5.off (by omega), h4.off (by omega), h3.off (by omega), up_ne (by omega), d3 a (by omega) (by omega), n1 a (by omega)]
  refine ⟨M6, ?_, ⟨?_, ?_, fun i hi => ?_, ?_, fun i hi => ⟨?_, ?_, ?_⟩, fun i hi => ?_⟩, n6⟩
  · unfold F_X0_copy
    rw [zbs e1, zbs e2, c7, zbs e3, zbs e4, zbs e5, zbs rfl, zbs e6]
  · rw [crow_of (M := M1) (fun a h1 h2 => by rw [h6.off (by omega), h5.off (by omega), h4.off (by omega), h3.off (by omega), up_ne (by omega), d3 a (by omega) (by omega)])]
    exact a1.cong (fun k hk => by rw [← cloc_row M1 (t + 1) k]; exact h1.1 k hk trivial)
  · rw [h6.off (by omega), h5.off (by omega), h4.off (by omega), h3.off (by omega), up_ne (by omega)]; exact d1
  · refine (a3 i hi).cong (fun k hk => ?_)
    show M6 (t + 6) (25 * i + k) = M (s + 6) (25 * i + k)
    rw [h6.off (by omega), h5.off (by omega), h4.off (by omega), h3.off (by omega), up_ne (by omega), d2 _ (by omega), n1 _ (by omega)]
  · rw [h6.off (by omega), h5.off (by omega), h4.off (by omega), h3.off (by omega), up_app, if_pos ⟨rfl, rfl⟩, d3 _ (by omega) (by omega), n1 _ (by omega)]; exact a4
  · rw [h6.off (by omega), h5.off (by omega), h4.off (by omega), h3.at0 (by omega), up_ne (by omega), d3 _ (by omega) (by omega), n1 _ (by omega)]; exact (a5 i hi).1
  · rw [h6.off (by omega), h5.off (by omega), h4.at0 (by omega), h3.off (by omega), up_ne (by omega), d3 _ (by omega) (by omega), n1 _ (by omega)]; exact (a5 i hi).2.1
  · rw [h6.off (by omega), h5.at0 (by omega), h4.off (by omega), h3.off (by omega), up_ne (by omega), d3 _ (by omega) (by omega), n1 _ (by omega)]; exact (a5 i hi).2.2
  · rw [h6.at0 hi, h5.off (by omega), h4.off (by omega), h3.off (by omega), up_ne (by omega), d3 _ (by omega) (by omega), n1 _ (by omega)]; exact a6 i hi
end IMG
theorem agr_image : ∀ M, RR M → ∃ M1 M2, F_X11_image 0 M = some M1 ∧ F_X12_image 67 M1 = some M2 ∧ RR M2 := by
  intro M ⟨w, Z, hz, hc, hm⟩
  have hw := hc.ww
  obtain ⟨hz1, hz2, hz3, hz4, hz5⟩ := hz
  have ha := hz2.2.1
  have hm8 := hz2.2.2.2.1
  obtain ⟨M1, e1, b1, n1⟩ := zc_bk (s := 24) (t := 36) (Or.inl ⟨rfl, rfl⟩) hc.B ha hm8
  let Z' : Zs := (z_P Z, z_B Z, some (z_B Z), z_n Z, z_y Z, z_f Z)
  have hz' : ZW Z' := ⟨hz1, hz2, fun B hB => by cases hB; exact hz2, hz4, hz5⟩
  have hc' : RC w Z' (up M1 0 5 (bi true)) := by
    obtain ⟨a1, a2, a3, a4, a5, a6, a7, a8⟩ := hc
    have f0 : ∀ k, k ≠ 5 → (up M1 0 5 (bi true)) 0 k = M 0 k := fun k hk => by rw [up_app, if_neg (fun z => hk z.2), n1 0 (by omega)]
    have fa : ∀ a, a ≠ 0 → (a < 36 ∨ 47 < a) → (up M1 0 5 (bi true)) a = M a := fun a x1 x2 => by rw [up_ne x1, n1 a x2]
    refine ⟨by rw [f0 1 (by omega), fa 1 (by omega) (by omega)]; exact a1, a2.of (fun a h1 h2 h3 => fa a (by omega) (by omega)) (by rw [fa _ (by omega) (by omega)]), a3.of (fun a h1 h2 => fa a (by omega) (by omega)), by rw [f0 2 (by omega)]; exact a4, by rw [fa 1 (by omega) (by omega)]; exact a5, by rw [fa 2 (by omega) (by omega)]; exact a6, fun h => (by cases h), fun B hB => ?_, by rw [fa 59 (by omega) (by omega)]; exact a8.2⟩
    cases hB
    exact ⟨by rw [up_app, if_pos ⟨rfl, rfl⟩]; rfl, b1.of (fun a h1 h2 => up_ne (by omega))⟩
  have hm1 : RM Z (up M1 0 5 (bi true)) := hm.of (fun a h1 h2 => by rw [up_ne (by omega), n1 a (by omega)])
  have eX : F_X11_image 0 M = some (up M1 0 5 (bi true)) := by unfold F_X11_image; exact zbs e1
  refine ⟨up M1 0 5 (bi true), ?_⟩
  generalize up M1 0 5 (bi true) = N at hc' hm1 eX
  have main : Evs (F_X12_image 67 N) (fun N' => RM Z' N' ∧ ∀ a, a < 67 → N' a = N a) := by
    obtain ⟨m1, m2, m3, m4, m5, m6, m7, m8⟩ := hm1
    obtain ⟨q1, q2, q3, q4, q5, q6⟩ := m2
    unfold F_X12_image
    have x33 : (up (up N 67 2 0) 67 55 (bi true)) 67 33 = N 67 33 := by rw [up_app, if_neg (by omega), up_app, if_neg (by omega)]
    have x34 : (up (up (up N 67 2 0) 67 55 (bi true)) 67 56 (N 67 33)) 67 34 = N 67 34 := by rw [up_app, if_neg (by omega), up_app, if_neg (by omega), up_app, if_neg (by omega)]
    rw [x33, x34]
    generalize hN0 : up (up (up (up N 67 2 0) 67 55 (bi true)) 67 56 (N 67 33)) 67 57 (N 67 34) = N0
    have f0 : ∀ k, k ≠ 2 → k ≠ 55 → k ≠ 56 → k ≠ 57 → N0 67 k = N 67 k := fun k x1 x2 x3 x4 => by subst hN0; rw [up_app, if_neg (by omega), up_app, if_neg (by omega), up_app, if_neg (by omega), up_app, if_neg (by omega)]
    have fa : ∀ a, a ≠ 67 → N0 a = N a := fun a x1 => by subst hN0; rw [up_ne x1, up_ne x1, up_ne x1, up_ne x1]
    have f55 : N0 67 55 = 1 := by subst hN0; rw [up_app, if_neg (by omega), up_app, if_neg (by omega), up_app, if_pos ⟨rfl, rfl⟩]; rfl
    have f56 : N0 67 56 = N 67 33 := by subst hN0; rw [up_app, if_neg (by omega), up_app, if_pos ⟨rfl, rfl⟩]
    have f57 : N0 67 57 = N 67 34 := by subst hN0; rw [up_app, if_pos ⟨rfl, rfl⟩]
    have r0 : mrow N0 = mrow N := mrow_of (fun k _ _ => f0 k (by omega) (by omega) (by omega) (by omega)) (fa _ (by omega)) (fa _ (by omega)) (fa _ (by omega))
    obtain ⟨N1, e1, h1⟩ := zm_pack (M := N0) (a := 100) (n := 60) (f := 0) (by omega) (by omega) (by omega)
    have o1 : ∀ c, c ≠ 100 → N1 c = N0 c := fun c hc => h1.cell (fun k _ => by simp [sloc]; omega)
    obtain ⟨N2, e2, h2⟩ := zm_copyTo (M := N1) (a := 84) (b := 101) (n := 2400) (by omega) (by omega)
    obtain ⟨N3, e3, h3⟩ := zm_copyTo (M := N2) (a := 93) (b := 102) (n := 8) (by omega) (by omega)
    obtain ⟨N4, e4, h4⟩ := zm_copyTo (M := N3) (a := 94) (b := 103) (n := 8) (by omega) (by omega)
    have bl : Evs (L_X12_image_70 67 FU 0 N4) (fun N5 => (∀ i, i < 8 → N5 105 i = vp_nar .boolean (N4 96 i)) ∧ ∀ a, a ≠ 105 → N5 a = N4 a) := by
      have key : ∀ j k f (N5 : Mem), k + j = 8 → j < f → (∀ i, i < k → N5 105 i = vp_nar .boolean (N4 96 i)) → (∀ a, a ≠ 105 → N5 a = N4 a) → Evs (L_X12_image_70 67 f (nI k) N5) (fun N5 => (∀ i, i < 8 → N5 105 i = vp_nar .boolean (N4 96 i)) ∧ ∀ a, a ≠ 105 → N5 a = N4 a) := by
        intro j
        induction j with
        | zero =>
          intro k f N5 e hf b1 b2
          obtain ⟨f, rfl⟩ : ∃ f', f = f' + 1 := ⟨f - 1, by omega⟩
          obtain rfl : k = 8 := by omega
          rw [L_X12_image_70, if_pos (by decide)]
          exact Evs.pure ⟨b1, b2⟩
        | succ j ih =>
          intro k f N5 e hf b1 b2
          obtain ⟨f, rfl⟩ : ∃ f', f = f' + 1 := ⟨f - 1, by omega⟩
          have ez : zst N5 (67 + 38) 8 (nI k) (N5 (67 + 29) k) = some (up N5 105 k (vp_nar .boolean (N4 96 k))) := by
            unfold zst
            rw [if_pos (nI_in (by omega) (by omega)), nI_clamp (by omega), b2 _ (by omega)]
          rw [L_X12_image_70, if_neg (znge 8 8 rfl (by omega) (by omega)), zald (by omega) (by omega), zbs rfl, ez, zbs rfl, nI_1]
          refine ih (k + 1) f _ (by omega) (by omega) (fun i hi => ?_) (fun a ha => by rw [up_ne ha]; exact b2 a ha)
          rw [up_app]
          by_cases q : i = k
          · rw [if_pos ⟨rfl, q⟩, q]
          · rw [if_neg (fun z => q z.2)]; exact b1 i (by omega)
      exact key 8 0 FU N4 (by omega) (by decide) (fun i hi => by omega) (fun _ _ => rfl)
    obtain ⟨N5, e5, h5, o5⟩ := bl
    obtain ⟨N6, e6, h6⟩ := zm_copyTo (M := N5) (a := 79) (b := 104) (n := 3) (by omega) (by omega)
    have ch : ∀ a, a ≠ 67 → a ≠ 100 → a ≠ 101 → a ≠ 102 → a ≠ 103 → a ≠ 104 → a ≠ 105 → N6 a = N a := fun a x0 x1 x2 x3 x4 x5 x6 => by rw [h6.off (by omega), o5 a (by omega), h4.off (by omega), h3.off (by omega), h2.off (by omega), o1 a (by omega), fa a x0]
    have c67 : N6 67 = N0 67 := by rw [h6.off (by omega), o5 _ (by omega), h4.off (by omega), h3.off (by omega), h2.off (by omega), o1 _ (by omega)]
    refine Evs.of (a := N6) ?_ ⟨⟨m1.of (fun a _ _ => ch a (by omega) (by omega) (by omega) (by omega) (by omega) (by omega) (by omega)), ⟨?_, ?_, ?_, ?_, ?_, ?_⟩, ?_, ?_, ?_, ?_, fun h => (by cases h), fun B hB => ?_⟩, fun a ha => ch a (by omega) (by omega) (by omega) (by omega) (by omega) (by omega) (by omega)⟩
    · rw [zbs (show F_X12_pack 67 (67 + 33) 60 0 N0 = some N1 from e1), zbs (show F_X12_copyTo (67 + 34) 2400 (67 + 17) 2400 N1 = some N2 from e2), zbs (show F_X12_copyTo (67 + 35) 8 (67 + 26) 8 N2 = some N3 from e3), zbs (show F_X12_copyTo (67 + 36) 8 (67 + 27) 8 N3 = some N4 from e4), zbs e5, zbs (show F_X12_copyTo (67 + 37) 3 (67 + 12) 3 N5 = some N6 from e6)]
    · rw [mrow_of (M := N) (fun k _ _ => by rw [c67]; exact f0 k (by omega) (by omega) (by omega) (by omega)) (ch _ (by omega) (by omega) (by omega) (by omega) (by omega) (by omega) (by omega)) (ch _ (by omega) (by omega) (by omega) (by omega) (by omega) (by omega) (by omega)) (ch _ (by omega) (by omega) (by omega) (by omega) (by omega) (by omega) (by omega))]; exact q1
    · rw [c67, f0 33 (by omega) (by omega) (by omega) (by omega)]; exact q2
    · rw [ch 84 (by omega) (by omega) (by omega) (by omega) (by omega) (by omega) (by omega)]; exact q3
    · rw [c67, f0 34 (by omega) (by omega) (by omega) (by omega)]; exact q4
    · rw [ch 93 (by omega) (by omega) (by omega) (by omega) (by omega) (by omega) (by omega), ch 94 (by omega) (by omega) (by omega) (by omega) (by omega) (by omega) (by omega), ch 96 (by omega) (by omega) (by omega) (by omega) (by omega) (by omega) (by omega)]; exact q5
    · rw [ch 79 (by omega) (by omega) (by omega) (by omega) (by omega) (by omega) (by omega)]; exact q6
    · rw [c67, f0 23 (by omega) (by omega) (by omega) (by omega)]; exact m3
    · rw [c67, f0 14 (by omega) (by omega) (by omega) (by omega)]; exact m4
    · rw [ch 80 (by omega) (by omega) (by omega) (by omega) (by omega) (by omega) (by omega)]; exact m5
    · rw [c67, f0 35 (by omega) (by omega) (by omega) (by omega)]; exact m6
    · cases hB
      refine ⟨by rw [c67]; exact f55, q1.cong (fun k hk => ?_), by rw [c67, f56]; exact q2, fun j hj => (q3 j hj).cong (fun k hk => ?_), by rw [c67, f57]; exact q4, fun j hj => ⟨?_, ?_, ?_⟩, fun j hj => ?_⟩
      · rw [h6.off (by omega), o5 _ (by omega), h4.off (by omega), h3.off (by omega), h2.off (by omega)]
        have := h1.1 k hk trivial
        rw [r0] at this
        simpa [sloc] using this
      · show N6 101 (60 * j + k) = N 84 (60 * j + k)
        rw [h6.off (by omega), o5 _ (by omega), h4.off (by omega), h3.off (by omega), h2.at0 (by omega), o1 _ (by omega), fa _ (by omega)]
      · rw [h6.off (by omega), o5 _ (by omega), h4.off (by omega), h3.at0 (by omega), h2.off (by omega), o1 _ (by omega), fa _ (by omega)]; exact (q5 j hj).1
      · rw [h6.off (by omega), o5 _ (by omega), h4.at0 (by omega), h3.off (by omega), h2.off (by omega), o1 _ (by omega), fa _ (by omega)]; exact (q5 j hj).2.1
      · rw [h6.off (by omega), h5 j (by omega), h4.off (by omega), h3.off (by omega), h2.off (by omega), o1 _ (by omega), fa _ (by omega), (q5 j hj).2.2, ← zbis, znar]
      · rw [h6.at0 hj, o5 _ (by omega), h4.off (by omega), h3.off (by omega), h2.off (by omega), o1 _ (by omega), fa _ (by omega)]; exact q6 j hj
  obtain ⟨N', e2, hm2, G⟩ := main
  exact ⟨N', eX, e2, w, Z', hz', hc'.of G, hm2⟩
