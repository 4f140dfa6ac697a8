/-! ===== feed ===== -/
def zby (v : Int32) (j : Nat) : Int32 := (v >>> (nI (24 - 8 * j) &&& 31)) &&& 255
theorem zby_n (v : Int32) (j : Nat) : ∃ b, b < 256 ∧ zby v j = nI b := by
  have h : ∀ i, 8 ≤ i → i < 32 → bt (zby v j) i = false := fun i hi h => by
    unfold zby
    rw [b_and, b_255]
    have : ¬ i < 8 := by omega
    simp [this]
  obtain ⟨b, hb, e⟩ := z_few (n := 8) (by omega) h
  exact ⟨b, hb, e⟩
noncomputable def zbn (v : Int32) (j : Nat) : Nat := Classical.choose (zby_n v j)
theorem zbn_lt (v : Int32) (j : Nat) : zbn v j < 256 := (Classical.choose_spec (zby_n v j)).1
theorem zbn_e (v : Int32) (j : Nat) : zby v j = nI (zbn v j) := (Classical.choose_spec (zby_n v j)).2
def zws (a b c d e : Int32) (k : Nat) : Int32 := if k < 4 then a else if k < 8 then b else if k < 12 then c else if k < 16 then d else e
section FEED
variable {M : Mem} {w : Nat} {Z : Zs}
theorem zc_app {t : Nat} (v : Int32) (h : M 1 1 = nI t) (ht : t + 4 ≤ 700) : Evs (F_X5_append 1 v M) (fun M' => M' 1 1 = nI (t + 4) ∧ (∀ j, j < 4 → M' 2 (t + j) = zby v j) ∧ (∀ i, i < t → M' 2 i = M 2 i) ∧ (∀ a, a ≠ 1 → a ≠ 2 → M' a = M a) ∧ ∀ k, k ≠ 1 → M' 1 k = M 1 k) := by
  have step : ∀ (f j : Nat) (M1 : Mem), j < 4 → M1 1 1 = nI (t + j) → L_X5_append_3 1 v (f + 1) (nI (24 - 8 * j)) M1 = L_X5_append_3 1 v f (nI (24 - 8 * j) + (-8)) (up (up M1 2 (t + j) (zby v j)) 1 1 (nI (t + j + 1))) := by
    intro f j M1 hj e
    rw [L_X5_append_3, if_neg (nI_pos (by omega)), e, zput_at (by omega) (by omega), up_ne (j := 1) (by omega), e, nI_1]
    rfl
  have key : ∀ j f (M1 : Mem), j ≤ 4 → 4 - j < f → M1 1 1 = nI (t + j) → (∀ i, i < j → M1 2 (t + i) = zby v i) → (∀ i, i < t → M1 2 i = M 2 i) → (∀ a, a ≠ 1 → a ≠ 2 → M1 a = M a) → (∀ k, k ≠ 1 → M1 1 k = M 1 k) →
      ∀ x, x = (if j = 4 then -8 else nI (24 - 8 * j)) → Evs (L_X5_append_3 1 v f x M1) (fun M' => M' 1 1 = nI (t + 4) ∧ (∀ j, j < 4 → M' 2 (t + j) = zby v j) ∧ (∀ i, i < t → M' 2 i = M 2 i) ∧ (∀ a, a ≠ 1 → a ≠ 2 → M' a = M a) ∧ ∀ k, k ≠ 1 → M' 1 k = M 1 k) := by
    intro j
    induction h4 : 4 - j generalizing j with
    | zero =>
      intro f M1 hj hf a1 a2 a3 a4 a5 x hx
      obtain ⟨f, rfl⟩ : ∃ f', f = f' + 1 := ⟨f - 1, by omega⟩
      obtain rfl : j = 4 := by omega
      rw [hx, if_pos rfl, L_X5_append_3, if_pos (by decide)]
      exact Evs.pure ⟨a1, a2, a3, a4, a5⟩
    | succ d ih =>
      intro f M1 hj hf a1 a2 a3 a4 a5 x hx
      obtain ⟨f, rfl⟩ : ∃ f', f = f' + 1 := ⟨f - 1, by omega⟩
      rw [hx, if_neg (by omega), step f j M1 (by omega) a1]
      refine ih (j + 1) (by omega) f _ (by omega) (by omega) (by rw [up_app, if_pos ⟨rfl, rfl⟩, Nat.add_assoc]) (fun i hi => ?_) (fun i hi => ?_) (fun a x1 x2 => by rw [up_ne x1, up_ne x2]; exact a4 a x1 x2) (fun k hk => by rw [up_app, if_neg (fun z => hk z.2), up_ne (by omega)]; exact a5 k hk) _ ?_
      · rw [up_ne (by omega), up_app]
        by_cases e : i = j
        · rw [if_pos ⟨rfl, by omega⟩, e]
        · rw [if_neg (fun z => e (by omega))]; exact a2 i (by omega)
      · rw [up_ne (by omega), up_app, if_neg (by omega)]; exact a3 i hi
      · have h9 : j = 0 ∨ j = 1 ∨ j = 2 ∨ j = 3 := by omega
        rcases h9 with rfl | rfl | rfl | rfl <;> decide
  unfold F_X5_append
  refine Evs.bind (key 0 FU M (by omega) (by decide) h (fun i hi => by omega) (fun _ _ => rfl) (fun _ _ _ => rfl) (fun _ _ => rfl) 24 (by decide)) (fun M' h => Evs.pure h)
noncomputable def zfd (Z : Zs) (a b c d e : Int32) : Zs := (z_P Z, z_B Z, z_I Z, z_n Z + 20, (fun i => if i < z_n Z then z_y Z i else zbn (zws a b c d e (i - z_n Z)) ((i - z_n Z) % 4)), z_f Z)
theorem agr_feed (a b c d e : Int32) : Ag3 (F_X11_feed 0 a b c d e) (F_X12_feed 67 a b c d e) := by
  refine agr_set3 (fun w Z M hz hc => ?_)
  have hw := hc.ww
  obtain ⟨hz1, hz2, hz3, hz4, hz5⟩ := hz
  obtain ⟨a1, a2, a3, a4, a5, a6, a7, a8⟩ := hc
  by_cases full : z_n Z ≤ 680
  · have hz' : ZW (zfd Z a b c d e) := by
      refine ⟨hz1, hz2, hz3, by show z_n Z + 20 ≤ 700; omega, fun i hi => ?_⟩
      show (if i < z_n Z then z_y Z i else _) < 256
      split
      · rename_i h; exact hz5 i h
      · exact zbn_lt _ _
    refine ⟨nI (z_n Z + 20), zfd Z a b c d e, hz', ?_, fun M1 hm => ?_⟩
    · obtain ⟨M1, e1, b1, b2, b3, b4, b5⟩ := zc_app (M := M) a a5 (by omega)
      obtain ⟨M2, e2, c1, c2, c3, c4, c5⟩ := zc_app (M := M1) b b1 (by omega)
      obtain ⟨M3, e3, d1, d2, d3, d4, d5⟩ := zc_app (M := M2) c c1 (by omega)
      obtain ⟨M4, e4, f1, f2, f3, f4, f5⟩ := zc_app (M := M3) d d1 (by omega)
      obtain ⟨M5, e5, g1, g2, g3, g4, g5⟩ := zc_app (M := M4) e f1 (by omega)
      have fr : ∀ a, a ≠ 1 → a ≠ 2 → M5 a = M a := fun a x1 x2 => by rw [g4 a x1 x2, f4 a x1 x2, d4 a x1 x2, c4 a x1 x2, b4 a x1 x2]
      have fk : ∀ k, k ≠ 1 → M5 1 k = M 1 k := fun k hk => by rw [g5 k hk, f5 k hk, d5 k hk, c5 k hk, b5 k hk]
      refine ⟨M5, ?_, ⟨?_, a2.of (fun a h1 h2 h3 => fr a (by omega) (by omega)) (by rw [fr _ (by omega) (by omega)]), a3.of (fun a h1 h2 => fr a (by omega) (by omega)), by rw [fr 0 (by omega) (by omega)]; exact a4, g1, fun i hi => ?_, by rw [fr 0 (by omega) (by omega)]; exact a7, fun B hB => ?_, by rw [fr 59 (by omega) (by omega)]; exact a8.2⟩, fun a ha => fr a (by omega) (by omega)⟩
      · unfold F_X11_feed
        rw [show M (0 + 1) 1 = nI (z_n Z) from a5, if_pos (zlel 680 680 rfl full (by omega)), zbs (show F_X5_append (0 + 1) a M = some M1 from e1), zbs (show F_X5_append (0 + 1) b M1 = some M2 from e2), zbs (show F_X5_append (0 + 1) c M2 = some M3 from e3), zbs (show F_X5_append (0 + 1) d M3 = some M4 from e4), zbs (show F_X5_append (0 + 1) e M4 = some M5 from e5), show M5 (0 + 1) 1 = nI (z_n Z + 20) from g1]
      · rw [fr 0 (by omega) (by omega), fk 2 (by omega)]; exact a1
      · have hi : i < z_n Z + 20 := hi
        show M5 2 i = nI (if i < z_n Z then z_y Z i else zbn (zws a b c d e (i - z_n Z)) ((i - z_n Z) % 4))
        by_cases q : i < z_n Z
        · rw [if_pos q, g3 i (by omega), f3 i (by omega), d3 i (by omega), c3 i (by omega), b3 i (by omega)]; exact a6 i q
        · rw [if_neg q, ← zbn_e]
          obtain ⟨j, rfl⟩ : ∃ j, i = z_n Z + j := ⟨i - z_n Z, by omega⟩
          rw [show z_n Z + j - z_n Z = j by omega]
          unfold zws
          by_cases q1 : j < 4
          · rw [if_pos q1, g3 _ (by omega), f3 _ (by omega), d3 _ (by omega), c3 _ (by omega), b2 j q1, Nat.mod_eq_of_lt q1]
          · by_cases q2 : j < 8
            · rw [if_neg q1, if_pos q2, g3 _ (by omega), f3 _ (by omega), d3 _ (by omega)]
              have := c2 (j - 4) (by omega)
              rw [show z_n Z + 4 + (j - 4) = z_n Z + j by omega] at this
              rw [this, show j % 4 = j - 4 by omega]
            · by_cases q3 : j < 12
              · rw [if_neg q1, if_neg q2, if_pos q3, g3 _ (by omega), f3 _ (by omega)]
                have := d2 (j - 8) (by omega)
                rw [show z_n Z + 4 + 4 + (j - 8) = z_n Z + j by omega] at this
                rw [this, show j % 4 = j - 8 by omega]
              · by_cases q4 : j < 16
                · rw [if_neg q1, if_neg q2, if_neg q3, if_pos q4, g3 _ (by omega)]
                  have := f2 (j - 12) (by omega)
                  rw [show z_n Z + 4 + 4 + 4 + (j - 12) = z_n Z + j by omega] at this
                  rw [this, show j % 4 = j - 12 by omega]
                · rw [if_neg q1, if_neg q2, if_neg q3, if_neg q4]
                  have := g2 (j - 16) (by omega)
                  rw [show z_n Z + 4 + 4 + 4 + 4 + (j - 16) = z_n Z + j by omega] at this
                  rw [this, show j % 4 = j - 16 by omega]
      · rw [fr 0 (by omega) (by omega)]
        exact ⟨(a8.1 B hB).1, (a8.1 B hB).2.of (fun a h1 h2 => fr a (by omega) (by omega))⟩
    · obtain ⟨hm0, G0, c0⟩ := zm_0 hm
      unfold F_X12_feed
      generalize up M1 67 2 0 = M0 at hm0 G0 c0 ⊢
      have n0 : M0 67 14 = nI (z_n Z) := hm0.2.2.2.1
      rw [n0, show nI (z_n Z) + 20 = nI (z_n Z + 20) from nI_add _ 20, if_pos (zlel 700 700 rfl (by omega) (by omega))]
      have jst : ∀ (f k : Nat) (y : Int32) (M2 : Mem), k < 20 → M2 67 14 = nI (z_n Z + k) → J_X12_feed_j76 67 (L_X12_feed_23 67 a b c d e f) a b c d e (nI k) y M2 = L_X12_feed_23 67 a b c d e f (nI (k + 1)) (up (up M2 80 (z_n Z + k) (zby y (k % 4))) 67 14 (nI (z_n Z + k + 1))) := by
        intro f k y M2 hk en
        unfold J_X12_feed_j76
        have e4 : irem (nI k) 4 = nI (k % 4) := pk_rem (a := k) (d := 4) (by omega) (by omega) (by omega)
        have e24 : (24 : Int32) - 8 * nI (k % 4) = nI (24 - 8 * (k % 4)) := by
          rw [show (8 : Int32) * nI (k % 4) = nI (8 * (k % 4)) from zmul 8 _]
          exact zsub (a := 24) (by omega)
        rw [e4, e24, en, zast (by omega) (by omega), zbs rfl, up_ne (j := 67) (by omega), en, nI_1, nI_1]
        rfl
      have key : ∀ j k f (M2 : Mem), k + j = 20 → j < f → M2 67 14 = nI (z_n Z + k) → (∀ i, i < k → M2 80 (z_n Z + i) = zby (zws a b c d e i) (i % 4)) → (∀ i, i < z_n Z → M2 80 i = M0 80 i) → (∀ a, a ≠ 67 → a ≠ 80 → M2 a = M0 a) → (∀ k, k ≠ 14 → M2 67 k = M0 67 k) →
          Evs (L_X12_feed_23 67 a b c d e f (nI k) M2) (fun M' => M' 67 14 = nI (z_n Z + 20) ∧ (∀ i, i < 20 → M' 80 (z_n Z + i) = zby (zws a b c d e i) (i % 4)) ∧ (∀ i, i < z_n Z → M' 80 i = M0 80 i) ∧ (∀ a, a ≠ 67 → a ≠ 80 → M' a = M0 a) ∧ ∀ k, k ≠ 14 → M' 67 k = M0 67 k) := by
        intro j
        induction j with
        | zero =>
          intro k f M2 ek hf b1 b2 b3 b4 b5
          obtain ⟨f, rfl⟩ : ∃ f', f = f' + 1 := ⟨f - 1, by omega⟩
          obtain rfl : k = 20 := by omega
          rw [L_X12_feed_23, if_pos (by decide)]
          exact Evs.pure ⟨b1, b2, b3, b4, b5⟩
        | succ j ih =>
          intro k f M2 ek hf b1 b2 b3 b4 b5
          obtain ⟨f, rfl⟩ : ∃ f', f = f' + 1 := ⟨f - 1, by omega⟩
          have fin : ∀ y, y = zws a b c d e k → Evs (J_X12_feed_j76 67 (L_X12_feed_23 67 a b c d e f) a b c d e (nI k) y M2) (fun M' => M' 67 14 = nI (z_n Z + 20) ∧ (∀ i, i < 20 → M' 80 (z_n Z + i) = zby (zws a b c d e i) (i % 4)) ∧ (∀ i, i < z_n Z → M' 80 i = M0 80 i) ∧ (∀ a, a ≠ 67 → a ≠ 80 → M' a = M0 a) ∧ ∀ k, k ≠ 14 → M' 67 k = M0 67 k) := by
            intro y hy
            rw [jst f k y M2 (by omega) b1]
            refine ih (k + 1) f _ (by omega) (by omega) (by rw [up_app, if_pos ⟨rfl, rfl⟩, Nat.add_assoc]) (fun i hi => ?_) (fun i hi => ?_) (fun a x1 x2 => by rw [up_ne x1, up_ne x2]; exact b4 a x1 x2) (fun k hk => by rw [up_app, if_neg (fun z => hk z.2), up_ne (by omega)]; exact b5 k hk)
            · rw [up_ne (by omega), up_app]
              by_cases q : i = k
              · rw [if_pos ⟨rfl, by omega⟩, hy, q]
              · rw [if_neg (fun z => q (by omega))]; exact b2 i (by omega)
            · rw [up_ne (by omega), up_app, if_neg (by omega)]; exact b3 i hi
          rw [L_X12_feed_23, if_neg (znge 20 20 rfl (by omega) (by omega))]
          unfold zws at fin
          by_cases q1 : k < 4
          · rw [if_neg (znge 4 4 rfl q1 (by omega))]; exact fin _ (by rw [if_pos q1])
          · rw [if_pos (zle 4 4 rfl (by omega) (by omega))]
            by_cases q2 : k < 8
            · rw [if_neg (znge 8 8 rfl q2 (by omega))]; exact fin _ (by rw [if_neg q1, if_pos q2])
            · rw [if_pos (zle 8 8 rfl (by omega) (by omega))]
              by_cases q3 : k < 12
              · rw [if_neg (znge 12 12 rfl q3 (by omega))]; exact fin _ (by rw [if_neg q1, if_neg q2, if_pos q3])
              · rw [if_pos (zle 12 12 rfl (by omega) (by omega))]
                by_cases q4 : k < 16
                · rw [if_neg (znge 16 16 rfl q4 (by omega))]; exact fin _ (by rw [if_neg q1, if_neg q2, if_neg q3, if_pos q4])
                · rw [if_pos (zle 16 16 rfl (by omega) (by omega))]; exact fin _ (by rw [if_neg q1, if_neg q2, if_neg q3, if_neg q4])
      refine Evs.bind (key 20 0 FU M0 (by omega) (by decide) n0 (fun i hi => by omega) (fun _ _ => rfl) (fun _ _ _ => rfl) (fun _ _ => rfl)) (fun M2 h2 => ?_)
      obtain ⟨b1, b2, b3, b4, b5⟩ := h2
      obtain ⟨m1, m2, m3, m4, m5, m6, m7, m8⟩ := hm0
      refine Evs.pure (sl_mk3 b1 ⟨m1.of (fun a _ _ => b4 a (by omega) (by omega)), ?_, by rw [b5 23 (by omega)]; exact m3, b1, fun i hi => ?_, by rw [b5 35 (by omega)]; exact m6, by rw [b5 55 (by omega)]; exact m7, ?_⟩ (fun a ha => by rw [b4 a (by omega) (by omega)]; exact G0.fr (Or.inl ha)))
      · rw [mrow_of (M := M0) (fun k _ _ => b5 k (by omega)) (b4 _ (by omega) (by omega)) (b4 _ (by omega) (by omega)) (b4 _ (by omega) (by omega)), b5 33 (by omega), b5 34 (by omega), b4 84 (by omega) (by omega), b4 93 (by omega) (by omega), b4 94 (by omega) (by omega), b4 96 (by omega) (by omega), b4 79 (by omega) (by omega)]
        exact m2
      · have hi : i < z_n Z + 20 := hi
        show M2 80 i = nI (if i < z_n Z then z_y Z i else zbn (zws a b c d e (i - z_n Z)) ((i - z_n Z) % 4))
        by_cases q : i < z_n Z
        · rw [if_pos q, b3 i q]; exact m5 i q
        · rw [if_neg q, ← zbn_e]
          have := b2 (i - z_n Z) (by omega)
          rw [show z_n Z + (i - z_n Z) = i by omega] at this
          exact this
      · rw [b5 55 (by omega), b5 56 (by omega), b5 57 (by omega), b4 100 (by omega) (by omega), b4 101 (by omega) (by omega), b4 102 (by omega) (by omega), b4 103 (by omega) (by omega), b4 104 (by omega) (by omega), b4 105 (by omega) (by omega)]
        exact m8
  · refine ⟨-1, Z, ⟨hz1, hz2, hz3, hz4, hz5⟩, ⟨M, ?_, ⟨a1, a2, a3, a4, a5, a6, a7, a8⟩, fun _ _ => rfl⟩, fun M1 hm => ?_⟩
    · unfold F_X11_feed
      rw [show M (0 + 1) 1 = nI (z_n Z) from a5, if_neg (znlel 680 680 rfl (by omega) (by omega))]
    · obtain ⟨hm0, G0, c0⟩ := zm_0 hm
      unfold F_X12_feed
      generalize up M1 67 2 0 = M0 at hm0 G0 c0 ⊢
      rw [hm0.2.2.2.1, show nI (z_n Z) + 20 = nI (z_n Z + 20) from nI_add _ 20, if_neg (znlel 700 700 rfl (by omega) (by omega))]
      exact Evs.pure (sl_mk3 rfl hm0 (fun a ha => G0.fr (Or.inl ha)))
end FEED
