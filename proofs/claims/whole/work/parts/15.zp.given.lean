/-! ===== given, the class's ===== -/
section CGIVEN
variable {M M' : Mem} {w : Nat} {P : Pl} {T : Tn} {b : Nat → Nat → Nat}
def CB (b : Nat → Nat → Nat) (M : Mem) : Prop := ∀ l q, l < 7 → q < 7 → M 58 (l * 7 + q) = nI (b l q)
def CD (b : Nat → Nat → Nat) (k : Nat) (M : Mem) : Prop := ∀ i t, i ≤ k → t < 128 → M 59 ((7 - i) * 128 + t) = nI (gD b i t)
theorem zi7 (l q : Nat) : nI l * 7 + nI q = nI (l * 7 + q) := by rw [show (7 : Int32) = nI 7 from rfl, zmul, nI_add]
theorem zi128 (l q : Nat) : nI l * 128 + nI q = nI (l * 128 + q) := by rw [show (128 : Int32) = nI 128 from rfl, zmul, nI_add]
theorem gc_sum (hB : CB b M) (hb : ∀ l q, b l q ≤ 999) {R : Nat → Nat} {l t q : Nat} (hl : l < 7) (ht : t < 128) (hq : q < 7) (hR : ∀ t, t < 128 → M 59 ((l + 1) * 128 + t) = nI (R t)) : F_X3_sumWith 57 (nI l) (nI q) (nI t) M = if gP b l t q = true then nI (b l q + R (gMk t q)) else -1 := by
  obtain ⟨g1, g2, g3⟩ := gMk_lt t ht q hq
  unfold F_X3_sumWith
  rw [zi7, zat_at (by omega) (by omega), show M (57 + 1) (l * 7 + q) = _ from hB l q hl hq, nI_1, g2, zi128, zat_at (by omega) (by omega), show M (57 + 2) ((l + 1) * 128 + gMk t q) = _ from hR _ g1]
  unfold gP
  by_cases h0 : b l q = 0
  · rw [if_pos (by rw [h0]; decide), if_neg (by simp [h0])]
  · rw [if_neg (by have := hb l q; exact nI_ge (a := 0) (b := b l q) (by omega) (by omega))]
    by_cases h1 : t.testBit q = true
    · rw [if_neg (by rw [zbit0 (by omega), g3, h1]; decide), if_neg (by simp [h1])]
    · rw [if_pos (by rw [zbit0 (by omega), g3]; simpa using h1), if_pos (by simp [h1]; omega), nI_add]
theorem gc_best (hB : CB b M) (hb : ∀ l q, b l q ≤ 999) {R : Nat → Nat} {l t : Nat} (hl : l < 7) (ht : t < 128) (hR : ∀ t, t < 128 → M 59 ((l + 1) * 128 + t) = nI (R t)) (hm : ∀ t, t < 128 → R t ≤ 9999) : F_X3_bestFrom 57 (nI l) (nI t) M = some (nI (gX b R l t 7)) := by
  have key : ∀ j k f, k + j = 7 → j < f → L_X3_bestFrom_20 57 (nI l) (nI t) M f (nI (gX b R l t k)) (nI k) = some (nI (gX b R l t 7)) := by
    intro j
    induction j with
    | zero =>
      intro k f e hf
      obtain ⟨f, rfl⟩ : ∃ f', f = f' + 1 := ⟨f - 1, by omega⟩
      obtain rfl : k = 7 := by omega
      rw [L_X3_bestFrom_20, if_pos (by decide)]
    | succ j ih =>
      intro k f e hf
      obtain ⟨f, rfl⟩ : ∃ f', f = f' + 1 := ⟨f - 1, by omega⟩
      have a1 := gX_le (l := l) hb ht hm k (by omega)
      have a2 := hm _ (gMk_lt t ht k (by omega)).1
      have a3 := hb l k
      rw [L_X3_bestFrom_20, if_neg (znge 7 7 rfl (by omega) (by omega)), gc_sum hB hb hl ht (by omega) hR, nI_1, ← ih (k + 1) f (by omega) (by omega), gX]
      congr 1
      split
      · rw [zimx (by omega) (by omega)]
      · rw [zimx1 (by omega)]
  unfold F_X3_bestFrom
  rw [nI_1, zi128, zat_at (by omega) (by omega), show M (57 + 2) ((l + 1) * 128 + t) = _ from hR _ ht]
  rw [show nI (R t) = nI (gX b R l t 0) from rfl, show (0 : Int32) = nI 0 from rfl, key 7 0 FU (by omega) (by decide), zbs rfl]
theorem gc_take (hB : CB b M) (hb : ∀ l q, b l q ≤ 999) {l t : Nat} (hl : l < 7) (ht : t < 128) (hD : CD b 7 M) : F_X3_takerOf 57 (nI l) (nI t) M = some (gI (gK b l t)) := by
  have hR : ∀ t, t < 128 → M 59 ((l + 1) * 128 + t) = nI (gD b (6 - l) t) := fun t ht => by
    have := hD (6 - l) t (by omega) ht
    rwa [show 7 - (6 - l) = l + 1 by omega] at this
  have hv := hD (7 - l) t (by omega) ht
  rw [show 7 - (7 - l) = l by omega] at hv
  have hle := gD_le hb (7 - l) t ht
  have key : ∀ j k f, k + j = 7 → j < f → L_X3_takerOf_18 57 (nI l) (nI t) (nI (gD b (7 - l) t)) M f (nI k) = some (if gF b (gD b (6 - l)) (gD b (7 - l) t) l t j k = 7 then Sum.inr () else Sum.inl (nI (gF b (gD b (6 - l)) (gD b (7 - l) t) l t j k))) := by
    intro j
    induction j with
    | zero =>
      intro k f e hf
      obtain ⟨f, rfl⟩ : ∃ f', f = f' + 1 := ⟨f - 1, by omega⟩
      obtain rfl : k = 7 := by omega
      rw [L_X3_takerOf_18, if_pos (by decide)]
      rfl
    | succ j ih =>
      intro k f e hf
      obtain ⟨f, rfl⟩ : ∃ f', f = f' + 1 := ⟨f - 1, by omega⟩
      have a2 := gD_le hb (6 - l) _ (gMk_lt t ht k (by omega)).1
      have a3 := hb l k
      rw [L_X3_takerOf_18, if_neg (znge 7 7 rfl (by omega) (by omega)), gc_sum hB hb hl ht (by omega) hR, nI_1, ih (k + 1) f (by omega) (by omega), gF]
      by_cases c : gP b l t k = true ∧ b l k + gD b (6 - l) (gMk t k) = gD b (7 - l) t
      · simp only [if_pos c]
        rw [if_pos c.1, if_pos (by rw [c.2]), if_neg (by omega)]
      · simp only [if_neg c]
        rw [if_neg]
        intro z
        by_cases h : gP b l t k = true
        · rw [if_pos h] at z
          exact c ⟨h, (nI_eq (by omega) (by omega)).mp z⟩
        · rw [if_neg h] at z
          exact zneg1 (by omega) z
  unfold F_X3_takerOf
  rw [zi128, zat_at (by omega) (by omega), show M (57 + 2) (l * 128 + t) = _ from hv]
  rw [show (0 : Int32) = nI 0 from rfl, key 7 0 FU (by omega) (by decide), zbs rfl]
  unfold gI gK
  split
  · rfl
  · rfl
theorem gc_row (hB : CB b M) (hb : ∀ l q, b l q ≤ 999) {k : Nat} (hk : k < 7) (hD : CD b k M) : Evs (L_X3_giveOut_103 57 w 48 52 (nI (6 - k)) FU 0 M) (fun M' => CD b (k + 1) M' ∧ ∀ a, a ≠ 59 → M' a = M a) := by
  have key : ∀ j t f (N : Mem), t + j = 128 → j < f → CB b N → CD b k N → (∀ u, u < t → N 59 ((6 - k) * 128 + u) = nI (gD b (k + 1) u)) → (∀ a, a ≠ 59 → N a = M a) → Evs (L_X3_giveOut_103 57 w 48 52 (nI (6 - k)) f (nI t) N) (fun M' => CD b (k + 1) M' ∧ ∀ a, a ≠ 59 → M' a = M a) := by
    intro j
    induction j with
    | zero =>
      intro t f N e hf b1 d1 r1 n1
      obtain ⟨f, rfl⟩ : ∃ f', f = f' + 1 := ⟨f - 1, by omega⟩
      obtain rfl : t = 128 := by omega
      rw [L_X3_giveOut_103, if_pos (by decide)]
      refine Evs.pure ⟨fun i u hi hu => ?_, n1⟩
      by_cases e2 : i = k + 1
      · subst e2
        rw [show 7 - (k + 1) = 6 - k by omega]; exact r1 u hu
      · exact d1 i u (by omega) hu
    | succ j ih =>
      intro t f N e hf b1 d1 r1 n1
      obtain ⟨f, rfl⟩ : ∃ f', f = f' + 1 := ⟨f - 1, by omega⟩
      have hR : ∀ t, t < 128 → N 59 ((6 - k + 1) * 128 + t) = nI (gD b k t) := fun t ht => by
        have := d1 k t (by omega) ht
        rwa [show 7 - k = 6 - k + 1 by omega] at this
      rw [L_X3_giveOut_103, if_neg (znge 128 128 rfl (by omega) (by omega)), gc_best b1 hb (by omega) (by omega) hR (fun t ht => by have := gD_le hb k t ht; omega), zbs rfl, zi128, zput_at (by omega) (by omega), nI_1]
      have e59 : ∀ i, i ≠ (6 - k) * 128 + t → (up N (57 + 2) ((6 - k) * 128 + t) (nI (gX b (gD b k) (6 - k) t 7))) 59 i = N 59 i := fun i hi => by rw [up_app, if_neg (fun z => hi z.2)]
      refine ih (t + 1) f _ (by omega) (by omega) (fun l q h1 h2 => by rw [up_ne (by omega)]; exact b1 l q h1 h2) (fun i u hi hu => by rw [e59 _ (by omega)]; exact d1 i u hi hu) (fun u hu => ?_) (fun a ha => by rw [up_ne (by omega)]; exact n1 a ha)
      by_cases e2 : u = t
      · subst e2
        rw [up_app, if_pos ⟨rfl, rfl⟩]; rfl
      · rw [e59 _ (by omega)]; exact r1 u (by omega)
  exact key 128 0 FU M (by omega) (by decide) hB hD (fun u hu => by omega) (fun _ _ => rfl)
theorem gc_rows (hB : CB b M) (hb : ∀ l q, b l q ≤ 999) (hD : CD b 0 M) : Evs (L_X3_giveOut_95 57 w 48 52 FU 6 M) (fun M' => CD b 7 M' ∧ ∀ a, a ≠ 59 → M' a = M a) := by
  have hd : ∀ k, k < 7 → (if k = 7 then (-1 : Int32) else nI (6 - k)) + (-1) = if k + 1 = 7 then -1 else nI (6 - (k + 1)) := by decide +kernel
  have key : ∀ j k f (N : Mem), k + j = 7 → j < f → CD b k N → (∀ a, a ≠ 59 → N a = M a) → Evs (L_X3_giveOut_95 57 w 48 52 f (if k = 7 then -1 else nI (6 - k)) N) (fun M' => CD b 7 M' ∧ ∀ a, a ≠ 59 → M' a = M a) := by
    intro j
    induction j with
    | zero =>
      intro k f N e hf d1 n1
      obtain ⟨f, rfl⟩ : ∃ f', f = f' + 1 := ⟨f - 1, by omega⟩
      obtain rfl : k = 7 := by omega
      rw [L_X3_giveOut_95, if_pos (by decide)]
      exact Evs.pure ⟨d1, n1⟩
    | succ j ih =>
      intro k f N e hf d1 n1
      obtain ⟨f, rfl⟩ : ∃ f', f = f' + 1 := ⟨f - 1, by omega⟩
      rw [L_X3_giveOut_95, if_neg (by rw [if_neg (by omega)]; exact nI_pos (by omega)), hd k (by omega), if_neg (by omega)]
      refine Evs.bind (gc_row (w := w) (fun l q h1 h2 => by rw [n1 58 (by omega)]; exact hB l q h1 h2) hb (by omega) d1) (fun N2 h2 => ?_)
      exact ih (k + 1) f N2 (by omega) (by omega) h2.1 (fun a ha => (h2.2 a ha).trans (n1 a ha))
  exact key 7 0 FU M (by omega) (by decide) hD (fun _ _ => rfl)
/-- what the bids change -/
def Fg (w : Nat) (M M' : Mem) : Prop := (∀ a, a ≠ 54 → a ≠ w + 7 → a ≠ w + 9 → a ≠ 58 → M' a = M a) ∧ ∀ k, k ≠ 3 → M' (w + 7) k = M (w + 7) k
theorem gc_bids (hP : PW P) (C : CP M w P) (hw : w = 3 ∨ w = 14) (hT : CT (crow M 48) T) (hTC : TC T) {fog : Nat} (hx : ∀ p, p < 7 → M 53 p = zhs P T fog p) (hl : M 52 4 = nI (zlt P T fog)) : Evs (L_X3_giveOut_3 57 w 48 52 FU 0 M) (fun M' => CB (gb P T fog) M' ∧ Fg w M M') := by
  have h7 := hP.2.2.1
  have inn : ∀ l, l < 7 → ∀ j q f (N : Mem), q + j = 7 → j < f → (∀ l' q', l' < l → q' < 7 → N 58 (l' * 7 + q') = nI (gb P T fog l' q')) → (∀ q', q' < q → N 58 (l * 7 + q') = nI (gb P T fog l q')) → Fg w M N → Evs (L_X3_giveOut_13 57 w 48 52 (nI l) f (nI q) N) (fun N => (∀ l' q', l' < l + 1 → q' < 7 → N 58 (l' * 7 + q') = nI (gb P T fog l' q')) ∧ Fg w M N) := by
    intro l hl7 j
    induction j with
    | zero =>
      intro q f N e hf r0 r1 F
      obtain ⟨f, rfl⟩ : ∃ f', f = f' + 1 := ⟨f - 1, by omega⟩
      obtain rfl : q = 7 := by omega
      rw [L_X3_giveOut_13, if_pos (by decide)]
      refine Evs.pure ⟨fun l' q' h1 h2 => ?_, F⟩
      by_cases e2 : l' = l
      · subst e2; exact r1 q' h2
      · exact r0 l' q' (by omega) h2
    | succ j ih =>
      intro q f N e hf r0 r1 F
      obtain ⟨f, rfl⟩ : ∃ f', f = f' + 1 := ⟨f - 1, by omega⟩
      have CN : CP N w P := C.of (fun a h1 h2 h3 => F.1 a (by omega) (by omega) (by omega) (by omega)) (F.2 1 (by omega))
      have e48 : crow N 48 = crow M 48 := crow_of (fun a h1 h2 => F.1 a (by omega) (by omega) (by omega) (by omega))
      have step : ∀ (N2 : Mem) (v : Int32), Fb w N N2 → v = nI (gb P T fog l q) → Evs (J_X3_giveOut_j76 57 w 48 52 (L_X3_giveOut_13 57 w 48 52 (nI l) f) (nI l) (nI q) (nI l * 7 + nI q) v N2) (fun N => (∀ l' q', l' < l + 1 → q' < 7 → N 58 (l' * 7 + q') = nI (gb P T fog l' q')) ∧ Fg w M N) := by
        intro N2 v F2 hv
        unfold J_X3_giveOut_j76
        rw [zi7, zput_at (by omega) (by omega), nI_1]
        have e58 : ∀ i, i ≠ l * 7 + q → (up N2 (57 + 1) (l * 7 + q) v) 58 i = N 58 i := fun i hi => by rw [up_app, if_neg (fun z => hi z.2), F2.1 58 (by omega) (by omega) (by omega)]
        refine ih (q + 1) f _ (by omega) (by omega) (fun l' q' h1 h2 => by rw [e58 _ (by omega)]; exact r0 l' q' h1 h2) (fun q' hq' => ?_) ⟨fun a x1 x2 x3 x4 => by rw [up_ne (by omega), F2.1 a x1 x2 x3]; exact F.1 a x1 x2 x3 x4, fun k hk => by rw [up_ne (by omega), F2.2 k hk]; exact F.2 k hk⟩
        by_cases e2 : q' = q
        · subst e2
          rw [up_app, if_pos ⟨rfl, rfl⟩]; exact hv
        · rw [e58 _ (by omega)]; exact r1 q' (by omega)
      have lot : F_X6_hasLot 52 (nI l) N = !(zhs P T fog l == 0) := by
        unfold F_X6_hasLot
        rw [zat_at (by omega) (by omega), F.1 (52 + 1) (by omega) (by omega) (by omega) (by omega), show M (52 + 1) l = _ from hx l hl7]
        by_cases h : zhs P T fog l = 0
        · rw [if_pos h]; simp [h]
        · rw [if_neg h]; simp [h]
      have none : ¬ (l < znp P ∧ q < znp P ∧ ¬ zhs P T fog l = 0) → Evs (J_X3_giveOut_j42 57 w 48 52 (L_X3_giveOut_13 57 w 48 52 (nI l) f) (nI l) (nI q) N) (fun N => (∀ l' q', l' < l + 1 → q' < 7 → N 58 (l' * 7 + q') = nI (gb P T fog l' q')) ∧ Fg w M N) := by
        intro h
        unfold J_X3_giveOut_j42 J_X3_giveOut_j43
        rw [if_pos rfl]
        exact step N 0 Fb.rf (by unfold gb; rw [if_neg h]; rfl)
      rw [L_X3_giveOut_13, if_neg (znge 7 7 rfl (by omega) (by omega)), CN.1.2.2.2.1]
      by_cases hq : q < znp P
      · rw [if_neg (nI_ge hq (by omega)), lot]
        by_cases h0 : zhs P T fog l = 0
        · rw [if_pos (by rw [h0]; decide)]
          exact none (fun z => z.2.2 h0)
        · rw [if_neg (by simp [h0, bi])]
          have hlp : l < znp P := by
            apply Classical.byContradiction
            intro z
            exact h0 (by unfold zhs; rw [if_neg z])
          unfold J_X3_giveOut_j43
          rw [if_neg (by decide)]
          have g := gb_eq (fog := fog) hTC hlp hq h0
          refine Evs.bind (zc_bid hP CN (by omega) (c := 48) (T := T) (by rw [e48]; exact hT) (by omega) (q := q) (p := l) (lt := zlt P T fog) (x := zhs P T fog l) hq hlp (by rw [F.1 53 (by omega) (by omega) (by omega) (by omega)]; exact hx l hl7) zhs_6 h0 (by rw [F.1 52 (by omega) (by omega) (by omega) (by omega)]; exact hl)) (fun r hr => ?_)
          exact step r.2 r.1 hr.2 (hr.1.trans g.1)
      · rw [if_pos (nI_le (by omega) (by omega))]
        exact none (fun z => hq z.2.1)
  have key : ∀ j l f (N : Mem), l + j = 7 → j < f → (∀ l' q', l' < l → q' < 7 → N 58 (l' * 7 + q') = nI (gb P T fog l' q')) → Fg w M N → Evs (L_X3_giveOut_3 57 w 48 52 f (nI l) N) (fun M' => CB (gb P T fog) M' ∧ Fg w M M') := by
    intro j
    induction j with
    | zero =>
      intro l f N e hf r0 F
      obtain ⟨f, rfl⟩ : ∃ f', f = f' + 1 := ⟨f - 1, by omega⟩
      obtain rfl : l = 7 := by omega
      rw [L_X3_giveOut_3, if_pos (by decide)]
      exact Evs.pure ⟨r0, F⟩
    | succ j ih =>
      intro l f N e hf r0 F
      obtain ⟨f, rfl⟩ : ∃ f', f = f' + 1 := ⟨f - 1, by omega⟩
      rw [L_X3_giveOut_3, if_neg (znge 7 7 rfl (by omega) (by omega)), nI_1]
      refine Evs.bind (inn l (by omega) 7 0 FU N (by omega) (by decide) r0 (fun q' h => by omega) F) (fun N2 h2 => ?_)
      exact ih (l + 1) f N2 (by omega) (by omega) h2.1 h2.2
  exact key 7 0 FU M (by omega) (by decide) (fun l' q' h => by omega) ⟨fun _ _ _ _ _ => rfl, fun _ _ => rfl⟩
theorem gc_choose (hB : CB b M) (hb : ∀ l q, b l q ≤ 999) (hD : CD b 7 M) : Evs (F_X3_chooseFirstRow 57 M) (fun M' => (∀ l, l < 7 → M' 60 l = gI (gK b l (gM b l))) ∧ ∀ a, a ≠ 60 → M' a = M a) := by
  have key : ∀ j l f (N : Mem), l + j = 7 → j < f → (∀ l', l' < l → N 60 l' = gI (gK b l' (gM b l'))) → (∀ a, a ≠ 60 → N a = M a) → Evs (L_X3_chooseFirstRow_4 57 f (nI (gM b l)) (nI l) N) (fun M' => (∀ l, l < 7 → M' 60 l = gI (gK b l (gM b l))) ∧ ∀ a, a ≠ 60 → M' a = M a) := by
    intro j
    induction j with
    | zero =>
      intro l f N e hf r0 n1
      obtain ⟨f, rfl⟩ : ∃ f', f = f' + 1 := ⟨f - 1, by omega⟩
      obtain rfl : l = 7 := by omega
      rw [L_X3_chooseFirstRow_4, if_pos (by decide)]
      exact Evs.pure ⟨r0, n1⟩
    | succ j ih =>
      intro l f N e hf r0 n1
      obtain ⟨f, rfl⟩ : ∃ f', f = f' + 1 := ⟨f - 1, by omega⟩
      have hk := gF_le (b := b) (R := gD b (6 - l)) (v := gD b (7 - l) (gM b l)) (l := l) (t := gM b l) 7 0 (by omega)
      have hg : (nI (gM b l) ||| (if gI (gK b l (gM b l)) = (-1) then (0 : Int32) else ((1 : Int32) <<< (gI (gK b l (gM b l)) &&& 31)))) = nI (gM b (l + 1)) := by
        rw [gM]
        unfold gI
        by_cases h : gK b l (gM b l) = 7
        · rw [if_pos h, if_pos rfl, if_pos h]; exact Int32.or_zero
        · rw [if_neg h, if_neg (fun z => zneg1 (p := gK b l (gM b l)) (by unfold gK; omega) z.symm), if_neg h]
          exact (gMk_lt _ (gM_lt b l) _ (by unfold gK at h ⊢; omega)).2.1
      rw [L_X3_chooseFirstRow_4, if_neg (znge 7 7 rfl (by omega) (by omega)), gc_take (fun l q h1 h2 => by rw [n1 58 (by omega)]; exact hB l q h1 h2) hb (by omega) (gM_lt b l) (fun i t h1 h2 => by rw [n1 59 (by omega)]; exact hD i t h1 h2), zbs rfl, hg, zput_at (by omega) (by omega), nI_1]
      refine ih (l + 1) f _ (by omega) (by omega) (fun l' h => ?_) (fun a ha => by rw [up_ne (by omega)]; exact n1 a ha)
      by_cases e2 : l' = l
      · subst e2; rw [up_app, if_pos ⟨rfl, rfl⟩]
      · rw [up_app, if_neg (fun z => e2 z.2)]; exact r0 l' (by omega)
  unfold F_X3_chooseFirstRow
  exact Evs.bind (key 7 0 FU M (by omega) (by decide) (fun l' h => by omega) (fun _ _ => rfl)) (fun N h => Evs.pure h)
end CGIVEN
