/-! ===== given, the model's ===== -/
theorem gX_0 {b : Nat → Nat → Nat} {R : Nat → Nat} {l t n : Nat} (h : ∀ q, n ≤ q → b l q = 0) : ∀ j, gX b R l t (n + j) = gX b R l t n
  | 0 => rfl
  | j + 1 => by
    show (if gP b l t (n + j) = true then _ else gX b R l t (n + j)) = _
    rw [if_neg (by unfold gP; rw [h _ (by omega)]; simp)]
    exact gX_0 h j
theorem gD_0 {b : Nat → Nat → Nat} {n : Nat} (h : ∀ l q, n ≤ l → b l q = 0) : ∀ k t, k + n ≤ 7 → gD b k t = 0
  | 0, _, _ => rfl
  | k + 1, t, hk => by
    rw [gD]
    have := gX_0 (R := gD b k) (l := 6 - k) (t := t) (n := 0) (fun q _ => h _ q (by omega)) 7
    rw [Nat.zero_add] at this
    rw [this]
    exact gD_0 h k t (by omega)
theorem gF_0 {b : Nat → Nat → Nat} {R : Nat → Nat} {v l t n : Nat} (h : ∀ q, n ≤ q → b l q = 0) : ∀ j q, n ≤ q → gF b R v l t j q = 7
  | 0, _, _ => rfl
  | j + 1, q, hq => by
    rw [gF, if_neg (fun z => by have := z.1; unfold gP at this; rw [h q hq] at this; simp at this)]
    exact gF_0 h j (q + 1) (by omega)
theorem gF_n {b : Nat → Nat → Nat} {R : Nat → Nat} {v l t n : Nat} (h : ∀ q, n ≤ q → b l q = 0) : ∀ j q, gF b R v l t j q = 7 ∨ gF b R v l t j q < n
  | 0, _ => Or.inl rfl
  | j + 1, q => by
    rw [gF]
    split
    · rename_i z
      refine Or.inr (Classical.byContradiction (fun y => ?_))
      have := z.1
      unfold gP at this
      rw [h q (by omega)] at this
      simp at this
    · exact gF_n h j (q + 1)
theorem gM_n {b : Nat → Nat → Nat} {n : Nat} (hn : n < 8) (h : ∀ l q, n ≤ q → b l q = 0) : ∀ l, gM b l < 2 ^ n
  | 0 => Nat.two_pow_pos n
  | l + 1 => by
    rw [gM]
    split
    · exact gM_n hn h l
    · rename_i z
      rcases gF_n (R := gD b (6 - l)) (v := gD b (7 - l) (gM b l)) (l := l) (t := gM b l) (h l) 7 0 with e | e
      · exact absurd e z
      · exact gMk_n n hn _ (gM_n hn h l) _ e
section MGIVEN
variable {M : Mem} {P : Pl} {T : Tn} {fog : Nat}
theorem gb_n (P : Pl) (T : Tn) (fog l q : Nat) (h : znp P ≤ l ∨ znp P ≤ q) : gb P T fog l q = 0 := by
  unfold gb; rw [if_neg (fun z => by omega)]
/-- what the giving out stands on -/
def HG (P : Pl) (T : Tn) (fog : Nat) (M : Mem) : Prop := MP M P ∧ MT (mrow M) T ∧ (∀ p, p < znp P → M 87 p = zhs P T fog p) ∧ M 67 39 = zlots P T fog
def Fy (M M' : Mem) : Prop := ∀ a, a ≠ 85 → a ≠ 86 → a ≠ 92 → M' a = M a
theorem Fy.tr {M M1 M2 : Mem} (h : Fy M M1) (h2 : Fy M1 M2) : Fy M M2 := fun a x y z => (h2 a x y z).trans (h a x y z)
theorem HG.of {M' : Mem} (h : HG P T fog M) (F : Fy M M') : HG P T fog M' := by
  refine ⟨h.1.of (fun a _ _ => F a (by omega) (by omega) (by omega)), ?_, ?_, ?_⟩
  · rw [mrow_of (M := M) (fun k _ _ => by rw [F 67 (by omega) (by omega) (by omega)]) (F _ (by omega) (by omega) (by omega)) (F _ (by omega) (by omega) (by omega)) (F _ (by omega) (by omega) (by omega))]
    exact h.2.1
  · rw [F 87 (by omega) (by omega) (by omega)]; exact h.2.2.1
  · rw [F 67 (by omega) (by omega) (by omega)]; exact h.2.2.2
theorem zsl7 : ∀ l, l < 9 → nI l <<< ((7 : Int32) &&& 31) = nI (l * 128) := by decide +kernel
theorem zdn1 : ∀ l, l < 9 → nI l - 1 = if l = 0 then -1 else nI (l - 1) := by decide +kernel
theorem zdn2 : ∀ l, l < 9 → nI l + (-1) = if l = 0 then -1 else nI (l - 1) := by decide +kernel
theorem z2n : ∀ n, n < 9 → (1 : Int32) <<< (nI n &&& 31) = nI (2 ^ n) := by decide +kernel
theorem z2n7 : ∀ n, n < 8 → 2 ^ n ≤ 128 := by decide +kernel
theorem zlots_bt {l : Nat} (h7 : znp P ≤ 7) (hl : l < znp P) : bt (zlots P T fog) l = !(zhs P T fog l == 0) := by
  unfold zlots
  rw [zmk_bt _ (by omega) (by omega)]
  unfold zhs
  rw [if_pos hl]
  simp [hl]
theorem gm_bid (hP : PW P) (hTC : TC T) (h : HG P T fog M) {l q : Nat} (hl : l < znp P) (hq : q < znp P) (h0 : ¬ zhs P T fog l = 0) : Evs (F_X12_bidOf 67 (nI q) (nI l) M) (fun r => r.1 = nI (gb P T fog l q) ∧ ∀ a, a ≠ 85 → a ≠ 86 → r.2 a = M a) := by
  have h7 := hP.2.2.1
  refine (zm_bid hP h.1 h.2.1 hq hl (h.2.2.1 l hl) zhs_6 h0 h.2.2.2 (fun i h1 h2 => ?_) (zlt_ct hP T fog)).mono (fun r hr => ⟨hr.1.trans (gb_eq hTC hl hq h0).1, hr.2⟩)
  unfold zlots
  rw [zmk_bt _ h2 (by omega)]
  simp; intro z; omega
theorem gm_may (hP : PW P) (hTC : TC T) (h : HG P T fog M) {l q t : Nat} (hl : l < znp P) (hq : q < znp P) (ht : t < 2 ^ znp P) : Evs (F_X12_mayHave 67 (nI q) (nI l) (nI t) M) (fun r => r.1 = gP (gb P T fog) l t q ∧ ∀ a, a ≠ 85 → a ≠ 86 → r.2 a = M a) := by
  have h7 := hP.2.2.1
  have t7 := z2n7 (znp P) (by omega)
  have g := gMk_lt t (by omega) q (by omega)
  unfold F_X12_mayHave
  rw [h.2.2.2, zis (by omega), zlots_bt h7 hl, zis (by omega), g.2.2]
  by_cases h0 : zhs P T fog l = 0
  · rw [if_pos (by rw [h0]; decide)]
    refine Evs.pure ⟨?_, fun _ _ _ => rfl⟩
    show false = _
    unfold gP gb
    rw [if_neg (fun z => z.2.2 h0)]; simp
  · rw [if_neg (by simp [h0, bi])]
    by_cases h1 : t.testBit q = true
    · rw [if_neg (by rw [h1]; decide)]
      refine Evs.pure ⟨?_, fun _ _ _ => rfl⟩
      show false = _
      unfold gP; rw [h1]; simp
    · rw [if_pos (by rw [zbi]; simpa using h1)]
      refine Evs.bind (gm_bid hP hTC h hl hq h0) (fun r hr => ?_)
      have b9 := gb_le (P := P) hTC fog l q
      rw [hr.1]
      by_cases h2 : gb P T fog l q = 0
      · rw [if_pos (by rw [h2]; decide)]
        refine Evs.pure ⟨?_, hr.2⟩
        show false = _
        unfold gP; rw [h2]; simp
      · rw [if_neg (show ¬ nI (gb P T fog l q) ≤ 0 from nI_ge (a := 0) (b := gb P T fog l q) (by omega) (by omega))]
        refine Evs.pure ⟨?_, hr.2⟩
        show true = _
        unfold gP; simp [h1]; omega
theorem gm_with (hP : PW P) (hTC : TC T) (h : HG P T fog M) {l q t : Nat} {R : Nat → Nat} (hl : l < znp P) (hq : q < znp P) (ht : t < 2 ^ znp P) (hg : gP (gb P T fog) l t q = true) (hR : ∀ t, t < 2 ^ znp P → M 92 ((l + 1) * 128 + t) = nI (R t)) : Evs (F_X12_with 67 (nI l) (nI t) (nI q) M) (fun r => r.1 = nI (gb P T fog l q + R (gMk t q)) ∧ ∀ a, a ≠ 85 → a ≠ 86 → r.2 a = M a) := by
  have h7 := hP.2.2.1
  have t7 := z2n7 (znp P) (by omega)
  have g := gMk_lt t (by omega) q (by omega)
  have h0 : ¬ zhs P T fog l = 0 := fun z => by
    unfold gP gb at hg
    rw [if_neg (fun y => y.2.2 z)] at hg
    simp at hg
  unfold F_X12_with
  rw [if_neg (fun z => zneg1 (by omega) z.symm)]
  refine Evs.bind (gm_bid hP hTC h hl hq h0) (fun r hr => ?_)
  rw [nI_1, zsl7 _ (by omega), g.2.1, nI_add, zald (by omega) (by omega), zbs rfl, hr.2 (67 + 25) (by omega) (by omega), show M (67 + 25) ((l + 1) * 128 + gMk t q) = _ from hR _ (gMk_n _ (by omega) _ ht _ hq), hr.1, nI_add]
  exact Evs.pure ⟨rfl, hr.2⟩
/-- rows from lo on -/
def MD (P : Pl) (T : Tn) (fog lo : Nat) (M : Mem) : Prop := ∀ l t, lo ≤ l → l ≤ znp P → t < 2 ^ znp P → M 92 (l * 128 + t) = nI (gD (gb P T fog) (7 - l) t)
theorem gm_best (hP : PW P) (hTC : TC T) (h : HG P T fog M) {l t : Nat} (hl : l < znp P) (ht : t < 2 ^ znp P) (hD : MD P T fog (l + 1) M) : Evs (L_X12_tellMost_71 67 (nI (2 ^ znp P)) (nI l) (nI t) FU (nI (gX (gb P T fog) (gD (gb P T fog) (6 - l)) l t 0)) 0 M) (fun r => r.1 = nI (gD (gb P T fog) (7 - l) t) ∧ ∀ a, a ≠ 85 → a ≠ 86 → r.2 a = M a) := by
  have h7 := hP.2.2.1
  have t7 := z2n7 (znp P) (by omega)
  have hb := gb_le (P := P) hTC fog
  have hR : ∀ t, t < 2 ^ znp P → M 92 ((l + 1) * 128 + t) = nI (gD (gb P T fog) (6 - l) t) := fun t ht => by
    have := hD (l + 1) t (by omega) (by omega) ht
    rwa [show 7 - (l + 1) = 6 - l by omega] at this
  have hm : ∀ t, t < 128 → gD (gb P T fog) (6 - l) t ≤ 9999 := fun t ht => by have := gD_le hb (6 - l) t ht; omega
  have key : ∀ j k f (N : Mem), k + j = znp P → j < f → (∀ a, a ≠ 85 → a ≠ 86 → N a = M a) → Evs (L_X12_tellMost_71 67 (nI (2 ^ znp P)) (nI l) (nI t) f (nI (gX (gb P T fog) (gD (gb P T fog) (6 - l)) l t k)) (nI k) N) (fun r => r.1 = nI (gD (gb P T fog) (7 - l) t) ∧ ∀ a, a ≠ 85 → a ≠ 86 → r.2 a = M a) := by
    intro j
    induction j with
    | zero =>
      intro k f N e hf n1
      obtain ⟨f, rfl⟩ : ∃ f', f = f' + 1 := ⟨f - 1, by omega⟩
      obtain rfl : k = znp P := by omega
      rw [L_X12_tellMost_71, n1 (67 + 3) (by omega) (by omega), show M (67 + 3) 3 = _ from h.1.1.2.2.2.1, if_pos (nI_le (by omega) (by omega))]
      refine Evs.pure ⟨?_, n1⟩
      show nI _ = _
      have e2 := gX_0 (R := gD (gb P T fog) (6 - l)) (l := l) (t := t) (n := znp P) (fun q hq => gb_n P T fog l q (Or.inr hq)) (7 - znp P)
      rw [show znp P + (7 - znp P) = 7 by omega] at e2
      rw [← e2, show 7 - l = (6 - l) + 1 by omega, gD, show 6 - (6 - l) = l by omega]
    | succ j ih =>
      intro k f N e hf n1
      obtain ⟨f, rfl⟩ : ∃ f', f = f' + 1 := ⟨f - 1, by omega⟩
      have hN : HG P T fog N := h.of (fun a x y _ => n1 a x y)
      have a1 := gX_le (R := gD (gb P T fog) (6 - l)) (l := l) hb (show t < 128 by omega) hm k (by omega)
      have a2 := hm _ (gMk_lt t (by omega) k (by omega)).1
      have a3 := hb l k
      rw [L_X12_tellMost_71, show N (67 + 3) 3 = _ from hN.1.1.2.2.2.1, if_neg (nI_ge (by omega) (by omega)), nI_1]
      refine Evs.bind (gm_may hP hTC hN (l := l) (q := k) (t := t) hl (by omega) ht) (fun r hr => ?_)
      have n2 : ∀ a, a ≠ 85 → a ≠ 86 → r.2 a = M a := fun a x y => (hr.2 a x y).trans (n1 a x y)
      rw [hr.1]
      by_cases g : gP (gb P T fog) l t k = true
      · rw [if_neg (by rw [g]; decide)]
        refine Evs.bind (gm_with hP hTC (h.of (fun a x y _ => n2 a x y)) hl (by omega) ht g (R := gD (gb P T fog) (6 - l)) (fun t ht => by rw [n2 92 (by omega) (by omega)]; exact hR t ht)) (fun s hs => ?_)
        rw [hs.1, zimx (by omega) (by omega)]
        have := ih (k + 1) f s.2 (by omega) (by omega) (fun a x y => (hs.2 a x y).trans (n2 a x y))
        rw [gX, if_pos g] at this
        exact this
      · rw [if_pos (by rw [zbi]; simpa using g)]
        have := ih (k + 1) f r.2 (by omega) (by omega) n2
        rw [gX, if_neg g] at this
        exact this
  exact key (znp P) 0 FU M (by omega) (by unfold FU; omega) (fun _ _ _ => rfl)
theorem gm_row (hP : PW P) (hTC : TC T) (h : HG P T fog M) {l : Nat} (hl : l < znp P) (hD : MD P T fog (l + 1) M) : Evs (L_X12_tellMost_54 67 (nI (2 ^ znp P)) (nI l) FU 0 M) (fun M' => MD P T fog l M' ∧ Fy M M') := by
  have h7 := hP.2.2.1
  have t7 := z2n7 (znp P) (by omega)
  have key : ∀ j t f (N : Mem), t + j = 2 ^ znp P → j < f → MD P T fog (l + 1) N → (∀ u, u < t → N 92 (l * 128 + u) = nI (gD (gb P T fog) (7 - l) u)) → Fy M N → Evs (L_X12_tellMost_54 67 (nI (2 ^ znp P)) (nI l) f (nI t) N) (fun M' => MD P T fog l M' ∧ Fy M M') := by
    intro j
    induction j with
    | zero =>
      intro t f N e hf d1 r1 F
      obtain ⟨f, rfl⟩ : ∃ f', f = f' + 1 := ⟨f - 1, by omega⟩
      obtain rfl : t = 2 ^ znp P := by omega
      rw [L_X12_tellMost_54, if_pos (nI_le (by omega) (by omega))]
      refine Evs.pure ⟨fun i u hi hn hu => ?_, F⟩
      by_cases e2 : i = l
      · subst e2; exact r1 u hu
      · exact d1 i u (by omega) hn hu
    | succ j ih =>
      intro t f N e hf d1 r1 F
      obtain ⟨f, rfl⟩ : ∃ f', f = f' + 1 := ⟨f - 1, by omega⟩
      have hw : F_X12_with 67 (nI l) (nI t) (-1) N = some (nI (gX (gb P T fog) (gD (gb P T fog) (6 - l)) l t 0), N) := by
        unfold F_X12_with
        rw [if_pos rfl, nI_1, zsl7 _ (by omega), nI_add, zald (by omega) (by omega), zbs rfl]
        have := d1 (l + 1) t (by omega) (by omega) (by omega)
        rw [show 7 - (l + 1) = 6 - l by omega] at this
        rw [show N (67 + 25) ((l + 1) * 128 + t) = _ from this]
        rfl
      rw [L_X12_tellMost_54, if_neg (nI_ge (by omega) (by omega)), hw, zbs rfl, nI_1]
      refine Evs.bind (gm_best hP hTC (h.of F) hl (t := t) (by omega) d1) (fun r hr => ?_)
      rw [zsl7 _ (by omega), nI_add, zast (by omega) (by omega), zbs rfl, hr.1]
      have e92 : ∀ i, i ≠ l * 128 + t → (up r.2 (67 + 25) (l * 128 + t) (nI (gD (gb P T fog) (7 - l) t))) 92 i = N 92 i := fun i hi => by rw [up_app, if_neg (fun z => hi z.2), hr.2 92 (by omega) (by omega)]
      refine ih (t + 1) f _ (by omega) (by omega) (fun i u hi hn hu => by rw [e92 _ (by omega)]; exact d1 i u hi hn hu) (fun u hu => ?_) (F.tr (fun a x y z => by rw [up_ne (by omega)]; exact hr.2 a x y))
      by_cases e2 : u = t
      · subst e2
        rw [up_app, if_pos ⟨rfl, rfl⟩]
      · rw [e92 _ (by omega)]; exact r1 u (by omega)
  exact key (2 ^ znp P) 0 FU M (by omega) (by unfold FU; omega) hD (fun u hu => by omega) (fun _ _ _ _ => rfl)
theorem gm_most (hP : PW P) (hTC : TC T) (h : HG P T fog M) : Evs (F_X12_tellMost 67 M) (fun M' => MD P T fog 0 M' ∧ Fy M M') := by
  have h7 := hP.2.2.1
  have t7 := z2n7 (znp P) (by omega)
  have zero : ∀ j t f (N : Mem), t + j = 2 ^ znp P → j < f → (∀ u, u < t → N 92 (znp P * 128 + u) = 0) → Fy M N → Evs (L_X12_tellMost_11 67 (nI (2 ^ znp P)) f (nI t) N) (fun M' => (∀ u, u < 2 ^ znp P → M' 92 (znp P * 128 + u) = 0) ∧ Fy M M') := by
    intro j
    induction j with
    | zero =>
      intro t f N e hf r1 F
      obtain ⟨f, rfl⟩ : ∃ f', f = f' + 1 := ⟨f - 1, by omega⟩
      obtain rfl : t = 2 ^ znp P := by omega
      rw [L_X12_tellMost_11, if_pos (nI_le (by omega) (by omega))]
      exact Evs.pure ⟨r1, F⟩
    | succ j ih =>
      intro t f N e hf r1 F
      obtain ⟨f, rfl⟩ : ∃ f', f = f' + 1 := ⟨f - 1, by omega⟩
      rw [L_X12_tellMost_11, if_neg (nI_ge (by omega) (by omega)), show N (67 + 3) 3 = _ from (h.of F).1.1.2.2.2.1, zsl7 _ (by omega), nI_add, zast (by omega) (by omega), zbs rfl, nI_1]
      refine ih (t + 1) f _ (by omega) (by omega) (fun u hu => ?_) (F.tr (fun a x y z => by rw [up_ne (by omega)]))
      by_cases e2 : u = t
      · subst e2; rw [up_app, if_pos ⟨rfl, rfl⟩]
      · rw [up_app, if_neg (fun z => by omega)]; exact r1 u (by omega)
  have key : ∀ j k f (N : Mem), k + j = znp P → k = j ∨ True → k < f → MD P T fog k N → Fy M N → Evs (L_X12_tellMost_48 67 (nI (2 ^ znp P)) f (if k = 0 then -1 else nI (k - 1)) N) (fun M' => MD P T fog 0 M' ∧ Fy M M') := by
    intro j k
    induction k generalizing j with
    | zero =>
      intro f N e _ hf d1 F
      obtain ⟨f, rfl⟩ : ∃ f', f = f' + 1 := ⟨f - 1, by omega⟩
      rw [L_X12_tellMost_48, if_pos (by decide)]
      exact Evs.pure ⟨d1, F⟩
    | succ k ih =>
      intro f N e _ hf d1 F
      obtain ⟨f, rfl⟩ : ∃ f', f = f' + 1 := ⟨f - 1, by omega⟩
      rw [L_X12_tellMost_48, if_neg (by omega : ¬ k + 1 = 0), Nat.add_sub_cancel, if_neg (nI_pos (by omega)), zdn2 _ (by omega)]
      refine Evs.bind (gm_row hP hTC (h.of F) (l := k) (by omega) d1) (fun N2 h2 => ?_)
      exact ih (j + 1) f N2 (by omega) (Or.inr trivial) (by omega) h2.1 (F.tr h2.2)
  unfold F_X12_tellMost
  rw [show M (67 + 3) 3 = _ from h.1.1.2.2.2.1, z2n _ (by omega)]
  refine Evs.bind (zero (2 ^ znp P) 0 FU M (by omega) (by unfold FU; omega) (fun u hu => by omega) (fun _ _ _ _ => rfl)) (fun N1 h1 => ?_)
  rw [show N1 (67 + 3) 3 = _ from (h.of h1.2).1.1.2.2.2.1, zdn1 _ (by omega)]
  refine Evs.bind (key 0 (znp P) FU N1 (by omega) (Or.inr trivial) (by unfold FU; omega) (fun l t a1 a2 a3 => ?_) h1.2) (fun N2 h2 => Evs.pure h2)
  obtain rfl : l = znp P := by omega
  rw [h1.1 t a3, gD_0 (n := znp P) (fun l q hq => gb_n P T fog l q (Or.inl hq)) (7 - znp P) t (by omega)]
  rfl
theorem gm_take (hP : PW P) (hTC : TC T) (h : HG P T fog M) {l t : Nat} (x1 : Int32) (hl : l < znp P) (ht : t < 2 ^ znp P) (hD : MD P T fog 0 M) : Evs (L_X12_given_76 67 x1 (nI t) (nI l) FU (-1) (nI (znp P) - 1) M) (fun r => r.1 = gI (gK (gb P T fog) l t) ∧ ∀ a, a ≠ 85 → a ≠ 86 → r.2 a = M a) := by
  have h7 := hP.2.2.1
  have t7 := z2n7 (znp P) (by omega)
  have hb := gb_le (P := P) hTC fog
  have hR : ∀ t, t < 2 ^ znp P → M 92 ((l + 1) * 128 + t) = nI (gD (gb P T fog) (6 - l) t) := fun t ht => by
    have := hD (l + 1) t (by omega) (by omega) ht
    rwa [show 7 - (l + 1) = 6 - l by omega] at this
  have hv := hD l t (by omega) (by omega) ht
  have l1 := gD_le hb (7 - l) t (by omega)
  have key : ∀ k f (N : Mem), k ≤ znp P → k < f → (∀ a, a ≠ 85 → a ≠ 86 → N a = M a) → Evs (L_X12_given_76 67 x1 (nI t) (nI l) f (gI (gF (gb P T fog) (gD (gb P T fog) (6 - l)) (gD (gb P T fog) (7 - l) t) l t (7 - k) k)) (if k = 0 then -1 else nI (k - 1)) N) (fun r => r.1 = gI (gK (gb P T fog) l t) ∧ ∀ a, a ≠ 85 → a ≠ 86 → r.2 a = M a) := by
    intro k
    induction k with
    | zero =>
      intro f N e hf n1
      obtain ⟨f, rfl⟩ : ∃ f', f = f' + 1 := ⟨f - 1, by omega⟩
      rw [L_X12_given_76, if_pos (by decide)]
      exact Evs.pure ⟨rfl, n1⟩
    | succ k ih =>
      intro f N e hf n1
      obtain ⟨f, rfl⟩ : ∃ f', f = f' + 1 := ⟨f - 1, by omega⟩
      have a2 := gD_le hb (6 - l) _ (gMk_lt t (by omega) k (by omega)).1
      have a3 := hb l k
      rw [L_X12_given_76, if_neg (by omega : ¬ k + 1 = 0), Nat.add_sub_cancel, if_neg (nI_pos (by omega)), zdn2 _ (by omega)]
      have eF : gF (gb P T fog) (gD (gb P T fog) (6 - l)) (gD (gb P T fog) (7 - l) t) l t (7 - k) k = if gP (gb P T fog) l t k = true ∧ gb P T fog l k + gD (gb P T fog) (6 - l) (gMk t k) = gD (gb P T fog) (7 - l) t then k else gF (gb P T fog) (gD (gb P T fog) (6 - l)) (gD (gb P T fog) (7 - l) t) l t (7 - (k + 1)) (k + 1) := by
        rw [show 7 - k = 7 - (k + 1) + 1 by omega, gF]
      refine Evs.bind (gm_may hP hTC (h.of (fun a x y _ => n1 a x y)) (l := l) (q := k) (t := t) hl (by omega) ht) (fun r hr => ?_)
      have n2 : ∀ a, a ≠ 85 → a ≠ 86 → r.2 a = M a := fun a x y => (hr.2 a x y).trans (n1 a x y)
      rw [hr.1]
      by_cases g : gP (gb P T fog) l t k = true
      · rw [if_neg (by rw [g]; decide)]
        refine Evs.bind (gm_with hP hTC (h.of (fun a x y _ => n2 a x y)) hl (by omega) ht g (R := gD (gb P T fog) (6 - l)) (fun t ht => by rw [n2 92 (by omega) (by omega)]; exact hR t ht)) (fun s hs => ?_)
        have n3 : ∀ a, a ≠ 85 → a ≠ 86 → s.2 a = M a := fun a x y => (hs.2 a x y).trans (n2 a x y)
        rw [zsl7 _ (by omega), nI_add, zald (by omega) (by omega), zbs rfl, hs.1, n3 (67 + 25) (by omega) (by omega), show M (67 + 25) (l * 128 + t) = _ from hv]
        by_cases c : gb P T fog l k + gD (gb P T fog) (6 - l) (gMk t k) = gD (gb P T fog) (7 - l) t
        · rw [if_pos (by rw [c])]
          have := ih f s.2 (by omega) (by omega) n3
          rw [eF, if_pos ⟨g, c⟩, show gI k = nI k from if_neg (by omega)] at this
          exact this
        · rw [if_neg (fun z => c ((nI_eq (by omega) (by omega)).mp z))]
          have := ih f s.2 (by omega) (by omega) n3
          rw [eF, if_neg (fun z => c z.2)] at this
          exact this
      · rw [if_pos (by rw [zbi]; simpa using g)]
        have := ih f r.2 (by omega) (by omega) n2
        rw [eF, if_neg (fun z => g z.1)] at this
        exact this
  have := key (znp P) FU M (by omega) (by unfold FU; omega) (fun _ _ _ => rfl)
  rw [gF_0 (fun q hq => gb_n P T fog l q (Or.inr hq)) _ _ (Nat.le_refl _)] at this
  rw [zdn1 _ (by omega)]
  exact this
theorem gm_choose (hP : PW P) (hTC : TC T) (h : HG P T fog M) {p : Nat} (hp : p < znp P) (hD : MD P T fog 0 M) : Evs (L_X12_given_58 67 (nI p) FU 0 (-1) 0 M) (fun r => r.1 = gI (gK (gb P T fog) p (gM (gb P T fog) p)) ∧ Fy M r.2) := by
  have h7 := hP.2.2.1
  have t7 := z2n7 (znp P) (by omega)
  have key : ∀ j l f (N : Mem) (x3 : Int32), l + j = p + 1 → j < f → (l = 0 ∨ x3 = gI (gK (gb P T fog) (l - 1) (gM (gb P T fog) (l - 1)))) → (∀ a, a ≠ 85 → a ≠ 86 → N a = M a) → Evs (L_X12_given_58 67 (nI p) f (nI (gM (gb P T fog) l)) x3 (nI l) N) (fun r => r.1 = gI (gK (gb P T fog) p (gM (gb P T fog) p)) ∧ Fy M r.2) := by
    intro j
    induction j with
    | zero =>
      intro l f N x3 e hf r0 n1
      obtain ⟨f, rfl⟩ : ∃ f', f = f' + 1 := ⟨f - 1, by omega⟩
      obtain rfl : l = p + 1 := by omega
      rw [L_X12_given_58, if_pos (nI_lt (by omega) (by omega))]
      refine Evs.pure ⟨?_, fun a x y _ => n1 a x y⟩
      rcases r0 with z | z
      · omega
      · exact z
    | succ j ih =>
      intro l f N x3 e hf r0 n1
      obtain ⟨f, rfl⟩ : ∃ f', f = f' + 1 := ⟨f - 1, by omega⟩
      have hN : HG P T fog N := h.of (fun a x y _ => n1 a x y)
      have gl := gM_n (b := gb P T fog) (n := znp P) (by omega) (fun l q hq => gb_n P T fog l q (Or.inr hq)) l
      rw [L_X12_given_58, if_neg (nI_nlt (by omega) (by omega)), show N (67 + 3) 3 = _ from hN.1.1.2.2.2.1, nI_1]
      refine Evs.bind (gm_take hP hTC hN (nI p) (l := l) (by omega) gl (fun l t a1 a2 a3 => by rw [n1 92 (by omega) (by omega)]; exact hD l t a1 a2 a3)) (fun r hr => ?_)
      have hg : (nI (gM (gb P T fog) l) ||| (if r.1 = (-1) then (0 : Int32) else ((1 : Int32) <<< (r.1 &&& 31)))) = nI (gM (gb P T fog) (l + 1)) := by
        rw [hr.1, gM]
        have hk := gF_le (b := gb P T fog) (R := gD (gb P T fog) (6 - l)) (v := gD (gb P T fog) (7 - l) (gM (gb P T fog) l)) (l := l) (t := gM (gb P T fog) l) 7 0 (by omega)
        unfold gI
        by_cases h : gK (gb P T fog) l (gM (gb P T fog) l) = 7
        · rw [if_pos h, if_pos rfl, if_pos h]; exact Int32.or_zero
        · rw [if_neg h, if_neg (fun z => zneg1 (p := gK (gb P T fog) l (gM (gb P T fog) l)) (by unfold gK; omega) z.symm), if_neg h]
          exact (gMk_lt _ (gM_lt _ l) _ (by unfold gK at h ⊢; omega)).2.1
      rw [hg]
      exact ih (l + 1) f r.2 r.1 (by omega) (by omega) (Or.inr (by rw [hr.1, Nat.add_sub_cancel])) (fun a x y => (hr.2 a x y).trans (n1 a x y))
  exact key (p + 1) 0 FU M (-1) (by omega) (by unfold FU; omega) (Or.inl rfl) (fun _ _ _ => rfl)
end MGIVEN
