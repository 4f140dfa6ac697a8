/-! ===== tokens ===== -/
def yw (f : Nat → Bool) (n : Nat) : Nat → Nat → Nat
  | 0, p => p
  | j + 1, p => if p < n ∧ f p = true then yw f n j (p + 1) else p
theorem yw_ge (f : Nat → Bool) (n : Nat) : ∀ j p, p ≤ yw f n j p
  | 0, p => Nat.le_refl _
  | j + 1, p => by
    rw [yw]; split
    · have := yw_ge f n j (p + 1); omega
    · exact Nat.le_refl _
theorem yw_le (f : Nat → Bool) (n : Nat) : ∀ j p, p ≤ n → yw f n j p ≤ n
  | 0, p, h => h
  | j + 1, p, h => by
    rw [yw]; split
    · exact yw_le f n j (p + 1) (by omega)
    · exact h
def ybl (c : Nat) : Bool := c == 32 || c == 10
def ylt (c : Nat) : Bool := decide (97 ≤ c) && decide (c ≤ 122)
def ydg (c : Nat) : Bool := decide (48 ≤ c) && decide (c ≤ 57)
def ysg (c : Nat) : Bool := (decide (40 ≤ c) && decide (c ≤ 43)) || c == 45 || c == 47 || (decide (59 ≤ c) && decide (c ≤ 61))
def yta (y : Nat → Nat) (n p : Nat) : Nat := yw (fun i => ybl (y i)) n 700 p
def ytb (y : Nat → Nat) (n a : Nat) : Nat := if a < n then (if ylt (y a) = true then yw (fun i => ylt (y i)) n 700 a else if ydg (y a) = true then yw (fun i => ydg (y i)) n 700 a else a + 1) else a
def ytk (y : Nat → Nat) (n a : Nat) : Nat := if a < n then (if ylt (y a) = true then 1 else if ydg (y a) = true then 2 else if ysg (y a) = true then y a else 3) else 0
/-- the kind as the model has it -/
def ymo (k : Nat) : Nat := if k ≤ 2 then k else if k = 3 then 4 else 3
def yval (y : Nat → Nat) (a : Nat) : Nat → Nat
  | 0 => 0
  | l + 1 => 10 * yval y a l + (y (a + l) - 48)
theorem ysg_in : ∀ c, c < 256 → ysg c = true → 40 ≤ c ∧ c ≤ 61 := by decide +kernel
theorem yta_ge (y : Nat → Nat) (n p : Nat) : p ≤ yta y n p := yw_ge _ _ _ _
theorem yta_le (y : Nat → Nat) {n p : Nat} (h : p ≤ n) : yta y n p ≤ n := yw_le _ _ _ _ h
theorem ytb_gt (y : Nat → Nat) {n a : Nat} (h : a < n) : a < ytb y n a ∧ ytb y n a ≤ n := by
  have key : ∀ f : Nat → Bool, f a = true → a < yw f n 700 a ∧ yw f n 700 a ≤ n := fun f hf => by
    refine ⟨?_, yw_le f n 700 a (by omega)⟩
    show a < yw f n (699 + 1) a
    rw [yw, if_pos ⟨h, hf⟩]
    have := yw_ge f n 699 (a + 1); omega
  unfold ytb
  rw [if_pos h]
  split
  · rename_i q; exact key (fun i => ylt (y i)) q
  · split
    · rename_i q; exact key (fun i => ydg (y i)) q
    · omega
theorem ytb_end (y : Nat → Nat) {n a : Nat} (h : ¬ a < n) : ytb y n a = a ∧ ytk y n a = 0 := by
  unfold ytb ytk; rw [if_neg h, if_neg h]; exact ⟨rfl, rfl⟩
theorem ytk_ne {y : Nat → Nat} {n a : Nat} (hy : ∀ i, i < n → y i < 256) (h : a < n) : ytk y n a ≠ 0 ∧ ytk y n a ≤ 61 ∧ (3 < ytk y n a → ytk y n a = y a) := by
  unfold ytk
  rw [if_pos h]
  split
  · omega
  · split
    · omega
    · split
      · rename_i q
        have := ysg_in (y a) (hy a h) q
        omega
      · omega
theorem yc_bl : ∀ c, c < 256 → F_X5_isBlank (nI c) = ybl c := by decide +kernel
theorem yc_lt : ∀ c, c < 256 → F_X5_isLetter (nI c) = ylt c := by decide +kernel
theorem yc_dg : ∀ c, c < 256 → F_X5_isDigit (nI c) = ydg c := by decide +kernel
theorem yc_sg {M : Mem} : ∀ c, c < 256 → F_X5_isSign (nI c) M = ysg c := fun c h => (show ∀ c, c < 256 → F_X5_isSign (nI c) (fun _ _ => 0) = ysg c by decide +kernel) c h
theorem ym_lt : ∀ c, c < 256 → F_X12_isLetter (nI c) = ylt c := by decide +kernel
theorem ym_dg : ∀ c, c < 256 → F_X12_isDigit (nI c) = ydg c := by decide +kernel
theorem ym_mk : ∀ c, c < 256 → F_X12_isMark (nI c) = ysg c := by decide +kernel
theorem ym_bl : ∀ c, c < 256 → (ybl c = true ↔ nI c = 32 ∨ nI c = 10) := by decide +kernel
theorem ydg_in : ∀ c, c < 256 → ydg c = true → 48 ≤ c ∧ c ≤ 57 := by decide +kernel
theorem ylt_dg : ∀ c, c < 256 → ylt c = true → ydg c = false := by decide +kernel
theorem yval_lt {y : Nat → Nat} {a : Nat} : ∀ l, (∀ i, i < l → ydg (y (a + i)) = true ∧ y (a + i) < 256) → yval y a l < 10 ^ l
  | 0, _ => Nat.one_pos
  | l + 1, h => by
    have ih := yval_lt l (fun i hi => h i (by omega))
    have := h l (by omega)
    have := ydg_in _ this.2 this.1
    rw [yval, Nat.pow_succ]; omega
/-- the class's reader, the model's -/
def KC (y : Nat → Nat) (n : Nat) (N : Mem) (a b k : Nat) : Prop := N 1 3 = nI n ∧ N 1 4 = nI a ∧ N 1 5 = nI b ∧ N 1 6 = nI k ∧ (k = 2 → b ≤ a + 4 → N 1 7 = nI (yval y a (b - a)) ∧ yval y a (b - a) < 10000) ∧ ∀ i, i < n → N 2 i = nI (y i)
def KM (y : Nat → Nat) (n : Nat) (N : Mem) (a b k : Nat) : Prop := N 67 16 = nI n ∧ N 67 19 = nI a ∧ N 67 15 = nI b ∧ N 67 20 = nI b ∧ N 67 17 = nI (ymo k) ∧ (k = 2 → b ≤ a + 4 → N 67 18 = nI (yval y a (b - a))) ∧ ∀ i, i < n → N 80 i = nI (y i)
def Ft (M M' : Mem) : Prop := (∀ c, c ≠ 1 → M' c = M c) ∧ ∀ k, k ≠ 4 → k ≠ 5 → k ≠ 6 → k ≠ 7 → M' 1 k = M 1 k
def Gt (M M' : Mem) : Prop := (∀ c, c ≠ 67 → M' c = M c) ∧ ∀ k, k ≠ 15 → k ≠ 17 → k ≠ 18 → k ≠ 19 → k ≠ 20 → M' 67 k = M 67 k
theorem Ft.rf {M : Mem} : Ft M M := ⟨fun _ _ => rfl, fun _ _ _ _ _ => rfl⟩
theorem Ft.tr {M M1 M2 : Mem} (h : Ft M M1) (h2 : Ft M1 M2) : Ft M M2 := ⟨fun a x => (h2.1 a x).trans (h.1 a x), fun k x1 x2 x3 x4 => (h2.2 k x1 x2 x3 x4).trans (h.2 k x1 x2 x3 x4)⟩
theorem Gt.rf {M : Mem} : Gt M M := ⟨fun _ _ => rfl, fun _ _ _ _ _ _ => rfl⟩
theorem Gt.tr {M M1 M2 : Mem} (h : Gt M M1) (h2 : Gt M1 M2) : Gt M M2 := ⟨fun a x => (h2.1 a x).trans (h.1 a x), fun k x1 x2 x3 x4 x5 => (h2.2 k x1 x2 x3 x4 x5).trans (h.2 k x1 x2 x3 x4 x5)⟩
theorem Ft.f {M : Mem} {k : Nat} {v : Int32} (h : k = 4 ∨ k = 5 ∨ k = 6 ∨ k = 7) : Ft M (up M 1 k v) := ⟨fun c hc => up_ne hc, fun j _ _ _ _ => by rw [up_app, if_neg (by omega)]⟩
theorem Gt.f {M : Mem} {k : Nat} {v : Int32} (h : k = 15 ∨ k = 17 ∨ k = 18 ∨ k = 19 ∨ k = 20) : Gt M (up M 67 k v) := ⟨fun c hc => up_ne hc, fun j _ _ _ _ _ => by rw [up_app, if_neg (by omega)]⟩
theorem up_at {M : Mem} {a k : Nat} {v : Int32} : up M a k v a k = v := by rw [up_app, if_pos ⟨rfl, rfl⟩]
theorem up_nk {M : Mem} {a k j : Nat} {v : Int32} (h : j ≠ k) : up M a k v a j = M a j := by rw [up_app, if_neg (fun z => h z.2)]
section TOK
variable {M : Mem} {y : Nat → Nat} {n : Nat}
theorem zc_adv (hn : n ≤ 700) (hy : ∀ i, i < n → y i < 256) {p : Nat} (hp : p ≤ n) (h3 : M 1 3 = nI n) (h5 : M 1 5 = nI p) (ht : ∀ i, i < n → M 2 i = nI (y i)) : Evs (F_X5_advance 1 M) (fun N => KC y n N (yta y n p) (ytb y n (yta y n p)) (ytk y n (yta y n p)) ∧ Ft M N) := by
  have k8 : ∀ j p f (N : Mem), n ≤ p + j → j < f → p ≤ n → N 1 4 = nI p → Ft M N → Evs (L_X5_advance_8 1 f N) (fun N' => N' 1 4 = nI (yw (fun i => ybl (y i)) n j p) ∧ Ft M N') := by
    intro j
    induction j with
    | zero =>
      intro p f N e hf hp h4 F
      obtain ⟨f, rfl⟩ : ∃ f', f = f' + 1 := ⟨f - 1, by omega⟩
      rw [L_X5_advance_8, F.2 3 (by omega) (by omega) (by omega) (by omega), h3, h4, if_pos (nI_le (by omega) (by omega))]
      exact Evs.pure ⟨h4, F⟩
    | succ j ih =>
      intro p f N e hf hp h4 F
      obtain ⟨f, rfl⟩ : ∃ f', f = f' + 1 := ⟨f - 1, by omega⟩
      rw [L_X5_advance_8, F.2 3 (by omega) (by omega) (by omega) (by omega), h3, h4, yw]
      by_cases q : p < n
      · rw [if_neg (nI_ge (by omega) (by omega)), zat_at (by omega) (by omega), show N (1 + 1) p = nI (y p) from by rw [F.1 (1 + 1) (by omega)]; exact ht p q, yc_bl _ (hy p q)]
        by_cases r : ybl (y p) = true
        · rw [if_neg (by rw [r]; decide), if_pos ⟨q, r⟩, nI_1]
          exact ih (p + 1) f _ (by omega) (by omega) (by omega) up_at (F.tr (Ft.f (by omega)))
        · rw [if_pos (by rw [zbi]; simpa using r), if_neg (fun z => r z.2)]
          exact Evs.pure ⟨h4, F⟩
      · rw [if_pos (nI_le (by omega) (by omega)), if_neg (fun z => q z.1)]
        exact Evs.pure ⟨h4, F⟩
  have k98 : ∀ j p f (N : Mem), n ≤ p + j → j < f → p ≤ n → N 1 5 = nI p → N 1 3 = nI n → (∀ i, i < n → N 2 i = nI (y i)) → Evs (L_X5_advance_98 1 f N) (fun N' => N' 1 5 = nI (yw (fun i => ylt (y i)) n j p) ∧ (∀ c, c ≠ 1 → N' c = N c) ∧ ∀ k, k ≠ 5 → N' 1 k = N 1 k) := by
    intro j
    induction j with
    | zero =>
      intro p f N e hf hp h4 h3 ht
      obtain ⟨f, rfl⟩ : ∃ f', f = f' + 1 := ⟨f - 1, by omega⟩
      rw [L_X5_advance_98, h3, h4, if_pos (nI_le (by omega) (by omega))]
      exact Evs.pure ⟨h4, fun _ _ => rfl, fun _ _ => rfl⟩
    | succ j ih =>
      intro p f N e hf hp h4 h3 ht
      obtain ⟨f, rfl⟩ : ∃ f', f = f' + 1 := ⟨f - 1, by omega⟩
      rw [L_X5_advance_98, h3, h4, yw]
      by_cases q : p < n
      · rw [if_neg (nI_ge (by omega) (by omega)), zat_at (by omega) (by omega), show N (1 + 1) p = nI (y p) from ht p q, yc_lt _ (hy p q)]
        by_cases r : ylt (y p) = true
        · rw [if_neg (by rw [r]; decide), if_pos ⟨q, r⟩, nI_1]
          refine (ih (p + 1) f _ (by omega) (by omega) (by omega) up_at (by rw [up_nk (by omega)]; exact h3) (fun i hi => by rw [up_ne (by omega)]; exact ht i hi)).mono (fun N' h => ⟨h.1, fun c hc => by rw [h.2.1 c hc, up_ne hc], fun k hk => by rw [h.2.2 k hk, up_nk hk]⟩)
        · rw [if_pos (by rw [zbi]; simpa using r), if_neg (fun z => r z.2)]
          exact Evs.pure ⟨h4, fun _ _ => rfl, fun _ _ => rfl⟩
      · rw [if_pos (nI_le (by omega) (by omega)), if_neg (fun z => q z.1)]
        exact Evs.pure ⟨h4, fun _ _ => rfl, fun _ _ => rfl⟩
  have k5 : ∀ a j p f (N : Mem), n ≤ p + j → j < f → p ≤ n → a ≤ p → N 1 4 = nI a → N 1 5 = nI p → N 1 3 = nI n → (∀ i, i < n → N 2 i = nI (y i)) → (p ≤ a + 4 → N 1 7 = nI (yval y a (p - a)) ∧ ∀ i, i < p - a → ydg (y (a + i)) = true ∧ y (a + i) < 256) → Evs (L_X5_readDigits_5 1 f N) (fun N' => N' 1 5 = nI (yw (fun i => ydg (y i)) n j p) ∧ (yw (fun i => ydg (y i)) n j p ≤ a + 4 → N' 1 7 = nI (yval y a (yw (fun i => ydg (y i)) n j p - a)) ∧ ∀ i, i < yw (fun i => ydg (y i)) n j p - a → ydg (y (a + i)) = true ∧ y (a + i) < 256) ∧ (∀ c, c ≠ 1 → N' c = N c) ∧ ∀ k, k ≠ 5 → k ≠ 7 → N' 1 k = N 1 k) := by
    intro a j
    induction j with
    | zero =>
      intro p f N e hf hp ha h4 h5 h3 ht hv
      obtain ⟨f, rfl⟩ : ∃ f', f = f' + 1 := ⟨f - 1, by omega⟩
      rw [L_X5_readDigits_5, h3, h5, if_pos (nI_le (by omega) (by omega))]
      exact Evs.pure ⟨h5, hv, fun _ _ => rfl, fun _ _ _ => rfl⟩
    | succ j ih =>
      intro p f N e hf hp ha h4 h5 h3 ht hv
      obtain ⟨f, rfl⟩ : ∃ f', f = f' + 1 := ⟨f - 1, by omega⟩
      rw [L_X5_readDigits_5, h3, h5, yw]
      by_cases q : p < n
      · rw [if_neg (nI_ge (by omega) (by omega)), zat_at (by omega) (by omega), show N (1 + 1) p = nI (y p) from ht p q, yc_dg _ (hy p q)]
        by_cases r : ydg (y p) = true
        · rw [if_neg (by rw [r]; decide), if_pos (show p < n ∧ ydg (y p) = true from ⟨q, r⟩), h4, zsub ha]
          have hc := ydg_in _ (hy p q) r
          by_cases z : p < a + 4
          · rw [if_neg (znge 4 4 rfl (by omega) (by omega)), (hv (by omega)).1]
            have hv1 := yval_lt (p - a) (hv (by omega)).2
            have : 10 ^ (p - a) ≤ 1000 := by
              have : p - a ≤ 3 := by omega
              calc 10 ^ (p - a) ≤ 10 ^ 3 := Nat.pow_le_pow_right (by omega) this
                _ = 1000 := rfl
            have ev : 10 * nI (yval y a (p - a)) + nI (y p) - 48 = nI (yval y a (p + 1 - a)) := by
              rw [show (10 : Int32) = nI 10 from rfl, zmul, nI_add, show (48 : Int32) = nI 48 from rfl, zsub (by omega), show p + 1 - a = (p - a) + 1 by omega, yval, show a + (p - a) = p by omega]
              congr 1; omega
            rw [ev]
            unfold J_X5_readDigits_j72
            rw [show (up N 1 7 (nI (yval y a (p + 1 - a)))) 1 5 = nI p from by rw [up_nk (by omega)]; exact h5, nI_1]
            refine (ih (p + 1) f _ (by omega) (by omega) (by omega) (by omega) (by rw [up_nk (by omega), up_nk (by omega)]; exact h4) up_at (by rw [up_nk (by omega), up_nk (by omega)]; exact h3) (fun i hi => by rw [up_ne (by omega), up_ne (by omega)]; exact ht i hi) (fun _ => ⟨by rw [up_nk (by omega), up_at], fun i hi => ?_⟩)).mono (fun N' h => ⟨h.1, h.2.1, fun c hc => by rw [h.2.2.1 c hc, up_ne hc, up_ne hc], fun k hk hk2 => by rw [h.2.2.2 k hk hk2, up_nk hk, up_nk hk2]⟩)
            by_cases e2 : i = p - a
            · rw [e2, show a + (p - a) = p by omega]; exact ⟨r, hy p q⟩
            · exact (hv (by omega)).2 i (by omega)
          · rw [if_pos (zle 4 4 rfl (by omega) (by omega))]
            unfold J_X5_readDigits_j72
            rw [h5, nI_1]
            exact (ih (p + 1) f _ (by omega) (by omega) (by omega) (by omega) (by rw [up_nk (by omega)]; exact h4) up_at (by rw [up_nk (by omega)]; exact h3) (fun i hi => by rw [up_ne (by omega)]; exact ht i hi) (fun z2 => by omega)).mono (fun N' h => ⟨h.1, h.2.1, fun c hc => by rw [h.2.2.1 c hc, up_ne hc], fun k hk hk2 => by rw [h.2.2.2 k hk hk2, up_nk hk]⟩)
        · rw [if_pos (by rw [zbi]; simpa using r), if_neg (fun z => r z.2)]
          exact Evs.pure ⟨h5, hv, fun _ _ => rfl, fun _ _ _ => rfl⟩
      · rw [if_pos (nI_le (by omega) (by omega)), if_neg (fun z => q z.1)]
        exact Evs.pure ⟨h5, hv, fun _ _ => rfl, fun _ _ _ => rfl⟩
  unfold F_X5_advance
  rw [h5]
  refine Evs.bind (k8 700 p FU (up M 1 4 (nI p)) (by omega) (by decide) hp up_at (Ft.f (by omega))) (fun N h => ?_)
  obtain ⟨h4, F⟩ := h
  have ha : yta y n p ≤ n := yta_le y hp
  have h4 : N 1 4 = nI (yta y n p) := h4
  generalize yta y n p = a at ha h4 ⊢
  unfold J_X5_advance_j49
  have e4 : (up N 1 5 (N 1 4)) 1 4 = nI a := by rw [up_nk (by omega)]; exact h4
  have e5 : (up N 1 5 (N 1 4)) 1 5 = nI a := by rw [up_at]; exact h4
  have e3 : (up N 1 5 (N 1 4)) 1 3 = nI n := by rw [up_nk (by omega), F.2 3 (by omega) (by omega) (by omega) (by omega)]; exact h3
  have et : ∀ i, i < n → (up N 1 5 (N 1 4)) 2 i = nI (y i) := fun i hi => by rw [up_ne (by omega), F.1 2 (by omega)]; exact ht i hi
  have eF : Ft M (up N 1 5 (N 1 4)) := F.tr (Ft.f (by omega))
  generalize up N 1 5 (N 1 4) = N1 at e4 e5 e3 et eF ⊢
  rw [e4, e3]
  by_cases q : a < n
  · rw [if_pos (nI_lt q (by omega)), zat_at (by omega) (by omega), show N1 (1 + 1) a = nI (y a) from et a q, yc_lt _ (hy a q), yc_dg _ (hy a q), yc_sg _ (hy a q)]
    unfold ytb ytk
    rw [if_pos q, if_pos q]
    by_cases l : ylt (y a) = true
    · rw [if_neg (by rw [l]; decide), if_pos l, if_pos l]
      refine Evs.bind (k98 700 a FU (up N1 1 6 1) (by omega) (by decide) ha (by rw [up_nk (by omega)]; exact e5) (by rw [up_nk (by omega)]; exact e3) (fun i hi => by rw [up_ne (by omega)]; exact et i hi)) (fun N2 h2 => Evs.pure ⟨⟨?_, ?_, h2.1, ?_, fun z => by omega, fun i hi => ?_⟩, eF.tr ⟨fun c hc => by rw [h2.2.1 c hc, up_ne hc], fun k x1 x2 x3 x4 => by rw [h2.2.2 k x2, up_nk x3]⟩⟩)
      · rw [h2.2.2 3 (by omega), up_nk (by omega)]; exact e3
      · rw [h2.2.2 4 (by omega), up_nk (by omega)]; exact e4
      · rw [h2.2.2 6 (by omega), up_at]; rfl
      · rw [h2.2.1 2 (by omega), up_ne (by omega)]; exact et i hi
    · rw [if_pos (by rw [zbi]; simpa using l), if_neg l, if_neg l]
      by_cases d : ydg (y a) = true
      · rw [if_neg (by rw [d]; decide), if_pos d, if_pos d]
        unfold F_X5_readDigits
        rw [Option.bind_assoc]
        refine Evs.bind (k5 a 700 a FU (up (up N1 1 6 2) 1 7 0) (by omega) (by decide) ha (Nat.le_refl _) (by rw [up_nk (by omega), up_nk (by omega)]; exact e4) (by rw [up_nk (by omega), up_nk (by omega)]; exact e5) (by rw [up_nk (by omega), up_nk (by omega)]; exact e3) (fun i hi => by rw [up_ne (by omega), up_ne (by omega)]; exact et i hi) (fun _ => ⟨by rw [up_at, Nat.sub_self]; rfl, fun i hi => by omega⟩)) (fun N2 h2 => Evs.pure ⟨⟨?_, ?_, h2.1, ?_, fun _ z => ?_, fun i hi => ?_⟩, eF.tr ⟨fun c hc => by rw [h2.2.2.1 c hc, up_ne hc, up_ne hc], fun k x1 x2 x3 x4 => by rw [h2.2.2.2 k x2 x4, up_nk x4, up_nk x3]⟩⟩)
        · rw [h2.2.2.2 3 (by omega) (by omega), up_nk (by omega), up_nk (by omega)]; exact e3
        · rw [h2.2.2.2 4 (by omega) (by omega), up_nk (by omega), up_nk (by omega)]; exact e4
        · rw [h2.2.2.2 6 (by omega) (by omega), up_nk (by omega), up_at]; rfl
        · have h7 := h2.2.1 z
          refine ⟨h7.1, Nat.lt_of_lt_of_le (yval_lt _ h7.2) ?_⟩
          show _ ≤ 10 ^ 4
          exact Nat.pow_le_pow_right (by omega) (by omega)
        · rw [h2.2.2.1 2 (by omega), up_ne (by omega), up_ne (by omega)]; exact et i hi
      · rw [if_pos (by rw [zbi]; simpa using d), if_neg d, if_neg d]
        have key : ∀ (v : Int32) (k : Nat), v = nI k → k ≠ 2 → Evs (some (up (up N1 1 6 v) 1 5 ((up N1 1 6 v) 1 5 + 1))) (fun N => KC y n N a (a + 1) k ∧ Ft M N) := fun v k hv h2 => by
          rw [show (up N1 1 6 v) 1 5 = nI a from by rw [up_nk (by omega)]; exact e5, nI_1]
          refine Evs.pure ⟨⟨?_, ?_, up_at, ?_, fun z => absurd z h2, fun i hi => ?_⟩, (eF.tr (Ft.f (by omega))).tr (Ft.f (by omega))⟩
          · rw [up_nk (by omega), up_nk (by omega)]; exact e3
          · rw [up_nk (by omega), up_nk (by omega)]; exact e4
          · rw [up_nk (by omega), up_at]; exact hv
          · rw [up_ne (by omega), up_ne (by omega)]; exact et i hi
        by_cases s : ysg (y a) = true
        · rw [if_neg (by rw [s]; decide), if_pos s]
          exact key _ _ rfl (by have := ysg_in _ (hy a q) s; omega)
        · rw [if_pos (by rw [zbi]; simpa using s), if_neg s]
          exact key _ 3 rfl (by omega)
  · rw [if_neg (nI_nlt (by omega) (by omega)), (ytb_end y q).1, (ytb_end y q).2]
    refine Evs.pure ⟨⟨?_, ?_, ?_, up_at, fun z => by omega, fun i hi => ?_⟩, eF.tr (Ft.f (by omega))⟩
    · rw [up_nk (by omega)]; exact e3
    · rw [up_nk (by omega)]; exact e4
    · rw [up_nk (by omega)]; exact e5
    · rw [up_ne (by omega)]; exact et i hi
theorem zm_byte {N : Mem} (hn : n ≤ 700) (h16 : N 67 16 = nI n) (ht : ∀ i, i < n → N 80 i = nI (y i)) {p : Nat} (hp : p ≤ n) : F_X12_byteAt 67 (nI p) N = some (if p < n then nI (y p) else -1) := by
  unfold F_X12_byteAt
  rw [h16]
  by_cases q : p < n
  · rw [if_neg (nI_ge (by omega) (by omega)), if_pos q, show ald N (67 + 13) 700 (nI p) = some (nI (y p)) from (zald (by omega) (by omega)).trans (congrArg some (ht p q)), zbs rfl]
  · rw [if_pos (nI_le (by omega) (by omega)), if_neg q]
theorem zm_step (hn : n ≤ 700) (hy : ∀ i, i < n → y i < 256) {p : Nat} (hp : p ≤ n) (h16 : M 67 16 = nI n) (h15 : M 67 15 = nI p) (ht : ∀ i, i < n → M 80 i = nI (y i)) : Evs (F_X12_stepOn 67 M) (fun N => KM y n N (yta y n p) (ytb y n (yta y n p)) (ytk y n (yta y n p)) ∧ Gt M N) := by
  have k0 : ∀ j p f (N : Mem), n ≤ p + j → j < f → p ≤ n → N 67 15 = nI p → Gt M N → Evs (L_X12_stepOn_0 67 f N) (fun N' => N' 67 15 = nI (yw (fun i => ybl (y i)) n j p) ∧ Gt M N') := by
    intro j
    induction j with
    | zero =>
      intro p f N e hf hp h4 F
      obtain ⟨f, rfl⟩ : ∃ f', f = f' + 1 := ⟨f - 1, by omega⟩
      have hb := zm_byte (N := N) hn (by rw [F.2 16 (by omega) (by omega) (by omega) (by omega) (by omega)]; exact h16) (fun i hi => by rw [F.1 80 (by omega)]; exact ht i hi) hp
      rw [if_neg (by omega)] at hb
      rw [L_X12_stepOn_0, h4, hb, zbs rfl, if_neg (by decide), zbs rfl, if_neg (by decide)]
      exact Evs.pure ⟨h4, F⟩
    | succ j ih =>
      intro p f N e hf hp h4 F
      obtain ⟨f, rfl⟩ : ∃ f', f = f' + 1 := ⟨f - 1, by omega⟩
      have hb := zm_byte (N := N) hn (by rw [F.2 16 (by omega) (by omega) (by omega) (by omega) (by omega)]; exact h16) (fun i hi => by rw [F.1 80 (by omega)]; exact ht i hi) hp
      rw [L_X12_stepOn_0, h4, hb, zbs rfl, zbs rfl, yw]
      by_cases q : p < n
      · rw [if_pos q]
        by_cases r : ybl (y p) = true
        · rw [if_pos (show p < n ∧ ybl (y p) = true from ⟨q, r⟩)]
          have hrec : Evs (J_X12_stepOn_j26 67 (L_X12_stepOn_0 67 f) N) (fun N' => N' 67 15 = nI (yw (fun i => ybl (y i)) n j (p + 1)) ∧ Gt M N') := by
            unfold J_X12_stepOn_j26
            rw [h4, nI_1]
            exact ih (p + 1) f _ (by omega) (by omega) (by omega) up_at (F.tr (Gt.f (by omega)))
          rcases (ym_bl _ (hy p q)).mp r with z | z
          · rw [if_pos z]; exact hrec
          · by_cases z2 : nI (y p) = 32
            · rw [if_pos z2]; exact hrec
            · rw [if_neg z2, if_pos z]; exact hrec
        · rw [if_neg (fun z => r ((ym_bl _ (hy p q)).mpr (Or.inl z))), if_neg (fun z => r ((ym_bl _ (hy p q)).mpr (Or.inr z))), if_neg (fun z => r z.2)]
          exact Evs.pure ⟨h4, F⟩
      · rw [if_neg q, if_neg (by decide), if_neg (by decide), if_neg (fun z => q z.1)]
        exact Evs.pure ⟨h4, F⟩
  have k76 : ∀ j p f (N : Mem), n ≤ p + j → j < f → p ≤ n → N 67 15 = nI p → N 67 16 = nI n → (∀ i, i < n → N 80 i = nI (y i)) → Evs (L_X12_stepOn_76 67 f N) (fun N' => N' 67 15 = nI (yw (fun i => ylt (y i)) n j p) ∧ (∀ c, c ≠ 67 → N' c = N c) ∧ ∀ k, k ≠ 15 → N' 67 k = N 67 k) := by
    intro j
    induction j with
    | zero =>
      intro p f N e hf hp h4 h3 ht
      obtain ⟨f, rfl⟩ : ∃ f', f = f' + 1 := ⟨f - 1, by omega⟩
      rw [L_X12_stepOn_76, h4, zm_byte hn h3 ht hp, if_neg (show ¬ p < n by omega), zbs rfl, if_pos (by decide)]
      exact Evs.pure ⟨h4, fun _ _ => rfl, fun _ _ => rfl⟩
    | succ j ih =>
      intro p f N e hf hp h4 h3 ht
      obtain ⟨f, rfl⟩ : ∃ f', f = f' + 1 := ⟨f - 1, by omega⟩
      rw [L_X12_stepOn_76, h4, zm_byte hn h3 ht hp, zbs rfl, yw]
      by_cases q : p < n
      · rw [if_pos q, ym_lt _ (hy p q)]
        by_cases r : ylt (y p) = true
        · rw [if_neg (by rw [r]; decide), if_pos (show p < n ∧ ylt (y p) = true from ⟨q, r⟩), nI_1]
          refine (ih (p + 1) f _ (by omega) (by omega) (by omega) up_at (by rw [up_nk (by omega)]; exact h3) (fun i hi => by rw [up_ne (by omega)]; exact ht i hi)).mono (fun N' h => ⟨h.1, fun c hc => by rw [h.2.1 c hc, up_ne hc], fun k hk => by rw [h.2.2 k hk, up_nk hk]⟩)
        · rw [if_pos (by rw [zbi]; simpa using r), if_neg (fun z => r z.2)]
          exact Evs.pure ⟨h4, fun _ _ => rfl, fun _ _ => rfl⟩
      · rw [if_neg q, if_pos (by decide), if_neg (fun z => q z.1)]
        exact Evs.pure ⟨h4, fun _ _ => rfl, fun _ _ => rfl⟩
  have k123 : ∀ a j p f (N : Mem), n ≤ p + j → j < f → p ≤ n → a ≤ p → N 67 15 = nI p → N 67 16 = nI n → (∀ i, i < n → N 80 i = nI (y i)) → (p ≤ a + 4 → N 67 18 = nI (yval y a (p - a)) ∧ ∀ i, i < p - a → ydg (y (a + i)) = true ∧ y (a + i) < 256) → Evs (L_X12_stepOn_123 67 f N) (fun N' => N' 67 15 = nI (yw (fun i => ydg (y i)) n j p) ∧ (yw (fun i => ydg (y i)) n j p ≤ a + 4 → N' 67 18 = nI (yval y a (yw (fun i => ydg (y i)) n j p - a))) ∧ (∀ c, c ≠ 67 → N' c = N c) ∧ ∀ k, k ≠ 15 → k ≠ 18 → N' 67 k = N 67 k) := by
    intro a j
    induction j with
    | zero =>
      intro p f N e hf hp ha h5 h3 ht hv
      obtain ⟨f, rfl⟩ : ∃ f', f = f' + 1 := ⟨f - 1, by omega⟩
      rw [L_X12_stepOn_123, h5, zm_byte hn h3 ht hp, if_neg (show ¬ p < n by omega), zbs rfl, if_pos (by decide)]
      exact Evs.pure ⟨h5, fun z => (hv z).1, fun _ _ => rfl, fun _ _ _ => rfl⟩
    | succ j ih =>
      intro p f N e hf hp ha h5 h3 ht hv
      obtain ⟨f, rfl⟩ : ∃ f', f = f' + 1 := ⟨f - 1, by omega⟩
      rw [L_X12_stepOn_123, h5, zm_byte hn h3 ht hp, zbs rfl, zbs rfl, yw]
      by_cases q : p < n
      · rw [if_pos q, ym_dg _ (hy p q)]
        by_cases r : ydg (y p) = true
        · rw [if_neg (by rw [r]; decide), if_pos (show p < n ∧ ydg (y p) = true from ⟨q, r⟩)]
          have hc := ydg_in _ (hy p q) r
          rw [show ∀ v : Int32, (up N 67 18 v) 67 15 = nI p from fun v => by rw [up_nk (by omega)]; exact h5, nI_1]
          refine (ih (p + 1) f _ (by omega) (by omega) (by omega) (by omega) up_at (by rw [up_nk (by omega), up_nk (by omega)]; exact h3) (fun i hi => by rw [up_ne (by omega), up_ne (by omega)]; exact ht i hi) (fun z => ⟨?_, fun i hi => ?_⟩)).mono (fun N' h => ⟨h.1, h.2.1, fun c hc => by rw [h.2.2.1 c hc, up_ne hc, up_ne hc], fun k hk hk2 => by rw [h.2.2.2 k hk hk2, up_nk hk, up_nk hk2]⟩)
          · rw [up_nk (by omega), up_at, (hv (by omega)).1]
            have hv1 := yval_lt (p - a) (hv (by omega)).2
            have : 10 ^ (p - a) ≤ 1000 := by
              have : p - a ≤ 3 := by omega
              calc 10 ^ (p - a) ≤ 10 ^ 3 := Nat.pow_le_pow_right (by omega) this
                _ = 1000 := rfl
            have ev : 10 * nI (yval y a (p - a)) + nI (y p) - 48 = nI (yval y a (p + 1 - a)) := by
              rw [show (10 : Int32) = nI 10 from rfl, zmul, nI_add, show (48 : Int32) = nI 48 from rfl, zsub (by omega), show p + 1 - a = (p - a) + 1 by omega, yval, show a + (p - a) = p by omega]
              congr 1; omega
            have hl : yval y a (p + 1 - a) < 100000 := by
              rw [show p + 1 - a = (p - a) + 1 by omega, yval, show a + (p - a) = p by omega]; omega
            rw [ev]
            unfold imin
            exact if_pos (show nI (yval y a (p + 1 - a)) < nI 100000 from nI_lt hl (by omega))
          · by_cases e2 : i = p - a
            · rw [e2, show a + (p - a) = p by omega]; exact ⟨r, hy p q⟩
            · exact (hv (by omega)).2 i (by omega)
        · rw [if_pos (by rw [zbi]; simpa using r), if_neg (fun z => r z.2)]
          exact Evs.pure ⟨h5, fun z => (hv z).1, fun _ _ => rfl, fun _ _ _ => rfl⟩
      · rw [if_neg q, if_pos (by decide), if_neg (fun z => q z.1)]
        exact Evs.pure ⟨h5, fun z => (hv z).1, fun _ _ => rfl, fun _ _ _ => rfl⟩
  unfold F_X12_stepOn
  refine Evs.bind (k0 700 p FU M (by omega) (by decide) hp h15 Gt.rf) (fun N h => ?_)
  obtain ⟨h4, F⟩ := h
  have ha : yta y n p ≤ n := yta_le y hp
  have h4 : N 67 15 = nI (yta y n p) := h4
  generalize yta y n p = a at ha h4 ⊢
  have e5 : (up N 67 19 (N 67 15)) 67 15 = nI a := by rw [up_nk (by omega)]; exact h4
  have e9 : (up N 67 19 (N 67 15)) 67 19 = nI a := by rw [up_at]; exact h4
  have e3 : (up N 67 19 (N 67 15)) 67 16 = nI n := by rw [up_nk (by omega), F.2 16 (by omega) (by omega) (by omega) (by omega) (by omega)]; exact h16
  have et : ∀ i, i < n → (up N 67 19 (N 67 15)) 80 i = nI (y i) := fun i hi => by rw [up_ne (by omega), F.1 80 (by omega)]; exact ht i hi
  have eF : Gt M (up N 67 19 (N 67 15)) := F.tr (Gt.f (by omega))
  generalize up N 67 19 (N 67 15) = N1 at e5 e9 e3 et eF ⊢
  rw [e5, zm_byte hn e3 et ha, zbs rfl]
  unfold J_X12_stepOn_j212
  by_cases q : a < n
  · have hne : ¬ nI (y a) = -1 := (show ∀ c, c < 256 → ¬ nI c = -1 by decide +kernel) _ (hy a q)
    rw [if_pos q, if_neg hne, ym_lt _ (hy a q), ym_dg _ (hy a q), ym_mk _ (hy a q)]
    unfold ytb ytk
    rw [if_pos q, if_pos q]
    by_cases l : ylt (y a) = true
    · rw [if_neg (by rw [l]; decide), if_pos l, if_pos l]
      refine Evs.bind (k76 700 a FU N1 (by omega) (by decide) ha e5 e3 et) (fun N2 h2 => Evs.pure ⟨⟨?_, ?_, ?_, ?_, ?_, fun z => by omega, fun i hi => ?_⟩, (eF.tr ⟨h2.2.1, fun k x1 x2 x3 x4 x5 => h2.2.2 k x1⟩).tr ((Gt.f (by omega)).tr (Gt.f (by omega)))⟩)
      · rw [up_nk (by omega), up_nk (by omega), h2.2.2 16 (by omega)]; exact e3
      · rw [up_nk (by omega), up_nk (by omega), h2.2.2 19 (by omega)]; exact e9
      · rw [up_nk (by omega), up_nk (by omega)]; exact h2.1
      · rw [up_at, up_nk (by omega)]; exact h2.1
      · rw [up_nk (by omega), up_at]; rfl
      · rw [up_ne (by omega), up_ne (by omega), h2.2.1 80 (by omega)]; exact et i hi
    · rw [if_pos (by rw [zbi]; simpa using l), if_neg l, if_neg l]
      by_cases d : ydg (y a) = true
      · rw [if_neg (by rw [d]; decide), if_pos d, if_pos d]
        refine Evs.bind (k123 a 700 a FU (up N1 67 18 0) (by omega) (by decide) ha (Nat.le_refl _) (by rw [up_nk (by omega)]; exact e5) (by rw [up_nk (by omega)]; exact e3) (fun i hi => by rw [up_ne (by omega)]; exact et i hi) (fun _ => ⟨by rw [up_at, Nat.sub_self]; rfl, fun i hi => by omega⟩)) (fun N2 h2 => Evs.pure ⟨⟨?_, ?_, ?_, ?_, ?_, fun _ z => ?_, fun i hi => ?_⟩, (eF.tr ⟨fun c hc => by rw [h2.2.2.1 c hc, up_ne hc], fun k x1 x2 x3 x4 x5 => by rw [h2.2.2.2 k x1 x3, up_nk x3]⟩).tr ((Gt.f (by omega)).tr (Gt.f (by omega)))⟩)
        · rw [up_nk (by omega), up_nk (by omega), h2.2.2.2 16 (by omega) (by omega), up_nk (by omega)]; exact e3
        · rw [up_nk (by omega), up_nk (by omega), h2.2.2.2 19 (by omega) (by omega), up_nk (by omega)]; exact e9
        · rw [up_nk (by omega), up_nk (by omega)]; exact h2.1
        · rw [up_at, up_nk (by omega)]; exact h2.1
        · rw [up_nk (by omega), up_at]; rfl
        · rw [up_nk (by omega), up_nk (by omega)]; exact h2.2.1 z
        · rw [up_ne (by omega), up_ne (by omega), h2.2.2.1 80 (by omega), up_ne (by omega)]; exact et i hi
      · rw [if_pos (by rw [zbi]; simpa using d), if_neg d, if_neg d, nI_1]
        have key : ∀ (v : Int32) (k : Nat), v = nI (ymo k) → k ≠ 2 → Evs (some (up (up (up N1 67 15 (nI (a + 1))) 67 17 v) 67 20 ((up (up N1 67 15 (nI (a + 1))) 67 17 v) 67 15))) (fun N => KM y n N a (a + 1) k ∧ Gt M N) := fun v k hv h2 => by
          refine Evs.pure ⟨⟨?_, ?_, ?_, ?_, ?_, fun z => absurd z h2, fun i hi => ?_⟩, ((eF.tr (Gt.f (by omega))).tr (Gt.f (by omega))).tr (Gt.f (by omega))⟩
          · rw [up_nk (by omega), up_nk (by omega), up_nk (by omega)]; exact e3
          · rw [up_nk (by omega), up_nk (by omega), up_nk (by omega)]; exact e9
          · rw [up_nk (by omega), up_nk (by omega), up_at]
          · rw [up_at, up_nk (by omega), up_at]
          · rw [up_nk (by omega), up_at]; exact hv
          · rw [up_ne (by omega), up_ne (by omega), up_ne (by omega)]; exact et i hi
        by_cases s : ysg (y a) = true
        · rw [if_neg (by rw [s]; decide), if_pos s]
          have := ysg_in _ (hy a q) s
          exact key _ _ (by unfold ymo; rw [if_neg (by omega), if_neg (by omega)]; rfl) (by omega)
        · rw [if_pos (by rw [zbi]; simpa using s), if_neg s]
          exact key _ 3 rfl (by omega)
  · rw [if_neg q, if_pos rfl, (ytb_end y q).1, (ytb_end y q).2]
    refine Evs.pure ⟨⟨?_, ?_, ?_, ?_, ?_, fun z => by omega, fun i hi => ?_⟩, eF.tr ((Gt.f (by omega)).tr (Gt.f (by omega)))⟩
    · rw [up_nk (by omega), up_nk (by omega)]; exact e3
    · rw [up_nk (by omega), up_nk (by omega)]; exact e9
    · rw [up_nk (by omega), up_nk (by omega)]; exact e5
    · rw [up_at, up_nk (by omega)]; exact e5
    · rw [up_nk (by omega), up_at]; rfl
    · rw [up_ne (by omega), up_ne (by omega)]; exact et i hi
end TOK
