/-! ===== what is read becomes the plan and the town ===== -/
def yT0 (z : Nat) (r : Int32) (pu : Nat → Nat) (wk : Nat → Nat → Nat) : Tn := (0, 0, r, 0, (fun p => if p < z then nI (pu p) else 0), (fun _ => 0), fun p i => if p < z then wk p i else 0)
theorem zm_half {a n h : Nat} {M : Mem} (e2 : nI n / 2 = nI h) (hn : n = 2 * h) (hh : h ≤ 700) : Evs (F_X12_takeHalf a n M) (fun M' => (∀ i, i < h → M' a i = M a (h + i)) ∧ (∀ i, h ≤ i → M' a i = M a i) ∧ ∀ c, c ≠ a → M' c = M c) := by
  have key : ∀ j i f M1, i + j = h → j < f → (∀ t, t < i → M1 a t = M a (h + t)) → (∀ t, i ≤ t → M1 a t = M a t) → (∀ c, c ≠ a → M1 c = M c) → Evs (L_X12_takeHalf_2 a n f (nI i) M1) (fun M' => (∀ i, i < h → M' a i = M a (h + i)) ∧ (∀ i, h ≤ i → M' a i = M a i) ∧ ∀ c, c ≠ a → M' c = M c) := by
    intro j
    induction j with
    | zero =>
      intro i f M1 e hf a1 a2 a3
      obtain ⟨f, rfl⟩ : ∃ f', f = f' + 1 := ⟨f - 1, by omega⟩
      obtain rfl : i = h := by omega
      rw [L_X12_takeHalf_2, e2, if_pos (Int32.le_refl _)]
      exact Evs.pure ⟨a1, a2, a3⟩
    | succ j ih =>
      intro i f M1 e hf a1 a2 a3
      obtain ⟨f, rfl⟩ : ∃ f', f = f' + 1 := ⟨f - 1, by omega⟩
      rw [L_X12_takeHalf_2, e2, if_neg (nI_ge (by omega) (by omega)), nI_add, zald (by omega) (by omega), zbs rfl, zast (by omega) (by omega), zbs rfl, nI_1, a2 (h + i) (by omega)]
      refine ih (i + 1) f _ (by omega) (by omega) (fun t ht => ?_) (fun t ht => ?_) (fun c hc => ?_)
      · by_cases q : t = i
        · rw [q, up_at]
        · rw [up_nk q]; exact a1 t (by omega)
      · rw [up_nk (by omega)]; exact a2 t (by omega)
      · rw [up_ne hc]; exact a3 c hc
  unfold F_X12_takeHalf
  exact Evs.bind (key h 0 FU M (by omega) (by unfold FU; omega) (fun t ht => by omega) (fun t ht => rfl) (fun c hc => rfl)) (fun M' h => Evs.pure h)
section TAKE
variable {z : Nat} {pu ln : Nat → Nat} {wk : Nat → Nat → Nat}
theorem zm_141 {p : Nat} {M0 : Mem} {x2 : Int32} (hp : p < 7) (hx : x2 = if p < z then 1 else 0) (h75 : p < z → M0 75 p = nI (ln p) ∧ ln p ≤ 6) (h76 : p < z → ∀ i, i < ln p → M0 76 (6 * p + i) = nI (wk p i)) (hz : p < z → ∀ i, ln p ≤ i → wk p i = 0) : Evs (L_X12_takeOver_141 67 (nI p) x2 FU 0 M0) (fun M' => (∀ i, i < 6 → M' 83 (6 * p + i) = nI (if p < z then wk p i else 0)) ∧ (∀ k, (k < 6 * p ∨ 6 * p + 6 ≤ k) → M' 83 k = M0 83 k) ∧ ∀ c, c ≠ 83 → M' c = M0 c) := by
  have key : ∀ j i f M1, i + j = 6 → j < f → (∀ t, t < i → M1 83 (6 * p + t) = nI (if p < z then wk p t else 0)) → (∀ k, (k < 6 * p ∨ 6 * p + 6 ≤ k) → M1 83 k = M0 83 k) → (∀ c, c ≠ 83 → M1 c = M0 c) → Evs (L_X12_takeOver_141 67 (nI p) x2 f (nI i) M1) (fun M' => (∀ i, i < 6 → M' 83 (6 * p + i) = nI (if p < z then wk p i else 0)) ∧ (∀ k, (k < 6 * p ∨ 6 * p + 6 ≤ k) → M' 83 k = M0 83 k) ∧ ∀ c, c ≠ 83 → M' c = M0 c) := by
    intro j
    induction j with
    | zero =>
      intro i f M1 e hf a1 a2 a3
      obtain ⟨f, rfl⟩ : ∃ f', f = f' + 1 := ⟨f - 1, by omega⟩
      obtain rfl : i = 6 := by omega
      rw [L_X12_takeOver_141, if_pos (show (6 : Int32) ≤ nI 6 by decide)]
      exact Evs.pure ⟨a1, a2, a3⟩
    | succ j ih =>
      intro i f M1 e hf a1 a2 a3
      obtain ⟨f, rfl⟩ : ∃ f', f = f' + 1 := ⟨f - 1, by omega⟩
      have e6 : (6 : Int32) * nI p + nI i = nI (6 * p + i) := by rw [z6, nI_add]
      have hw : ∀ v : Int32, v = nI (if p < z then wk p i else 0) → Evs (J_X12_takeOver_j186 67 (L_X12_takeOver_141 67 (nI p) x2 f) (nI p) x2 (nI i) (nI (6 * p + i)) v M1) (fun M' => (∀ i, i < 6 → M' 83 (6 * p + i) = nI (if p < z then wk p i else 0)) ∧ (∀ k, (k < 6 * p ∨ 6 * p + 6 ≤ k) → M' 83 k = M0 83 k) ∧ ∀ c, c ≠ 83 → M' c = M0 c) := by
        intro v hv
        unfold J_X12_takeOver_j186
        rw [show ast M1 (67 + 16) 42 (nI (6 * p + i)) v = some (up M1 83 (6 * p + i) v) from zast (by omega) (by omega), zbs rfl, nI_1]
        refine ih (i + 1) f _ (by omega) (by omega) (fun t ht => ?_) (fun k hk => ?_) (fun c hc => ?_)
        · by_cases q : t = i
          · rw [q, up_at]; exact hv
          · rw [up_nk (by omega)]; exact a1 t (by omega)
        · rw [up_nk (by omega)]; exact a2 k hk
        · rw [up_ne hc]; exact a3 c hc
      rw [L_X12_takeOver_141, if_neg (znge 6 6 rfl (by omega) (by omega)), e6]
      unfold J_X12_takeOver_j185
      by_cases q : p < z
      · have h5 := h75 q
        have hx1 : x2 = 1 := by rw [hx, if_pos q]
        rw [hx1] at hw ⊢
        rw [if_neg (by decide), show ald M1 (67 + 8) 14 (nI p) = some (nI (ln p)) from (zald (by omega) (by omega)).trans (congrArg some (by rw [show (67 + 8 : Nat) = 75 from rfl, a3 75 (by omega)]; exact h5.1)), zbs rfl]
        by_cases t : ln p ≤ i
        · rw [if_pos (nI_le t (by omega))]
          exact hw 0 (by rw [if_pos q, hz q i t]; rfl)
        · rw [if_neg (nI_ge (by omega) (by omega)), show ald M1 (67 + 9) 84 (nI (6 * p + i)) = some (nI (wk p i)) from (zald (by omega) (by omega)).trans (congrArg some (by rw [show (67 + 9 : Nat) = 76 from rfl, a3 76 (by omega)]; exact h76 q i (by omega))), zbs rfl]
          exact hw _ (by rw [if_pos q])
      · have hx1 : x2 = 0 := by rw [hx, if_neg q]
        rw [hx1] at hw ⊢
        rw [if_pos rfl]
        exact hw 0 (by rw [if_neg q]; rfl)
  exact key 6 0 FU M0 (by omega) (by unfold FU; omega) (fun t ht => by omega) (fun k hk => rfl) (fun c hc => rfl)
theorem zm_90 {M0 : Mem} (hz7 : z ≤ 7) (h3 : M0 70 3 = nI z) (h74 : ∀ p, p < z → M0 74 p = nI (pu p)) (h75 : ∀ p, p < z → M0 75 p = nI (ln p) ∧ ln p ≤ 6) (h76 : ∀ p, p < z → ∀ i, i < ln p → M0 76 (6 * p + i) = nI (wk p i)) (hz : ∀ p, p < z → ∀ i, ln p ≤ i → wk p i = 0) : Evs (L_X12_takeOver_90 67 FU 0 M0) (fun M' => (∀ p, p < 7 → M' 81 p = if p < z then nI (pu p) else 0) ∧ (∀ p, p < 7 → M' 82 p = 0) ∧ (∀ p, p < 7 → ∀ i, i < 6 → M' 83 (6 * p + i) = nI (if p < z then wk p i else 0)) ∧ ∀ c, c ≠ 81 → c ≠ 82 → c ≠ 83 → M' c = M0 c) := by
  have key : ∀ j i f M1, i + j = 7 → j < f → (∀ p, p < i → M1 81 p = if p < z then nI (pu p) else 0) → (∀ p, p < i → M1 82 p = 0) → (∀ p, p < i → ∀ i, i < 6 → M1 83 (6 * p + i) = nI (if p < z then wk p i else 0)) → (∀ c, c ≠ 81 → c ≠ 82 → c ≠ 83 → M1 c = M0 c) → Evs (L_X12_takeOver_90 67 f (nI i) M1) (fun M' => (∀ p, p < 7 → M' 81 p = if p < z then nI (pu p) else 0) ∧ (∀ p, p < 7 → M' 82 p = 0) ∧ (∀ p, p < 7 → ∀ i, i < 6 → M' 83 (6 * p + i) = nI (if p < z then wk p i else 0)) ∧ ∀ c, c ≠ 81 → c ≠ 82 → c ≠ 83 → M' c = M0 c) := by
    intro j
    induction j with
    | zero =>
      intro i f M1 e hf a1 a2 a3 a4
      obtain ⟨f, rfl⟩ : ∃ f', f = f' + 1 := ⟨f - 1, by omega⟩
      obtain rfl : i = 7 := by omega
      rw [L_X12_takeOver_90, if_pos (show (7 : Int32) ≤ nI 7 by decide)]
      exact Evs.pure ⟨a1, a2, a3, a4⟩
    | succ j ih =>
      intro i f M1 e hf a1 a2 a3 a4
      obtain ⟨f, rfl⟩ : ∃ f', f = f' + 1 := ⟨f - 1, by omega⟩
      have hw : ∀ v : Int32, v = (if i < z then nI (pu i) else 0) → ∀ x2 : Int32, x2 = (if i < z then 1 else 0) → Evs (J_X12_takeOver_j131 67 (L_X12_takeOver_90 67 f) (nI i) x2 (nI i) v M1) (fun M' => (∀ p, p < 7 → M' 81 p = if p < z then nI (pu p) else 0) ∧ (∀ p, p < 7 → M' 82 p = 0) ∧ (∀ p, p < 7 → ∀ i, i < 6 → M' 83 (6 * p + i) = nI (if p < z then wk p i else 0)) ∧ ∀ c, c ≠ 81 → c ≠ 82 → c ≠ 83 → M' c = M0 c) := by
        intro v hv x2 hx
        unfold J_X12_takeOver_j131
        rw [show ast M1 (67 + 14) 7 (nI i) v = some (up M1 81 i v) from zast (by omega) (by omega), zbs rfl, show ast (up M1 81 i v) (67 + 15) 7 (nI i) 0 = some (up (up M1 81 i v) 82 i 0) from zast (by omega) (by omega), zbs rfl]
        have k0 : ∀ c, c ≠ 81 → c ≠ 82 → c ≠ 83 → (up (up M1 81 i v) 82 i 0) c = M0 c := fun c x1 x2 x3 => by rw [up_ne x2, up_ne x1]; exact a4 c x1 x2 x3
        refine Evs.bind (zm_141 (z := z) (ln := ln) (wk := wk) (p := i) (by omega) hx (fun q => by rw [k0 75 (by omega) (by omega) (by omega)]; exact h75 i q) (fun q t ht => by rw [k0 76 (by omega) (by omega) (by omega)]; exact h76 i q t ht) (fun q => hz i q)) (fun M2 h2 => ?_)
        obtain ⟨b1, b2, b3⟩ := h2
        rw [nI_1]
        refine ih (i + 1) f M2 (by omega) (by omega) (fun p hp => ?_) (fun p hp => ?_) (fun p hp t ht => ?_) (fun c x1 x2 x3 => ?_)
        · rw [b3 81 (by omega), up_ne (by omega)]
          by_cases q : p = i
          · rw [q, up_at]; exact hv
          · rw [up_nk q]; exact a1 p (by omega)
        · rw [b3 82 (by omega)]
          by_cases q : p = i
          · rw [q, up_at]
          · rw [up_nk q, up_ne (by omega)]; exact a2 p (by omega)
        · by_cases q : p = i
          · rw [q]; exact b1 t ht
          · rw [b2 _ (by omega), up_ne (by omega), up_ne (by omega)]; exact a3 p (by omega) t ht
        · rw [b3 c x3]; exact k0 c x1 x2 x3
      rw [L_X12_takeOver_90, if_neg (znge 7 7 rfl (by omega) (by omega)), show M1 (67 + 3) 3 = nI z from by rw [a4 (67 + 3) (by omega) (by omega) (by omega)]; exact h3]
      by_cases q : i < z
      · rw [if_neg (nI_ge q (by omega)), if_neg (show ¬ (1 : Int32) = 0 by decide), show ald M1 (67 + 7) 14 (nI i) = some (nI (pu i)) from (zald (by omega) (by omega)).trans (congrArg some (by rw [show (67 + 7 : Nat) = 74 from rfl, a4 74 (by omega) (by omega) (by omega)]; exact h74 i q)), zbs rfl]
        exact hw _ (by rw [if_pos q]) 1 (by rw [if_pos q])
      · rw [if_pos (nI_le (by omega) (by omega)), if_pos rfl]
        exact hw 0 (by rw [if_neg q]) 0 (by rw [if_neg q])
  exact key 7 0 FU M0 (by omega) (by unfold FU; omega) (fun t ht => by omega) (fun t ht => by omega) (fun t ht => by omega) (fun c _ _ _ => rfl)
/-- the class's town begins -/
theorem zc_begin {w : Nat} {M0 : Mem} {r : Int32} (hw : w = 3 ∨ w = 14) (hz7 : z ≤ 7) (h3 : M0 w 3 = nI z) (h6 : M0 w 6 = r) (hpu : ∀ p, p < z → M0 (w + 3) p = nI (pu p)) (hwk : ∀ p, p < z → ∀ i, i < 6 → F_X11_streetIn (M0 (w + 5) p) (nI i) = nI (wk p i)) : Evs (F_X8_begin 25 w M0) (fun M' => CT (crow M' 25) (yT0 z r pu wk) ∧ ∀ c, (c < 25 ∨ 28 < c) → M' c = M0 c) := by
  have key : ∀ j i f M1, i + j = 7 → j < f → (∀ p, p < i → M1 26 p = if p < z then nI (pu p) else 0) → (∀ p, p < i → M1 27 p = 0) → (∀ p, p < i → ∀ i, i < 6 → F_X11_streetIn (M1 28 p) (nI i) = nI (if p < z then wk p i else 0)) → (∀ c, (c < 25 ∨ 28 < c) → M1 c = M0 c) → ∀ M00 : Mem, M1 25 = M00 25 → Evs (L_X8_begin_25 25 w f (nI i) M1) (fun M' => (∀ p, p < 7 → M' 26 p = if p < z then nI (pu p) else 0) ∧ (∀ p, p < 7 → M' 27 p = 0) ∧ (∀ p, p < 7 → ∀ i, i < 6 → F_X11_streetIn (M' 28 p) (nI i) = nI (if p < z then wk p i else 0)) ∧ (∀ c, (c < 25 ∨ 28 < c) → M' c = M0 c) ∧ M' 25 = M00 25) := by
    intro j
    induction j with
    | zero =>
      intro i f M1 e hf a1 a2 a3 a4 M00 a5
      obtain ⟨f, rfl⟩ : ∃ f', f = f' + 1 := ⟨f - 1, by omega⟩
      obtain rfl : i = 7 := by omega
      rw [L_X8_begin_25, if_pos (show (7 : Int32) ≤ nI 7 by decide)]
      exact Evs.pure ⟨a1, a2, a3, a4, a5⟩
    | succ j ih =>
      intro i f M1 e hf a1 a2 a3 a4 M00 a5
      obtain ⟨f, rfl⟩ : ∃ f', f = f' + 1 := ⟨f - 1, by omega⟩
      have hw' : ∀ v u : Int32, v = (if i < z then nI (pu i) else 0) → (∀ t, t < 6 → F_X11_streetIn u (nI t) = nI (if i < z then wk i t else 0)) → Evs (L_X8_begin_25 25 w f (nI i + 1) (up (up (up M1 26 i v) 27 i 0) 28 i u)) (fun M' => (∀ p, p < 7 → M' 26 p = if p < z then nI (pu p) else 0) ∧ (∀ p, p < 7 → M' 27 p = 0) ∧ (∀ p, p < 7 → ∀ i, i < 6 → F_X11_streetIn (M' 28 p) (nI i) = nI (if p < z then wk p i else 0)) ∧ (∀ c, (c < 25 ∨ 28 < c) → M' c = M0 c) ∧ M' 25 = M00 25) := by
        intro v u hv hu
        rw [nI_1]
        refine ih (i + 1) f _ (by omega) (by omega) (fun p hp => ?_) (fun p hp => ?_) (fun p hp t ht => ?_) (fun c hc => ?_) M00 ?_
        · rw [up_ne (by omega), up_ne (by omega)]
          by_cases q : p = i
          · rw [q, up_at]; exact hv
          · rw [up_nk q]; exact a1 p (by omega)
        · rw [up_ne (by omega)]
          by_cases q : p = i
          · rw [q, up_at]
          · rw [up_nk q, up_ne (by omega)]; exact a2 p (by omega)
        · by_cases q : p = i
          · rw [q, up_at]; exact hu t ht
          · rw [up_nk q, up_ne (by omega), up_ne (by omega)]; exact a3 p (by omega) t ht
        · rw [up_ne (by omega), up_ne (by omega), up_ne (by omega)]; exact a4 c hc
        · rw [up_ne (by omega), up_ne (by omega), up_ne (by omega)]; exact a5
      have p1 : ∀ v : Int32, F_X11_put (25 + 1) 7 (nI i) v M1 = up M1 26 i v := fun v => zput_at (by omega) (by omega)
      have p2 : ∀ v : Int32, F_X11_put (25 + 2) 7 (nI i) 0 (up M1 26 i v) = up (up M1 26 i v) 27 i 0 := fun v => zput_at (by omega) (by omega)
      have p3 : ∀ v u : Int32, F_X11_put (25 + 3) 7 (nI i) u (up (up M1 26 i v) 27 i 0) = up (up (up M1 26 i v) 27 i 0) 28 i u := fun v u => zput_at (by omega) (by omega)
      rw [L_X8_begin_25, if_neg (znge 7 7 rfl (by omega) (by omega)), show M1 w 3 = nI z from by rw [a4 w (by omega)]; exact h3]
      unfold J_X8_begin_j66 J_X8_begin_j99
      by_cases q : i < z
      · rw [if_neg (nI_ge q (by omega)), if_neg (show ¬ (1 : Int32) = 0 by decide), if_neg (show ¬ (1 : Int32) = 0 by decide), p1, p2, zat_at (a := w + 3) (by omega) (by omega), zat_at (a := w + 5) (by omega) (by omega), p3]
        refine hw' _ _ ?_ (fun t ht => ?_)
        · rw [if_pos q, a4 (w + 3) (by omega)]; exact hpu i q
        · rw [if_pos q, up_ne (by omega), up_ne (by omega), a4 (w + 5) (by omega)]; exact hwk i q t ht
      · rw [if_pos (nI_le (by omega) (by omega)), if_pos rfl, if_pos rfl, p1, p2, p3]
        refine hw' _ _ (by rw [if_neg q]) (fun t ht => ?_)
        rw [if_neg q]; exact z_sin0 t ht
  unfold F_X8_begin
  have e6 : (up (up (up M0 25 0 0) 25 1 0) 25 2 0) w 6 = r := by rw [up_ne (by omega), up_ne (by omega), up_ne (by omega)]; exact h6
  rw [e6]
  refine Evs.bind (key 7 0 FU (up (up (up (up M0 25 0 0) 25 1 0) 25 2 0) 25 3 r) (by omega) (by unfold FU; omega) (fun t ht => by omega) (fun t ht => by omega) (fun t ht => by omega) (fun c hc => by rw [up_ne (by omega), up_ne (by omega), up_ne (by omega), up_ne (by omega)]) (up (up (up (up M0 25 0 0) 25 1 0) 25 2 0) 25 3 r) rfl) (fun M' h' => Evs.pure ?_)
  obtain ⟨b1, b2, b3, b4, b5⟩ := h'
  refine ⟨CT.of ?_ ?_ ?_ ?_ b1 b2 b3, b4⟩
  · rw [b5, up_nk (by omega), up_nk (by omega), up_nk (by omega), up_at]; rfl
  · rw [b5, up_nk (by omega), up_nk (by omega), up_at]; rfl
  · rw [b5, up_nk (by omega), up_at]; rfl
  · rw [b5, up_at]; rfl
end TAKE
