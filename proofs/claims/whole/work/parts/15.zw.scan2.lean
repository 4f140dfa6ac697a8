/-! ===== all walks that fit, the class's ===== -/
section SCAN2
variable {M : Mem} {w : Nat} {Z : Zs}
theorem zc_tryOf (hz : ZW Z) (hc : RC w Z M) {p : Nat} (hp : p < znp (z_P Z)) {L : List (Nat × Nat × Nat)} (hL : L.length ≤ 48 * p) (hS : CS (z_P Z) (b_t (z_B Z)) M L) (hN : ∀ q, q < znp (z_P Z) → M 62 q = ynt (z_P Z) (b_t (z_B Z)) (t_w (b_t (z_B Z)) q) q) : Evs (F_X4_tryWalksOf 61 (nI p) w 25 31 M) (fun M' => CS (z_P Z) (b_t (z_B Z)) M' (L ++ yI (z_P Z) (b_t (z_B Z)) (z_B Z) p (p_ln (z_P Z) p)) ∧ (∀ q, q < znp (z_P Z) → M' 62 q = ynt (z_P Z) (b_t (z_B Z)) (t_w (b_t (z_B Z)) q) q) ∧ Fn M M') := by
  have hP := hz.1
  have hw := hc.ww
  have h7 := hP.2.2.1
  have h6 := hP.2.2.2.2.2.2.2.1 p hp
  have key : ∀ j i f (N : Mem), i + j = p_ln (z_P Z) p → j < f → CS (z_P Z) (b_t (z_B Z)) N (L ++ yI (z_P Z) (b_t (z_B Z)) (z_B Z) p i) → CN (z_P Z) (b_t (z_B Z)) N p → Fn M N → Evs (L_X4_tryWalksOf_33 61 w 25 31 (nI p) (M 28 p) (M 62 p) (nI (p_ln (z_P Z) p)) f (nI i) N) (fun M' => CS (z_P Z) (b_t (z_B Z)) M' (L ++ yI (z_P Z) (b_t (z_B Z)) (z_B Z) p (p_ln (z_P Z) p)) ∧ CN (z_P Z) (b_t (z_B Z)) M' p ∧ Fn M M') := by
    intro j
    induction j with
    | zero =>
      intro i f N e hf c1 c2 F
      obtain ⟨f, rfl⟩ : ∃ f', f = f' + 1 := ⟨f - 1, by omega⟩
      obtain rfl : i = p_ln (z_P Z) p := by omega
      rw [L_X4_tryWalksOf_33, if_pos (nI_le (by omega) (by omega))]
      exact Evs.pure ⟨c1, c2, F⟩
    | succ j ih =>
      intro i f N e hf c1 c2 F
      obtain ⟨f, rfl⟩ : ∃ f', f = f' + 1 := ⟨f - 1, by omega⟩
      rw [L_X4_tryWalksOf_33, if_neg (nI_ge (by omega) (by omega)), nI_1]
      have hl : (L ++ yI (z_P Z) (b_t (z_B Z)) (z_B Z) p i).length ≤ 48 * p + 8 * i := by
        have := yI_len (T := b_t (z_B Z)) (B := z_B Z) (p := p) hP.1.2 i
        rw [List.length_append]; omega
      have h43 := zc_try43 hz (hc.keep (F.z hw)) hp (by omega) hl c1 c2 (M 62 p)
      rw [F.1 28 (by omega) (by omega) (by omega)] at h43
      refine Evs.bind h43 (fun N2 h2 => ih (i + 1) f N2 (by omega) (by omega) ?_ h2.2.1 (F.tr h2.2.2))
      have := h2.1
      rw [List.append_assoc] at this
      exact this
  unfold F_X4_tryWalksOf
  rw [show F_X11_at (25 + 3) 7 (nI p) M = M 28 p from zat_at (by omega) (by omega), show F_X11_at (61 + 1) 7 (nI p) M = M 62 p from zat_at (by omega) (by omega), show F_X11_at (w + 4) 7 (nI p) M = nI (p_ln (z_P Z) p) from (zat_at (by omega) (by omega)).trans (hc.P.2.2.2.2.1 p hp)]
  refine Evs.bind (key (p_ln (z_P Z) p) 0 FU M (by omega) (by unfold FU; omega) (by rw [yI, List.append_nil]; exact hS) (fun q hq _ => hN q hq) Fn.rf) (fun N h => ?_)
  rw [show F_X11_put (61 + 1) 7 (nI p) (M 62 p) N = up N 62 p (M 62 p) from zput_at (by omega) (by omega)]
  refine Evs.pure ⟨h.1.of (up_ne (by omega)) (up_ne (by omega)), fun q hq => ?_, h.2.2.tr ⟨fun a x y z => up_ne y, by rw [up_ne (by omega)]⟩⟩
  rw [up_app]
  by_cases e : q = p
  · rw [if_pos ⟨rfl, e⟩, e, hN p hp]
  · rw [if_neg (fun z => e z.2)]; exact h.2.1 q hq e
theorem zc_scan (hz : ZW Z) (hc : RC w Z M) : Evs (F_X4_scan 61 w 25 31 M) (fun M' => CS (z_P Z) (b_t (z_B Z)) M' (yL (z_P Z) (b_t (z_B Z)) (z_B Z) (znp (z_P Z))) ∧ M' 61 4 = bi (yha (z_P Z) (b_t (z_B Z)) (z_B Z)) ∧ ∀ a, a ≠ 61 → a ≠ 62 → a ≠ 63 → M' a = M a) := by
  have hP := hz.1
  have hw := hc.ww
  have h7 := hP.2.2.1
  obtain ⟨⟨hTW, hTC, h9⟩, -, -, hm8, hq⟩ := hz.2.1
  have FF : ∀ N : Mem, (∀ a, a ≠ 61 → a ≠ 62 → a ≠ 63 → N a = M a) → Fz w M N := fun N h => ⟨fun a x => h a (by omega) (by omega) (by omega), by rw [h _ (by omega) (by omega) (by omega)]⟩
  -- the marks are cleared
  have k13 : ∀ j k f (N : Mem), k + j = 48 → j < f → N 61 = (up (up M 61 2 0) 61 3 (-1)) 61 → (∀ i, i < k → N 63 i = 0) → (∀ a, a ≠ 61 → a ≠ 62 → a ≠ 63 → N a = M a) → Evs (L_X4_scan_13 61 w 25 31 f (nI k) N) (fun M' => M' 61 = (up (up M 61 2 0) 61 3 (-1)) 61 ∧ (∀ i, i < 48 → M' 63 i = 0) ∧ ∀ a, a ≠ 61 → a ≠ 62 → a ≠ 63 → M' a = M a) := by
    intro j
    induction j with
    | zero =>
      intro k f N e hf c1 c2 c3
      obtain ⟨f, rfl⟩ : ∃ f', f = f' + 1 := ⟨f - 1, by omega⟩
      obtain rfl : k = 48 := by omega
      rw [L_X4_scan_13, if_pos (by decide)]
      exact Evs.pure ⟨c1, c2, c3⟩
    | succ j ih =>
      intro k f N e hf c1 c2 c3
      obtain ⟨f, rfl⟩ : ∃ f', f = f' + 1 := ⟨f - 1, by omega⟩
      rw [L_X4_scan_13, if_neg (znge 48 48 rfl (by omega) (by omega)), show ast N (61 + 2) 48 (nI k) 0 = some (up N 63 k 0) from zast (by omega) (by omega), zbs rfl, nI_1]
      refine ih (k + 1) f _ (by omega) (by omega) (by rw [up_ne (by omega)]; exact c1) (fun i hi => ?_) (fun a x y z => by rw [up_ne z]; exact c3 a x y z)
      rw [up_app]
      by_cases e2 : i = k
      · rw [if_pos ⟨rfl, e2⟩]
      · rw [if_neg (fun z => e2 z.2)]; exact c2 i (by omega)
  have k40 : ∀ j p f (N : Mem), p + j = znp (z_P Z) → j < f → N 61 = (up (up M 61 2 0) 61 3 (-1)) 61 → (∀ i, i < 48 → N 63 i = 0) → (∀ q, q < p → N 62 q = ynt (z_P Z) (b_t (z_B Z)) (t_w (b_t (z_B Z)) q) q) → (∀ a, a ≠ 61 → a ≠ 62 → a ≠ 63 → N a = M a) → Evs (L_X4_scan_40 61 w 25 31 f (nI p) N) (fun M' => M' 61 = (up (up M 61 2 0) 61 3 (-1)) 61 ∧ (∀ i, i < 48 → M' 63 i = 0) ∧ (∀ q, q < znp (z_P Z) → M' 62 q = ynt (z_P Z) (b_t (z_B Z)) (t_w (b_t (z_B Z)) q) q) ∧ ∀ a, a ≠ 61 → a ≠ 62 → a ≠ 63 → M' a = M a) := by
    intro j
    induction j with
    | zero =>
      intro p f N e hf c1 c2 c3 c4
      obtain ⟨f, rfl⟩ : ∃ f', f = f' + 1 := ⟨f - 1, by omega⟩
      obtain rfl : p = znp (z_P Z) := by omega
      rw [L_X4_scan_40, show N w 3 = _ from (hc.keep (FF N c4)).P.1.2.2.2.1, if_pos (nI_le (by omega) (by omega))]
      exact Evs.pure ⟨c1, c2, c3, c4⟩
    | succ j ih =>
      intro p f N e hf c1 c2 c3 c4
      obtain ⟨f, rfl⟩ : ∃ f', f = f' + 1 := ⟨f - 1, by omega⟩
      have hcN := hc.keep (FF N c4)
      rw [L_X4_scan_40, show N w 3 = _ from hcN.P.1.2.2.2.1, if_neg (nI_ge (by omega) (by omega)), show F_X11_at (25 + 3) 7 (nI p) N = N 28 p from zat_at (by omega) (by omega)]
      rw [zc_nights hz hcN ⟨hcN.T.n, hcN.T.b⟩ (by omega) (show p < znp (z_P Z) by omega) (wk := t_w (b_t (z_B Z)) p) (fun i hi => hcN.T.w (by omega) hi) (fun i => by have := hTW.2.1 p i; have := hP.1.2; omega), zbs rfl, show F_X11_put (61 + 1) 7 (nI p) (ynt (z_P Z) (b_t (z_B Z)) (t_w (b_t (z_B Z)) p) p) N = up N 62 p (ynt (z_P Z) (b_t (z_B Z)) (t_w (b_t (z_B Z)) p) p) from zput_at (by omega) (by omega), nI_1]
      refine ih (p + 1) f _ (by omega) (by omega) (by rw [up_ne (by omega)]; exact c1) (fun i hi => by rw [up_ne (by omega)]; exact c2 i hi) (fun q hq => ?_) (fun a x y z => by rw [up_ne y]; exact c4 a x y z)
      rw [up_app]
      by_cases e2 : q = p
      · rw [if_pos ⟨rfl, e2⟩, e2]
      · rw [if_neg (fun z => e2 z.2)]; exact c3 q (by omega)
  have k95 : ∀ j p f (N : Mem), p + j = znp (z_P Z) → j < f → CS (z_P Z) (b_t (z_B Z)) N (yL (z_P Z) (b_t (z_B Z)) (z_B Z) p) → (∀ q, q < znp (z_P Z) → N 62 q = ynt (z_P Z) (b_t (z_B Z)) (t_w (b_t (z_B Z)) q) q) → N 61 4 = bi (yha (z_P Z) (b_t (z_B Z)) (z_B Z)) → (∀ a, a ≠ 61 → a ≠ 62 → a ≠ 63 → N a = M a) → Evs (L_X4_scan_95 61 w 25 31 f (nI p) N) (fun M' => CS (z_P Z) (b_t (z_B Z)) M' (yL (z_P Z) (b_t (z_B Z)) (z_B Z) (znp (z_P Z))) ∧ M' 61 4 = bi (yha (z_P Z) (b_t (z_B Z)) (z_B Z)) ∧ ∀ a, a ≠ 61 → a ≠ 62 → a ≠ 63 → M' a = M a) := by
    intro j
    induction j with
    | zero =>
      intro p f N e hf c1 c2 c3 c4
      obtain ⟨f, rfl⟩ : ∃ f', f = f' + 1 := ⟨f - 1, by omega⟩
      obtain rfl : p = znp (z_P Z) := by omega
      rw [L_X4_scan_95, show N w 3 = _ from (hc.keep (FF N c4)).P.1.2.2.2.1, if_pos (nI_le (by omega) (by omega))]
      exact Evs.pure ⟨c1, c3, c4⟩
    | succ j ih =>
      intro p f N e hf c1 c2 c3 c4
      obtain ⟨f, rfl⟩ : ∃ f', f = f' + 1 := ⟨f - 1, by omega⟩
      have hcN := hc.keep (FF N c4)
      rw [L_X4_scan_95, show N w 3 = _ from hcN.P.1.2.2.2.1, if_neg (nI_ge (by omega) (by omega)), nI_1]
      refine Evs.bind (zc_tryOf hz hcN (by omega) (yL_len hP.1.2 (fun q h => (hP.2.2.2.2.2.2.2.1 q h).2) p (by omega)) c1 c2) (fun N2 h2 => ih (p + 1) f N2 (by omega) (by omega) h2.1 h2.2.1 (h2.2.2.2.trans c3) (fun a x y z => (h2.2.2.1 a x y z).trans (c4 a x y z)))
  unfold F_X4_scan
  refine Evs.bind (k13 48 0 FU _ (by omega) (by decide) rfl (fun i hi => by omega) (fun a x y z => by rw [up_ne x, up_ne x])) (fun N1 h1 => ?_)
  refine Evs.bind (k40 (znp (z_P Z)) 0 FU N1 (by omega) (by unfold FU; omega) h1.1 h1.2.1 (fun q hq => by omega) h1.2.2) (fun N2 h2 => ?_)
  have hcN := hc.keep (FF N2 h2.2.2.2)
  have ho : F_X7_holds 31 62 7 N2 = some (yha (z_P Z) (b_t (z_B Z)) (z_B Z)) := by
    rw [zc_holds hcN.B (fun i hi => ⟨by have := (hq i hi).1; omega, (hq i hi).2⟩) hm8]
    unfold yha
    congr 1
    refine yal_cong _ (fun j hj => ?_)
    rw [h2.2.2.1 _ (hq j hj).1, ynt_bt (hq j hj).2.1 (hq j hj).2.2]
    rfl
  rw [show F_X7_holds 31 (61 + 1) 7 N2 = _ from ho, zbs rfl]
  have e2 : N2 61 2 = 0 := by rw [h2.1, up_app, if_neg (by omega), up_app, if_pos ⟨rfl, rfl⟩]
  have e3 : N2 61 3 = -1 := by rw [h2.1, up_app, if_pos ⟨rfl, rfl⟩]
  refine Evs.bind (k95 (znp (z_P Z)) 0 FU (up N2 61 4 (bi (yha (z_P Z) (b_t (z_B Z)) (z_B Z)))) (by omega) (by unfold FU; omega) ⟨?_, ?_, fun k hk u hu i hi => ?_⟩ (fun q hq => by rw [up_ne (by omega)]; exact h2.2.2.1 q hq) (by rw [up_app, if_pos ⟨rfl, rfl⟩]) (fun a x y z => by rw [up_ne x]; exact h2.2.2.2 a x y z)) (fun N3 h3 => Evs.pure h3)
  · rw [up_app, if_neg (by omega), e2]; rfl
  · rw [up_app, if_neg (by omega), e3]; rfl
  · rw [up_ne (by omega), h2.2.1 _ (by omega), b_0]; rfl
end SCAN2
