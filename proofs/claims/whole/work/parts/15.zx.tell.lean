/-! ===== all walks that fit, the model's ===== -/
section TELLF
variable {M : Mem} {w : Nat} {Z : Zs}
theorem MT.eq {r r' : Nat → Int32} {T : Tn} (h : MT r T) (h' : MT r' T) {k : Nat} (hk : k < 60) : r k = r' k := by
  obtain ⟨⟨a0, a1, a2, a3⟩, a4, a5, a6⟩ := h
  obtain ⟨⟨b0, b1, b2, b3⟩, b4, b5, b6⟩ := h'
  by_cases h0 : k = 0
  · rw [h0, a0, b0]
  by_cases h1 : k = 1
  · rw [h1, a1, b1]
  by_cases h2 : k = 2
  · rw [h2, a2, b2]
  by_cases h3 : k = 3
  · rw [h3, a3, b3]
  by_cases h4 : k < 11
  · obtain ⟨p, rfl⟩ : ∃ p, k = 4 + p := ⟨k - 4, by omega⟩
    rw [a4 p (by omega), b4 p (by omega)]
  by_cases h5 : k < 18
  · obtain ⟨p, rfl⟩ : ∃ p, k = 11 + p := ⟨k - 11, by omega⟩
    rw [a5 p (by omega), b5 p (by omega)]
  · obtain ⟨p, i, hi, rfl⟩ : ∃ p i, i < 6 ∧ k = 18 + 6 * p + i := ⟨(k - 18) / 6, (k - 18) % 6, Nat.mod_lt _ (by omega), by omega⟩
    rw [a6 p (by omega) i hi, b6 p (by omega) i hi]
/-- the model's list -/
def TL (M : Mem) (L : List (Nat × Nat × Nat)) : Prop := M 67 52 = nI L.length ∧ ∀ k e, L[k]? = some e → M 97 k = nI (yc e)
/-- but for the walks all stands -/
def Gq (M M' : Mem) : Prop := (∀ a, a ≠ 67 → a ≠ 81 → a ≠ 82 → a ≠ 83 → (a < 85 ∨ 92 < a) → a ≠ 95 → a ≠ 97 → a ≠ 98 → a ≠ 99 → M' a = M a) ∧ (∀ k, k = 14 ∨ k = 23 ∨ k = 33 ∨ k = 34 ∨ k = 35 ∨ k = 55 ∨ k = 56 ∨ k = 57 → M' 67 k = M 67 k) ∧ M' 67 2 = M 67 2
theorem Gq.rf : Gq M M := ⟨fun _ _ _ _ _ _ _ _ _ _ => rfl, fun _ _ => rfl, rfl⟩
theorem Gq.tr {M1 M2 : Mem} (h : Gq M M1) (h2 : Gq M1 M2) : Gq M M2 := ⟨fun a x1 x2 x3 x4 x5 x6 x7 x8 x9 => (h2.1 a x1 x2 x3 x4 x5 x6 x7 x8 x9).trans (h.1 a x1 x2 x3 x4 x5 x6 x7 x8 x9), fun k x => (h2.2.1 k x).trans (h.2.1 k x), h2.2.2.trans h.2.2⟩
theorem Gq.of {M' : Mem} (h : Gz M M') (e : M' 67 2 = M 67 2) : Gq M M' := ⟨h.1, h.2.1, e⟩
theorem Gq.z {M' : Mem} (h : Gq M M') (hm : RM Z M) (hm' : RM Z M') : Gz M M' := ⟨h.1, h.2.1, fun k hk => (MT.eq hm'.T hm.T hk)⟩
theorem Gq.cell {a j : Nat} {v : Int32} (ha : a = 83 ∨ a = 97 ∨ a = 98) : Gq M (up M a j v) := ⟨fun b x1 x2 x3 x4 x5 x6 x7 x8 x9 => up_ne (by omega), fun k _ => by rw [up_ne (by omega)], by rw [up_ne (by omega)]⟩
theorem Gz.cell {a j : Nat} {v : Int32} (ha : a = 97 ∨ a = 98) : Gz M (up M a j v) := ⟨fun b x1 x2 x3 x4 x5 x6 x7 x8 x9 => up_ne (by omega), fun k _ => by rw [up_ne (by omega)], fun k _ => by rw [mrow_of (M := M) (fun i _ _ => by rw [up_ne (by omega)]) (up_ne (by omega)) (up_ne (by omega)) (up_ne (by omega))]⟩
/-- the state with another walk -/
def Zw (Z : Zs) (p i s : Nat) : Zs := zB Z (zT (z_B Z) (zTw (b_t (z_B Z)) p i s))
theorem ZW.wk (hz : ZW Z) {p i s : Nat} (hs : s < zns (z_P Z)) : ZW (Zw Z p i s) := ⟨hz.1, hz.2.1.T ⟨zTw_W hz.2.1.1.1 hs, hz.2.1.1.2⟩, hz.2.2⟩
theorem zTw_tw (T : Tn) (p i s s' : Nat) : zTw (zTw T p i s) p i s' = zTw T p i s' := by
  unfold zTw
  congr 6
  funext q j
  show (if q = p ∧ j = i then s' else if q = p ∧ j = i then s else t_w T q j) = _
  by_cases e : q = p ∧ j = i
  · rw [if_pos e, if_pos e]
  · rw [if_neg e, if_neg e, if_neg e]
theorem zTw_self (T : Tn) (p i : Nat) : zTw T p i (t_w T p i) = T := by
  unfold zTw
  have : (fun q j => if q = p ∧ j = i then t_w T p i else t_w T q j) = t_w T := by
    funext q j
    by_cases e : q = p ∧ j = i
    · rw [if_pos e, e.1, e.2]
    · rw [if_neg e]
  rw [this]
theorem RM.wk {p i s : Nat} (hm : RM Z M) (hp : p < 7) (hi : i < 6) : RM (Zw Z p i s) (up M 83 (6 * p + i) (nI s)) := hm.setT (hm.T.tw hp hi) (fun a _ _ _ x => up_ne x) (fun k _ => by rw [up_ne (by omega)])
theorem RM.w2 {p i s s' : Nat} (hm : RM (Zw Z p i s') M) (hp : p < 7) (hi : i < 6) : RM (Zw Z p i s) (up M 83 (6 * p + i) (nI s)) := by
  have := hm.wk (s := s) hp hi
  have e : Zw (Zw Z p i s') p i s = Zw Z p i s := by
    show zB Z (zT (z_B Z) (zTw (zTw (b_t (z_B Z)) p i s') p i s)) = _
    rw [zTw_tw]; rfl
  rwa [e] at this
theorem Zw_self (p i : Nat) : Zw Z p i (t_w (b_t (z_B Z)) p i) = Z := by
  unfold Zw
  rw [zTw_self]; rfl
theorem TL.of {M' : Mem} {L : List (Nat × Nat × Nat)} (h : TL M L) (e1 : M' 67 52 = M 67 52) (e2 : M' 97 = M 97) : TL M' L := by unfold TL; rw [e1, e2]; exact h
theorem TL.add {L : List (Nat × Nat × Nat)} {e : Nat × Nat × Nat} (h : TL M L) : TL (up (up M 97 L.length (nI (yc e))) 67 52 (nI L.length + 1)) (L ++ [e]) := by
  refine ⟨?_, fun k e' he => ?_⟩
  · rw [up_app, if_pos ⟨rfl, rfl⟩, nI_1, List.length_append]; rfl
  · rw [up_ne (by omega), up_app]
    by_cases hk : k = L.length
    · subst hk
      rw [if_pos ⟨rfl, rfl⟩]
      rw [List.getElem?_append_right (by omega), Nat.sub_self] at he
      have : e = e' := by simpa using he
      rw [this]
    · rw [if_neg (fun z => hk z.2)]
      by_cases h2 : k < L.length
      · rw [List.getElem?_append_left h2] at he; exact h.2 k e' he
      · rw [List.getElem?_eq_none (by simp; omega)] at he; cases he
theorem zm_fits44 (hz : ZW Z) {p i s0 : Nat} (hp : p < znp (z_P Z)) (hi : i < 6) (hm : RM (Zw Z p i s0) M) {L : List (Nat × Nat × Nat)} (hL : L.length ≤ 48 * p + 8 * i) (hT : TL M L) : Evs (L_X12_tellFits_44 67 (nI p) (nI i) (nI (t_w (b_t (z_B Z)) p i)) FU 0 M) (fun M' => TL M' (L ++ yS (z_P Z) (b_t (z_B Z)) (z_B Z) p i (zns (z_P Z))) ∧ (∃ s, RM (Zw Z p i s) M') ∧ Gq M M') := by
  have hP := hz.1
  have h7 := hP.2.2.1
  have h8 := hP.1.2
  obtain ⟨⟨hTW, hTC, h9⟩, -, -, hm8, hq⟩ := hz.2.1
  have key : ∀ j s f (N : Mem), s + j = zns (z_P Z) → j < f → TL N (L ++ yS (z_P Z) (b_t (z_B Z)) (z_B Z) p i s) → (∃ s, RM (Zw Z p i s) N) → Gq M N → Evs (L_X12_tellFits_44 67 (nI p) (nI i) (nI (t_w (b_t (z_B Z)) p i)) f (nI s) N) (fun M' => TL M' (L ++ yS (z_P Z) (b_t (z_B Z)) (z_B Z) p i (zns (z_P Z))) ∧ (∃ s, RM (Zw Z p i s) M') ∧ Gq M M') := by
    intro j
    induction j with
    | zero =>
      intro s f N e hf c1 ⟨s', c2⟩ F
      obtain ⟨f, rfl⟩ : ∃ f', f = f' + 1 := ⟨f - 1, by omega⟩
      obtain rfl : s = zns (z_P Z) := by omega
      rw [L_X12_tellFits_44, show N (67 + 3) 0 = _ from c2.P.1.1, if_pos (nI_le (by show zns (z_P Z) ≤ _; omega) (by omega))]
      exact Evs.pure ⟨c1, ⟨s', c2⟩, F⟩
    | succ j ih =>
      intro s f N e hf c1 ⟨s', c2⟩ F
      obtain ⟨f, rfl⟩ : ∃ f', f = f' + 1 := ⟨f - 1, by omega⟩
      have hwi := hTW.2.1 p i
      have ih' := fun N2 => ih (s + 1) f N2 (by omega) (by omega)
      rw [yS] at ih'
      have hlen : (L ++ yS (z_P Z) (b_t (z_B Z)) (z_B Z) p i s).length < 336 := by
        have := yS_len (P := z_P Z) (T := b_t (z_B Z)) (B := z_B Z) (p := p) (i := i) s
        rw [List.length_append]; omega
      rw [L_X12_tellFits_44, show N (67 + 3) 0 = nI (zns (z_P Z)) from c2.P.1.1, if_neg (nI_ge (by omega) (by omega)), z6, nI_add, show ast N (67 + 16) 42 (nI (6 * p + i)) (nI s) = some (up N 83 (6 * p + i) (nI s)) from zast (by omega) (by omega), zbs rfl]
      have hm1 : RM (Zw Z p i s) (up N 83 (6 * p + i) (nI s)) := c2.w2 (by omega) hi
      have hT1 : TL (up N 83 (6 * p + i) (nI s)) (L ++ yS (z_P Z) (b_t (z_B Z)) (z_B Z) p i s) := c1.of (by rw [up_ne (by omega)]) (up_ne (by omega))
      have G1 : Gq M (up N 83 (6 * p + i) (nI s)) := F.tr (Gq.cell (by omega))
      generalize up N 83 (6 * p + i) (nI s) = N1 at hm1 hT1 G1 ⊢
      rw [nI_1]
      by_cases q : t_w (b_t (z_B Z)) p i = s
      · rw [if_pos (by rw [q])]
        have hft : yft (z_P Z) (b_t (z_B Z)) (z_B Z) p i s = false := by unfold yft; simp [q]
        rw [hft] at ih'
        simp only [Bool.false_eq_true, if_false, List.append_nil] at ih'
        exact ih' N1 hT1 ⟨s, hm1⟩ G1
      · rw [if_neg (fun z => q ((nI_eq (by omega) (by omega)).mp z).symm)]
        refine Evs.bind (zm_as (hz.wk (p := p) (i := i) (s := s) (by omega)) hm1) (fun r hr => ?_)
        obtain ⟨r1, r2, r3, r4, r5, r6⟩ := hr
        have r1' : r.1 = yha (z_P Z) (zTw (b_t (z_B Z)) p i s) (z_B Z) := r1
        have hm2 := hm1.keep r2
        have hT2 := hT1.of r4 r5
        have G2 := G1.tr (Gq.of r2 r3)
        by_cases g : yha (z_P Z) (zTw (b_t (z_B Z)) p i s) (z_B Z) = true
        · rw [if_neg (by rw [r1', g]; decide)]
          have hft : yft (z_P Z) (b_t (z_B Z)) (z_B Z) p i s = true := by unfold yft; rw [g]; simp [q]
          rw [hft] at ih'
          simp only [if_true] at ih'
          have hcode : 100 * nI p + 10 * nI i + nI s = nI (yc (p, i, s)) := by
            rw [show (100 : Int32) = nI 100 from rfl, show (10 : Int32) = nI 10 from rfl, zmul, zmul, nI_add, nI_add]; rfl
          rw [hcode, hT2.1, show ast r.2 (67 + 30) 336 (nI (L ++ yS (z_P Z) (b_t (z_B Z)) (z_B Z) p i s).length) (nI (yc (p, i, s))) = some (up r.2 97 (L ++ yS (z_P Z) (b_t (z_B Z)) (z_B Z) p i s).length (nI (yc (p, i, s)))) from zast hlen (by omega), zbs rfl]
          rw [show (up r.2 97 (L ++ yS (z_P Z) (b_t (z_B Z)) (z_B Z) p i s).length (nI (yc (p, i, s)))) 67 52 = nI (L ++ yS (z_P Z) (b_t (z_B Z)) (z_B Z) p i s).length from by rw [up_ne (by omega)]; exact hT2.1]
          have Gc : Gz r.2 (up (up r.2 97 (L ++ yS (z_P Z) (b_t (z_B Z)) (z_B Z) p i s).length (nI (yc (p, i, s)))) 67 52 (nI (L ++ yS (z_P Z) (b_t (z_B Z)) (z_B Z) p i s).length + 1)) := (Gz.cell (by omega)).tr (Gz.f (by omega) (by omega))
          refine ih' _ ?_ ⟨s, hm2.keep Gc⟩ (G2.tr (Gq.of Gc (by rw [up_app, if_neg (by omega), up_ne (by omega)])))
          rw [← List.append_assoc]
          exact hT2.add
        · rw [if_pos (by rw [r1', zbi]; simpa using g)]
          have hft : yft (z_P Z) (b_t (z_B Z)) (z_B Z) p i s = false := by unfold yft; rw [show yha (z_P Z) (zTw (b_t (z_B Z)) p i s) (z_B Z) = false by simpa using g, Bool.and_false]
          rw [hft] at ih'
          simp only [Bool.false_eq_true, if_false, List.append_nil] at ih'
          exact ih' r.2 hT2 ⟨s, hm2⟩ G2
  exact key (zns (z_P Z)) 0 FU M (by omega) (by unfold FU; omega) (by rw [yS, List.append_nil]; exact hT) ⟨s0, hm⟩ Gq.rf
theorem zm_fits19 (hz : ZW Z) {p : Nat} (hp : p < znp (z_P Z)) (hm : RM Z M) {L : List (Nat × Nat × Nat)} (hL : L.length ≤ 48 * p) (hT : TL M L) : Evs (L_X12_tellFits_19 67 (nI p) FU 0 M) (fun M' => TL M' (L ++ yI (z_P Z) (b_t (z_B Z)) (z_B Z) p (p_ln (z_P Z) p)) ∧ RM Z M' ∧ Gq M M') := by
  have hP := hz.1
  have h7 := hP.2.2.1
  have h6 := hP.2.2.2.2.2.2.2.1 p hp
  have hTW := hz.2.1.1.1
  have key : ∀ j i f (N : Mem), i + j = p_ln (z_P Z) p → j < f → TL N (L ++ yI (z_P Z) (b_t (z_B Z)) (z_B Z) p i) → RM Z N → Gq M N → Evs (L_X12_tellFits_19 67 (nI p) f (nI i) N) (fun M' => TL M' (L ++ yI (z_P Z) (b_t (z_B Z)) (z_B Z) p (p_ln (z_P Z) p)) ∧ RM Z M' ∧ Gq M M') := by
    intro j
    induction j with
    | zero =>
      intro i f N e hf c1 c2 F
      obtain ⟨f, rfl⟩ : ∃ f', f = f' + 1 := ⟨f - 1, by omega⟩
      obtain rfl : i = p_ln (z_P Z) p := by omega
      rw [L_X12_tellFits_19, show ald N (67 + 8) 14 (nI p) = some (nI (p_ln (z_P Z) p)) from (zald (by omega) (by omega)).trans (congrArg some (c2.P.2.2.2.2.1 p hp)), zbs rfl, if_pos (nI_le (by omega) (by omega))]
      exact Evs.pure ⟨c1, c2, F⟩
    | succ j ih =>
      intro i f N e hf c1 c2 F
      obtain ⟨f, rfl⟩ : ∃ f', f = f' + 1 := ⟨f - 1, by omega⟩
      have hwi := hTW.2.1 p i
      have hl : (L ++ yI (z_P Z) (b_t (z_B Z)) (z_B Z) p i).length ≤ 48 * p + 8 * i := by
        have := yI_len (T := b_t (z_B Z)) (B := z_B Z) (p := p) hP.1.2 i
        rw [List.length_append]; omega
      rw [L_X12_tellFits_19, show ald N (67 + 8) 14 (nI p) = some (nI (p_ln (z_P Z) p)) from (zald (by omega) (by omega)).trans (congrArg some (c2.P.2.2.2.2.1 p hp)), zbs rfl, if_neg (nI_ge (by omega) (by omega)), z6, nI_add, show ald N (67 + 16) 42 (nI (6 * p + i)) = some (nI (t_w (b_t (z_B Z)) p i)) from (zald (by omega) (by omega)).trans (congrArg some (c2.T.w (by omega) (by omega))), zbs rfl]
      refine Evs.bind (zm_fits44 hz hp (by omega) (s0 := t_w (b_t (z_B Z)) p i) (by rw [Zw_self]; exact c2) hl c1) (fun N2 h2 => ?_)
      obtain ⟨a1, ⟨s', a2⟩, a3⟩ := h2
      rw [show ast N2 (67 + 16) 42 (nI (6 * p + i)) (nI (t_w (b_t (z_B Z)) p i)) = some (up N2 83 (6 * p + i) (nI (t_w (b_t (z_B Z)) p i))) from zast (by omega) (by omega), zbs rfl, nI_1]
      refine ih (i + 1) f _ (by omega) (by omega) ?_ ?_ ((F.tr a3).tr (Gq.cell (by omega)))
      · refine TL.of ?_ (by rw [up_ne (by omega)]) (up_ne (by omega))
        rw [List.append_assoc] at a1
        exact a1
      · have := a2.w2 (s := t_w (b_t (z_B Z)) p i) (p := p) (i := i) (by omega) (by omega)
        rwa [Zw_self] at this
  exact key (p_ln (z_P Z) p) 0 FU M (by omega) (by unfold FU; omega) (by rw [yI, List.append_nil]; exact hT) hm Gq.rf
theorem zm_fits (hz : ZW Z) (hm : RM Z M) : Evs (F_X12_tellFits 67 M) (fun M' => TL M' (yL (z_P Z) (b_t (z_B Z)) (z_B Z) (znp (z_P Z))) ∧ Gz M M' ∧ M' 67 2 = M 67 2) := by
  have hP := hz.1
  have h7 := hP.2.2.1
  have key : ∀ j p f (N : Mem), p + j = znp (z_P Z) → j < f → TL N (yL (z_P Z) (b_t (z_B Z)) (z_B Z) p) → RM Z N → Gq M N → Evs (L_X12_tellFits_7 67 f (nI p) N) (fun M' => TL M' (yL (z_P Z) (b_t (z_B Z)) (z_B Z) (znp (z_P Z))) ∧ RM Z M' ∧ Gq M M') := by
    intro j
    induction j with
    | zero =>
      intro p f N e hf c1 c2 F
      obtain ⟨f, rfl⟩ : ∃ f', f = f' + 1 := ⟨f - 1, by omega⟩
      obtain rfl : p = znp (z_P Z) := by omega
      rw [L_X12_tellFits_7, show N (67 + 3) 3 = _ from c2.P.1.2.2.2.1, if_pos (nI_le (by omega) (by omega))]
      exact Evs.pure ⟨c1, c2, F⟩
    | succ j ih =>
      intro p f N e hf c1 c2 F
      obtain ⟨f, rfl⟩ : ∃ f', f = f' + 1 := ⟨f - 1, by omega⟩
      rw [L_X12_tellFits_7, show N (67 + 3) 3 = _ from c2.P.1.2.2.2.1, if_neg (nI_ge (by omega) (by omega)), nI_1]
      exact Evs.bind (zm_fits19 hz (by omega) c2 (yL_len hP.1.2 (fun q h => (hP.2.2.2.2.2.2.2.1 q h).2) p (by omega)) c1) (fun N2 h2 => ih (p + 1) f N2 (by omega) (by omega) h2.1 h2.2.1 (F.tr h2.2.2))
  unfold F_X12_tellFits
  have G : Gz M (up M 67 52 0) := Gz.f (by omega) (by omega)
  have e2 : (up M 67 52 0) 67 2 = M 67 2 := by rw [up_app, if_neg (by omega)]
  refine Evs.bind (key (znp (z_P Z)) 0 FU (up M 67 52 0) (by omega) (by unfold FU; omega) ⟨by rw [up_app, if_pos ⟨rfl, rfl⟩]; rfl, fun k e h => by rw [yL] at h; simp at h⟩ (hm.keep G) (Gq.of G e2)) (fun N h => Evs.pure ⟨h.1, h.2.2.z hm h.2.1, h.2.2.2.2⟩)
end TELLF
