/-! ===== what the readers do at a token ===== -/
def FRo (M M' : Mem) : Prop := (∀ c, c ≠ 1 → c ≠ 13 → M' c = M c) ∧ ∀ k, k ≠ 4 → k ≠ 5 → k ≠ 6 → k ≠ 7 → k ≠ 8 → k ≠ 10 → M' 1 k = M 1 k
def GK (M M' : Mem) : Prop := (∀ c, c ≠ 67 → M' c = M c) ∧ ∀ k, k ≠ 15 → k ≠ 17 → k ≠ 18 → k ≠ 19 → k ≠ 20 → k ≠ 21 → k ≠ 22 → k ≠ 24 → M' 67 k = M 67 k
section OPS
variable {M : Mem} {w n : Nat} {y : Nat → Nat} {s : St} {N Nm : Mem}
theorem FRo.rf : FRo M M := ⟨fun _ _ _ => rfl, fun _ _ _ _ _ _ _ => rfl⟩
theorem FRo.tr {M1 M2 : Mem} (h : FRo M M1) (h2 : FRo M1 M2) : FRo M M2 := ⟨fun a x1 x2 => (h2.1 a x1 x2).trans (h.1 a x1 x2), fun k x1 x2 x3 x4 x5 x6 => (h2.2 k x1 x2 x3 x4 x5 x6).trans (h.2 k x1 x2 x3 x4 x5 x6)⟩
theorem FRo.f {k : Nat} {v : Int32} (h : k = 4 ∨ k = 5 ∨ k = 6 ∨ k = 7 ∨ k = 8 ∨ k = 10) : FRo M (up M 1 k v) := ⟨fun c hc _ => up_ne hc, fun j _ _ _ _ _ _ => up_nk (by omega)⟩
theorem FRo.r {k : Nat} {v : Int32} : FRo M (up M 13 k v) := ⟨fun c _ hc => up_ne hc, fun j _ _ _ _ _ _ => by rw [up_ne (by omega)]⟩
theorem FRo.fw {M' : Mem} (h : FRo M M') : FW w M M' := ⟨fun c h1 h2 _ => h.1 c h1 h2, h.2 1 (by omega) (by omega) (by omega) (by omega) (by omega) (by omega), h.2 2 (by omega) (by omega) (by omega) (by omega) (by omega) (by omega), h.2 3 (by omega) (by omega) (by omega) (by omega) (by omega) (by omega)⟩
theorem GK.rf : GK M M := ⟨fun _ _ => rfl, fun _ _ _ _ _ _ _ _ _ => rfl⟩
theorem GK.tr {M1 M2 : Mem} (h : GK M M1) (h2 : GK M1 M2) : GK M M2 := ⟨fun c x1 => (h2.1 c x1).trans (h.1 c x1), fun k x1 x2 x3 x4 x5 x6 x7 x8 => (h2.2 k x1 x2 x3 x4 x5 x6 x7 x8).trans (h.2 k x1 x2 x3 x4 x5 x6 x7 x8)⟩
theorem GK.f {k : Nat} {v : Int32} (h : k = 15 ∨ k = 17 ∨ k = 18 ∨ k = 19 ∨ k = 20 ∨ k = 21 ∨ k = 22 ∨ k = 24) : GK M (up M 67 k v) := ⟨fun c hc => up_ne hc, fun j _ _ _ _ _ _ _ _ => up_nk (by omega)⟩
theorem GK.gw {M' : Mem} (h : GK M M') : GW M M' := ⟨fun c hc _ => h.1 c hc, h.2, fun k _ => by rw [h.1 70 (by omega), h.1 73 (by omega), h.1 74 (by omega), h.1 75 (by omega)]; exact ⟨rfl, rfl, rfl, rfl⟩, fun k _ => by rw [h.1 71 (by omega), h.1 72 (by omega), h.1 77 (by omega)]; exact ⟨rfl, rfl, rfl⟩, fun k _ => by rw [h.1 76 (by omega)], fun k _ => by rw [h.1 78 (by omega)]⟩
theorem Gt.gk {M' : Mem} (h : Gt M M') : GK M M' := ⟨h.1, fun k x1 x2 x3 x4 x5 _ _ _ => h.2 k x1 x2 x3 x4 x5⟩
theorem ywr_K {c : Nat} : GK N (ywr c N) := (GK.f (by omega)).tr (GK.f (by omega))
abbrev KC' (y : Nat → Nat) (n : Nat) (s : St) (N : Mem) : Prop := KC y n N (s_a s) (s_b s) (s_k s)
abbrev KM' (y : Nat → Nat) (n : Nat) (s : St) (N : Mem) : Prop := KM y n N (s_a s) (s_b s) (s_k s)
theorem KC.hv (h : KC' y n s N) : s_k s = 2 → s_b s ≤ s_a s + 4 → yvl y s < 10000 := fun h1 h2 => (h.2.2.2.2.1 h1 h2).2
theorem KC.v (h : KC' y n s N) (h1 : s_k s = 2) (h2 : s_b s ≤ s_a s + 4) : N 1 7 = nI (yvl y s) := (h.2.2.2.2.1 h1 h2).1
theorem KC.of {M' : Mem} (h : KC' y n s N) (e1 : ∀ k, k = 3 ∨ k = 4 ∨ k = 5 ∨ k = 6 ∨ k = 7 → M' 1 k = N 1 k) (e2 : M' 2 = N 2) : KC' y n s M' := by
  obtain ⟨k1, k2, k3, k4, k5, k6⟩ := h
  exact ⟨by rw [e1 3 (by omega)]; exact k1, by rw [e1 4 (by omega)]; exact k2, by rw [e1 5 (by omega)]; exact k3, by rw [e1 6 (by omega)]; exact k4, by rw [e1 7 (by omega)]; exact k5, by rw [e2]; exact k6⟩
theorem KM.of {M' : Mem} (h : KM' y n s N) (e1 : ∀ k, k = 15 ∨ k = 16 ∨ k = 17 ∨ k = 18 ∨ k = 19 ∨ k = 20 → M' 67 k = N 67 k) (e2 : M' 80 = N 80) : KM' y n s M' := by
  obtain ⟨k1, k2, k3, k4, k5, k6, k7⟩ := h
  exact ⟨by rw [e1 16 (by omega)]; exact k1, by rw [e1 19 (by omega)]; exact k2, by rw [e1 15 (by omega)]; exact k3, by rw [e1 20 (by omega)]; exact k4, by rw [e1 17 (by omega)]; exact k5, by rw [e1 18 (by omega)]; exact k6, by rw [e2]; exact k7⟩
/-- both at a number -/
theorem k_num {lo hi : Nat} (hl : lo ≤ 9999) (hh : hi ≤ 9999) (ht : TK y n s) (hn : n ≤ 700) (hy : ∀ i, i < n → y i < 256) (h : KC' y n s N) (h2 : KM' y n s Nm) (h0 : Nm 67 21 = 0) : (F_X5_number 1 (nI lo) (nI hi) N = (true, N) ∧ F_X12_numberNow 67 (nI lo) (nI hi) Nm = (nI (yvl y s), Nm) ∧ N 1 7 = nI (yvl y s) ∧ lo ≤ yvl y s ∧ yvl y s ≤ hi ∧ s_k s = 2) ∨ ∃ c, (1 ≤ c ∧ c ≤ 5) ∧ F_X5_number 1 (nI lo) (nI hi) N = (false, up N 1 8 (nI c)) ∧ F_X12_numberNow 67 (nI lo) (nI hi) Nm = (0, ywr c Nm) := by
  have e1 := xc_num hl hh ht hn hy h
  have e2 := xm_num hl hh ht hn hy h.hv h2 h0
  by_cases q : yne y s lo hi = 0
  · rw [if_pos q] at e1 e2
    have := yne_ok q
    exact Or.inl ⟨e1, e2, h.v this.1 this.2.1, this.2.2.1, this.2.2.2, this.1⟩
  · rw [if_neg q] at e1 e2
    exact Or.inr ⟨yne y s lo hi, by have := yne_le (y := y) (s := s) lo hi; omega, e1, e2⟩
theorem ywr_at {c : Nat} : (ywr c Nm) 67 21 = nI c := by unfold ywr; rw [up_nk (by omega), up_at]
theorem ywr_ne {c : Nat} (hc : 1 ≤ c ∧ c ≤ 5) : ¬ (ywr c Nm) 67 21 = 0 := by rw [ywr_at]; exact nI_ne0 (by omega) (by omega)
theorem BAD.ne {c q : Nat} (h : BAD c q N Nm) : ¬ Nm 67 21 = 0 := by rw [h.2.2.1]; exact nI_ne0 (by have := h.1; omega) (by have := h.1; omega)
theorem BAD.g {c q : Nat} {N' : Mem} (h : BAD c q N Nm) (g : WG Nm N') : BAD c q N N' := ⟨h.1, h.2.1, g.2.1.trans h.2.2.1, g.2.2.trans h.2.2.2⟩
/-- both at a street -/
theorem k_street {zn : Nat} (hzn : zn ≤ 8) (ht : TK y n s) (hn : n ≤ 700) (hy : ∀ i, i < n → y i < 256) (hw : w = 3 ∨ w = 14) (h : KC' y n s N) (hw2 : N 1 2 = nI w) (hz : N w 0 = nI zn) (h2 : KM' y n s Nm) (h0 : Nm 67 21 = 0) (hz2 : Nm 70 7 = nI zn) : (F_X5_street 1 N = some (true, up N 1 10 1) ∧ F_X12_streetNow 67 Nm = (nI (yvl y s), up Nm 67 24 1) ∧ N 1 7 = nI (yvl y s) ∧ yvl y s < zn ∧ s_k s = 2) ∨ ∃ c N' v Nm', BAD c (s_a s) N' Nm' ∧ FRo N N' ∧ GK Nm Nm' ∧ F_X5_street 1 N = some (false, N') ∧ F_X12_streetNow 67 Nm = (v, Nm') := by
  have hgr : ∀ N : Mem, N 1 2 = nI w → grd (N 1 2) = some w := fun N e => by
    rw [e]; rcases hw with rfl | rfl <;> rfl
  have en : F_X5_number 1 0 9999 N = _ := xc_num (lo := 0) (hi := 9999) (by omega) (by omega) ht hn hy h
  have em : F_X12_numberNow 67 0 9999 Nm = _ := xm_num (lo := 0) (hi := 9999) (by omega) (by omega) ht hn hy h.hv h2 h0
  unfold F_X5_street F_X12_streetNow J_X12_streetNow_j32
  rw [en, em]
  by_cases q : yne y s 0 9999 = 0
  · rw [if_pos q, if_pos q]
    have hk := yne_ok q
    have hv := h.v hk.1 hk.2.1
    dsimp only
    rw [if_neg (show ¬ bi true = 0 by decide), hgr _ (by rw [up_nk (by omega)]; exact hw2), zbs rfl, if_pos h0]
    have c1 : (up N 1 10 (bi true)) 1 7 = nI (yvl y s) := by rw [up_nk (by omega)]; exact hv
    have c2 : (up N 1 10 (bi true)) w 0 = nI zn := by rw [up_ne (by omega)]; exact hz
    have c3 : Nm (67 + 3) 7 = nI zn := hz2
    by_cases z : yvl y s < zn
    · rw [if_pos (show (up N 1 10 (bi true)) 1 7 < (up N 1 10 (bi true)) w 0 from by rw [c1, c2]; exact nI_lt z (by omega)), if_pos (show nI (yvl y s) < Nm (67 + 3) 7 from by rw [c3]; exact nI_lt z (by omega)), if_pos (show (up Nm 67 24 (bi true)) 67 21 = 0 from by rw [up_nk (by omega)]; exact h0)]
      exact Or.inl ⟨rfl, rfl, hv, z, hk.1⟩
    · have e3 : F_X12_wrong 67 3 Nm = ywr 3 Nm := ywr_eq (c := 3) h0
      rw [if_neg (show ¬ (up N 1 10 (bi true)) 1 7 < (up N 1 10 (bi true)) w 0 from by rw [c1, c2]; exact nI_nlt (by omega) (by have := hk; omega)), if_neg (show ¬ nI (yvl y s) < Nm (67 + 3) 7 from by rw [c3]; exact nI_nlt (by omega) (by have := hk; omega)), e3]
      refine Or.inr ⟨3, up (up N 1 10 (bi true)) 1 8 3, _, up (ywr 3 Nm) 67 24 (bi true), ⟨by omega, ⟨up_at, ?_⟩, ?_, ?_⟩, (FRo.f (by omega)).tr (FRo.f (by omega)), ywr_K.tr (GK.f (by omega)), rfl, rfl⟩
      · rw [up_nk (by omega), up_nk (by omega)]; exact h.2.1
      · rw [up_nk (by omega), ywr_at]
      · rw [up_nk (by omega)]; unfold ywr; rw [up_at]; exact h2.2.1
  · rw [if_neg q, if_neg q]
    dsimp only
    rw [if_pos (show bi false = 0 from rfl)]
    have hc : 1 ≤ yne y s 0 9999 ∧ yne y s 0 9999 ≤ 5 := by have := yne_le (y := y) (s := s) 0 9999; omega
    rw [if_neg (ywr_ne hc)]
    exact Or.inr ⟨yne y s 0 9999, _, _, _, (BAD.of h h2 hc).g WG.f, FRo.f (by omega), ywr_K.tr (GK.f (by omega)), rfl, rfl⟩
/-- is it this sign? -/
theorem xm_marked {c : Nat} (hc : 3 < c) (hc2 : c < 256) (ht : TK y n s) (hn : n ≤ 700) (hy : ∀ i, i < n → y i < 256) (h2 : KM' y n s Nm) (h0 : Nm 67 21 = 0) : F_X12_isMarked 67 (nI c) Nm = some (decide (s_k s = c)) := by
  obtain ⟨k1, k2, k3, k4, k5, k6, k7⟩ := h2
  have h61 := ht.k61 hy
  unfold F_X12_isMarked
  rw [if_pos h0, k5]
  by_cases q : 3 < s_k s
  · have e3 : ymo (s_k s) = 3 := by unfold ymo; rw [if_neg (by omega), if_neg (by omega)]
    have hs := ht.sg hy q
    have ha := (ht.ne (by omega)).2
    rw [e3, if_pos (show nI 3 = 3 from rfl), k2, show ald Nm (67 + 13) 700 (nI (s_a s)) = some (nI (y (s_a s))) from (zald (by omega) (by omega)).trans (congrArg some (k7 _ ha)), zbs rfl, ← hs.1]
    by_cases e : s_k s = c
    · rw [if_pos (by rw [e]), decide_eq_true e]
    · rw [if_neg (fun z => e ((nI_eq (by omega) (by omega)).mp z)), decide_eq_false e]
  · have e3 : ymo (s_k s) ≠ 3 := by unfold ymo; repeat' split
                                    all_goals omega
    have h4 : ymo (s_k s) ≤ 61 := by unfold ymo; repeat' split
                                     all_goals omega
    rw [if_neg (zne 3 3 rfl e3 (by omega) (by omega)), decide_eq_false (by omega)]
theorem xm_marked0 {c : Int32} (h0 : ¬ Nm 67 21 = 0) : F_X12_isMarked 67 c Nm = some false := by
  unfold F_X12_isMarked; rw [if_neg h0]
theorem xm_mark0 {c : Int32} (h0 : ¬ Nm 67 21 = 0) : F_X12_mark 67 c Nm = some Nm := by
  unfold F_X12_mark J_X12_mark_j20; rw [if_neg h0, if_neg h0]
theorem xm_wrong0 {c : Int32} (h0 : ¬ Nm 67 21 = 0) : F_X12_wrong 67 c Nm = Nm := by
  unfold F_X12_wrong; rw [if_neg h0]
theorem SY.bad (h : SY w y n s N Nm) {c : Nat} (hc : 1 ≤ c ∧ c ≤ 5) : BAD c (s_a s) (up N 1 8 (nI c)) (ywr c Nm) := BAD.of h.1.1.1 h.1.2.1 hc
theorem RES.bad {N0 Nm0 : Mem} {Q : St → Prop} {c q : Nat} (h : BAD c q N Nm) (f : FW w N0 N) (g : GW Nm0 Nm) : RES w y n N0 Nm0 Q (false, N) Nm := ⟨f, g, Or.inr ⟨rfl, c, q, h⟩⟩
theorem RES.ok {N0 Nm0 : Mem} {Q : St → Prop} (hq : Q s) (h : SY w y n s N Nm) (f : FW w N0 N) (g : GW Nm0 Nm) : RES w y n N0 Nm0 Q (true, N) Nm := ⟨f, g, Or.inl ⟨rfl, s, hq, h⟩⟩
theorem RES.from {N0 Nm0 N1 Nm1 : Mem} {Q Q' : St → Prop} {r : Bool × Mem} (h : RES w y n N1 Nm1 Q r Nm) (f : FW w N0 N1) (g : GW Nm0 Nm1) (k : ∀ s, Q s → Q' s) : RES w y n N0 Nm0 Q' r Nm := by
  obtain ⟨h1, h2, h3⟩ := h
  refine ⟨f.tr h1, g.tr h2, ?_⟩
  rcases h3 with ⟨e, s, hs, h⟩ | h
  · exact Or.inl ⟨e, s, k s hs, h⟩
  · exact Or.inr h
/-- both want a sign -/
theorem k_sign {c : Nat} (hc : 3 < c) (hc2 : c < 256) (hn : n ≤ 700) (hy : ∀ i, i < n → y i < 256) (hw : w = 3 ∨ w = 14) (h : SY w y n s N Nm) : Ev2 (F_X5_sign 1 (nI c) N) (F_X12_mark 67 (nI c) Nm) (RES w y n N Nm (fun s' => s' = ynx y n s ∧ s_k s = c)) := by
  have ht := h.2.1
  have h61 := ht.k61 hy
  unfold F_X5_sign F_X12_mark
  rw [if_pos h.1.2.2.1, xm_marked hc hc2 ht hn hy h.1.2.1 h.1.2.2.1, zbs rfl, h.1.1.1.2.2.2.1]
  by_cases q : s_k s = c
  · rw [if_pos (by rw [q]), decide_eq_true q, if_neg (show ¬ bi true = 0 by decide)]
    unfold J_X12_mark_j20
    rw [if_pos h.1.2.2.1]
    exact (h.nx hn hy hw).bind (fun a b p => Ev2.pure (RES.ok ⟨rfl, q⟩ p.1 p.2.1 p.2.2.1))
  · have e1 : F_X12_wrong 67 1 Nm = ywr 1 Nm := ywr_eq (c := 1) h.1.2.2.1
    rw [if_neg (fun z => q ((nI_eq (by omega) (by omega)).mp z)), decide_eq_false q, if_pos (show bi false = 0 from rfl), e1]
    unfold J_X12_mark_j20
    rw [if_neg (ywr_ne (by omega))]
    exact Ev2.pure (RES.bad (h.bad (c := 1) (by omega)) (FW.f (by omega)) ywr_G)
/-! words -/
def ywd (u : Nat) (y : Nat → Nat) (a b : Nat) : Bool := (b - a == TXL.getD u 0) && yal (fun i => nI (y (a + i)) == txc u (nI i)) (TXL.getD u 0)
theorem ywd_eq {u u' : Nat} (h1 : TXL.getD u 0 = TXL.getD u' 0) (h2 : TXB.getD u [] = TXB.getD u' []) : ywd u = ywd u' := by
  funext y a b
  unfold ywd txc
  rw [h1, h2]
theorem TXL_lt : ∀ u, u < 38 → TXL.getD u 0 < 10 := by decide
theorem yal_mono {f : Nat → Bool} {k : Nat} (h : yal f k = false) : ∀ j, yal f (k + j) = false
  | 0 => h
  | j + 1 => by show (yal f (k + j) && _) = false; rw [yal_mono h j]; rfl
theorem xc_word {u : Nat} (hu : u < 38) (ht : TK y n s) (hn : n ≤ 700) (hy : ∀ i, i < n → y i < 256) (h : KC' y n s N) : F_X5_isWord 1 u N = some (decide (s_k s = 1) && ywd u y (s_a s) (s_b s)) := by
  obtain ⟨k1, k2, k3, k4, k5, k6⟩ := h
  have hb := ht.b
  have h61 := ht.k61 hy
  have hl := TXL_lt u hu
  unfold F_X5_isWord
  rw [k4, k3, k2, zsub hb.1]
  by_cases q : s_k s = 1
  · rw [if_pos (by rw [q]; rfl), decide_eq_true q, Bool.true_and]
    unfold ywd F_slen
    by_cases l : s_b s - s_a s = TXL.getD u 0
    · rw [if_pos (by rw [l]), beq_iff_eq.mpr l, Bool.true_and]
      generalize hL : TXL.getD u 0 = L at *
      have key : ∀ j i f, i + j = L → j < f → yal (fun i => nI (y (s_a s + i)) == txc u (nI i)) i = true → (L_X5_isWord_28 1 u N f (nI i)).bind (fun q6 => Sum.elim (fun v => some v) (fun s7 => some true) q6) = some (yal (fun i => nI (y (s_a s + i)) == txc u (nI i)) L) := by
        intro j
        induction j with
        | zero =>
          intro i f e hf r
          obtain ⟨f, rfl⟩ : ∃ f', f = f' + 1 := ⟨f - 1, by omega⟩
          obtain rfl : i = L := by omega
          rw [L_X5_isWord_28, show F_slen u = nI i from by unfold F_slen; rw [hL], if_pos (nI_le (by omega) (by omega)), r]
          rfl
        | succ j ih =>
          intro i f e hf r
          obtain ⟨f, rfl⟩ : ∃ f', f = f' + 1 := ⟨f - 1, by omega⟩
          have hc : F_schar u (nI i) = some (txc u (nI i)) := by
            unfold F_schar; rw [if_neg (nI_pos (by omega)), hL, if_pos (nI_lt (by omega) (by omega))]
          rw [L_X5_isWord_28, show F_slen u = nI L from by unfold F_slen; rw [hL], if_neg (nI_ge (by omega) (by omega)), hc, zbs rfl, k2, nI_add, zat_at (by omega) (by omega), show N (1 + 1) (s_a s + i) = nI (y (s_a s + i)) from k6 _ (by omega), nI_1]
          have ih' := ih (i + 1) f (by omega) (by omega)
          rw [yal, r, Bool.true_and] at ih'
          by_cases z : nI (y (s_a s + i)) = txc u (nI i)
          · rw [if_pos z]; exact ih' (beq_iff_eq.mpr z)
          · rw [if_neg z]
            have : yal (fun i => nI (y (s_a s + i)) == txc u (nI i)) (i + 1) = false := by
              rw [yal, r, Bool.true_and]; simpa using z
            have := yal_mono this j
            rw [show i + 1 + j = L by omega] at this
            rw [this]; rfl
      exact key L 0 FU (by omega) (by unfold FU; omega) rfl
    · rw [if_neg (fun z => l ((nI_eq (by omega) (by omega)).mp z)), show (s_b s - s_a s == TXL.getD u 0) = false from by simpa using l]
      rfl
  · rw [if_neg (zne 1 1 rfl q (by omega) (by omega)), decide_eq_false q]; rfl
theorem xm_is0 {u : Nat} (h0 : ¬ Nm 67 21 = 0) : F_X12_is 67 u Nm = some false := by
  unfold F_X12_is J_X12_is_j35 J_X12_is_j36
  rw [if_neg h0]
  show ((L_X12_is_39 67 u Nm (99999 + 1) 0 0).bind _) = _
  rw [L_X12_is_39, if_pos rfl]
  rfl
theorem xm_is {u : Nat} (hu : u < 38) (ht : TK y n s) (hn : n ≤ 700) (hy : ∀ i, i < n → y i < 256) (h : KM' y n s Nm) (h0 : Nm 67 21 = 0) : F_X12_is 67 u Nm = some (decide (s_k s = 1) && ywd u y (s_a s) (s_b s)) := by
  obtain ⟨k1, k2, k3, k4, k5, k6, k7⟩ := h
  have hb := ht.b
  have h61 := ht.k61 hy
  have hl := TXL_lt u hu
  have hno : J_X12_is_j35 67 u Nm = some false := by
    unfold J_X12_is_j35 J_X12_is_j36
    show ((L_X12_is_39 67 u Nm (99999 + 1) 0 0).bind _) = _
    rw [L_X12_is_39, if_pos rfl]
    rfl
  unfold F_X12_is
  rw [if_pos h0, k5, k4, k2, zsub hb.1, hno]
  have h4 : ymo (s_k s) ≤ 61 := by unfold ymo; repeat' split
                                   all_goals omega
  by_cases q : s_k s = 1
  · rw [if_pos (by rw [q]; rfl), decide_eq_true q, Bool.true_and]
    unfold ywd F_slen
    by_cases l : s_b s - s_a s = TXL.getD u 0
    · rw [if_pos (by rw [l]), beq_iff_eq.mpr l, Bool.true_and]
      generalize hL : TXL.getD u 0 = L at *
      have key : ∀ j i f, i + j = L → j < f → L_X12_is_39 67 u Nm f (bi (yal (fun i => nI (y (s_a s + i)) == txc u (nI i)) i)) (nI i) = some (bi (yal (fun i => nI (y (s_a s + i)) == txc u (nI i)) L)) := by
        intro j
        induction j with
        | zero =>
          intro i f e hf
          obtain ⟨f, rfl⟩ : ∃ f', f = f' + 1 := ⟨f - 1, by omega⟩
          obtain rfl : i = L := by omega
          rw [L_X12_is_39, show F_slen u = nI i from by unfold F_slen; rw [hL], if_pos (show nI i ≤ nI i from nI_le (by omega) (by omega))]
          split <;> rfl
        | succ j ih =>
          intro i f e hf
          obtain ⟨f, rfl⟩ : ∃ f', f = f' + 1 := ⟨f - 1, by omega⟩
          have hc : F_schar u (nI i) = some (txc u (nI i)) := by
            unfold F_schar; rw [if_neg (nI_pos (by omega)), hL, if_pos (nI_lt (by omega) (by omega))]
          rw [L_X12_is_39]
          by_cases r : yal (fun i => nI (y (s_a s + i)) == txc u (nI i)) i = true
          · rw [r, if_neg (by decide), show F_slen u = nI L from by unfold F_slen; rw [hL], if_neg (nI_ge (by omega) (by omega)), hc, zbs rfl, k2, nI_add, show ald Nm (67 + 13) 700 (nI (s_a s + i)) = some (nI (y (s_a s + i))) from (zald (by omega) (by omega)).trans (congrArg some (k7 _ (by omega))), zbs rfl, nI_1, ← ih (i + 1) f (by omega) (by omega)]
            congr 1
            rw [yal, r, Bool.true_and]
            by_cases z : nI (y (s_a s + i)) = txc u (nI i)
            · rw [if_pos z.symm, beq_iff_eq.mpr z]; rfl
            · rw [if_neg (Ne.symm z), show (nI (y (s_a s + i)) == txc u (nI i)) = false from by simpa using z]; rfl
          · have r' : yal (fun i => nI (y (s_a s + i)) == txc u (nI i)) i = false := by simpa using r
            have := yal_mono r' (j + 1)
            rw [show i + (j + 1) = L by omega] at this
            rw [r', this, if_pos (show bi false = 0 from rfl)]
      unfold J_X12_is_j36
      rw [show L_X12_is_39 67 u Nm FU 1 0 = some (bi (yal (fun i => nI (y (s_a s + i)) == txc u (nI i)) L)) from key L 0 FU (by omega) (by unfold FU; omega), zbs rfl]
      cases yal (fun i => nI (y (s_a s + i)) == txc u (nI i)) L <;> rfl
    · rw [if_neg (fun z => l ((nI_eq (by omega) (by omega)).mp z.symm)), show (s_b s - s_a s == TXL.getD u 0) = false from by simpa using l]
      rfl
  · have : ymo (s_k s) ≠ 1 := by unfold ymo; repeat' split
                                 all_goals omega
    rw [if_neg (zne 1 1 rfl this (by omega) (by omega)), decide_eq_false q]; rfl
end OPS
