/-! ===== rows of streets, rows of numbers ===== -/
def GR (a st : Nat) (M M' : Mem) : Prop := (∀ c, c ≠ 67 → c ≠ a → M' c = M c) ∧ (∀ i, i < st → M' a i = M a i) ∧ ∀ k, k ≠ 15 → k ≠ 17 → k ≠ 18 → k ≠ 19 → k ≠ 20 → k ≠ 21 → k ≠ 22 → k ≠ 24 → M' 67 k = M 67 k
section ROWS
variable {M : Mem} {w n : Nat} {y : Nat → Nat} {s : St} {N Nm : Mem}
theorem GR.rf {a st : Nat} : GR a st M M := ⟨fun _ _ _ => rfl, fun _ _ => rfl, fun _ _ _ _ _ _ _ _ _ => rfl⟩
theorem GR.tr {a st : Nat} {M1 M2 : Mem} (h : GR a st M M1) (h2 : GR a st M1 M2) : GR a st M M2 := ⟨fun c x1 x2 => (h2.1 c x1 x2).trans (h.1 c x1 x2), fun i hi => (h2.2.1 i hi).trans (h.2.1 i hi), fun k x1 x2 x3 x4 x5 x6 x7 x8 => (h2.2.2 k x1 x2 x3 x4 x5 x6 x7 x8).trans (h.2.2 k x1 x2 x3 x4 x5 x6 x7 x8)⟩
theorem Ft.fr {M' : Mem} (h : Ft M M') : FRo M M' := ⟨fun c hc _ => h.1 c hc, fun k x1 x2 x3 x4 _ _ => h.2 k x1 x2 x3 x4⟩
theorem GR.f {a st k : Nat} {v : Int32} (ha : a ≠ 67) (h : k = 15 ∨ k = 17 ∨ k = 18 ∨ k = 19 ∨ k = 20 ∨ k = 21 ∨ k = 22 ∨ k = 24) : GR a st M (up M 67 k v) := ⟨fun c hc _ => up_ne hc, fun i _ => by rw [up_ne ha], fun j _ _ _ _ _ _ _ _ => up_nk (by omega)⟩
theorem GR.r {a st k : Nat} {v : Int32} (ha : a ≠ 67) (h : st ≤ k) : GR a st M (up M a k v) := ⟨fun c _ hc => up_ne hc, fun i hi => up_nk (by omega), fun j _ _ _ _ _ _ _ _ => by rw [up_ne (Ne.symm ha)]⟩
theorem GK.gr {a st : Nat} {M' : Mem} (ha : a ≠ 67) (h : GK M M') : GR a st M M' := ⟨fun c hc _ => h.1 c hc, fun i _ => by rw [h.1 a ha], h.2⟩
theorem Gt.gr {a st : Nat} {M' : Mem} (ha : a ≠ 67) (h : Gt M M') : GR a st M M' := ⟨fun c hc _ => h.1 c hc, fun i _ => by rw [h.1 a ha], fun k x1 x2 x3 x4 x5 _ _ _ => h.2 k x1 x2 x3 x4 x5⟩
theorem ywr_R {a st c : Nat} (ha : a ≠ 67) : GR a st N (ywr c N) := (GR.f ha (by omega)).tr (GR.f ha (by omega))
theorem GR.gw {a st : Nat} {M' : Mem} (ha : ((a = 72 ∨ a = 77) ∧ 8 ≤ st) ∨ (a = 76 ∧ 42 ≤ st)) (h : GR a st M M') : GW M M' := by
  have e : ∀ c k, c ≠ 67 → (c ≠ a ∨ k < st) → M' c k = M c k := fun c k h1 h2 => by
    by_cases q : c = a
    · subst q; exact h.2.1 k (by omega)
    · rw [h.1 c h1 q]
  refine ⟨fun c x1 x2 => h.1 c x1 (by omega), h.2.2, fun k hk => ⟨?_, ?_, ?_, ?_⟩, fun k hk => ⟨?_, ?_, ?_⟩, fun k hk => ?_, fun k hk => ?_⟩
  all_goals exact e _ _ (by omega) (by omega)
theorem k_adv (hn : n ≤ 700) (hy : ∀ i, i < n → y i < 256) (ht : TK y n s) (h : KC' y n s N) : Evs (F_X5_advance 1 N) (fun N' => KC' y n (ynx y n s) N' ∧ Ft N N') := zc_adv hn hy ht.b.2 h.1 h.2.2.1 h.2.2.2.2.2
theorem k_step (hn : n ≤ 700) (hy : ∀ i, i < n → y i < 256) (ht : TK y n s) (h : KM' y n s Nm) : Evs (F_X12_stepOn 67 Nm) (fun N' => KM' y n (ynx y n s) N' ∧ Gt Nm N') := zm_step hn hy ht.b.2 h.1 h.2.2.1 h.2.2.2.2.2.2
theorem yne_1 {lo hi : Nat} (h : s_k s ≠ 2) : yne y s lo hi = 1 := by unfold yne; rw [if_neg h]
theorem k_street1 (ht : TK y n s) (hn : n ≤ 700) (hy : ∀ i, i < n → y i < 256) (h : KC' y n s N) (hk : s_k s ≠ 2) : F_X5_street 1 N = some (false, up N 1 8 (nI 1)) := by
  have en : F_X5_number 1 0 9999 N = _ := xc_num (lo := 0) (hi := 9999) (by omega) (by omega) ht hn hy h
  rw [yne_1 hk, if_neg (by omega)] at en
  unfold F_X5_street
  rw [en, if_pos (show bi false = 0 from rfl)]
theorem k_num1 {lo hi : Nat} (hl : lo ≤ 9999) (hh : hi ≤ 9999) (ht : TK y n s) (hn : n ≤ 700) (hy : ∀ i, i < n → y i < 256) (h : KC' y n s N) (hk : s_k s ≠ 2) : F_X5_number 1 (nI lo) (nI hi) N = (false, up N 1 8 (nI 1)) := by
  rw [xc_num hl hh ht hn hy h, yne_1 hk, if_neg (by omega)]
theorem xm_k2 (ht : TK y n s) (hy : ∀ i, i < n → y i < 256) (h : KM' y n s Nm) : (Nm 67 17 = 2) ↔ s_k s = 2 := by
  have h61 := ht.k61 hy
  have h4 : ymo (s_k s) ≤ 61 := by unfold ymo; repeat' split
                                   all_goals omega
  rw [h.2.2.2.2.1]
  refine ⟨fun z => ?_, fun z => by rw [z]; rfl⟩
  by_cases q : s_k s = 2
  · exact q
  · have : ymo (s_k s) ≠ 2 := by unfold ymo; repeat' split
                                 all_goals omega
    exact absurd z (zne 2 2 rfl this (by omega) (by omega))
theorem xm_street0 (h0 : ¬ Nm 67 21 = 0) : F_X12_readStreet 67 Nm = some (0, up Nm 67 24 1) := by
  have en : F_X12_numberNow 67 0 9999 Nm = (0, Nm) := by unfold F_X12_numberNow; rw [if_neg h0]
  have es : F_X12_streetNow 67 Nm = (0, up Nm 67 24 1) := by
    unfold F_X12_streetNow J_X12_streetNow_j32
    rw [en, if_neg h0]
    show ((if (up Nm 67 24 (bi true)) 67 21 = 0 then (0 : Int32) else 0), _) = _
    split <;> rfl
  unfold F_X12_readStreet
  rw [es, if_neg (show ¬ (up Nm 67 24 1) 67 21 = 0 from by rw [up_nk (by omega)]; exact h0)]
/-- what both have read -/
def ROW (y : Nat → Nat) (n a st mx b a0 : Nat) (N Nm : Mem) (r r' : Int32 × Mem) : Prop := FRo N r.2 ∧ GR a st Nm r'.2 ∧ ((∃ (j : Nat) (s : St) (rr : Nat → Nat), (1 ≤ j ∧ j ≤ mx) ∧ (r.1 = nI j ∧ r'.1 = nI j) ∧ (TK y n s ∧ a0 ≤ s_a s) ∧ KC' y n s r.2 ∧ KM' y n s r'.2 ∧ r'.2 67 21 = 0 ∧ (r.2 1 10 = 1 ∧ r'.2 67 24 = 1) ∧ ∀ i, i < j → r.2 13 i = nI (rr i) ∧ r'.2 a (st + i) = nI (rr i) ∧ rr i < b) ∨ (r.1 = -1 ∧ ∃ c q, BAD c q r.2 r'.2))
theorem k_rows {a an st mx zn : Nat} (hzn : zn ≤ 8) (ha : a ≠ 67 ∧ a ≠ 70 ∧ a ≠ 80) (hst : st + mx ≤ an) (han : an ≤ 100) (hmx : 1 ≤ mx ∧ mx ≤ 8) (hn : n ≤ 700) (hy : ∀ i, i < n → y i < 256) (hw : w = 3 ∨ w = 14) (ht : TK y n s) (h : KC' y n s N) (hw2 : N 1 2 = nI w) (hz : N w 0 = nI zn) (h2 : KM' y n s Nm) (h0 : Nm 67 21 = 0) (hz2 : Nm 70 7 = nI zn) : Ev2 (F_X5_readRow 1 (nI mx) 1 N) (F_X12_readStreets 67 a an (nI st) (nI mx) Nm) (ROW y n a st mx zn (s_a s) N Nm) := by
  generalize ha0 : s_a s = a0 at *
  have ha0' : a0 ≤ s_a s := by omega
  have key : ∀ i j f g (s : St) (rr : Nat → Nat) (N1 Nm1 : Mem), j + i = mx → i < f → i + 1 < g → TK y n s → KC' y n s N1 → KM' y n s Nm1 → Nm1 67 21 = 0 → s_k s = 2 → a0 ≤ s_a s → FRo N N1 → GR a st Nm Nm1 → (0 < j → N1 1 10 = 1 ∧ Nm1 67 24 = 1) → (∀ i, i < j → N1 13 i = nI (rr i) ∧ Nm1 a (st + i) = nI (rr i) ∧ rr i < zn) → Ev2 ((L_X5_readRow_2 1 (nI mx) 1 f (nI j) N1).bind fun q10 => Sum.elim (fun v => some v) (fun s11 => some ((-1 : Int32), (up s11 1 8 2))) q10) ((L_X12_readStreets_23 67 a an (nI st) (nI mx) g (nI j) Nm1).bind fun q11 => Sum.elim (fun v => some v) (fun s12 => some (s12.1, s12.2)) q11) (ROW y n a st mx zn a0 N Nm) := by
    intro i
    induction i with
    | zero =>
      intro j f g s rr N1 Nm1 e hf hg ht hc hm h0 hk hl F G hfl hr
      obtain ⟨f, rfl⟩ : ∃ f', f = f' + 1 := ⟨f - 1, by omega⟩
      obtain ⟨g, rfl⟩ : ∃ g', g = g' + 1 := ⟨g - 1, by omega⟩
      obtain rfl : j = mx := by omega
      rw [L_X5_readRow_2, if_neg (nI_nlt (by omega) (by omega)), hc.2.2.2.1, hk, if_pos (show nI 2 = 2 from rfl), zbs rfl]
      rw [L_X12_readStreets_23, if_pos h0, if_pos ((xm_k2 ht hy hm).mpr hk), if_pos rfl, show F_X12_wrong 67 2 Nm1 = ywr 2 Nm1 from ywr_eq (c := 2) h0]
      unfold J_X12_readStreets_j49
      have h21 : ¬ (up (ywr 2 Nm1) 67 24 1) 67 21 = 0 := by rw [up_nk (by omega)]; exact ywr_ne (by omega)
      rw [xm_street0 (ywr_ne (by omega)), zbs rfl, if_neg h21, zbs rfl]
      exact Ev2.pure ⟨F.tr (FRo.f (by omega)), (G.tr (ywr_R ha.1)).tr (GR.f ha.1 (by omega)), Or.inr ⟨rfl, 2, s_a s, (BAD.of hc hm (c := 2) (by omega)).g WG.f⟩⟩
    | succ i ih =>
      intro j f g s rr N1 Nm1 e hf hg ht hc hm h0 hk hl F G hfl hr
      obtain ⟨f, rfl⟩ : ∃ f', f = f' + 1 := ⟨f - 1, by omega⟩
      obtain ⟨g, rfl⟩ : ∃ g', g = g' + 1 := ⟨g - 1, by omega⟩
      rw [L_X5_readRow_2, if_pos (nI_lt (by omega) (by omega)), L_X12_readStreets_23, if_pos h0, if_pos ((xm_k2 ht hy hm).mpr hk), if_neg (fun z => by have := (nI_eq (by omega) (by omega)).mp z; omega)]
      unfold J_X5_readRow_j22 J_X12_readStreets_j49 F_X12_readStreet
      rw [if_neg (show ¬ (1 : Int32) = 0 by decide)]
      rcases k_street hzn ht hn hy hw hc (by rw [F.2 2 (by omega) (by omega) (by omega) (by omega) (by omega) (by omega)]; exact hw2) (by rw [F.1 w (by omega) (by omega)]; exact hz) hm h0 (by rw [G.1 70 (by omega) (by omega)]; exact hz2) with ⟨e1, e2, e3, e4, e5⟩ | ⟨c, N', v, Nm', b1, b2, b3, e1, e2⟩
      · rw [e1, zbs rfl, if_neg (show ¬ bi true = 0 by decide), e2]
        dsimp only
        rw [if_pos (show (up Nm1 67 24 1) 67 21 = 0 from by rw [up_nk (by omega)]; exact h0)]
        unfold J_X5_readRow_j48
        rw [show F_X11_put (1 + 12) 8 (nI j) ((up N1 1 10 1) 1 7) (up N1 1 10 1) = up (up N1 1 10 1) 13 j (nI (yvl y s)) from by rw [show (up N1 1 10 1) 1 7 = nI (yvl y s) from by rw [up_nk (by omega)]; exact e3]; exact zput_at (by omega) (by omega)]
        have hc1 : KC' y n s (up (up N1 1 10 1) 13 j (nI (yvl y s))) := KC.of hc (fun k hk => by rw [up_ne (by omega), up_nk (by omega)]) (by rw [up_ne (by omega), up_ne (by omega)])
        have hm1 : KM' y n s (up Nm1 67 24 1) := KM.of hm (fun k hk => by rw [up_nk (by omega)]) (by rw [up_ne (by omega)])
        obtain ⟨N2, d1, d2, d3⟩ := k_adv hn hy ht hc1
        obtain ⟨Nm2, g1, g2, g3⟩ := k_step hn hy ht hm1
        rw [zbs d1, zbs g1, zbs rfl]
        have o21 : Nm2 67 21 = 0 := by rw [g3.2 21 (by omega) (by omega) (by omega) (by omega) (by omega), up_nk (by omega)]; exact h0
        dsimp only
        rw [if_pos o21, nI_add, show ast Nm2 a an (nI (st + j)) (nI (yvl y s)) = some (up Nm2 a (st + j) (nI (yvl y s))) from zast (by omega) (by omega), zbs rfl, nI_1]
        have F2 : FRo N N2 := (F.tr ((FRo.f (by omega)).tr FRo.r)).tr d3.fr
        have G2 : GR a st Nm (up Nm2 a (st + j) (nI (yvl y s))) := (G.tr ((GR.f ha.1 (by omega)).tr (g3.gr ha.1))).tr (GR.r ha.1 (by omega))
        have hm2 : KM' y n (ynx y n s) (up Nm2 a (st + j) (nI (yvl y s))) := KM.of g2 (fun k _ => by rw [up_ne (Ne.symm ha.1)]) (up_ne (Ne.symm ha.2.2))
        have hfl2 : N2 1 10 = 1 ∧ (up Nm2 a (st + j) (nI (yvl y s))) 67 24 = 1 := by
          rw [d3.2 10 (by omega) (by omega) (by omega) (by omega), up_ne (by omega), up_at, up_ne (Ne.symm ha.1), g3.2 24 (by omega) (by omega) (by omega) (by omega) (by omega), up_at]
          exact ⟨rfl, rfl⟩
        have o21' : (up Nm2 a (st + j) (nI (yvl y s))) 67 21 = 0 := by rw [up_ne (Ne.symm ha.1)]; exact o21
        have hr2 : ∀ i, i < j + 1 → N2 13 i = nI ((fun i => if i = j then yvl y s else rr i) i) ∧ (up Nm2 a (st + j) (nI (yvl y s))) a (st + i) = nI ((fun i => if i = j then yvl y s else rr i) i) ∧ (fun i => if i = j then yvl y s else rr i) i < zn := fun i hi => by
          show _ = nI (if i = j then yvl y s else rr i) ∧ _ = nI (if i = j then yvl y s else rr i) ∧ (if i = j then yvl y s else rr i) < zn
          by_cases q : i = j
          · rw [if_pos q, q, d3.1 13 (by omega), up_at, up_at]; exact ⟨rfl, rfl, e4⟩
          · rw [if_neg q, d3.1 13 (by omega), up_nk q, up_ne (by omega), up_nk (show st + i ≠ st + j by omega), g3.1 a ha.1, up_ne ha.1]
            exact hr i (by omega)
        have ht2 := ht.nx
        have hl2 : a0 ≤ s_a (ynx y n s) := by
          have h1 := ynx_a (y := y) (n := n) (s := s)
          have h2 := ht.b
          omega
        by_cases q : s_k (ynx y n s) = 2
        · rw [show N2 1 6 = nI 2 from by rw [d2.2.2.2.1, q], if_pos (show nI 2 = 2 from rfl), if_pos (nI_le (by omega) (by omega))]
          exact ih (j + 1) f g (ynx y n s) _ N2 _ (by omega) (by omega) (by omega) ht2 d2 hm2 o21' q hl2 F2 G2 (fun _ => hfl2) hr2
        · obtain ⟨g, rfl⟩ : ∃ g', g = g' + 1 := ⟨g - 1, by omega⟩
          rw [d2.2.2.2.1, if_neg (zne 2 2 rfl q (by have := ht2.k61 hy; omega) (by omega)), zbs rfl]
          rw [L_X12_readStreets_23, if_pos o21', if_neg (fun z => q ((xm_k2 ht2 hy hm2).mp z)), zbs rfl]
          exact Ev2.pure ⟨F2, G2, Or.inl ⟨j + 1, ynx y n s, _, by omega, ⟨rfl, rfl⟩, ⟨ht2, hl2⟩, d2, hm2, o21', hfl2, hr2⟩⟩
      · rw [e1, zbs rfl, if_pos (show bi false = 0 from rfl), zbs rfl, e2]
        dsimp only
        rw [if_neg b1.ne, zbs rfl]
        dsimp only
        rw [if_neg b1.ne, zbs rfl]
        exact Ev2.pure ⟨F.tr b2, G.tr (b3.gr ha.1), Or.inr ⟨rfl, c, s_a s, b1⟩⟩
  unfold F_X5_readRow F_X12_readStreets
  by_cases q : s_k s = 2
  · rw [if_pos h0, if_pos ((xm_k2 ht hy h2).mpr q)]
    exact key mx 0 FU FU s (fun _ => 0) N Nm (by omega) (by unfold FU; omega) (by unfold FU; omega) ht h h2 h0 q ha0' FRo.rf GR.rf (fun z => by omega) (fun i hi => by omega)
  · rw [if_pos h0, if_neg (fun z => q ((xm_k2 ht hy h2).mp z)), show F_X12_wrong 67 1 Nm = ywr 1 Nm from ywr_eq (c := 1) h0]
    show Ev2 ((L_X5_readRow_2 1 (nI mx) 1 (99999 + 1) (nI 0) N).bind _) ((L_X12_readStreets_23 67 a an (nI st) (nI mx) (99999 + 1) 0 (ywr 1 Nm)).bind _) _
    rw [L_X5_readRow_2, if_pos (nI_lt (by omega) (by omega)), L_X12_readStreets_23, if_neg (ywr_ne (by omega)), zbs rfl]
    unfold J_X5_readRow_j22
    rw [if_neg (show ¬ (1 : Int32) = 0 by decide), k_street1 ht hn hy h q, zbs rfl, if_pos (show bi false = 0 from rfl), zbs rfl]
    exact Ev2.pure ⟨FRo.f (by omega), ywr_R ha.1, Or.inr ⟨rfl, 1, s_a s, BAD.of h h2 (by omega)⟩⟩
end ROWS
