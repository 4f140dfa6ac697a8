/-! ===== a row of fogs ===== -/
theorem zltr (k : Int32) (b : Nat) (e : k = nI b) {a : Nat} (h : a < b) (hb : b < 2147483648) : nI a < k := by rw [e]; exact nI_lt h hb
section FOGS
variable {M : Mem} {w n : Nat} {y : Nat → Nat} {s : St} {N Nm : Mem}
theorem xm_num0 {lo hi : Int32} (h0 : ¬ Nm 67 21 = 0) : F_X12_readNumber 67 lo hi Nm = some (0, Nm) := by
  have en : F_X12_numberNow 67 lo hi Nm = (0, Nm) := by unfold F_X12_numberNow; rw [if_neg h0]
  unfold F_X12_readNumber
  rw [en, if_neg (show ¬ Nm 67 21 = 0 from h0)]
def GF (M M' : Mem) : Prop := (∀ c, c ≠ 67 → c ≠ 70 → c ≠ 77 → M' c = M c) ∧ (∀ k, k ≠ 11 → M' 70 k = M 70 k) ∧ (∀ i, i < 8 → M' 77 i = M 77 i) ∧ ∀ k, k ≠ 15 → k ≠ 17 → k ≠ 18 → k ≠ 19 → k ≠ 20 → k ≠ 21 → k ≠ 22 → k ≠ 24 → M' 67 k = M 67 k
theorem GF.of {M1 : Mem} (h : GR 77 8 M M1) {v : Int32} : GF M (up M1 70 11 v) := ⟨fun c h1 h2 h3 => by rw [up_ne h2]; exact h.1 c h1 h3, fun k hk => by rw [up_nk hk, h.1 70 (by omega) (by omega)], fun i hi => by rw [up_ne (by omega)]; exact h.2.1 i hi, fun k x1 x2 x3 x4 x5 x6 x7 x8 => by rw [up_ne (by omega)]; exact h.2.2 k x1 x2 x3 x4 x5 x6 x7 x8⟩
theorem GF.gw {M' : Mem} (h : GF M M') : GW M M' := by
  obtain ⟨a1, a2, a3, a4⟩ := h
  refine ⟨fun c x1 x2 => a1 c x1 (by omega) (by omega), a4, fun k hk => ⟨a2 k (by omega), by rw [a1 73 (by omega) (by omega) (by omega)], by rw [a1 74 (by omega) (by omega) (by omega)], by rw [a1 75 (by omega) (by omega) (by omega)]⟩, fun k hk => ⟨by rw [a1 71 (by omega) (by omega) (by omega)], by rw [a1 72 (by omega) (by omega) (by omega)], a3 k hk⟩, fun k hk => by rw [a1 76 (by omega) (by omega) (by omega)], fun k hk => by rw [a1 78 (by omega) (by omega) (by omega)]⟩
def FOG (y : Nat → Nat) (n a0 : Nat) (N Nm : Mem) (r : Int32 × Mem) (Nm' : Mem) : Prop := FRo N r.2 ∧ r.2 1 10 = N 1 10 ∧ GW Nm Nm' ∧ ((∃ (j : Nat) (s : St) (rr : Nat → Nat), (1 ≤ j ∧ j ≤ 8) ∧ (r.1 = nI j ∧ Nm' 70 11 = nI j) ∧ (TK y n s ∧ a0 ≤ s_a s) ∧ KC' y n s r.2 ∧ KM' y n s Nm' ∧ Nm' 67 21 = 0 ∧ Nm' 67 24 = Nm 67 24 ∧ GF Nm Nm' ∧ ∀ i, i < j → r.2 13 i = nI (rr i) ∧ Nm' 77 (8 + i) = nI (rr i) ∧ rr i ≤ 9) ∨ (r.1 = -1 ∧ ∃ c q, BAD c q r.2 Nm'))
theorem k_fogs (hn : n ≤ 700) (hy : ∀ i, i < n → y i < 256) (ht : TK y n s) (h : KC' y n s N) (h2 : KM' y n s Nm) (h0 : Nm 67 21 = 0) : Ev2 (F_X5_readRow 1 8 0 N) (F_X12_sayFogs 67 Nm) (FOG y n (s_a s) N Nm) := by
  generalize ha0 : s_a s = a0 at *
  have ha0' : a0 ≤ s_a s := by omega
  have j80 : ∀ (v : Nat) (N1 : Mem), J_X12_sayFogs_j80 67 (nI v) N1 = some (up N1 70 11 (nI v)) := fun v N1 => by
    unfold J_X12_sayFogs_j80
    rw [show ast N1 (67 + 3) 14 11 (nI v) = some (up N1 70 11 (nI v)) from zast (i := 11) (by omega) (by omega), zbs rfl]
  have key : ∀ i j f g (s : St) (rr : Nat → Nat) (N1 Nm1 : Mem), j + i = 8 → i < f → i + 1 < g → TK y n s → KC' y n s N1 → KM' y n s Nm1 → Nm1 67 21 = 0 → s_k s = 2 → a0 ≤ s_a s → FRo N N1 → N1 1 10 = N 1 10 → GR 77 8 Nm Nm1 → Nm1 67 24 = Nm 67 24 → (∀ i, i < j → N1 13 i = nI (rr i) ∧ Nm1 77 (8 + i) = nI (rr i) ∧ rr i ≤ 9) → Ev2 ((L_X5_readRow_2 1 8 0 f (nI j) N1).bind fun q10 => Sum.elim (fun v => some v) (fun s11 => some ((-1 : Int32), (up s11 1 8 2))) q10) ((L_X12_sayFogs_22 67 g (nI j) Nm1).bind fun q11 => Sum.elim (fun v => some v) (fun s12 => J_X12_sayFogs_j80 67 s12.1 s12.2) q11) (FOG y n a0 N Nm) := by
    intro i
    induction i with
    | zero =>
      intro j f g s rr N1 Nm1 e hf hg ht hc hm h0 hk hl F hF G hG hr
      obtain ⟨f, rfl⟩ : ∃ f', f = f' + 1 := ⟨f - 1, by omega⟩
      obtain ⟨g, rfl⟩ : ∃ g', g = g' + 1 := ⟨g - 1, by omega⟩
      obtain rfl : j = 8 := by omega
      rw [L_X5_readRow_2, if_neg (show ¬ nI 8 < 8 by decide), hc.2.2.2.1, hk, if_pos (show nI 2 = 2 from rfl), zbs rfl]
      rw [L_X12_sayFogs_22, if_pos h0, if_pos ((xm_k2 ht hy hm).mpr hk), if_pos (show nI 8 = 8 from rfl), show F_X12_wrong 67 2 Nm1 = ywr 2 Nm1 from ywr_eq (c := 2) h0]
      unfold J_X12_sayFogs_j48
      rw [xm_num0 (ywr_ne (by omega)), zbs rfl, if_neg (ywr_ne (by omega)), zbs rfl]
      exact Ev2.pure ⟨F.tr (FRo.f (by omega)), (show (up N1 1 8 2) 1 10 = N 1 10 from by rw [up_nk (by omega)]; exact hF), (G.tr (ywr_R (by omega))).gw (by omega), Or.inr ⟨rfl, 2, s_a s, BAD.of hc hm (c := 2) (by omega)⟩⟩
    | succ i ih =>
      intro j f g s rr N1 Nm1 e hf hg ht hc hm h0 hk hl F hF G hG hr
      obtain ⟨f, rfl⟩ : ∃ f', f = f' + 1 := ⟨f - 1, by omega⟩
      obtain ⟨g, rfl⟩ : ∃ g', g = g' + 1 := ⟨g - 1, by omega⟩
      rw [L_X5_readRow_2, if_pos (zltr 8 8 rfl (by omega) (by omega)), L_X12_sayFogs_22, if_pos h0, if_pos ((xm_k2 ht hy hm).mpr hk), if_neg (zne 8 8 rfl (by omega) (by omega) (by omega))]
      unfold J_X5_readRow_j22 J_X12_sayFogs_j48 F_X12_readNumber
      rw [if_pos rfl]
      rcases k_num (lo := 0) (hi := 9) (by omega) (by omega) ht hn hy hc hm h0 with ⟨e1, e2, e3, e4, e5, e6⟩ | ⟨c, hcc, e1, e2⟩
      · rw [show F_X5_number 1 0 9 N1 = _ from e1, if_neg (show ¬ bi true = 0 by decide), show F_X12_numberNow 67 0 9 Nm1 = _ from e2]
        dsimp only
        rw [if_pos h0]
        unfold J_X5_readRow_j48
        rw [show F_X11_put (1 + 12) 8 (nI j) (N1 1 7) N1 = up N1 13 j (nI (yvl y s)) from by rw [e3]; exact zput_at (by omega) (by omega)]
        have hc1 : KC' y n s (up N1 13 j (nI (yvl y s))) := KC.of hc (fun k hk => by rw [up_ne (by omega)]) (by rw [up_ne (by omega)])
        obtain ⟨N2, d1, d2, d3⟩ := k_adv hn hy ht hc1
        obtain ⟨Nm2, g1, g2, g3⟩ := k_step hn hy ht hm
        rw [zbs d1, zbs g1, zbs rfl]
        have o21 : Nm2 67 21 = 0 := by rw [g3.2 21 (by omega) (by omega) (by omega) (by omega) (by omega)]; exact h0
        dsimp only
        rw [if_pos o21, show (8 : Int32) + nI j = nI (8 + j) from nI_add 8 j, show ast Nm2 (67 + 10) 16 (nI (8 + j)) (nI (yvl y s)) = some (up Nm2 77 (8 + j) (nI (yvl y s))) from zast (by omega) (by omega), zbs rfl, nI_1]
        have F2 : FRo N N2 := (F.tr FRo.r).tr d3.fr
        have hF2 : N2 1 10 = N 1 10 := by rw [d3.2 10 (by omega) (by omega) (by omega) (by omega), up_ne (by omega)]; exact hF
        have G2 : GR 77 8 Nm (up Nm2 77 (8 + j) (nI (yvl y s))) := (G.tr (g3.gr (by omega))).tr (GR.r (by omega) (by omega))
        have hm2 : KM' y n (ynx y n s) (up Nm2 77 (8 + j) (nI (yvl y s))) := KM.of g2 (fun k _ => by rw [up_ne (by omega)]) (up_ne (by omega))
        have hG2 : (up Nm2 77 (8 + j) (nI (yvl y s))) 67 24 = Nm 67 24 := by
          rw [up_ne (by omega), g3.2 24 (by omega) (by omega) (by omega) (by omega) (by omega)]; exact hG
        have o21' : (up Nm2 77 (8 + j) (nI (yvl y s))) 67 21 = 0 := by rw [up_ne (by omega)]; exact o21
        have hr2 : ∀ i, i < j + 1 → N2 13 i = nI ((fun i => if i = j then yvl y s else rr i) i) ∧ (up Nm2 77 (8 + j) (nI (yvl y s))) 77 (8 + i) = nI ((fun i => if i = j then yvl y s else rr i) i) ∧ (fun i => if i = j then yvl y s else rr i) i ≤ 9 := fun i hi => by
          show _ = nI (if i = j then yvl y s else rr i) ∧ _ = nI (if i = j then yvl y s else rr i) ∧ (if i = j then yvl y s else rr i) ≤ 9
          by_cases q : i = j
          · rw [if_pos q, q, d3.1 13 (by omega), up_at, up_at]; exact ⟨rfl, rfl, e5⟩
          · rw [if_neg q, d3.1 13 (by omega), up_nk q, up_nk (show 8 + i ≠ 8 + j by omega), g3.1 77 (by omega)]
            exact hr i (by omega)
        have ht2 := ht.nx
        have hl2 : a0 ≤ s_a (ynx y n s) := by
          have h1 := ynx_a (y := y) (n := n) (s := s)
          have h2 := ht.b
          omega
        by_cases q : s_k (ynx y n s) = 2
        · rw [show N2 1 6 = nI 2 from by rw [d2.2.2.2.1, q], if_pos (show nI 2 = 2 from rfl), if_pos (zlel 8 8 rfl (by omega) (by omega))]
          exact ih (j + 1) f g (ynx y n s) _ N2 _ (by omega) (by omega) (by omega) ht2 d2 hm2 o21' q hl2 F2 hF2 G2 hG2 hr2
        · obtain ⟨g, rfl⟩ : ∃ g', g = g' + 1 := ⟨g - 1, by omega⟩
          rw [d2.2.2.2.1, if_neg (zne 2 2 rfl q (by have := ht2.k61 hy; omega) (by omega)), zbs rfl]
          rw [L_X12_sayFogs_22, if_pos o21', if_neg (fun z => q ((xm_k2 ht2 hy hm2).mp z)), zbs rfl]
          show Ev2 _ (J_X12_sayFogs_j80 67 (nI (j + 1)) (up Nm2 77 (8 + j) (nI (yvl y s)))) _
          rw [j80]
          refine Ev2.pure ⟨F2, hF2, (GF.of G2).gw, Or.inl ⟨j + 1, ynx y n s, (fun i => if i = j then yvl y s else rr i), by omega, ⟨rfl, up_at⟩, ⟨ht2, hl2⟩, d2, KM.of hm2 (fun k _ => by rw [up_ne (by omega)]) (up_ne (by omega)), by rw [up_ne (by omega)]; exact o21', by rw [up_ne (by omega)]; exact hG2, GF.of G2, fun i hi => ?_⟩⟩
          rw [show (up (up Nm2 77 (8 + j) (nI (yvl y s))) 70 11 (nI (j + 1))) 77 = (up Nm2 77 (8 + j) (nI (yvl y s))) 77 from up_ne (by omega)]
          exact hr2 i hi
      · rw [show F_X5_number 1 0 9 N1 = _ from e1, if_pos (show bi false = 0 from rfl), zbs rfl, show F_X12_numberNow 67 0 9 Nm1 = _ from e2]
        dsimp only
        rw [if_neg (ywr_ne hcc), zbs rfl]
        dsimp only
        rw [if_neg (ywr_ne hcc), zbs rfl]
        exact Ev2.pure ⟨F.tr (FRo.f (by omega)), (show (up N1 1 8 (nI c)) 1 10 = N 1 10 from by rw [up_nk (by omega)]; exact hF), (G.tr (ywr_R (by omega))).gw (by omega), Or.inr ⟨rfl, c, s_a s, BAD.of hc hm hcc⟩⟩
  unfold F_X5_readRow F_X12_sayFogs
  by_cases q : s_k s = 2
  · rw [if_pos h0, if_pos ((xm_k2 ht hy h2).mpr q)]
    exact key 8 0 FU FU s (fun _ => 0) N Nm (by omega) (by unfold FU; omega) (by unfold FU; omega) ht h h2 h0 q ha0' FRo.rf rfl GR.rf rfl (fun i hi => by omega)
  · rw [if_pos h0, if_neg (fun z => q ((xm_k2 ht hy h2).mp z)), show F_X12_wrong 67 1 Nm = ywr 1 Nm from ywr_eq (c := 1) h0]
    show Ev2 ((L_X5_readRow_2 1 8 0 (99999 + 1) (nI 0) N).bind _) ((L_X12_sayFogs_22 67 (99999 + 1) (nI 0) (ywr 1 Nm)).bind _) _
    rw [L_X5_readRow_2, if_pos (show nI 0 < 8 by decide), L_X12_sayFogs_22, if_neg (ywr_ne (by omega)), zbs rfl]
    unfold J_X5_readRow_j22
    rw [if_pos rfl, show F_X5_number 1 0 9 N = _ from k_num1 (lo := 0) (hi := 9) (by omega) (by omega) ht hn hy h q, if_pos (show bi false = 0 from rfl), zbs rfl]
    show Ev2 _ (J_X12_sayFogs_j80 67 (nI 0) (ywr 1 Nm)) _
    rw [j80]
    exact Ev2.pure ⟨FRo.f (by omega), (show (up N 1 8 (nI 1)) 1 10 = N 1 10 from by rw [up_nk (by omega)]), ywr_G.tr (GW.c (by omega)).1, Or.inr ⟨rfl, 1, s_a s, (BAD.of h h2 (c := 1) (by omega)).g (GW.c (by omega))⟩⟩
end FOGS
