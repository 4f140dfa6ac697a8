/-! ===== AND, OR, an EXPR at a depth ===== -/
section EXPRS
variable {w n : Nat} {y : Nat → Nat} {ex : Nat → Int32 → Mem → Option (Bool × Mem)} {exm : Nat → Int32 → Mem → Option Mem} {p : Nat}
theorem k_and0 {Nm : Mem} {x : Int32} (h0 : ¬ Nm 67 21 = 0) (g : Nat) : L_X12_readAnd_5 exm 67 x (g + 1) Nm = some Nm := by
  rw [L_X12_readAnd_5, xm_is0 h0, zbs rfl, if_pos (show bi false = 0 from rfl)]
theorem k_andw {Nm : Mem} {x : Int32} (h0 : ¬ Nm 67 21 = 0) : F_X12_readAnd exm 67 x Nm = some Nm := by
  unfold F_X12_readAnd
  rw [k_notw h0, zbs rfl, show L_X12_readAnd_5 exm 67 x FU Nm = some Nm from k_and0 h0 99999, zbs rfl]
theorem k_or0 {Nm : Mem} {x : Int32} (h0 : ¬ Nm 67 21 = 0) (g : Nat) : L_X12_readExpression_67 exm 67 x (g + 1) Nm = some Nm := by
  rw [L_X12_readExpression_67, xm_is0 h0, zbs rfl, if_pos (show bi false = 0 from rfl)]
theorem k_orw {Nm : Mem} {x : Int32} (h0 : ¬ Nm 67 21 = 0) : J_X12_readExpression_j62 exm 67 x Nm = some Nm := by
  unfold J_X12_readExpression_j62
  rw [k_andw h0, zbs rfl, show L_X12_readExpression_67 exm 67 x FU Nm = some Nm from k_or0 h0 99999, zbs rfl]
theorem k_and (hn : n ≤ 700) (hy : ∀ i, i < n → y i < 256) (hw : w = 3 ∨ w = 14) (hp : 1 ≤ p ∧ p ≤ 6) (hx : EXH w y n (p + 1) ex exm) {s : St} {N Nm : Mem} (h : SY w y n s N Nm) : Ev2 (F_X5_both ex 1 (nI p) N) (F_X12_readAnd exm 67 (nI (p - 1)) Nm) (RES w y n N Nm (fun s' => ygr s s' (35 - 5 * p))) := by
  unfold F_X5_both F_X12_readAnd
  refine k_chain (LC := L_X5_both_12 ex 1 (nI p)) (LM := L_X12_readAnd_5 exm 67 (nI (p - 1))) (XCf := F_X5_denied ex 1 (nI p)) (XMf := F_X12_readNot exm 67 (nI (p - 1))) (cond := fun s => wrd 17 y s) (sg := fun _ => -26) (k := 35 - 5 * p) (k2 := 34 - 5 * p) hn hy hw ?_ (fun s N Nm h => k_not hn hy hw hp hx h) (fun _ h => zht_op (by decide) (by decide) (by decide) h) (fun Nm h0 => k_notw h0) ?_ ?_ ?_ (fun Nm g h0 => k_and0 h0 g) (by omega) h
  · intro s hc
    have := wrd_k hc
    omega
  · intro s N Nm f g i h hi hc
    refine ⟨?_, ?_⟩
    · rw [L_X5_both_12, if_neg (znge 700 700 rfl hi (by omega)), h.cw hn hy (u := 17) (by omega), zbs rfl, hc, if_pos (show bi false = 0 from rfl)]
    · rw [L_X12_readAnd_5, h.mw hn hy (u := 35) (v := 17) (by omega) rfl rfl, zbs rfl, hc, if_pos (show bi false = 0 from rfl)]
  · intro s N Nm f g i h hi hc
    refine ⟨?_, ?_⟩
    · rw [L_X5_both_12, if_neg (znge 700 700 rfl hi (by omega)), h.cw hn hy (u := 17) (by omega), zbs rfl, hc, if_neg (show ¬ bi true = 0 by decide)]
      rfl
    · rw [L_X12_readAnd_5, h.mw hn hy (u := 35) (v := 17) (by omega) rfl rfl, zbs rfl, hc, if_neg (show ¬ bi true = 0 by decide)]
  · intro N f
    rw [L_X5_both_12, if_pos (by decide)]
theorem k_or (hn : n ≤ 700) (hy : ∀ i, i < n → y i < 256) (hw : w = 3 ∨ w = 14) (hp : 1 ≤ p ∧ p ≤ 6) (hx : EXH w y n (p + 1) ex exm) {s : St} {N Nm : Mem} (h : SY w y n s N Nm) : Ev2 (F_X5_exprB ex 1 (nI p) N) (J_X12_readExpression_j62 exm 67 (nI (p - 1)) Nm) (RES w y n N Nm (fun s' => ygr s s' (36 - 5 * p))) := by
  unfold F_X5_exprB J_X12_readExpression_j62
  rw [if_pos (zlel 6 6 rfl hp.2 (by omega))]
  refine k_chain (LC := L_X5_expr_53 ex 1 (nI p)) (LM := L_X12_readExpression_67 exm 67 (nI (p - 1))) (XCf := F_X5_both ex 1 (nI p)) (XMf := F_X12_readAnd exm 67 (nI (p - 1))) (cond := fun s => wrd 18 y s) (sg := fun _ => -27) (k := 36 - 5 * p) (k2 := 35 - 5 * p) hn hy hw ?_ (fun s N Nm h => k_and hn hy hw hp hx h) (fun _ h => zht_op (by decide) (by decide) (by decide) h) (fun Nm h0 => k_andw h0) ?_ ?_ ?_ (fun Nm g h0 => k_or0 h0 g) (by omega) h
  · intro s hc
    have := wrd_k hc
    omega
  · intro s N Nm f g i h hi hc
    refine ⟨?_, ?_⟩
    · rw [L_X5_expr_53, if_neg (znge 700 700 rfl hi (by omega)), h.cw hn hy (u := 18) (by omega), zbs rfl, hc, if_pos (show bi false = 0 from rfl)]
    · rw [L_X12_readExpression_67, h.mw hn hy (u := 36) (v := 18) (by omega) rfl rfl, zbs rfl, hc, if_pos (show bi false = 0 from rfl)]
  · intro s N Nm f g i h hi hc
    refine ⟨?_, ?_⟩
    · rw [L_X5_expr_53, if_neg (znge 700 700 rfl hi (by omega)), h.cw hn hy (u := 18) (by omega), zbs rfl, hc, if_neg (show ¬ bi true = 0 by decide)]
      rfl
    · rw [L_X12_readExpression_67, h.mw hn hy (u := 36) (v := 18) (by omega) rfl rfl, zbs rfl, hc, if_neg (show ¬ bi true = 0 by decide)]
  · intro N f
    rw [L_X5_expr_53, if_pos (by decide)]
/-- the class alone, where no PART can begin -/
theorem c_stuck (hn : n ≤ 700) (hy : ∀ i, i < n → y i < 256) (hp : p ≤ 6) {s : St} {N Nm : Mem} (h : SY w y n s N Nm) (h1 : s_k s ≠ 1) (h2 : s_k s ≠ 2) (h4 : s_k s ≠ 40) : F_X5_exprB ex 1 (nI p) N = some (false, up N 1 8 (nI 1)) := by
  have ht := h.2.1
  have h61 := ht.k61 hy
  have k6 : N 1 6 = nI (s_k s) := h.1.1.1.2.2.2.1
  have e1 : F_X5_number 1 0 9999 N = _ := k_num1 (lo := 0) (hi := 9999) (by omega) (by omega) ht hn hy h.1.1.1 h2
  have ep : F_X5_part ex 1 (nI p) N = some (false, up N 1 8 (nI 1)) := by
    unfold F_X5_part
    rw [k6, if_neg (zne 40 40 rfl h4 (by omega) (by omega)), if_neg (zne 1 1 rfl h1 (by omega) (by omega)), e1, if_pos (show bi false = 0 from rfl)]
  have er : F_X5_product ex 1 (nI p) N = some (false, up N 1 8 (nI 1)) := by
    unfold F_X5_product
    rw [ep, zbs rfl, if_pos (show bi false = 0 from rfl)]
  have es : F_X5_sum ex 1 (nI p) N = some (false, up N 1 8 (nI 1)) := by
    unfold F_X5_sum
    rw [er, zbs rfl, if_pos (show bi false = 0 from rfl)]
  have et : F_X5_test ex 1 (nI p) N = some (false, up N 1 8 (nI 1)) := by
    unfold F_X5_test
    rw [es, zbs rfl, if_pos (show bi false = 0 from rfl)]
  have ew : wrd 8 y s = false := by unfold wrd; rw [decide_eq_false h1]; rfl
  have ed : F_X5_denied ex 1 (nI p) N = some (false, up N 1 8 (nI 1)) := by
    unfold F_X5_denied
    rw [show L_X5_denied_2 ex 1 (nI p) FU 0 N = some (0, N) from by
      show L_X5_denied_2 ex 1 (nI p) (99999 + 1) 0 N = _
      rw [L_X5_denied_2, if_neg (by decide), h.cw hn hy (u := 8) (by omega), zbs rfl, ew, if_pos (show bi false = 0 from rfl)], zbs rfl]
    dsimp only
    unfold J_X5_denied_j27 J_X5_denied_j48
    rw [h.cw hn hy (u := 8) (by omega), zbs rfl, ew, if_pos (show bi false = 0 from rfl), et, zbs rfl, if_pos (show bi false = 0 from rfl)]
  unfold F_X5_exprB F_X5_both
  rw [if_pos (zlel 6 6 rfl hp (by omega)), ed, zbs rfl, if_pos (show bi false = 0 from rfl), zbs rfl, if_pos (show bi false = 0 from rfl)]
theorem k_expB0 {Nm : Mem} {x : Int32} (h0 : ¬ Nm 67 21 = 0) : F_X12_readExpressionB exm 67 x Nm = some Nm := by
  unfold F_X12_readExpressionB; rw [if_neg h0]
/-- the model's way in -/
theorem xm_begin (hn : n ≤ 700) (hy : ∀ i, i < n → y i < 256) {s : St} {N Nm : Mem} (h : SY w y n s N Nm) {x : Int32} : F_X12_readExpressionB exm 67 x Nm = if s_k s = 1 ∨ s_k s = 2 ∨ s_k s = 40 then J_X12_readExpression_j33 exm 67 x Nm else some (ywr 1 Nm) := by
  have ht := h.2.1
  have h61 := ht.k61 hy
  have h0 := h.1.2.2.1
  have hk2 := xm_k2 ht hy h.1.2.1
  have hmo : Nm 67 17 = nI (ymo (s_k s)) := h.1.2.1.2.2.2.2.1
  have hmk : F_X12_isMarked 67 40 Nm = some (decide (s_k s = 40)) := xm_marked (c := 40) (by omega) (by omega) ht hn hy h.1.2.1 h0
  unfold F_X12_readExpressionB
  rw [if_pos h0]
  by_cases k2 : s_k s = 2
  · rw [if_pos (hk2.mpr k2), if_pos (by omega)]
  · rw [if_neg (fun z => k2 (hk2.mp z))]
    by_cases k1 : s_k s = 1
    · rw [if_pos (by rw [hmo, k1]; rfl), if_pos (by omega)]
    · have e1 : ¬ Nm 67 17 = 1 := by
        rw [hmo]
        have : ymo (s_k s) ≠ 1 := by unfold ymo; repeat' split
                                     all_goals omega
        have h4 : ymo (s_k s) ≤ 61 := by unfold ymo; repeat' split
                                         all_goals omega
        exact zne 1 1 rfl this (by omega) (by omega)
      rw [if_neg e1, hmk, zbs rfl]
      by_cases k4 : s_k s = 40
      · rw [decide_eq_true k4, if_neg (show ¬ bi true = 0 by decide), if_pos (by omega)]
      · rw [decide_eq_false k4, if_pos (show bi false = 0 from rfl), if_neg (by omega)]
        unfold J_X12_readExpression_j38
        rw [if_pos rfl, show F_X12_wrong 67 1 Nm = ywr 1 Nm from ywr_eq (c := 1) h0, k_orw (ywr_ne (by omega))]
theorem k_exp (hn : n ≤ 700) (hy : ∀ i, i < n → y i < 256) (hw : w = 3 ∨ w = 14) : ∀ d p, p + d = 7 → 1 ≤ p → EXH w y n p (F_X5_expr (d + 2)) (F_X12_readExpression (d + 4)) := by
  intro d
  induction d with
  | zero =>
    intro p e hp
    obtain rfl : p = 7 := by omega
    refine ⟨fun s N Nm h => ?_, fun Nm x h0 => k_expB0 h0⟩
    show Ev2 (F_X5_exprB (F_X5_expr 1) 1 (nI 7) N) (F_X12_readExpressionB (F_X12_readExpression 3) 67 (nI 6) Nm) _
    have h61 := h.2.1.k61 hy
    have k6 : N 1 6 = nI (s_k s) := h.1.1.1.2.2.2.1
    have h0 := h.1.2.2.1
    rw [xm_begin hn hy h]
    unfold F_X5_exprB J_X5_expr_j32 J_X5_expr_j37 J_X12_readExpression_j33 J_X12_readExpression_j38 F_X5_refuse
    rw [if_neg (show ¬ nI 7 ≤ 6 by decide), k6, if_neg (show ¬ (1 : Int32) = 0 by decide), if_pos (show nI 6 = 6 from rfl), show F_X12_wrong 67 2 Nm = ywr 2 Nm from ywr_eq (c := 2) h0, k_orw (ywr_ne (by omega))]
    by_cases k2 : s_k s = 2
    · rw [if_pos (by rw [k2]; rfl), if_pos (by omega)]
      exact Ev2.pure (RES.bad (h.bad (c := 2) (by omega)) (FW.f (by omega)) ywr_G)
    · rw [if_neg (zne 2 2 rfl k2 (by omega) (by omega))]
      by_cases k1 : s_k s = 1
      · rw [if_pos (by rw [k1]; rfl), if_pos (by omega)]
        exact Ev2.pure (RES.bad (h.bad (c := 2) (by omega)) (FW.f (by omega)) ywr_G)
      · rw [if_neg (zne 1 1 rfl k1 (by omega) (by omega))]
        by_cases k4 : s_k s = 40
        · rw [if_pos (by rw [k4]; rfl), if_pos (by omega)]
          exact Ev2.pure (RES.bad (h.bad (c := 2) (by omega)) (FW.f (by omega)) ywr_G)
        · rw [if_neg (zne 40 40 rfl k4 (by omega) (by omega)), if_neg (by omega)]
          exact Ev2.pure (RES.bad (h.bad (c := 1) (by omega)) (FW.f (by omega)) ywr_G)
  | succ d ih =>
    intro p e hp
    refine ⟨fun s N Nm h => ?_, fun Nm x h0 => k_expB0 h0⟩
    show Ev2 (F_X5_exprB (F_X5_expr (d + 2)) 1 (nI p) N) (F_X12_readExpressionB (F_X12_readExpression (d + 4)) 67 (nI (p - 1)) Nm) _
    rw [xm_begin hn hy h]
    by_cases q : s_k s = 1 ∨ s_k s = 2 ∨ s_k s = 40
    · rw [if_pos q]
      unfold J_X12_readExpression_j33 J_X12_readExpression_j38
      rw [if_neg (show ¬ (1 : Int32) = 0 by decide), if_neg (zne 6 6 rfl (by omega) (by omega) (by omega))]
      exact k_or hn hy hw (by omega) (ih (p + 1) (by omega) (by omega)) h
    · rw [if_neg q, c_stuck hn hy (by omega) h (by omega) (by omega) (by omega)]
      exact Ev2.pure (RES.bad (h.bad (c := 1) (by omega)) (FW.f (by omega)) ywr_G)
end EXPRS
