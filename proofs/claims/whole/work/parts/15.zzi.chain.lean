/-! ===== operands and signs in a row ===== -/
theorem obs {α : Type} (o : Option α) : (o.bind fun s => some s) = o := by cases o <;> rfl
section CHAIN
variable {w n : Nat} {y : Nat → Nat}
theorem ygrd (hw : w = 3 ∨ w = 14) {N : Mem} (h : N 1 2 = nI w) : grd (N 1 2) = some w := by
  rw [h]; rcases hw with rfl | rfl <;> rfl
theorem k_loop {LC : Nat → Int32 → Mem → Option (Sum (Bool × Mem) Mem)} {LM : Nat → Mem → Option Mem} {XCf : Mem → Option (Bool × Mem)} {XMf : Mem → Option Mem} {cond : St → Bool} {sg : St → Int32} {k k2 : Nat} (hn : n ≤ 700) (hy : ∀ i, i < n → y i < 256) (hw : w = 3 ∨ w = 14)
    (hcond : ∀ s, cond s = true → s_k s ≠ 0)
    (hX : ∀ s N Nm, SY w y n s N Nm → Ev2 (XCf N) (XMf Nm) (RES w y n N Nm (fun s' => ygr s s' k2)))
    (hz : ∀ s h, zht (sg s) (h + 2) = some (h + 1))
    (hX0 : ∀ Nm : Mem, ¬ Nm 67 21 = 0 → XMf Nm = some Nm)
    (hA : ∀ s N Nm f g i, SY w y n s N Nm → i < 700 → cond s = false → LC (f + 1) (nI i) N = some (Sum.inr N) ∧ LM (g + 1) Nm = some Nm)
    (hB : ∀ s N Nm f g i, SY w y n s N Nm → i < 700 → cond s = true → LC (f + 1) (nI i) N = ((F_X5_advance 1 N).bind fun q7 => (XCf q7).bind fun q8 => if bi q8.1 = 0 then some (Sum.inl (false, q8.2)) else (grd (q8.2 1 2)).bind fun w10 => LC f (nI i + 1) (F_X10_add (w10 + 7) (zcv (sg s)) q8.2)) ∧ LM (g + 1) Nm = ((F_X12_stepOn 67 Nm).bind fun q7 => (XMf q7).bind fun q8 => (F_X12_lay 67 (sg s) q8).bind fun q9 => LM g q9))
    (hC : ∀ N f, LC (f + 1) (nI 700) N = some (Sum.inr N))
    (hD : ∀ (Nm : Mem) g, ¬ Nm 67 21 = 0 → LM (g + 1) Nm = some Nm)
    (hk2 : 1 + k2 ≤ k) {s0 : St} {N0 Nm0 : Mem} :
    ∀ m i f g s N Nm, n ≤ s_a s + m → i ≤ s_a s → i ≤ 700 → 700 < i + f → m + 1 < g → ygr s0 s k → SY w y n s N Nm → FW w N0 N → GW Nm0 Nm → Ev2 ((LC f (nI i) N).bind fun q12 => Sum.elim (fun v => some v) (fun s13 => some (true, s13)) q12) (LM g Nm) (RES w y n N0 Nm0 (fun s' => ygr s0 s' k)) := by
  intro m
  induction m with
  | zero =>
    intro i f g s N Nm e hi hi7 hf hg hgr h F G
    obtain ⟨f, rfl⟩ : ∃ f', f = f' + 1 := ⟨f - 1, by omega⟩
    obtain ⟨g, rfl⟩ : ∃ g', g = g' + 1 := ⟨g - 1, by omega⟩
    have hc : cond s = false := by
      rcases Bool.eq_false_or_eq_true (cond s) with q | q
      · have := (h.2.1.ne (hcond s q)).2; omega
      · exact q
    have a2 := (hA s N Nm f g 0 h (by omega) hc).2
    have a1 : LC (f + 1) (nI i) N = some (Sum.inr N) := by
      by_cases q : i < 700
      · exact (hA s N Nm f g i h q hc).1
      · obtain rfl : i = 700 := by omega
        exact hC N f
    rw [a1, a2, zbs rfl]
    exact Ev2.pure (RES.ok hgr h F G)
  | succ m ih =>
    intro i f g s N Nm e hi hi7 hf hg hgr h F G
    obtain ⟨f, rfl⟩ : ∃ f', f = f' + 1 := ⟨f - 1, by omega⟩
    obtain ⟨g, rfl⟩ : ∃ g', g = g' + 1 := ⟨g - 1, by omega⟩
    rcases Bool.eq_false_or_eq_true (cond s) with q | q
    · have hk := hcond s q
      have hne := h.2.1.ne hk
      have hb := h.2.1.b
      have hlz := h.2.2.2
      obtain ⟨b1, b2⟩ := hB s N Nm f g i h (by omega) q
      rw [b1, b2]
      obtain ⟨N1, Nm1, d1, d2, d3, d4, d5⟩ := h.nx hn hy hw
      rw [zbs d1, zbs d2]
      obtain ⟨r, Nm2, x1, x2, x3, x4, x5⟩ := hX _ _ _ d3
      rw [zbs x1, zbs x2]
      rcases x5 with ⟨r1, s3, g3, h3⟩ | ⟨r1, c, q3, hbad⟩
      · rw [if_neg (by rw [r1]; decide), ygrd hw h3.1.1.2.1, zbs rfl]
        obtain ⟨gg, gl⟩ := hgr.op (sg := sg s) h.2.1 hk g3 (hz s) (Nat.le_refl _) hk2 hlz
        obtain ⟨Nm3, l1, l2, l3, l4⟩ := h3.lay hw hn gl (sg := sg s) rfl
        rw [zbs l1, nI_1]
        have ha := ynx_a (y := y) (n := n) (s := s)
        have hg3 : s_a (ynx y n s) ≤ s_a s3 := by
          obtain ⟨l, cd, _, y1, y2, _⟩ := g3
          omega
        exact ih (i + 1) f g _ _ _ (by show n ≤ s_a s3 + m; omega) (by show i + 1 ≤ s_a s3; omega) (by omega) (by omega) (by omega) gg l2 (((F.tr d4).tr x3).tr l3) (((G.tr d5.1).tr x4).tr l4.1)
      · rw [if_pos (by rw [r1]; rfl), zbs rfl, xm_lay0 hbad.ne, zbs rfl]
        obtain ⟨g, rfl⟩ : ∃ g', g = g' + 1 := ⟨g - 1, by omega⟩
        rw [hD _ _ hbad.ne]
        exact Ev2.pure (RES.bad hbad ((F.tr d4).tr x3) ((G.tr d5.1).tr x4))
    · have a2 := (hA s N Nm f g 0 h (by omega) q).2
      have a1 : LC (f + 1) (nI i) N = some (Sum.inr N) := by
        by_cases q2 : i < 700
        · exact (hA s N Nm f g i h q2 q).1
        · obtain rfl : i = 700 := by omega
          exact hC N f
      rw [a1, a2, zbs rfl]
      exact Ev2.pure (RES.ok hgr h F G)
theorem k_chain {LC : Nat → Int32 → Mem → Option (Sum (Bool × Mem) Mem)} {LM : Nat → Mem → Option Mem} {XCf : Mem → Option (Bool × Mem)} {XMf : Mem → Option Mem} {cond : St → Bool} {sg : St → Int32} {k k2 : Nat} (hn : n ≤ 700) (hy : ∀ i, i < n → y i < 256) (hw : w = 3 ∨ w = 14)
    (hcond : ∀ s, cond s = true → s_k s ≠ 0)
    (hX : ∀ s N Nm, SY w y n s N Nm → Ev2 (XCf N) (XMf Nm) (RES w y n N Nm (fun s' => ygr s s' k2)))
    (hz : ∀ s h, zht (sg s) (h + 2) = some (h + 1))
    (hX0 : ∀ Nm : Mem, ¬ Nm 67 21 = 0 → XMf Nm = some Nm)
    (hA : ∀ s N Nm f g i, SY w y n s N Nm → i < 700 → cond s = false → LC (f + 1) (nI i) N = some (Sum.inr N) ∧ LM (g + 1) Nm = some Nm)
    (hB : ∀ s N Nm f g i, SY w y n s N Nm → i < 700 → cond s = true → LC (f + 1) (nI i) N = ((F_X5_advance 1 N).bind fun q7 => (XCf q7).bind fun q8 => if bi q8.1 = 0 then some (Sum.inl (false, q8.2)) else (grd (q8.2 1 2)).bind fun w10 => LC f (nI i + 1) (F_X10_add (w10 + 7) (zcv (sg s)) q8.2)) ∧ LM (g + 1) Nm = ((F_X12_stepOn 67 Nm).bind fun q7 => (XMf q7).bind fun q8 => (F_X12_lay 67 (sg s) q8).bind fun q9 => LM g q9))
    (hC : ∀ N f, LC (f + 1) (nI 700) N = some (Sum.inr N))
    (hD : ∀ (Nm : Mem) g, ¬ Nm 67 21 = 0 → LM (g + 1) Nm = some Nm)
    (hk2 : 1 + k2 ≤ k) {s : St} {N Nm : Mem} (h : SY w y n s N Nm) : Ev2 ((XCf N).bind fun q1 => if bi q1.1 = 0 then some (false, q1.2) else (LC FU 0 q1.2).bind fun q12 => Sum.elim (fun v => some v) (fun s13 => some (true, s13)) q12) ((XMf Nm).bind fun q1 => (LM FU q1).bind fun s13 => some s13) (RES w y n N Nm (fun s' => ygr s s' k)) := by
  obtain ⟨r, Nm2, x1, x2, x3, x4, x5⟩ := hX _ _ _ h
  rw [zbs x1, zbs x2, obs]
  rcases x5 with ⟨r1, s3, g3, h3⟩ | ⟨r1, c, q3, hbad⟩
  · rw [if_neg (by rw [r1]; decide)]
    have := h3.2.1.b
    exact k_loop hn hy hw hcond hX hz hX0 hA hB hC hD hk2 700 0 FU FU s3 r.2 Nm2 (by omega) (by omega) (by omega) (by decide) (by decide) (g3.mono (by omega)) h3 x3 x4
  · rw [if_pos (by rw [r1]; rfl), show LM FU Nm2 = some Nm2 from hD Nm2 99999 hbad.ne]
    exact Ev2.pure (RES.bad hbad x3 x4)
/-- what an EXPR does, at a depth -/
def EXH (w : Nat) (y : Nat → Nat) (n p : Nat) (ex : Nat → Int32 → Mem → Option (Bool × Mem)) (exm : Nat → Int32 → Mem → Option Mem) : Prop := (∀ s N Nm, SY w y n s N Nm → Ev2 (ex 1 (nI p) N) (exm 67 (nI (p - 1)) Nm) (RES w y n N Nm (fun s' => ygr s s' (36 - 5 * p)))) ∧ ∀ (Nm : Mem) (x : Int32), ¬ Nm 67 21 = 0 → exm 67 x Nm = some Nm
def yfi (g : Nat → Bool) : Nat → Nat → Int32
  | 0, _ => -1
  | j + 1, i => if g i = true then nI i else yfi g j (i + 1)
theorem yfi_in (g : Nat → Bool) : ∀ j i, yfi g j i = -1 ∨ ∃ q, i ≤ q ∧ q < i + j ∧ yfi g j i = nI q
  | 0, i => Or.inl rfl
  | j + 1, i => by
    rw [yfi]
    by_cases e : g i = true
    · rw [if_pos e]; exact Or.inr ⟨i, by omega, by omega, rfl⟩
    · rw [if_neg e]
      rcases yfi_in g j (i + 1) with h | ⟨q, h1, h2, h3⟩
      · exact Or.inl h
      · exact Or.inr ⟨q, by omega, by omega, h3⟩
theorem zbif {α : Type} (b : Bool) (x z : α) : (if bi b = 0 then x else z) = if b = true then z else x := by cases b <;> rfl
theorem yfi8 (g : Nat → Bool) : yfi g 8 0 = if g 0 = true then (0 : Int32) else if g 1 = true then 1 else if g 2 = true then 2 else if g 3 = true then 3 else if g 4 = true then 4 else if g 5 = true then 5 else if g 6 = true then 6 else if g 7 = true then 7 else -1 := rfl
theorem xc_value {s : St} {N : Mem} (ht : TK y n s) (hn : n ≤ 700) (hy : ∀ i, i < n → y i < 256) (h : KC' y n s N) (hk : s_k s = 1) : F_X5_valueHere 1 N = some (yfi (fun i => ywd (21 + i) y (s_a s) (s_b s)) 8 0) := by
  have e : ∀ i, i < 8 → F_X5_isWord 1 (9 + i) N = some ((fun i => ywd (21 + i) y (s_a s) (s_b s)) i) := fun i hi => by
    rw [xc_word (by omega) ht hn hy h, decide_eq_true hk, Bool.true_and]
    obtain rfl | rfl | rfl | rfl | rfl | rfl | rfl | rfl : i = 0 ∨ i = 1 ∨ i = 2 ∨ i = 3 ∨ i = 4 ∨ i = 5 ∨ i = 6 ∨ i = 7 := by omega
    all_goals exact congrArg some (congrFun (congrFun (congrFun (ywd_eq rfl rfl) y) (s_a s)) (s_b s))
  generalize (fun i => ywd (21 + i) y (s_a s) (s_b s)) = g at e ⊢
  unfold F_X5_valueHere
  rw [show F_X5_isWord 1 9 N = _ from e 0 (by omega), show F_X5_isWord 1 10 N = _ from e 1 (by omega), show F_X5_isWord 1 11 N = _ from e 2 (by omega), show F_X5_isWord 1 12 N = _ from e 3 (by omega), show F_X5_isWord 1 13 N = _ from e 4 (by omega), show F_X5_isWord 1 14 N = _ from e 5 (by omega), show F_X5_isWord 1 15 N = _ from e 6 (by omega), show F_X5_isWord 1 16 N = _ from e 7 (by omega)]
  rw [yfi8]
  simp only [Option.bind_some, zbif]
  generalize g 0 = b0
  generalize g 1 = b1
  generalize g 2 = b2
  generalize g 3 = b3
  generalize g 4 = b4
  generalize g 5 = b5
  generalize g 6 = b6
  generalize g 7 = b7
  cases b0 <;> cases b1 <;> cases b2 <;> cases b3 <;> cases b4 <;> cases b5 <;> cases b6 <;> cases b7 <;> rfl
theorem xm_which {s : St} {Nm : Mem} {a j b L : Nat} (hj : txl j = L) (hL : L ≤ 8) (hb : ∀ i, i < L → sld j (nI i) = some (b + i) ∧ b + i < 38) (ht : TK y n s) (hn : n ≤ 700) (hy : ∀ i, i < n → y i < 256) (h : KM' y n s Nm) (h0 : Nm 67 21 = 0) : F_X12_which 67 a j Nm = some (yfi (fun i => decide (s_k s = 1) && ywd (b + i) y (s_a s) (s_b s)) L 0) := by
  have key : ∀ m i f, i + m = L → m < f → ((L_X12_which_2 67 a j Nm f (nI i)).bind fun q5 => Sum.elim (fun v => some v) (fun s6 => some (-1)) q5) = some (yfi (fun i => decide (s_k s = 1) && ywd (b + i) y (s_a s) (s_b s)) m i) := by
    intro m
    induction m with
    | zero =>
      intro i f e hf
      obtain ⟨f, rfl⟩ : ∃ f', f = f' + 1 := ⟨f - 1, by omega⟩
      rw [L_X12_which_2, hj, if_pos (nI_le (by omega) (by omega))]
      rfl
    | succ m ih =>
      intro i f e hf
      obtain ⟨f, rfl⟩ : ∃ f', f = f' + 1 := ⟨f - 1, by omega⟩
      rw [L_X12_which_2, hj, if_neg (nI_ge (by omega) (by omega)), (hb i (by omega)).1, zbs rfl, xm_is (hb i (by omega)).2 ht hn hy h h0, zbs rfl, zbif, yfi]
      by_cases q : (decide (s_k s = 1) && ywd (b + i) y (s_a s) (s_b s)) = true
      · rw [if_pos q, if_pos q]; rfl
      · rw [if_neg q, if_neg q, nI_1]
        exact ih (i + 1) f (by omega) (by omega)
  exact key L 0 FU (by omega) (by unfold FU; omega)
theorem xm_which0 {Nm : Mem} {a j b L : Nat} (hj : txl j = L) (hL : L ≤ 8) (hb : ∀ i, i < L → sld j (nI i) = some (b + i) ∧ b + i < 38) (h0 : ¬ Nm 67 21 = 0) : F_X12_which 67 a j Nm = some (-1) := by
  have key : ∀ m i f, i + m = L → m < f → ((L_X12_which_2 67 a j Nm f (nI i)).bind fun q5 => Sum.elim (fun v => some v) (fun s6 => some (-1)) q5) = some (-1 : Int32) := by
    intro m
    induction m with
    | zero =>
      intro i f e hf
      obtain ⟨f, rfl⟩ : ∃ f', f = f' + 1 := ⟨f - 1, by omega⟩
      rw [L_X12_which_2, hj, if_pos (nI_le (by omega) (by omega))]
      rfl
    | succ m ih =>
      intro i f e hf
      obtain ⟨f, rfl⟩ : ∃ f', f = f' + 1 := ⟨f - 1, by omega⟩
      rw [L_X12_which_2, hj, if_neg (nI_ge (by omega) (by omega)), (hb i (by omega)).1, zbs rfl, xm_is0 h0, zbs rfl, if_pos (show bi false = 0 from rfl), nI_1]
      exact ih (i + 1) f (by omega) (by omega)
  exact key L 0 FU (by omega) (by unfold FU; omega)
end CHAIN
