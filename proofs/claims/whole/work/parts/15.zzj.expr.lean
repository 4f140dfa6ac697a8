/-! ===== PART, PRODUCT, SUM ===== -/
section EXPR
variable {w n : Nat} {y : Nat → Nat} {ex : Nat → Int32 → Mem → Option (Bool × Mem)} {exm : Nat → Int32 → Mem → Option Mem} {p : Nat}
theorem zcv_nI {v : Nat} (h : v < 10000) : zcv (nI v) = nI v := by
  unfold zcv
  rw [if_pos (Int32.lt_of_lt_of_le (show (-20 : Int32) < 0 by decide) (zle 0 0 rfl (Nat.zero_le v) (by omega)))]
theorem zht_nI {v : Nat} (hv : v < 10000) {h : Nat} (hh : h < 40) : zht (nI v) h = some (h + 1) := by
  unfold zht
  have h0 : (0 : Int32) ≤ nI v := zle 0 0 rfl (Nat.zero_le v) (by omega)
  rw [if_pos (Int32.lt_of_lt_of_le (show (-20 : Int32) < 0 by decide) h0), if_pos ⟨Int32.le_trans (show (-8 : Int32) ≤ 0 by decide) h0, hh⟩]
theorem zcv_val : ∀ q, q < 8 → zcv ((-1) - nI q) = (-1) - nI q := by decide +kernel
theorem zht_val : ∀ q, q < 8 → -20 < (-1) - nI q ∧ (-8 : Int32) ≤ (-1) - nI q := by decide +kernel
theorem zht_op {sg : Int32} (h1 : ¬ -20 < sg) (h2 : ¬ sg = -28) (h3 : -28 < sg) (h : Nat) : zht sg (h + 2) = some (h + 1) := by
  unfold zht
  rw [if_neg h1, if_neg h2, if_pos ⟨h3, by omega⟩]
  rfl
theorem k_part0 {Nm : Mem} {x : Int32} (h0 : ¬ Nm 67 21 = 0) : F_X12_readPart exm 67 x Nm = some Nm := by
  unfold F_X12_readPart; rw [if_neg h0]
/-- both lay what they read and go on: the model's lay behind the step -/
theorem k_push (hn : n ≤ 700) (hy : ∀ i, i < n → y i < 256) (hw : w = 3 ∨ w = 14) {s : St} {N Nm : Mem} (h : SY w y n s N Nm) (hk : s_k s ≠ 0) {sg : Int32} (hz : ∀ h, h < 40 → zht sg h = some (h + 1)) : Ev2 ((F_X5_advance 1 (F_X10_add (w + 7) (zcv sg) N)).bind fun q5 => some (true, q5)) ((F_X12_stepOn 67 Nm).bind fun q => F_X12_lay 67 sg q) (RES w y n N Nm (fun s' => ygr s s' 1)) ∧ Ev2 ((F_X5_advance 1 (F_X10_add (w + 7) (zcv sg) N)).bind fun q5 => some (true, q5)) ((F_X12_lay 67 sg Nm).bind fun q => if q 67 21 = 0 then (F_X12_stepOn 67 q).bind fun q11 => some q11 else some q) (RES w y n N Nm (fun s' => ygr s s' 1)) := by
  obtain ⟨⟨h1, h2⟩, ht, hp, hl⟩ := h
  have hb := ht.b
  have hne := ht.ne hk
  have hl7 : znl (s_P s) < 700 := by omega
  have hc := xc_add hw h1 hl7 (sg := sg) rfl
  obtain ⟨N1, a1, a2, a3⟩ := xc_adv hn hy hw (s := yad s sg) hb.2 hc.1
  have hS : ∀ Nm', XM y n (ynx y n (yad s sg)) Nm' → SY w y n (ynx y n (yad s sg)) N1 Nm' := fun Nm' hm => ⟨⟨a2, hm⟩, TK.nx (s := yad s sg) ht, hp.pc (s' := ynx y n (yad s sg)) rfl, by
    have := ynx_a (y := y) (n := n) (s := yad s sg)
    show znl (s_P s) + 1 ≤ _
    have e : s_b (yad s sg) = s_b s := rfl
    omega⟩
  have hg := ygr.push (sg := sg) ht hk hz
  constructor
  · obtain ⟨Nm1, b1, b2, b3⟩ := xm_step hn hy hb.2 h2
    obtain ⟨Nm2, c1, c2, c3⟩ := xm_lay (s := ynx y n s) b2 hl7 (sg := sg)
    rw [zbs a1, zbs b1, c1]
    exact Ev2.pure (RES.ok hg (hS Nm2 c2) (hc.2.tr a3) (b3.1.tr c3.1))
  · obtain ⟨Nm1, b1, b2, b3⟩ := xm_lay h2 hl7 (sg := sg)
    obtain ⟨Nm2, c1, c2, c3⟩ := xm_step hn hy (s := yad s sg) hb.2 b2
    rw [zbs a1, zbs b1, if_pos b2.2.1, zbs c1]
    exact Ev2.pure (RES.ok hg (hS Nm2 c2) (hc.2.tr a3) (b3.1.tr c3.1))
theorem k_part (hn : n ≤ 700) (hy : ∀ i, i < n → y i < 256) (hw : w = 3 ∨ w = 14) (hp : 1 ≤ p ∧ p ≤ 6) (hx : EXH w y n (p + 1) ex exm) {s : St} {N Nm : Mem} (h : SY w y n s N Nm) : Ev2 (F_X5_part ex 1 (nI p) N) (F_X12_readPart exm 67 (nI (p - 1)) Nm) (RES w y n N Nm (fun s' => ygr s s' (31 - 5 * p))) := by
  have ht := h.2.1
  have h61 := ht.k61 hy
  have h0 := h.1.2.2.1
  have hkc : KC' y n s N := h.1.1.1
  have hkm : KM' y n s Nm := h.1.2.1
  have hl := h.2.2.2
  have hk2 := xm_k2 ht hy hkm
  have hmo : Nm 67 17 = nI (ymo (s_k s)) := hkm.2.2.2.2.1
  have hk6 : N 1 6 = nI (s_k s) := hkc.2.2.2.1
  unfold F_X5_part F_X12_readPart
  rw [if_pos h0]
  by_cases k40 : s_k s = 40
  · have e17 : ¬ Nm 67 17 = 2 := fun z => by have := hk2.mp z; omega
    have e17' : ¬ Nm 67 17 = 1 := by rw [hmo, k40]; decide
    rw [if_pos (by rw [hk6, k40]; rfl), if_neg e17, if_neg e17']
    have hmk : F_X12_isMarked 67 40 Nm = some (decide (s_k s = 40)) := xm_marked (c := 40) (by omega) (by omega) ht hn hy hkm h0
    have em : F_X12_mark 67 40 Nm = F_X12_stepOn 67 Nm := by
      unfold F_X12_mark
      rw [if_pos h0, hmk, zbs rfl, decide_eq_true k40, if_neg (show ¬ bi true = 0 by decide)]
      unfold J_X12_mark_j20
      rw [if_pos h0, obs]
    rw [em]
    obtain ⟨N1, Nm1, d1, d2, d3, d4, d5⟩ := h.nx hn hy hw
    rw [zbs d1, zbs d2, nI_1, nI_1, show p - 1 + 1 = p + 1 - 1 by omega]
    obtain ⟨r, Nm2, x1, x2, x3, x4, x5⟩ := hx.1 _ _ _ d3
    rw [zbs x1, zbs x2, obs]
    rcases x5 with ⟨r1, s3, g3, h3⟩ | ⟨r1, c, q3, hbad⟩
    · rw [if_neg (by rw [r1]; decide)]
      obtain ⟨r4, Nm4, y1, y2, y3, y4, y5⟩ := k_sign (c := 41) (by omega) (by omega) hn hy hw h3
      rw [show F_X5_sign 1 41 r.2 = some r4 from y1, show F_X12_mark 67 41 Nm2 = some Nm4 from y2, zbs rfl]
      rcases y5 with ⟨r41, s4, ⟨es, _⟩, h4⟩ | ⟨r41, c, q4, hbad⟩
      · rw [if_neg (by rw [r41]; decide)]
        refine Ev2.pure (RES.ok (s := s4) ?_ h4 ((d4.tr x3).tr y3) ((d5.1.tr x4).tr y4))
        rw [es]
        exact ((g3.pre ht).post h3.2.1).mono (by omega)
      · rw [if_pos (by rw [r41]; rfl)]
        exact Ev2.pure (RES.bad hbad ((d4.tr x3).tr y3) ((d5.1.tr x4).tr y4))
    · rw [if_pos (by rw [r1]; rfl), xm_mark0 hbad.ne]
      exact Ev2.pure (RES.bad hbad (d4.tr x3) (d5.1.tr x4))
  · rw [if_neg (by rw [hk6]; exact zne 40 40 rfl k40 (by omega) (by omega))]
    by_cases k1 : s_k s = 1
    · have e17 : ¬ Nm 67 17 = 2 := fun z => by have := hk2.mp z; omega
      have e17' : Nm 67 17 = 1 := by rw [hmo, k1]; rfl
      rw [if_pos (by rw [hk6, k1]; rfl), if_neg e17, if_pos e17', xc_value ht hn hy hkc k1, xm_which (a := 67 + 2) (j := 1) (b := 21) (L := 8) rfl (by omega) (by decide) ht hn hy hkm h0, decide_eq_true k1]
      simp only [Bool.true_and]
      rw [zbs rfl, zbs rfl]
      rcases yfi_in (fun i => ywd (21 + i) y (s_a s) (s_b s)) 8 0 with e | ⟨q, _, hq, e⟩
      · rw [e, if_pos rfl, if_pos rfl, show F_X12_wrong 67 3 Nm = ywr 3 Nm from ywr_eq (c := 3) h0]
        unfold J_X12_readPart_j56
        rw [xm_lay0 (ywr_ne (by omega)), zbs rfl, if_neg (ywr_ne (by omega))]
        exact Ev2.pure (RES.bad (h.bad (c := 3) (by omega)) (FW.f (by omega)) ywr_G)
      · have hne : ¬ nI q = -1 := (show ∀ q, q < 8 → ¬ nI q = -1 by decide +kernel) q (by omega)
        have hv := zht_val q (by omega)
        rw [e, if_neg hne, if_neg hne, ygrd hw h.1.1.2.1, zbs rfl]
        unfold J_X5_part_j103 J_X12_readPart_j56 F_X10_addValue
        have := (k_push hn hy hw h (by omega) (sg := (-1) - nI q) (fun h hh => by unfold zht; rw [if_pos hv.1, if_pos ⟨hv.2, hh⟩])).2
        rw [zcv_val q (by omega)] at this
        exact this.mono (fun a b hr => hr.from FW.rf GW.rf (fun s' g => g.mono (by omega)))
    · have e17' : ¬ Nm 67 17 = 1 := by
        rw [hmo]
        have : ymo (s_k s) ≠ 1 := by unfold ymo; repeat' split
                                     all_goals omega
        have h4 : ymo (s_k s) ≤ 61 := by unfold ymo; repeat' split
                                         all_goals omega
        exact zne 1 1 rfl this (by omega) (by omega)
      rw [if_neg (by rw [hk6]; exact zne 1 1 rfl k1 (by omega) (by omega))]
      by_cases k2 : s_k s = 2
      · rw [if_pos (hk2.mpr k2)]
        unfold F_X12_readNumber
        rcases k_num (lo := 0) (hi := 9999) (by omega) (by omega) ht hn hy hkc hkm h0 with ⟨e1, e2, e3, e4, e5, e6⟩ | ⟨c, hcc, e1, e2⟩
        · rw [show F_X5_number 1 0 9999 N = _ from e1, show F_X12_numberNow 67 0 9999 Nm = _ from e2]
          dsimp only
          rw [if_neg (show ¬ bi true = 0 by decide), if_pos h0, ygrd hw h.1.1.2.1, zbs rfl, e3]
          unfold J_X5_part_j103
          have := (k_push hn hy hw h (by omega) (sg := nI (yvl y s)) (fun h hh => zht_nI (by omega) hh)).1
          rw [zcv_nI (by omega)] at this
          rw [Option.bind_assoc]
          simp only [Option.bind_some, obs]
          exact this.mono (fun a b hr => hr.from FW.rf GW.rf (fun s' g => g.mono (by omega)))
        · rw [show F_X5_number 1 0 9999 N = _ from e1, show F_X12_numberNow 67 0 9999 Nm = _ from e2]
          dsimp only
          rw [if_pos (show bi false = 0 from rfl), if_neg (ywr_ne hcc), zbs rfl]
          dsimp only
          rw [xm_lay0 (ywr_ne hcc), zbs rfl]
          exact Ev2.pure (RES.bad (h.bad hcc) (FW.f (by omega)) ywr_G)
      · rw [if_neg (fun z => k2 (hk2.mp z)), if_neg e17']
        have e1 : F_X5_number 1 0 9999 N = _ := k_num1 (lo := 0) (hi := 9999) (by omega) (by omega) ht hn hy hkc k2
        have hmk : F_X12_isMarked 67 40 Nm = some (decide (s_k s = 40)) := xm_marked (c := 40) (by omega) (by omega) ht hn hy hkm h0
        have em : F_X12_mark 67 40 Nm = some (ywr 1 Nm) := by
          unfold F_X12_mark
          rw [if_pos h0, hmk, zbs rfl, decide_eq_false k40, if_pos (show bi false = 0 from rfl), show F_X12_wrong 67 1 Nm = ywr 1 Nm from ywr_eq (c := 1) h0]
          unfold J_X12_mark_j20
          rw [if_neg (ywr_ne (by omega))]
        rw [e1, if_pos (show bi false = 0 from rfl), em, zbs rfl, hx.2 _ _ (ywr_ne (by omega)), zbs rfl, xm_mark0 (ywr_ne (by omega)), zbs rfl]
        exact Ev2.pure (RES.bad (h.bad (c := 1) (by omega)) (FW.f (by omega)) ywr_G)
theorem k_prod0 {Nm : Mem} {x : Int32} (h0 : ¬ Nm 67 21 = 0) (g : Nat) : L_X12_readProduct_5 exm 67 x (g + 1) Nm = some Nm := by
  rw [L_X12_readProduct_5, xm_marked0 h0, zbs rfl, if_pos (show bi false = 0 from rfl), xm_marked0 h0, zbs rfl, if_pos (show bi false = 0 from rfl)]
theorem k_prod (hn : n ≤ 700) (hy : ∀ i, i < n → y i < 256) (hw : w = 3 ∨ w = 14) (hp : 1 ≤ p ∧ p ≤ 6) (hx : EXH w y n (p + 1) ex exm) {s : St} {N Nm : Mem} (h : SY w y n s N Nm) : Ev2 (F_X5_product ex 1 (nI p) N) (F_X12_readProduct exm 67 (nI (p - 1)) Nm) (RES w y n N Nm (fun s' => ygr s s' (32 - 5 * p))) := by
  unfold F_X5_product F_X12_readProduct
  refine k_chain (LC := L_X5_product_12 ex 1 (nI p)) (LM := L_X12_readProduct_5 exm 67 (nI (p - 1))) (XCf := F_X5_part ex 1 (nI p)) (XMf := F_X12_readPart exm 67 (nI (p - 1))) (cond := fun s => decide (s_k s = 42 ∨ s_k s = 47)) (sg := fun s => if s_k s = 42 then -22 else -23) (k := 32 - 5 * p) (k2 := 31 - 5 * p) hn hy hw ?_ (fun s N Nm h => k_part hn hy hw hp hx h) ?_ (fun Nm h0 => k_part0 h0) ?_ ?_ ?_ (fun Nm g h0 => k_prod0 h0 g) (by omega) h
  · intro s hc
    have := of_decide_eq_true hc
    omega
  · intro s h
    split
    · exact zht_op (by decide) (by decide) (by decide) h
    · exact zht_op (by decide) (by decide) (by decide) h
  · intro s N Nm f g i h hi hc
    have h61 := h.2.1.k61 hy
    have hc' := of_decide_eq_false hc
    have m1 : F_X12_isMarked 67 42 Nm = some (decide (s_k s = 42)) := xm_marked (c := 42) (by omega) (by omega) h.2.1 hn hy h.1.2.1 h.1.2.2.1
    have m2 : F_X12_isMarked 67 47 Nm = some (decide (s_k s = 47)) := xm_marked (c := 47) (by omega) (by omega) h.2.1 hn hy h.1.2.1 h.1.2.2.1
    refine ⟨?_, ?_⟩
    · rw [L_X5_product_12, if_neg (znge 700 700 rfl hi (by omega)), h.1.1.1.2.2.2.1, if_neg (zne 42 42 rfl (by omega) (by omega) (by omega)), if_neg (zne 47 47 rfl (by omega) (by omega) (by omega))]
    · rw [L_X12_readProduct_5, m1, zbs rfl, decide_eq_false (by omega), if_pos (show bi false = 0 from rfl), m2, zbs rfl, decide_eq_false (by omega), if_pos (show bi false = 0 from rfl)]
  · intro s N Nm f g i h hi hc
    have h61 := h.2.1.k61 hy
    have hc' := of_decide_eq_true hc
    have m1 : F_X12_isMarked 67 42 Nm = some (decide (s_k s = 42)) := xm_marked (c := 42) (by omega) (by omega) h.2.1 hn hy h.1.2.1 h.1.2.2.1
    have m2 : F_X12_isMarked 67 47 Nm = some (decide (s_k s = 47)) := xm_marked (c := 47) (by omega) (by omega) h.2.1 hn hy h.1.2.1 h.1.2.2.1
    have k6 : N 1 6 = nI (s_k s) := h.1.1.1.2.2.2.1
    rw [L_X5_product_12, if_neg (znge 700 700 rfl hi (by omega)), L_X12_readProduct_5, m1, zbs rfl, m2, zbs rfl]
    unfold J_X5_product_j37 J_X12_readProduct_j23
    rw [m1, zbs rfl, k6]
    by_cases q : s_k s = 42
    · rw [q]
      exact ⟨rfl, rfl⟩
    · have q2 : s_k s = 47 := by omega
      rw [q2]
      exact ⟨rfl, rfl⟩
  · intro N f
    rw [L_X5_product_12, if_pos (by decide)]
theorem k_prodw {Nm : Mem} {x : Int32} (h0 : ¬ Nm 67 21 = 0) : F_X12_readProduct exm 67 x Nm = some Nm := by
  unfold F_X12_readProduct
  rw [k_part0 h0, zbs rfl, show L_X12_readProduct_5 exm 67 x FU Nm = some Nm from k_prod0 h0 99999, zbs rfl]
theorem k_sum0 {Nm : Mem} {x : Int32} (h0 : ¬ Nm 67 21 = 0) (g : Nat) : L_X12_readSum_5 exm 67 x (g + 1) Nm = some Nm := by
  rw [L_X12_readSum_5, xm_marked0 h0, zbs rfl, if_pos (show bi false = 0 from rfl), xm_marked0 h0, zbs rfl, if_pos (show bi false = 0 from rfl)]
theorem k_sum (hn : n ≤ 700) (hy : ∀ i, i < n → y i < 256) (hw : w = 3 ∨ w = 14) (hp : 1 ≤ p ∧ p ≤ 6) (hx : EXH w y n (p + 1) ex exm) {s : St} {N Nm : Mem} (h : SY w y n s N Nm) : Ev2 (F_X5_sum ex 1 (nI p) N) (F_X12_readSum exm 67 (nI (p - 1)) Nm) (RES w y n N Nm (fun s' => ygr s s' (33 - 5 * p))) := by
  unfold F_X5_sum F_X12_readSum
  refine k_chain (LC := L_X5_sum_12 ex 1 (nI p)) (LM := L_X12_readSum_5 exm 67 (nI (p - 1))) (XCf := F_X5_product ex 1 (nI p)) (XMf := F_X12_readProduct exm 67 (nI (p - 1))) (cond := fun s => decide (s_k s = 43 ∨ s_k s = 45)) (sg := fun s => if s_k s = 43 then -20 else -21) (k := 33 - 5 * p) (k2 := 32 - 5 * p) hn hy hw ?_ (fun s N Nm h => k_prod hn hy hw hp hx h) ?_ (fun Nm h0 => k_prodw h0) ?_ ?_ ?_ (fun Nm g h0 => k_sum0 h0 g) (by omega) h
  · intro s hc
    have := of_decide_eq_true hc
    omega
  · intro s h
    split
    · exact zht_op (by decide) (by decide) (by decide) h
    · exact zht_op (by decide) (by decide) (by decide) h
  · intro s N Nm f g i h hi hc
    have h61 := h.2.1.k61 hy
    have hc' := of_decide_eq_false hc
    have m1 : F_X12_isMarked 67 43 Nm = some (decide (s_k s = 43)) := xm_marked (c := 43) (by omega) (by omega) h.2.1 hn hy h.1.2.1 h.1.2.2.1
    have m2 : F_X12_isMarked 67 45 Nm = some (decide (s_k s = 45)) := xm_marked (c := 45) (by omega) (by omega) h.2.1 hn hy h.1.2.1 h.1.2.2.1
    refine ⟨?_, ?_⟩
    · rw [L_X5_sum_12, if_neg (znge 700 700 rfl hi (by omega)), h.1.1.1.2.2.2.1, if_neg (zne 43 43 rfl (by omega) (by omega) (by omega)), if_neg (zne 45 45 rfl (by omega) (by omega) (by omega))]
    · rw [L_X12_readSum_5, m1, zbs rfl, decide_eq_false (by omega), if_pos (show bi false = 0 from rfl), m2, zbs rfl, decide_eq_false (by omega), if_pos (show bi false = 0 from rfl)]
  · intro s N Nm f g i h hi hc
    have h61 := h.2.1.k61 hy
    have hc' := of_decide_eq_true hc
    have m1 : F_X12_isMarked 67 43 Nm = some (decide (s_k s = 43)) := xm_marked (c := 43) (by omega) (by omega) h.2.1 hn hy h.1.2.1 h.1.2.2.1
    have m2 : F_X12_isMarked 67 45 Nm = some (decide (s_k s = 45)) := xm_marked (c := 45) (by omega) (by omega) h.2.1 hn hy h.1.2.1 h.1.2.2.1
    have k6 : N 1 6 = nI (s_k s) := h.1.1.1.2.2.2.1
    rw [L_X5_sum_12, if_neg (znge 700 700 rfl hi (by omega)), L_X12_readSum_5, m1, zbs rfl, m2, zbs rfl]
    unfold J_X5_sum_j37 J_X12_readSum_j23
    rw [m1, zbs rfl, k6]
    by_cases q : s_k s = 43
    · rw [q]
      exact ⟨rfl, rfl⟩
    · have q2 : s_k s = 45 := by omega
      rw [q2]
      exact ⟨rfl, rfl⟩
  · intro N f
    rw [L_X5_sum_12, if_pos (by decide)]
theorem k_sumw {Nm : Mem} {x : Int32} (h0 : ¬ Nm 67 21 = 0) : F_X12_readSum exm 67 x Nm = some Nm := by
  unfold F_X12_readSum
  rw [k_prodw h0, zbs rfl, show L_X12_readSum_5 exm 67 x FU Nm = some Nm from k_sum0 h0 99999, zbs rfl]
end EXPR
