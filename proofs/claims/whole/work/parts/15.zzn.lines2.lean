/-! ===== the lines that are told once ===== -/
section LINES2
variable {w n : Nat} {y : Nat → Nat} {s : St} {N Nm : Mem}
theorem s_once (b : Int32) (h : SY w y n s N Nm) (hl : LI s) (hb : b &&& 16 = 0) : LI (ynx y n (yso s (s_o s ||| b))) := LI.o (s := s) hl rfl (fun z => zo16 (s_o s) hb z)
theorem s_oa (b : Int32) (h : SY w y n s N Nm) : s_a s ≤ s_a (ynx y n (yso s (s_o s ||| b))) := by
  have h1 := ynx_a (y := y) (n := n) (s := yso s (s_o s ||| b))
  have h2 := h.2.1.b
  have h3 : s_b (yso s (s_o s ||| b)) = s_b s := rfl
  omega
theorem k_streets (hn : n ≤ 700) (hy : ∀ i, i < n → y i < 256) (hw : w = 3 ∨ w = 14) (h : SY w y n s N Nm) (hl : LI s) : Ev2 (F_X5_streetsLine 1 N) (J_X12_readLine_j82 67 (s_o s) (-1) 1 Nm) (RSL w y n N Nm (s_a s)) := by
  unfold F_X5_streetsLine
  rw [h.1.1.2.2.2.1]
  rcases Bool.eq_false_or_eq_true (s_f s) with q | q
  · rw [q, if_neg (show ¬ bi true = 0 by decide), m_once4 h q]
    exact Ev2.pure (RSL.bad (h.bad (c := 4) (by omega)) (FW.f (by omega)) ywr_G)
  · rw [q, if_pos (show bi false = 0 from rfl)]
    by_cases o : s_o s &&& 1 = 0
    · rw [m_once h (by decide) (fun _ => q) o]
      unfold F_X12_sayOnce
      rw [Option.bind_assoc]
      refine (k_once hn hy hw h o).bind (fun r Nm' hr => ?_)
      obtain ⟨r1, N1⟩ := r
      obtain ⟨e1, hS, F, G⟩ := hr
      obtain rfl : r1 = true := e1
      dsimp only
      rw [if_neg (show ¬ bi true = 0 by decide), if_pos rfl]
      refine k_set (j := 0) (jc := 0) (jm := 7) (lo := 2) (hi := 8) hn hy hw (Or.inl ⟨rfl, rfl, rfl⟩) ⟨by omega, by omega⟩ (fun v h1 h2 => ?_) hS (s_once 1 h hl (by decide)) rfl F G.1 (s_oa 1 h) (fun M => ?_)
      · obtain ⟨a1, a2, a3, a4, a5, a6, a7, a8, a9, a10⟩ := hS.2.2.1
        obtain ⟨b1, b2⟩ := a10 q
        refine ⟨⟨h1, h2⟩, a2, a3, a4, a5, a6, fun k hk => ?_, fun p hp => ?_, a9, fun _ => ⟨b1, b2⟩⟩
        · have := b1 k hk
          show p_rd (s_P s) k < v
          have e : p_rd (s_P s) k = 0 := this
          omega
        · exact absurd hp (by rw [show znp (s_P (ysP (ynx y n (yso s (s_o s ||| 1))) (yPs (s_P (ynx y n (yso s (s_o s ||| 1)))) 0 v))) = 0 from b2]; omega)
      · unfold J_X12_sayOnce_j23 J_X12_sayOnce_j47 J_X12_sayOnce_j56 J_X12_sayOnce_j76
        rw [if_neg (by decide), if_neg (by decide), if_neg (by decide), if_neg (by decide)]
    · rw [k_once0 h o, m_once0 h (by decide) (fun _ => q) o, zbs rfl, if_pos (show bi false = 0 from rfl)]
      exact Ev2.pure (RSL.bad (h.bad (c := 5) (by omega)) (FW.f (by omega)) ywr_G)
theorem k_reserve (hn : n ≤ 700) (hy : ∀ i, i < n → y i < 256) (hw : w = 3 ∨ w = 14) (h : SY w y n s N Nm) (hl : LI s) : Ev2 (F_X5_reserveLine 1 N) (J_X12_readLine_j82 67 (s_o s) (-1) 8 Nm) (RSL w y n N Nm (s_a s)) := by
  unfold F_X5_reserveLine
  by_cases o : s_o s &&& 8 = 0
  · rw [m_once h (by decide) (fun z => absurd z (by decide)) o]
    unfold F_X12_sayOnce
    rw [Option.bind_assoc]
    refine (k_once hn hy hw h o).bind (fun r Nm' hr => ?_)
    obtain ⟨r1, N1⟩ := r
    obtain ⟨e1, hS, F, G⟩ := hr
    obtain rfl : r1 = true := e1
    dsimp only
    unfold J_X12_sayOnce_j23 J_X12_sayOnce_j47 J_X12_sayOnce_j56
    rw [if_neg (show ¬ bi true = 0 by decide), if_neg (show ¬ (8 : Int32) = 1 by decide), if_neg (show ¬ (8 : Int32) = 2 by decide), if_neg (show ¬ (8 : Int32) = 4 by decide), if_pos rfl]
    refine k_set (j := 6) (jc := 6) (jm := 12) (lo := 0) (hi := 99) hn hy hw (Or.inr ⟨rfl, rfl, rfl⟩) ⟨by omega, by omega⟩ (fun v h1 h2 => ?_) hS (s_once 8 h hl (by decide)) rfl F G.1 (s_oa 8 h) (fun M => ?_)
    · obtain ⟨a1, a2, a3, a4, a5, a6, a7, a8, a9, a10⟩ := hS.2.2.1
      exact ⟨a1, a2, a3, a4, h2, a6, a7, a8, a9, a10⟩
    · unfold J_X12_sayOnce_j76
      rw [if_neg (by decide)]
  · rw [k_once0 h o, m_once0 h (by decide) (fun z => absurd z (by decide)) o, zbs rfl, if_pos (show bi false = 0 from rfl)]
    exact Ev2.pure (RSL.bad (h.bad (c := 5) (by omega)) (FW.f (by omega)) ywr_G)
def F_X5_worthLine (t : Nat) (M : Mem) : Option (Bool × Mem) :=
  (F_X5_once t 16 M).bind fun q1 =>
  if (bi q1.1) = 0 then
    some (false, q1.2)
  else
    (F_X5_expr 8 t 1 q1.2).bind fun q3 =>
    if (bi q3.1) = 0 then
      some (false, q3.2)
    else
      (F_X5_sign t 59 q3.2).bind fun q5 =>
      if (bi q5.1) = 0 then
        some (false, q5.2)
      else
        some (true, q5.2)
theorem k_worth (hn : n ≤ 700) (hy : ∀ i, i < n → y i < 256) (hw : w = 3 ∨ w = 14) (h : SY w y n s N Nm) (hl : LI s) : Ev2 (F_X5_worthLine 1 N) (J_X12_readLine_j82 67 (s_o s) (-1) 16 Nm) (RSL w y n N Nm (s_a s)) := by
  unfold F_X5_worthLine
  by_cases o : s_o s &&& 16 = 0
  · rw [m_once h (by decide) (fun z => absurd z (by decide)) o]
    unfold F_X12_sayOnce
    rw [Option.bind_assoc]
    refine (k_once hn hy hw h o).bind (fun r Nm' hr => ?_)
    obtain ⟨r1, N1⟩ := r
    obtain ⟨e1, hS, F, G⟩ := hr
    obtain rfl : r1 = true := e1
    dsimp only
    unfold J_X12_sayOnce_j23 J_X12_sayOnce_j47 J_X12_sayOnce_j56 J_X12_sayOnce_j76
    rw [if_neg (show ¬ bi true = 0 by decide), if_neg (show ¬ (16 : Int32) = 1 by decide), if_neg (show ¬ (16 : Int32) = 2 by decide), if_neg (show ¬ (16 : Int32) = 4 by decide), if_neg (show ¬ (16 : Int32) = 8 by decide), if_pos rfl, obs]
    refine ((k_exp hn hy hw 6 1 rfl (by omega)).1 _ _ _ hS).bind (fun r Nm2 hr => ?_)
    obtain ⟨r1, N2⟩ := r
    obtain ⟨F2, G2, hr⟩ := hr
    rcases hr with ⟨e1, s2, hg, hS2⟩ | ⟨e1, hb⟩
    · obtain rfl : r1 = true := e1
      dsimp only at F2 hS2 ⊢
      rw [if_neg (show ¬ bi true = 0 by decide)]
      obtain ⟨l, cd, e2, g1, g2, g3⟩ := hg
      have hz0 : znl (s_P s) = 0 := hl.2 o
      have hz1 : znl (s_P (ynx y n (yso s (s_o s ||| 16)))) = 0 := hz0
      have eP : s_P s2 = yPc (s_P (ynx y n (yso s (s_o s ||| 16)))) l cd := congrArg Prod.fst e2
      have el : znl (s_P s2) = l := by rw [eP]; rfl
      have ec : p_cd (s_P s2) = cd := by rw [eP]; rfl
      have eo : s_o s2 = s_o s ||| 16 := by
        have : s2.2.2 = (ynx y n (yso s (s_o s ||| 16))).2.2 := by have z := congrArg Prod.snd e2; exact z
        show s2.2.2.2.2.1 = _
        rw [this]
        rfl
      have hLI : LI s2 := by
        refine ⟨fun _ => ?_, fun z => ?_⟩
        · rw [el, ec]
          exact g3 0 (by rw [hz1]; rfl) (by omega)
        · exfalso
          rw [eo] at z
          have := congrArg (fun v => bt v 4) z
          simp only [b_and, b_or, b_0] at this
          have h4 : bt (16 : Int32) 4 = true := by decide
          rw [h4] at this
          simp at this
      have ha : s_a s ≤ s_a s2 := by
        have := s_oa 16 h
        omega
      have hk := k_end hn hy hw hS2 hLI ha (x1 := s_o s) (x3 := 16) eo.symm (F.tr F2) (G.1.tr G2)
      obtain ⟨r, q, k1, k2, k3⟩ := hk
      refine ⟨r, q, ?_, k2, k3⟩
      rw [← k1]
      cases F_X5_sign 1 59 N2 with
      | none => rfl
      | some v =>
        show (if bi v.1 = 0 then some (false, v.2) else some (true, v.2)) = some (v.1, v.2)
        rcases Bool.eq_false_or_eq_true v.1 with z | z <;> rw [z]
        · rw [if_neg (show ¬ bi true = 0 by decide)]
        · rw [if_pos (show bi false = 0 from rfl)]
    · obtain rfl : r1 = false := e1
      obtain ⟨c, q, hb⟩ := hb
      dsimp only at F2 hb ⊢
      rw [if_pos (show bi false = 0 from rfl), k_end0 hb.ne]
      exact Ev2.pure (RSL.bad hb (F.tr F2) (G.1.tr G2))
  · rw [k_once0 h o, m_once0 h (by decide) (fun z => absurd z (by decide)) o, zbs rfl, if_pos (show bi false = 0 from rfl)]
    exact Ev2.pure (RSL.bad (h.bad (c := 5) (by omega)) (FW.f (by omega)) ywr_G)
end LINES2
