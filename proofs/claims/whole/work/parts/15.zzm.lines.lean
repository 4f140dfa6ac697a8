/-! ===== lines: once, numbers, the end ===== -/
section LINES
variable {w n : Nat} {y : Nat → Nat} {s : St} {N Nm : Mem}
/-- what holds between lines -/
def LI (s : St) : Prop := (0 < znl (s_P s) → zH (p_cd (s_P s)) (znl (s_P s)) = some 1) ∧ (s_o s &&& 16 = 0 → znl (s_P s) = 0)
def RSL (w : Nat) (y : Nat → Nat) (n : Nat) (N0 Nm0 : Mem) (a : Nat) (r : Bool × Mem) (q : Int32 × Mem) : Prop := FW w N0 r.2 ∧ GW Nm0 q.2 ∧ ((r.1 = true ∧ ∃ s, LI s ∧ SY w y n s r.2 q.2 ∧ q.1 = s_o s ∧ a < s_a s) ∨ (r.1 = false ∧ ∃ c q', BAD c q' r.2 q.2))
theorem RSL.bad {N0 Nm0 : Mem} {a c q : Nat} {x : Int32} (h : BAD c q N Nm) (f : FW w N0 N) (g : GW Nm0 Nm) : RSL w y n N0 Nm0 a (false, N) (x, Nm) := ⟨f, g, Or.inr ⟨rfl, c, q, h⟩⟩
theorem k_end0 {x1 x3 : Int32} (h0 : ¬ Nm 67 21 = 0) : J_X12_readLine_j165 67 x1 x3 Nm = some (x1 ||| x3, Nm) := by
  unfold J_X12_readLine_j165
  rw [xm_mark0 h0, zbs rfl]
theorem k_end (hn : n ≤ 700) (hy : ∀ i, i < n → y i < 256) (hw : w = 3 ∨ w = 14) (h : SY w y n s N Nm) (hl : LI s) {a : Nat} (ha : a ≤ s_a s) {x1 x3 : Int32} (hx : x1 ||| x3 = s_o s) {N0 Nm0 : Mem} (f : FW w N0 N) (g : GW Nm0 Nm) : Ev2 ((F_X5_sign 1 59 N).bind fun q7 => some (q7.1, q7.2)) (J_X12_readLine_j165 67 x1 x3 Nm) (RSL w y n N0 Nm0 a) := by
  obtain ⟨r, Nm', e1, e2, e3, e4, e5⟩ := k_sign (c := 59) (by omega) (by omega) hn hy hw h
  unfold J_X12_readLine_j165
  rw [show F_X5_sign 1 59 N = some r from e1, show F_X12_mark 67 59 Nm = some Nm' from e2, zbs rfl, zbs rfl]
  refine Ev2.pure ⟨f.tr e3, g.tr e4, ?_⟩
  rcases e5 with ⟨r1, s', ⟨es, ek⟩, h'⟩ | ⟨r1, hb⟩
  · have h1 := ynx_a (y := y) (n := n) (s := s)
    have h2 := (h.2.1.ne (by omega)).1
    subst es
    exact Or.inl ⟨r1, ynx y n s, hl, h', hx, by omega⟩
  · exact Or.inr ⟨r1, hb⟩
/-- the next token, a bit more among those seen -/
theorem k_once (hn : n ≤ 700) (hy : ∀ i, i < n → y i < 256) (hw : w = 3 ∨ w = 14) (h : SY w y n s N Nm) {b : Int32} (hb : s_o s &&& b = 0) : Ev2 (F_X5_once 1 b N) (F_X12_stepOn 67 Nm) (fun r Nm' => r.1 = true ∧ SY w y n (ynx y n (yso s (s_o s ||| b))) r.2 Nm' ∧ FW w N r.2 ∧ WG Nm Nm') := by
  unfold F_X5_once
  rw [h.1.1.2.2.1, if_pos hb]
  have h1 : SY w y n (yso s (s_o s ||| b)) (up N 1 9 (s_o s ||| b)) Nm := by
    obtain ⟨⟨⟨k, a1, a2, a3, a4⟩, m⟩, t, p, l⟩ := h
    exact ⟨⟨⟨KC.of (s := s) k (fun j hj => by rw [up_nk (by omega)]) (up_ne (by omega)), by rw [up_nk (by omega)]; exact a1, up_at, by rw [up_nk (by omega)]; exact a3, PC.of (s := s) a4 hw (fun c _ _ => up_ne (by omega))⟩, m⟩, t, p, l⟩
  obtain ⟨N1, Nm1, e1, e2, e3, e4, e5⟩ := h1.nx hn hy hw
  rw [e1, e2, zbs rfl]
  exact Ev2.pure ⟨rfl, e3, (FW.f (by omega)).tr e4, e5⟩
theorem k_once0 (h : SY w y n s N Nm) {b : Int32} (hb : ¬ s_o s &&& b = 0) : F_X5_once 1 b N = some (false, up N 1 8 5) := by
  unfold F_X5_once
  rw [h.1.1.2.2.1, if_neg hb]
  rfl
/-- the model's way to a line that is told once -/
theorem m_once (h : SY w y n s N Nm) {b : Int32} (hb : ¬ b ≤ 0) (h1 : b = 1 → s_f s = false) (ho : s_o s &&& b = 0) : J_X12_readLine_j82 67 (s_o s) (-1) b Nm = (F_X12_sayOnce 67 b Nm).bind fun q22 => J_X12_readLine_j165 67 (s_o s) b q22 := by
  have e : J_X12_readLine_j100 67 (s_o s) (-1) b Nm = (F_X12_sayOnce 67 b Nm).bind fun q22 => J_X12_readLine_j165 67 (s_o s) b q22 := by
    unfold J_X12_readLine_j100 J_X12_readLine_j111
    rw [if_pos (by rw [Int32.and_comm]; exact ho), if_neg hb, if_pos h.1.2.2.1]
  unfold J_X12_readLine_j82
  by_cases q : b = 1
  · rw [if_pos q, if_pos (by rw [h.1.2.2.2.1, h1 q]; rfl)]; exact e
  · rw [if_neg q]; exact e
theorem m_lost {x1 x2 x3 : Int32} (h2 : x2 = -1) (h0 : ¬ Nm 67 21 = 0) : J_X12_readLine_j130 67 x1 x2 x3 Nm = some (x1 ||| x3, Nm) := by
  unfold J_X12_readLine_j130
  rw [if_pos h2, xm_is0 h0, zbs rfl, if_pos (show bi false = 0 from rfl), xm_wrong0 h0, k_end0 h0]
theorem m_once0 (h : SY w y n s N Nm) {b : Int32} (hb : ¬ b ≤ 0) (h1 : b = 1 → s_f s = false) (ho : ¬ s_o s &&& b = 0) : J_X12_readLine_j82 67 (s_o s) (-1) b Nm = some (s_o s ||| b, ywr 5 Nm) := by
  have e : J_X12_readLine_j100 67 (s_o s) (-1) b Nm = some (s_o s ||| b, ywr 5 Nm) := by
    unfold J_X12_readLine_j100 J_X12_readLine_j111
    rw [if_neg (by rw [Int32.and_comm]; exact ho), if_neg hb, show F_X12_wrong 67 5 Nm = ywr 5 Nm from ywr_eq (c := 5) h.1.2.2.1, if_neg (ywr_ne (by omega)), m_lost rfl (ywr_ne (by omega))]
  unfold J_X12_readLine_j82
  by_cases q : b = 1
  · rw [if_pos q, if_pos (by rw [h.1.2.2.2.1, h1 q]; rfl)]; exact e
  · rw [if_neg q]; exact e
theorem m_once4 (h : SY w y n s N Nm) (h1 : s_f s = true) : J_X12_readLine_j82 67 (s_o s) (-1) 1 Nm = some (s_o s ||| 1, ywr 4 Nm) := by
  unfold J_X12_readLine_j82
  rw [if_pos rfl, if_neg (by rw [h.1.2.2.2.1, h1]; decide), show F_X12_wrong 67 4 Nm = ywr 4 Nm from ywr_eq (c := 4) h.1.2.2.1]
  have h0 : ¬ (ywr 4 Nm) 67 21 = 0 := ywr_ne (by omega)
  have e : J_X12_readLine_j111 67 (s_o s) (-1) 1 (ywr 4 Nm) = some (s_o s ||| 1, ywr 4 Nm) := by
    unfold J_X12_readLine_j111
    rw [if_neg (by decide), if_neg h0, m_lost rfl h0]
  unfold J_X12_readLine_j100
  rw [xm_wrong0 h0]
  split <;> exact e
/-- one count of the plan becomes another -/
def yPs (P : Pl) (j v : Nat) : Pl := ((fun i => if i = j then v else P.1 i), P.2)
theorem LI.o {s' : St} (h : LI s) (hP : s_P s' = s_P s) (ho : s_o s' &&& 16 = 0 → s_o s &&& 16 = 0) : LI s' := by
  unfold LI
  rw [hP]
  exact ⟨h.1, fun z => h.2 (ho z)⟩
theorem zo16 (o : Int32) {b : Int32} (hb : b &&& 16 = 0) : (o ||| b) &&& 16 = 0 → o &&& 16 = 0 := fun h => b_ext (fun i hi => by
  have := congrArg (fun z => bt z i) h
  simp only [b_and, b_or, b_0] at this
  rw [b_and, b_0]
  have h2 := congrArg (fun z => bt z i) hb
  simp only [b_and, b_0] at h2
  cases q1 : bt o i <;> cases q2 : bt 16 i <;> simp_all)
/-- the number of STREETS is told -/
theorem PC.s0 (hw : w = 3 ∨ w = 14) (h : PC w s N) {v : Nat} : PC w (ysP s (yPs (s_P s) 0 v)) (up N w 0 (nI v)) := by
  obtain ⟨⟨⟨a1, a2, a3, a4, a5, a6, a7⟩, b, c, d, e, f, g⟩, h5⟩ := h
  have k : ∀ c, c ≠ w → (up N w 0 (nI v)) c = N c := fun c hc => up_ne hc
  refine ⟨⟨⟨up_at, ?_, ?_, ?_, ?_, ?_, ?_⟩, ?_, ?_, ?_, ?_, ?_, ?_⟩, ?_⟩
  · rw [up_nk (by omega)]; exact a2
  · rw [up_nk (by omega)]; exact a3
  · rw [up_nk (by omega)]; exact a4
  · rw [up_nk (by omega)]; exact a5
  · rw [up_nk (by omega)]; exact a6
  · rw [k _ (by omega)]; exact a7
  · rw [up_nk (by omega)]; exact b
  · rw [k _ (by omega)]; exact c
  · rw [k _ (by omega)]; exact d
  · rw [k _ (by omega)]; exact e
  · rw [k _ (by omega)]; exact f
  · rw [k _ (by omega)]; exact g
  · refine ⟨fun p hp => ?_, fun p x1 x2 => ?_⟩
    · rw [k _ (by omega), k (w + 5) (by omega)]; exact h5.1 p hp
    · rw [up_nk (by omega)]; exact h5.2 p x1 x2
theorem PMd.s0 (h : PMd s Nm) {v : Nat} : PMd (ysP s (yPs (s_P s) 0 v)) (up Nm 70 7 (nI v)) := by
  obtain ⟨⟨a1, a2, a3, a4, a5, a6, a7⟩, b, c, d, e, f, g, h5⟩ := h
  have k : ∀ c, c ≠ 70 → (up Nm 70 7 (nI v)) c = Nm c := fun c hc => up_ne hc
  refine ⟨⟨up_at, ?_, ?_, ?_, ?_, ?_, ?_⟩, ?_, ?_, ?_, ?_, ?_, ?_, ?_⟩
  · rw [up_nk (by omega)]; exact a2
  · rw [up_nk (by omega)]; exact a3
  · rw [up_nk (by omega)]; exact a4
  · rw [up_nk (by omega)]; exact a5
  · rw [up_nk (by omega)]; exact a6
  · rw [up_nk (by omega)]; exact a7
  · rw [k _ (by omega)]; exact b
  · rw [k _ (by omega)]; exact c
  · rw [k _ (by omega)]; exact d
  · rw [k _ (by omega)]; exact e
  · rw [k _ (by omega)]; exact f
  · rw [k _ (by omega)]; exact g
  · rw [k 74 (by omega), k 76 (by omega)]; exact h5
theorem PC.s6 (hw : w = 3 ∨ w = 14) (h : PC w s N) {v : Nat} : PC w (ysP s (yPs (s_P s) 6 v)) (up N w 6 (nI v)) := by
  obtain ⟨⟨⟨a1, a2, a3, a4, a5, a6, a7⟩, b, c, d, e, f, g⟩, h5⟩ := h
  have k : ∀ c, c ≠ w → (up N w 6 (nI v)) c = N c := fun c hc => up_ne hc
  refine ⟨⟨⟨?_, ?_, ?_, ?_, ?_, up_at, ?_⟩, ?_, ?_, ?_, ?_, ?_, ?_⟩, ?_⟩
  · rw [up_nk (by omega)]; exact a1
  · rw [up_nk (by omega)]; exact a2
  · rw [up_nk (by omega)]; exact a3
  · rw [up_nk (by omega)]; exact a4
  · rw [up_nk (by omega)]; exact a5
  · rw [k _ (by omega)]; exact a7
  · rw [up_nk (by omega)]; exact b
  · rw [k _ (by omega)]; exact c
  · rw [k _ (by omega)]; exact d
  · rw [k _ (by omega)]; exact e
  · rw [k _ (by omega)]; exact f
  · rw [k _ (by omega)]; exact g
  · refine ⟨fun p hp => ?_, fun p x1 x2 => ?_⟩
    · rw [k _ (by omega), k (w + 5) (by omega)]; exact h5.1 p hp
    · rw [up_nk (by omega)]; exact h5.2 p x1 x2
theorem PMd.s6 (h : PMd s Nm) {v : Nat} : PMd (ysP s (yPs (s_P s) 6 v)) (up Nm 70 12 (nI v)) := by
  obtain ⟨⟨a1, a2, a3, a4, a5, a6, a7⟩, b, c, d, e, f, g, h5⟩ := h
  have k : ∀ c, c ≠ 70 → (up Nm 70 12 (nI v)) c = Nm c := fun c hc => up_ne hc
  refine ⟨⟨?_, ?_, ?_, ?_, ?_, up_at, ?_⟩, ?_, ?_, ?_, ?_, ?_, ?_, ?_⟩
  · rw [up_nk (by omega)]; exact a1
  · rw [up_nk (by omega)]; exact a2
  · rw [up_nk (by omega)]; exact a3
  · rw [up_nk (by omega)]; exact a4
  · rw [up_nk (by omega)]; exact a5
  · rw [up_nk (by omega)]; exact a7
  · rw [k _ (by omega)]; exact b
  · rw [k _ (by omega)]; exact c
  · rw [k _ (by omega)]; exact d
  · rw [k _ (by omega)]; exact e
  · rw [k _ (by omega)]; exact f
  · rw [k _ (by omega)]; exact g
  · rw [k 74 (by omega), k 76 (by omega)]; exact h5
/-- a number is read, and told: what a count becomes -/
theorem k_set (hn : n ≤ 700) (hy : ∀ i, i < n → y i < 256) (hw : w = 3 ∨ w = 14) {j jc jm lo hi : Nat} (hj : (j = 0 ∧ jc = 0 ∧ jm = 7) ∨ (j = 6 ∧ jc = 6 ∧ jm = 12)) (hh : lo ≤ 9999 ∧ hi ≤ 9999) (hWP : ∀ v, lo ≤ v → v ≤ hi → WP (ysP s (yPs (s_P s) j v))) (h : SY w y n s N Nm) (hl : LI s) {x1 x3 : Int32} (hx : x1 ||| x3 = s_o s) {N0 Nm0 : Mem} (F : FW w N0 N) (G : GW Nm0 Nm) {a : Nat} (ha : a ≤ s_a s) {tail : Mem → Option Mem} (htl : ∀ M, tail M = some M) : Ev2 (if bi ((F_X5_number 1 (nI lo) (nI hi) N).1) = 0 then some (false, (F_X5_number 1 (nI lo) (nI hi) N).2) else (grd ((F_X5_number 1 (nI lo) (nI hi) N).2 1 2)).bind fun w4 => (F_X5_advance 1 (up (F_X5_number 1 (nI lo) (nI hi) N).2 w4 jc ((F_X5_number 1 (nI lo) (nI hi) N).2 1 7))).bind fun q5 => (F_X5_sign 1 59 q5).bind fun q6 => some (q6.1, q6.2)) (((F_X12_readNumber 67 (nI lo) (nI hi) Nm).bind fun q8 => (ast q8.2 (67 + 3) 14 (nI jm) q8.1).bind fun M9 => tail M9).bind fun q22 => J_X12_readLine_j165 67 x1 x3 q22) (RSL w y n N0 Nm0 a) := by
  have ht := h.2.1
  have h0 := h.1.2.2.1
  have hast : ∀ (M : Mem) (v : Int32), ast M (67 + 3) 14 (nI jm) v = some (up M 70 jm v) := fun M v => zast (by omega) (by omega)
  unfold F_X12_readNumber
  rcases k_num hh.1 hh.2 ht hn hy h.1.1.1 h.1.2.1 h0 with ⟨e1, e2, e3, e4, e5, e6⟩ | ⟨c, hcc, e1, e2⟩
  · rw [e1, e2]
    dsimp only
    rw [if_neg (show ¬ bi true = 0 by decide), ygrd hw h.1.1.2.1, zbs rfl, e3, if_pos h0]
    have hS : SY w y n (ysP s (yPs (s_P s) j (yvl y s))) (up N w jc (nI (yvl y s))) (up Nm 70 jm (nI (yvl y s))) := by
      obtain ⟨⟨⟨k, a1, a2, a3, a4⟩, ⟨m1, m2, m3, m4⟩⟩, t, p, l⟩ := h
      refine ⟨⟨⟨KC.of (s := s) k (fun j hj => by rw [up_ne (by omega)]) (up_ne (by omega)), by rw [up_ne (by omega)]; exact a1, by rw [up_ne (by omega)]; exact a2, by rw [up_ne (by omega)]; exact a3, ?_⟩, ⟨KM.of (s := s) m1 (fun j hj => by rw [up_ne (by omega)]) (up_ne (by omega)), by rw [up_ne (by omega)]; exact m2, by rw [up_ne (by omega)]; exact m3, ?_⟩⟩, t, hWP _ e4 e5, ?_⟩
      · rcases hj with ⟨rfl, rfl, rfl⟩ | ⟨rfl, rfl, rfl⟩
        · exact a4.s0 hw
        · exact a4.s6 hw
      · rcases hj with ⟨rfl, rfl, rfl⟩ | ⟨rfl, rfl, rfl⟩
        · exact m4.s0
        · exact m4.s6
      · rcases hj with ⟨rfl, rfl, rfl⟩ | ⟨rfl, rfl, rfl⟩
        · exact l
        · exact l
    have hLI : LI (ynx y n (ysP s (yPs (s_P s) j (yvl y s)))) := by
      rcases hj with ⟨rfl, rfl, rfl⟩ | ⟨rfl, rfl, rfl⟩
      · exact hl
      · exact hl
    have ha2 : a ≤ s_a (ynx y n (ysP s (yPs (s_P s) j (yvl y s)))) := by
      have h1 := ynx_a (y := y) (n := n) (s := ysP s (yPs (s_P s) j (yvl y s)))
      have h2 := ht.b
      have h3 : s_b (ysP s (yPs (s_P s) j (yvl y s))) = s_b s := rfl
      omega
    -- the model steps first, then tells
    obtain ⟨N1, d1, d2, d3⟩ := xc_adv hn hy hw hS.2.1.b.2 hS.1.1
    obtain ⟨Nm1, g1, g2, g3⟩ := xm_step hn hy ht.b.2 h.1.2
    rw [zbs d1, zbs g1, zbs rfl]
    dsimp only
    rw [hast, zbs rfl, htl, zbs rfl]
    have hS2 : SY w y n (ynx y n (ysP s (yPs (s_P s) j (yvl y s)))) N1 (up Nm1 70 jm (nI (yvl y s))) := by
      obtain ⟨m1, m2, m3, m4⟩ := g2
      refine ⟨⟨d2, ⟨KM.of (s := ynx y n s) m1 (fun j hj => by rw [up_ne (by omega)]) (up_ne (by omega)), by rw [up_ne (by omega)]; exact m2, by rw [up_ne (by omega)]; exact m3, ?_⟩⟩, hS.2.1.nx, hS.2.2.1, ?_⟩
      · rcases hj with ⟨rfl, rfl, rfl⟩ | ⟨rfl, rfl, rfl⟩
        · exact PMd.s0 (s := ynx y n s) m4
        · exact PMd.s6 (s := ynx y n s) m4
      · have h1 := ynx_a (y := y) (n := n) (s := ysP s (yPs (s_P s) j (yvl y s)))
        have h2 := hS.2.1.b
        have h3 := hS.2.2.2
        show znl (s_P (ysP s (yPs (s_P s) j (yvl y s)))) ≤ _
        omega
    refine k_end hn hy hw hS2 hLI ha2 hx ((F.tr (FW.c hw (by omega))).tr d3) ((G.tr g3.1).tr (GW.c (by omega)).1)
  · rw [e1, e2]
    dsimp only
    rw [if_pos (show bi false = 0 from rfl), if_neg (ywr_ne hcc), zbs rfl]
    dsimp only
    have h0' : ¬ (up (ywr c Nm) 70 jm 0) 67 21 = 0 := by rw [up_ne (by omega)]; exact ywr_ne hcc
    rw [hast, zbs rfl, htl, zbs rfl, k_end0 h0']
    exact Ev2.pure (RSL.bad ((h.bad hcc).g (GW.c (by omega))) (F.tr (FW.f (by omega))) ((G.tr ywr_G).tr (GW.c (by omega)).1))
end LINES
