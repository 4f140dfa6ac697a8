/-! ===== a line; the lines ===== -/
section LINE
variable {w n : Nat} {y : Nat → Nat} {s : St} {N Nm : Mem}
theorem obp {α β : Type} (o : Option (α × β)) : (o.bind fun q => some (q.1, q.2)) = o := by cases o <;> rfl
theorem wrd_dif : ∀ u, u < 8 → ∀ v, v < 8 → TXL.getD u 0 = TXL.getD v 0 → txc u (nI 0) = txc v (nI 0) → u = v := by decide +kernel
theorem wrd_len : ∀ u, u < 8 → 0 < TXL.getD u 0 := by decide +kernel
theorem wrd_one : ∃ k, k ≤ 8 ∧ ∀ u, u < 8 → wrd u y s = decide (u = k) := by
  have ex : ∀ u v, u < 8 → v < 8 → wrd u y s = true → wrd v y s = true → u = v := by
    intro u v hu hv h1 h2
    unfold wrd ywd at h1 h2
    rw [Bool.and_eq_true, Bool.and_eq_true] at h1 h2
    have l1 := beq_iff_eq.mp h1.2.1
    have l2 := beq_iff_eq.mp h2.2.1
    have c1 := beq_iff_eq.mp ((yal_iff _ _).mp h1.2.2 0 (wrd_len u hu))
    have c2 := beq_iff_eq.mp ((yal_iff _ _).mp h2.2.2 0 (wrd_len v hv))
    exact wrd_dif u hu v hv (l1.symm.trans l2) (c1.symm.trans c2)
  by_cases q : ∃ k, k < 8 ∧ wrd k y s = true
  · obtain ⟨k, hk, e⟩ := q
    refine ⟨k, by omega, fun u hu => ?_⟩
    by_cases t : u = k
    · rw [decide_eq_true t, t]; exact e
    · rw [decide_eq_false t]
      rcases Bool.eq_false_or_eq_true (wrd u y s) with z | z
      · exact absurd (ex u k hu hk z e) t
      · exact z
  · refine ⟨8, by omega, fun u hu => ?_⟩
    rw [decide_eq_false (by omega)]
    rcases Bool.eq_false_or_eq_true (wrd u y s) with z | z
    · exact absurd ⟨u, hu, z⟩ q
    · exact z
theorem c_line (hn : n ≤ 700) (hy : ∀ i, i < n → y i < 256) (h : SY w y n s N Nm) : F_X5_line 1 N = if wrd 0 y s = true then F_X5_streetsLine 1 N else if wrd 1 y s = true then F_X5_pathLine 1 N else if wrd 2 y s = true then F_X5_roundLine 1 N else if wrd 3 y s = true then F_X5_personLine 1 0 N else if wrd 4 y s = true then F_X5_personLine 1 1 N else if wrd 5 y s = true then F_X5_fogLine 1 N else if wrd 6 y s = true then F_X5_reserveLine 1 N else if wrd 7 y s = true then F_X5_worthLine 1 N else some (false, up N 1 8 1) := by
  unfold F_X5_line F_X5_refuse F_X5_worthLine
  rw [h.cw hn hy (u := 0) (by omega), h.cw hn hy (u := 1) (by omega), h.cw hn hy (u := 2) (by omega), h.cw hn hy (u := 3) (by omega), h.cw hn hy (u := 4) (by omega), h.cw hn hy (u := 5) (by omega), h.cw hn hy (u := 6) (by omega), h.cw hn hy (u := 7) (by omega)]
  simp only [Option.bind_some, zbif, obp]
theorem m_line (hn : n ≤ 700) (hy : ∀ i, i < n → y i < 256) (h : SY w y n s N Nm) {x : Int32} : F_X12_readLine 67 x Nm = J_X12_readLine_j82 67 x (if wrd 3 y s = true then 0 else if wrd 4 y s = true then 1 else -1) (if wrd 0 y s = true then 1 else if wrd 2 y s = true then 2 else if wrd 5 y s = true then 4 else if wrd 6 y s = true then 8 else if wrd 7 y s = true then 16 else 0) Nm := by
  unfold F_X12_readLine
  have e3 : ywd 19 = ywd 3 := ywd_eq rfl rfl
  have e4 : ywd 20 = ywd 4 := ywd_eq rfl rfl
  have ew : F_X12_which 67 (67 + 1) 0 Nm = some (if wrd 3 y s = true then 0 else if wrd 4 y s = true then 1 else -1) := by
    rw [xm_which (a := 67 + 1) (j := 0) (b := 19) (L := 2) rfl (by omega) (by decide) h.2.1 hn hy h.1.2.1 h.1.2.2.1]
    unfold wrd
    rw [← e3, ← e4]
    rfl
  rw [ew, h.mw hn hy (u := 29) (v := 0) (by omega) rfl rfl, h.mw hn hy (u := 30) (v := 2) (by omega) rfl rfl, h.mw hn hy (u := 31) (v := 5) (by omega) rfl rfl, h.mw hn hy (u := 32) (v := 6) (by omega) rfl rfl, h.mw hn hy (u := 33) (v := 7) (by omega) rfl rfl]
  simp only [Option.bind_some, zbif]
  generalize (if wrd 3 y s = true then (0 : Int32) else if wrd 4 y s = true then 1 else -1) = v
  cases wrd 0 y s <;> cases wrd 2 y s <;> cases wrd 5 y s <;> cases wrd 6 y s <;> cases wrd 7 y s <;> rfl
theorem k_line (hn : n ≤ 700) (hy : ∀ i, i < n → y i < 256) (hw : w = 3 ∨ w = 14) (h : SY w y n s N Nm) (hl : LI s) : Ev2 (F_X5_line 1 N) (F_X12_readLine 67 (s_o s) Nm) (RSL w y n N Nm (s_a s)) := by
  obtain ⟨k, hk, hu⟩ := wrd_one (y := y) (s := s)
  have e37 := h.mw hn hy (u := 37) (v := 1) (by omega) rfl rfl
  rw [hu 1 (by omega)] at e37
  rw [c_line hn hy h, m_line hn hy h, hu 0 (by omega), hu 1 (by omega), hu 2 (by omega), hu 3 (by omega), hu 4 (by omega), hu 5 (by omega), hu 6 (by omega), hu 7 (by omega)]
  obtain rfl | rfl | rfl | rfl | rfl | rfl | rfl | rfl | rfl : k = 0 ∨ k = 1 ∨ k = 2 ∨ k = 3 ∨ k = 4 ∨ k = 5 ∨ k = 6 ∨ k = 7 ∨ k = 8 := by omega
  · exact k_streets hn hy hw h hl
  · show Ev2 (F_X5_pathLine 1 N) (J_X12_readLine_j82 67 (s_o s) (-1) 0 Nm) _
    rw [m_path e37]
    exact k_path hn hy hw h hl
  · exact k_round hn hy hw h hl
  · exact k_person false hn hy hw h hl
  · exact k_person true hn hy hw h hl
  · exact k_fogl hn hy hw h hl
  · exact k_reserve hn hy hw h hl
  · exact k_worth hn hy hw h hl
  · show Ev2 (some (false, up N 1 8 1)) (J_X12_readLine_j82 67 (s_o s) (-1) 0 Nm) _
    rw [m_none e37, show F_X12_wrong 67 1 Nm = ywr 1 Nm from ywr_eq (c := 1) h.1.2.2.1, k_end0 (ywr_ne (by omega))]
    exact Ev2.pure (RSL.bad (h.bad (c := 1) (by omega)) (FW.f (by omega)) ywr_G)
def FIN (w : Nat) (y : Nat → Nat) (n : Nat) (N0 Nm0 : Mem) (r : Int32 × Mem) (Nm : Mem) : Prop := FW w N0 r.2 ∧ GW Nm0 Nm ∧ ((r.1 = 0 ∧ ∃ s, LI s ∧ SY w y n s r.2 Nm) ∨ ∃ c q, r.1 = nI c ∧ BAD c q r.2 Nm)
theorem xm_k0 (ht : TK y n s) (hy : ∀ i, i < n → y i < 256) (h : KM' y n s Nm) : (Nm 67 17 = 0) ↔ s_k s = 0 := by
  have h61 := ht.k61 hy
  have h4 : ymo (s_k s) ≤ 61 := by unfold ymo; repeat' split
                                   all_goals omega
  rw [h.2.2.2.2.1]
  refine ⟨fun z => ?_, fun z => by rw [z]; rfl⟩
  by_cases q : s_k s = 0
  · exact q
  · have : ymo (s_k s) ≠ 0 := by unfold ymo; repeat' split
                                 all_goals omega
    exact absurd z (zne 0 0 rfl this (by omega) (by omega))
theorem k_lines (hn : n ≤ 700) (hy : ∀ i, i < n → y i < 256) (hw : w = 3 ∨ w = 14) {N0 Nm0 : Mem} : ∀ m i f g s N Nm, n ≤ s_a s + m → i ≤ s_a s → m < f → m + 1 < g → SY w y n s N Nm → LI s → FW w N0 N → GW Nm0 Nm → Ev2 ((L_X5_read_43 1 f (nI i) N).bind fun q8 => Sum.elim (fun v => some v) (fun s9 => some ((0 : Int32), s9)) q8) (L_X12_ward_141 67 g (s_o s) Nm) (FIN w y n N0 Nm0) := by
  intro m
  induction m with
  | zero =>
    intro i f g s N Nm e hi hf hg h hl F G
    obtain ⟨f, rfl⟩ : ∃ f', f = f' + 1 := ⟨f - 1, by omega⟩
    obtain ⟨g, rfl⟩ : ∃ g', g = g' + 1 := ⟨g - 1, by omega⟩
    have hb := h.2.1.b
    have hk : s_k s = 0 := by
      by_cases q : s_k s = 0
      · exact q
      · have := (h.2.1.ne q).2; omega
    rw [L_X5_read_43, if_neg (zngl 700 700 rfl (by omega) (by omega)), h.1.1.1.2.2.2.1, hk, if_pos (show nI 0 = 0 from rfl), zbs rfl, L_X12_ward_141, if_pos h.1.2.2.1, if_pos ((xm_k0 h.2.1 hy h.1.2.1).mpr hk)]
    exact Ev2.pure ⟨F, G, Or.inl ⟨rfl, s, hl, h⟩⟩
  | succ m ih =>
    intro i f g s N Nm e hi hf hg h hl F G
    obtain ⟨f, rfl⟩ : ∃ f', f = f' + 1 := ⟨f - 1, by omega⟩
    obtain ⟨g, rfl⟩ : ∃ g', g = g' + 1 := ⟨g - 1, by omega⟩
    have hb := h.2.1.b
    rw [L_X5_read_43, if_neg (zngl 700 700 rfl (by omega) (by omega)), h.1.1.1.2.2.2.1, L_X12_ward_141, if_pos h.1.2.2.1]
    by_cases hk : s_k s = 0
    · rw [hk, if_pos (show nI 0 = 0 from rfl), zbs rfl, if_pos ((xm_k0 h.2.1 hy h.1.2.1).mpr hk)]
      exact Ev2.pure ⟨F, G, Or.inl ⟨rfl, s, hl, h⟩⟩
    · rw [if_neg (zne 0 0 rfl hk (by have := h.2.1.k61 hy; omega) (by omega)), if_neg (fun z => hk ((xm_k0 h.2.1 hy h.1.2.1).mp z))]
      obtain ⟨r, q, e1, e2, F1, G1, hr⟩ := k_line hn hy hw h hl
      rw [e1, e2, zbs rfl, zbs rfl]
      obtain ⟨r1, N1⟩ := r
      obtain ⟨q1, Nm1⟩ := q
      dsimp only at F1 G1 hr ⊢
      rcases hr with ⟨er, s', hl', h', eo, ha⟩ | ⟨er, c, p, hbad⟩
      · obtain rfl : r1 = true := er
        obtain rfl : q1 = s_o s' := eo
        rw [if_neg (show ¬ bi true = 0 by decide), nI_1]
        exact ih (i + 1) f g s' N1 Nm1 (by omega) (by omega) (by omega) (by omega) h' hl' (F.tr F1) (G.tr G1)
      · obtain rfl : r1 = false := er
        obtain ⟨g, rfl⟩ : ∃ g', g = g' + 1 := ⟨g - 1, by omega⟩
        rw [if_pos (show bi false = 0 from rfl), zbs rfl, L_X12_ward_141, if_neg hbad.ne]
        exact Ev2.pure ⟨F.tr F1, G.tr G1, Or.inr ⟨c, p, hbad.2.1.1, hbad⟩⟩
end LINE
