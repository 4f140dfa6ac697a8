/-! ===== ward ===== -/
section WARD
variable {w n : Nat} {y : Nat → Nat} {s : St} {N Nm : Mem}
theorem xm_take (wp : WP s) (hl : znl (s_P s) ≤ 700) (h : PMd s Nm) : Evs (F_X12_takeOver 67 Nm) (fun M' => MP M' (s_P s) ∧ MT (mrow M') (yT0 (znp (s_P s)) (nI (zrs (s_P s))) (s_pu s) (s_wk s)) ∧ M' 67 33 = 0 ∧ M' 67 34 = 0 ∧ M' 67 55 = 0 ∧ (∀ k, k ≠ 29 → k ≠ 30 → k ≠ 31 → k ≠ 32 → k ≠ 33 → k ≠ 34 → k ≠ 55 → M' 67 k = Nm 67 k) ∧ ∀ c, c ≠ 67 → (c < 70 ∨ 78 < c) → c ≠ 81 → c ≠ 82 → c ≠ 83 → M' c = Nm c) := by
  obtain ⟨⟨c1, c2, c3, c4, c5, c6, c7⟩, d1, d2, d3, d4, d5, d6, d7⟩ := h
  obtain ⟨w1, w2, w3, w4, w5, w6, w7, w8, w9, w10⟩ := wp
  unfold F_X12_takeOver
  obtain ⟨M1, e1, p1, -, o1⟩ := zm_half (a := 70) (n := 14) (h := 7) (M := Nm) (by decide) (by omega) (by omega)
  obtain ⟨M2, e2, p2, -, o2⟩ := zm_half (a := 71) (n := 16) (h := 8) (M := M1) (by decide) (by omega) (by omega)
  obtain ⟨M3, e3, p3, -, o3⟩ := zm_half (a := 72) (n := 16) (h := 8) (M := M2) (by decide) (by omega) (by omega)
  obtain ⟨M4, e4, p4, -, o4⟩ := zm_half (a := 73) (n := 14) (h := 7) (M := M3) (by decide) (by omega) (by omega)
  obtain ⟨M5, e5, p5, -, o5⟩ := zm_half (a := 74) (n := 14) (h := 7) (M := M4) (by decide) (by omega) (by omega)
  obtain ⟨M6, e6, p6, -, o6⟩ := zm_half (a := 75) (n := 14) (h := 7) (M := M5) (by decide) (by omega) (by omega)
  obtain ⟨M7, e7, p7, -, o7⟩ := zm_half (a := 76) (n := 84) (h := 42) (M := M6) (by decide) (by omega) (by omega)
  obtain ⟨M8, e8, p8, -, o8⟩ := zm_half (a := 77) (n := 16) (h := 8) (M := M7) (by decide) (by omega) (by omega)
  obtain ⟨M9, e9, p9, -, o9⟩ := zm_half (a := 78) (n := 1400) (h := 700) (M := M8) (by decide) (by omega) (by omega)
  rw [zbs e1, zbs e2, zbs e3, zbs e4, zbs e5, zbs e6, zbs e7, zbs e8, zbs e9]
  have h70 : ∀ i, i < 7 → M9 70 i = Nm 70 (7 + i) := fun i hi => by rw [o9 70 (by omega), o8 70 (by omega), o7 70 (by omega), o6 70 (by omega), o5 70 (by omega), o4 70 (by omega), o3 70 (by omega), o2 70 (by omega), p1 i hi]
  have h71 : ∀ i, i < 8 → M9 71 i = Nm 71 (8 + i) := fun i hi => by rw [o9 71 (by omega), o8 71 (by omega), o7 71 (by omega), o6 71 (by omega), o5 71 (by omega), o4 71 (by omega), o3 71 (by omega), p2 i hi, o1 71 (by omega)]
  have h72 : ∀ i, i < 8 → M9 72 i = Nm 72 (8 + i) := fun i hi => by rw [o9 72 (by omega), o8 72 (by omega), o7 72 (by omega), o6 72 (by omega), o5 72 (by omega), o4 72 (by omega), p3 i hi, o2 72 (by omega), o1 72 (by omega)]
  have h73 : ∀ i, i < 7 → M9 73 i = Nm 73 (7 + i) := fun i hi => by rw [o9 73 (by omega), o8 73 (by omega), o7 73 (by omega), o6 73 (by omega), o5 73 (by omega), p4 i hi, o3 73 (by omega), o2 73 (by omega), o1 73 (by omega)]
  have h74 : ∀ i, i < 7 → M9 74 i = Nm 74 (7 + i) := fun i hi => by rw [o9 74 (by omega), o8 74 (by omega), o7 74 (by omega), o6 74 (by omega), p5 i hi, o4 74 (by omega), o3 74 (by omega), o2 74 (by omega), o1 74 (by omega)]
  have h75 : ∀ i, i < 7 → M9 75 i = Nm 75 (7 + i) := fun i hi => by rw [o9 75 (by omega), o8 75 (by omega), o7 75 (by omega), p6 i hi, o5 75 (by omega), o4 75 (by omega), o3 75 (by omega), o2 75 (by omega), o1 75 (by omega)]
  have h76 : ∀ i, i < 42 → M9 76 i = Nm 76 (42 + i) := fun i hi => by rw [o9 76 (by omega), o8 76 (by omega), p7 i hi, o6 76 (by omega), o5 76 (by omega), o4 76 (by omega), o3 76 (by omega), o2 76 (by omega), o1 76 (by omega)]
  have h77 : ∀ i, i < 8 → M9 77 i = Nm 77 (8 + i) := fun i hi => by rw [o9 77 (by omega), p8 i hi, o7 77 (by omega), o6 77 (by omega), o5 77 (by omega), o4 77 (by omega), o3 77 (by omega), o2 77 (by omega), o1 77 (by omega)]
  have h78 : ∀ i, i < 700 → M9 78 i = Nm 78 (700 + i) := fun i hi => by rw [p9 i hi, o8 78 (by omega), o7 78 (by omega), o6 78 (by omega), o5 78 (by omega), o4 78 (by omega), o3 78 (by omega), o2 78 (by omega), o1 78 (by omega)]
  have ho : ∀ c, (c < 70 ∨ 78 < c) → M9 c = Nm c := fun c hc => by rw [o9 c (by omega), o8 c (by omega), o7 c (by omega), o6 c (by omega), o5 c (by omega), o4 c (by omega), o3 c (by omega), o2 c (by omega), o1 c (by omega)]
  have ers : (up (up M9 67 29 0) 67 30 0) (67 + 3) 5 = nI (zrs (s_P s)) := by rw [up_ne (by omega), up_ne (by omega), show (67 + 3 : Nat) = 70 from rfl, h70 5 (by omega)]; exact c6
  rw [ers]
  have k9 : ∀ c, c ≠ 67 → (up (up (up (up M9 67 29 0) 67 30 0) 67 31 (nI (zrs (s_P s)))) 67 32 0) c = M9 c := fun c hc => by rw [up_ne hc, up_ne hc, up_ne hc, up_ne hc]
  have g29 : (up (up (up (up M9 67 29 0) 67 30 0) 67 31 (nI (zrs (s_P s)))) 67 32 0) 67 29 = 0 := by rw [up_nk (by omega), up_nk (by omega), up_nk (by omega), up_at]
  have g30 : (up (up (up (up M9 67 29 0) 67 30 0) 67 31 (nI (zrs (s_P s)))) 67 32 0) 67 30 = 0 := by rw [up_nk (by omega), up_nk (by omega), up_at]
  have g31 : (up (up (up (up M9 67 29 0) 67 30 0) 67 31 (nI (zrs (s_P s)))) 67 32 0) 67 31 = nI (zrs (s_P s)) := by rw [up_nk (by omega), up_at]
  have g32 : (up (up (up (up M9 67 29 0) 67 30 0) 67 31 (nI (zrs (s_P s)))) 67 32 0) 67 32 = 0 := up_at
  have g67 : ∀ k, k ≠ 29 → k ≠ 30 → k ≠ 31 → k ≠ 32 → (up (up (up (up M9 67 29 0) 67 30 0) 67 31 (nI (zrs (s_P s)))) 67 32 0) 67 k = Nm 67 k := fun k x1 x2 x3 x4 => by rw [up_nk x4, up_nk x3, up_nk x2, up_nk x1, ho 67 (by omega)]
  generalize up (up (up (up M9 67 29 0) 67 30 0) 67 31 (nI (zrs (s_P s)))) 67 32 0 = M10 at k9 g29 g30 g31 g32 g67 ⊢
  refine Evs.bind (zm_90 (z := znp (s_P s)) (pu := s_pu s) (ln := p_ln (s_P s)) (wk := s_wk s) (M0 := M10) w3 ?_ ?_ ?_ ?_ ?_) (fun M' hM => Evs.pure ?_)
  · rw [k9 70 (by omega), h70 3 (by omega)]; exact c4
  · intro p hp
    rw [k9 74 (by omega), h74 p (by omega)]; exact (d7 p hp).1
  · intro p hp
    rw [k9 75 (by omega), h75 p (by omega)]; exact ⟨d4 p hp, (w8 p hp).1.2⟩
  · intro p hp i hi
    have := (w8 p hp).1.2
    rw [k9 76 (by omega), h76 (6 * p + i) (by omega), show 42 + (6 * p + i) = 6 * (7 + p) + i by omega]
    exact (d7 p hp).2 i hi
  · intro p hp i hi
    exact (w8 p hp).2.2.2 i hi
  · obtain ⟨b1, b2, b3, b4⟩ := hM
    have q : ∀ c, c ≠ 67 → (up (up (up M' 67 33 0) 67 34 0) 67 55 (bi false)) c = M' c := fun c hc => by rw [up_ne hc, up_ne hc, up_ne hc]
    have q67 : ∀ k, k ≠ 33 → k ≠ 34 → k ≠ 55 → (up (up (up M' 67 33 0) 67 34 0) 67 55 (bi false)) 67 k = M10 67 k := fun k x1 x2 x3 => by rw [up_nk x3, up_nk x2, up_nk x1, b4 67 (by omega) (by omega) (by omega)]
    have qc : ∀ c, c ≠ 67 → c ≠ 81 → c ≠ 82 → c ≠ 83 → (up (up (up M' 67 33 0) 67 34 0) 67 55 (bi false)) c = M9 c := fun c x1 x2 x3 x4 => by rw [q c x1, b4 c x2 x3 x4, k9 c x1]
    refine ⟨⟨⟨?_, ?_, ?_, ?_, ?_, ?_, ?_⟩, ?_, ?_, ?_, ?_, ?_, ?_⟩, MT.of ?_ ?_ ?_ ?_ ?_ ?_ ?_, ?_, ?_, up_at, ?_, ?_⟩
    · rw [qc 70 (by omega) (by omega) (by omega) (by omega), h70 0 (by omega)]; exact c1
    · rw [qc 70 (by omega) (by omega) (by omega) (by omega), h70 1 (by omega)]; exact c2
    · rw [qc 70 (by omega) (by omega) (by omega) (by omega), h70 2 (by omega)]; exact c3
    · rw [qc 70 (by omega) (by omega) (by omega) (by omega), h70 3 (by omega)]; exact c4
    · rw [qc 70 (by omega) (by omega) (by omega) (by omega), h70 4 (by omega)]; exact c5
    · rw [qc 70 (by omega) (by omega) (by omega) (by omega), h70 5 (by omega)]; exact c6
    · rw [qc 70 (by omega) (by omega) (by omega) (by omega), h70 6 (by omega)]; exact c7
    · intro p hp
      rw [qc 73 (by omega) (by omega) (by omega) (by omega), h73 p (by omega)]; exact d1 p hp
    · intro t ht
      rw [qc 71 (by omega) (by omega) (by omega) (by omega), h71 t ht]; exact d2 t ht
    · intro k hk
      rw [qc 72 (by omega) (by omega) (by omega) (by omega), h72 k (by omega)]; exact d3 k hk
    · intro p hp
      rw [qc 75 (by omega) (by omega) (by omega) (by omega), h75 p (by omega)]; exact d4 p hp
    · intro k hk
      rw [qc 77 (by omega) (by omega) (by omega) (by omega), h77 k (by omega)]; exact d5 k hk
    · intro k hk
      rw [qc 78 (by omega) (by omega) (by omega) (by omega), h78 k (by omega)]; exact d6 k hk
    · rw [q67 29 (by omega) (by omega) (by omega), g29]; rfl
    · rw [q67 30 (by omega) (by omega) (by omega), g30]; rfl
    · rw [q67 31 (by omega) (by omega) (by omega), g31]; rfl
    · rw [q67 32 (by omega) (by omega) (by omega), g32]; rfl
    · rw [q 81 (by omega)]; exact b1
    · rw [q 82 (by omega)]; exact b2
    · rw [q 83 (by omega)]; exact b3
    · rw [up_nk (by omega), up_nk (by omega), up_at]
    · rw [up_nk (by omega), up_at]
    · intro k x1 x2 x3 x4 x5 x6 x7
      rw [q67 k x5 x6 x7]; exact g67 k x1 x2 x3 x4
    · intro c x1 x2 x3 x4 x5
      rw [qc c x1 x3 x4 x5]; exact ho c x2
theorem GW.mp {M M' : Mem} {P : Pl} (h : GW M M') (hP : PW P) (m : MP M P) : MP M' P := by
  obtain ⟨g1, g2, g3, g4, g5, g6⟩ := h
  obtain ⟨⟨a1, a2, a3, a4, a5, a6, a7⟩, b, c, d, e, f, g⟩ := m
  obtain ⟨w1, w2, w3, w4, w5, -⟩ := hP
  refine ⟨⟨?_, ?_, ?_, ?_, ?_, ?_, ?_⟩, fun p hp => ?_, fun t ht => ?_, fun k hk => ?_, fun p hp => ?_, fun k hk => ?_, fun k hk => ?_⟩
  · rw [(g3 0 (by omega)).1]; exact a1
  · rw [(g3 1 (by omega)).1]; exact a2
  · rw [(g3 2 (by omega)).1]; exact a3
  · rw [(g3 3 (by omega)).1]; exact a4
  · rw [(g3 4 (by omega)).1]; exact a5
  · rw [(g3 5 (by omega)).1]; exact a6
  · rw [(g3 6 (by omega)).1]; exact a7
  · rw [(g3 p (by omega)).2.1]; exact b p hp
  · rw [(g4 t ht).1]; exact c t ht
  · rw [(g4 k (by omega)).2.1]; exact d k hk
  · rw [(g3 p (by omega)).2.2.2]; exact e p hp
  · rw [(g4 k (by omega)).2.2]; exact f k hk
  · rw [g6 k (by omega)]; exact g k hk
theorem k_both (hn : n ≤ 700) (hy : ∀ i, i < n → y i < 256) (hw : w = 3 ∨ w = 14) (h2 : N 1 2 = nI w) (ht : ∀ i, i < n → N 2 i = nI (y i)) : ∃ r, F_X5_read 1 (nI n) N = some r ∧ ∀ Nm : Mem, (∀ i, i < n → Nm 80 i = nI (y i)) → ∃ q, WRD (nI n) Nm = some q ∧ FIN w y n (up (up (up (up (up (up N 1 1 0) 1 3 (nI n)) 1 5 0) 1 8 0) 1 9 0) 1 10 (bi false)) (up (up (up (up (up (up (up Nm 67 2 0) 67 14 0) 67 16 (nI n)) 67 15 0) 67 21 0) 67 23 (-1)) 67 24 (bi false)) r q := by
  obtain ⟨r, q, e1, e2, h⟩ := k_read (Nm := fun _ i => nI (y i)) hn hy hw h2 ht (fun i hi => rfl)
  refine ⟨r, e1, fun Nm h3 => ?_⟩
  obtain ⟨r', q', e1', e2', h'⟩ := k_read (Nm := Nm) hn hy hw h2 ht h3
  have : r' = r := Option.some.inj (e1'.symm.trans e1)
  subst this
  exact ⟨q', e2', h'⟩
theorem agr_ward (p : Int32) : Agr (F_L_ward 0 106 p) (F_X12_ward 67 p) := by
  intro M ⟨w, Z, hz, hc, hm⟩
  have hz0 := hz
  have hc0 := hc
  have hm0 := hm
  obtain ⟨hz1, hz2, hz3, hz4, hz5⟩ := hz
  obtain ⟨k1, k2, k3, k4, k5, k6, k7, k8, k9⟩ := hc
  obtain ⟨m1, m2, m3, m4, m5, m6, m7, m8⟩ := hm
  rcases znum p (z_n Z + 1) (by omega) with ⟨n, hn, rfl⟩ | hbad
  · have hn7 : n ≤ 700 := by omega
    have hy : ∀ i, i < n → z_y Z i < 256 := fun i hi => hz5 i (by omega)
    obtain ⟨v, hv, h01, h12, hvw⟩ : ∃ v, (v = 3 ∨ v = 14) ∧ M 0 1 = nI w ∧ M 1 2 = nI v ∧ ((w = 3 ∧ v = 14) ∨ (w = 14 ∧ v = 3)) := by
      rcases k1 with ⟨x1, x2, x3⟩ | ⟨x1, x2, x3⟩
      · exact ⟨14, Or.inr rfl, by rw [x1]; exact x2, x3, Or.inl ⟨x1, rfl⟩⟩
      · exact ⟨3, Or.inl rfl, by rw [x1]; exact x2, x3, Or.inr ⟨x1, rfl⟩⟩
    obtain ⟨r, er, hr⟩ := k_both (N := M) hn7 hy hv h12 (fun i hi => k6 i (by omega))
    obtain ⟨r1, N1⟩ := r
    obtain ⟨q0, -, F0, -, hq0⟩ := hr (fun _ i => nI (z_y Z i)) (fun i hi => rfl)
    dsimp only at F0 hq0
    have fc : ∀ c, c ≠ 1 → c ≠ 13 → (c < v ∨ v + 8 < c) → N1 c = M c := fun c x1 x2 x3 => by
      rw [F0.1 c x1 x2 x3, up_ne x1, up_ne x1, up_ne x1, up_ne x1, up_ne x1, up_ne x1]
    have f11 : N1 1 1 = 0 := by
      rw [F0.2.1, up_nk (by omega), up_nk (by omega), up_nk (by omega), up_nk (by omega), up_nk (by omega), up_at]
    have f12 : N1 1 2 = nI v := by
      rw [F0.2.2.1, up_nk (by omega), up_nk (by omega), up_nk (by omega), up_nk (by omega), up_nk (by omega), up_nk (by omega)]; exact h12
    have hwd : ∀ M1 : Mem, M1 67 14 = nI (z_n Z) → F_X12_ward 67 (nI n) M1 = (WRD (nI n) M1).bind (J_X12_ward_j164 67) := fun M1 h => m_ward (nI_pos (by omega)) (by rw [h]; exact nI_le (by omega) (by omega))
    by_cases e0 : r1 = 0
    · subst e0
      have hrd : ∀ s, SY v (z_y Z) n s N1 q0 → True := fun _ _ => trivial
      have gP : ∀ (s : St) (q : Mem), SY v (z_y Z) n s N1 q → Evs (F_X8_begin 25 v (up (up (up N1 0 2 (-1)) 1 2 (nI w)) 0 1 (nI v))) (fun M' => CT (crow M' 25) (yT0 (znp (s_P s)) (nI (zrs (s_P s))) (s_pu s) (s_wk s)) ∧ ∀ c, (c < 25 ∨ 28 < c) → M' c = (up (up (up N1 0 2 (-1)) 1 2 (nI w)) 0 1 (nI v)) c) := by
        intro s q h
        obtain ⟨⟨⟨kc, x2, x9, x10, ⟨⟨⟨a1, a2, a3, a4, a5, a6, a7⟩, hbi, c, d, e, f, g⟩, h5, h6⟩⟩, -⟩, -, wp, -⟩ := h
        have kk : ∀ c, c ≠ 0 → c ≠ 1 → (up (up (up N1 0 2 (-1)) 1 2 (nI w)) 0 1 (nI v)) c = N1 c := fun c x1 x2 => by rw [up_ne x1, up_ne x2, up_ne x1]
        refine zc_begin hv wp.2.2.1 ?_ ?_ (fun p hp => ?_) (fun p hp i hi => ?_)
        · rw [kk v (by omega) (by omega)]; exact a4
        · rw [kk v (by omega) (by omega)]; exact a6
        · rw [kk (v + 3) (by omega) (by omega)]; exact (h5 p hp).1
        · rw [kk (v + 5) (by omega) (by omega)]; exact (h5 p hp).2 i hi
      have hs0 : ∃ s, LI s ∧ SY v (z_y Z) n s N1 q0 := by
        rcases hq0 with ⟨-, h⟩ | ⟨c, q, h1, h2⟩
        · exact h
        · exact absurd h1.symm (nI_ne0 (by have := h2.1; omega) (by have := h2.1; omega))
      obtain ⟨s0, -, hs0⟩ := hs0
      obtain ⟨M', eM', -, oM'⟩ := gP s0 q0 hs0
      have y01 : (up N1 0 2 (-1)) 0 1 = nI w := by rw [up_nk (by omega), fc 0 (by omega) (by omega) (by omega)]; exact h01
      have y12 : (up N1 0 2 (-1)) 1 2 = nI v := by rw [up_ne (by omega)]; exact f12
      have gw : ∀ x : Int32, x = nI w → grd x = some w := fun x hx => by rw [hx]; rcases hvw with ⟨rfl, -⟩ | ⟨rfl, -⟩ <;> rfl
      have gv : ∀ x : Int32, x = nI v → grd x = some v := fun x hx => by rw [hx]; rcases hv with rfl | rfl <;> rfl
      have eC : F_L_ward 0 106 (nI n) M = some (0, up (up (up (up M' 29 1 0) 31 3 0) 0 5 (bi false)) 106 0 0) := by
        unfold F_L_ward F_X11_ward
        rw [if_neg (nI_pos (by omega)), if_pos (show nI n ≤ M (0 + 1) 1 by rw [show (0 + 1 : Nat) = 1 from rfl, k5]; exact nI_le (by omega) (by omega)), show F_X5_read (0 + 1) (nI n) M = some (0, N1) from er, zbs rfl]
        dsimp only
        rw [if_pos rfl, gw _ y01, zbs rfl]
        unfold F_X5_exchange
        rw [show grd ((up N1 0 2 (-1)) (0 + 1) 2) = some v from gv _ y12, zbs rfl, zbs rfl]
        dsimp only
        rw [show grd ((up (up (up N1 0 2 (-1)) (0 + 1) 2 (nI w)) 0 1 (nI v)) 0 1) = some v from gv _ up_at, zbs rfl]
        unfold F_X0_begin
        rw [show F_X8_begin (0 + 24 + 1) v (up (up (up N1 0 2 (-1)) (0 + 1) 2 (nI w)) 0 1 (nI v)) = some M' from eM', zbs rfl, zbs rfl, zbs rfl]
        rfl
      generalize hM1 : up (up (up (up M' 29 1 0) 31 3 0) 0 5 (bi false)) 106 0 0 = M1 at eC
      have lo : ∀ c, c ≠ 0 → c ≠ 29 → c ≠ 31 → c ≠ 106 → M1 c = M' c := fun c x1 x2 x3 x4 => by subst hM1; rw [up_ne x4, up_ne x1, up_ne x3, up_ne x2]
      have lo2 : ∀ c, c ≠ 0 → c ≠ 1 → c ≠ 29 → c ≠ 31 → c ≠ 106 → (c < 25 ∨ 28 < c) → M1 c = N1 c := fun c x1 x2 x3 x4 x5 x6 => by rw [lo c x1 x3 x4 x5, oM' c x6, up_ne x1, up_ne x2, up_ne x1]
      have hi : ∀ c, 67 ≤ c → c ≠ 106 → M1 c = M c := fun c x1 x2 => by rw [lo2 c (by omega) (by omega) (by omega) (by omega) x2 (by omega)]; exact fc c (by omega) (by omega) (by omega)
      have l01 : M1 0 1 = nI v := by
        subst hM1
        rw [up_ne (by omega), up_nk (by omega), up_ne (by omega), up_ne (by omega), oM' 0 (by omega), up_at]
      have l02 : M1 0 2 = -1 := by
        subst hM1
        rw [up_ne (by omega), up_nk (by omega), up_ne (by omega), up_ne (by omega), oM' 0 (by omega), up_nk (by omega), up_ne (by omega), up_at]
      have l05 : M1 0 5 = 0 := by
        subst hM1
        rw [up_ne (by omega), up_at]; rfl
      have l11 : M1 1 1 = 0 := by
        rw [lo 1 (by omega) (by omega) (by omega) (by omega), oM' 1 (by omega), up_ne (by omega), up_nk (by omega), up_ne (by omega)]; exact f11
      have l12 : M1 1 2 = nI w := by
        rw [lo 1 (by omega) (by omega) (by omega) (by omega), oM' 1 (by omega), up_ne (by omega), up_at]
      have l29 : M1 29 1 = 0 := by
        subst hM1
        rw [up_ne (by omega), up_ne (by omega), up_ne (by omega), up_at]
      have l31 : M1 31 3 = 0 := by
        subst hM1
        rw [up_ne (by omega), up_ne (by omega), up_at]
      have l106 : M1 106 0 = 0 := by subst hM1; exact up_at
      obtain ⟨q, eq, F1, G1, hq⟩ := hr M1 (fun i hi' => by rw [hi 80 (by omega) (by omega)]; exact m5 i (by omega))
      dsimp only at F1 hq
      have hs : ∃ s, LI s ∧ SY v (z_y Z) n s N1 q := by
        rcases hq with ⟨-, h⟩ | ⟨c, q, h1, h2⟩
        · exact h
        · exact absurd h1.symm (nI_ne0 (by have := h2.1; omega) (by have := h2.1; omega))
      obtain ⟨s, hli, hS⟩ := hs
      obtain ⟨M'', eM'', hCT, -⟩ := gP s q hS
      have eMM : M'' = M' := Option.some.inj (eM''.symm.trans eM')
      subst eMM
      obtain ⟨⟨⟨kc, x2, x9, x10, hPC⟩, ⟨km, x21, x24, hPM⟩⟩, tk, wp, lz⟩ := hS
      have tkb := tk.b
      have hl7 : znl (s_P s) ≤ 700 := by omega
      obtain ⟨M2, e2, t1, t2, t3, t4, t5, t6, t7⟩ := xm_take wp hl7 hPM
      have g1 : ∀ c, (c < 67 ∨ 78 < c) → c ≠ 81 → c ≠ 82 → c ≠ 83 → M2 c = M1 c := fun c x1 x2 x3 x4 => by
        rw [t7 c (by omega) (by omega) x2 x3 x4, G1.1 c (by omega) (by omega), up_ne (by omega), up_ne (by omega), up_ne (by omega), up_ne (by omega), up_ne (by omega), up_ne (by omega), up_ne (by omega)]
      have g67 : ∀ k, k = 2 ∨ k = 14 ∨ k = 23 ∨ k = 35 → M2 67 k = if k = 2 then 0 else if k = 14 then 0 else if k = 23 then -1 else M1 67 k := fun k hk => by
        rw [t6 k (by omega) (by omega) (by omega) (by omega) (by omega) (by omega) (by omega), G1.2.1 k (by omega) (by omega) (by omega) (by omega) (by omega) (by omega) (by omega) (by omega)]
        obtain rfl | rfl | rfl | rfl := hk
        · rw [up_nk (by omega), up_nk (by omega), up_nk (by omega), up_nk (by omega), up_nk (by omega), up_nk (by omega), up_at]; rfl
        · rw [up_nk (by omega), up_nk (by omega), up_nk (by omega), up_nk (by omega), up_nk (by omega), up_at]; rfl
        · rw [up_nk (by omega), up_at]; rfl
        · rw [up_nk (by omega), up_nk (by omega), up_nk (by omega), up_nk (by omega), up_nk (by omega), up_nk (by omega), up_nk (by omega)]; rfl
      have eM : F_X12_ward 67 (nI n) M1 = some (0, M2) := by
        rw [hwd M1 (by rw [hi 67 (by omega) (by omega)]; exact m4), eq, zbs rfl]
        unfold J_X12_ward_j164
        rw [if_pos x21, e2, zbs rfl]
      refine ⟨0, 0, M1, M2, eC, eM, by rw [g67 2 (by omega)]; rfl, fun _ => by rw [g1 106 (by omega) (by omega) (by omega) (by omega)]; exact l106, v, (s_P s, (yT0 (znp (s_P s)) (nI (zrs (s_P s))) (s_pu s) (s_wk s), 0, b_p (z_B Z), 0, b_q (z_B Z), b_i (z_B Z), b_s (z_B Z), b_u (z_B Z)), none, 0, z_y Z, -1), ?_, ?_, ?_⟩
      · obtain ⟨w1, w2, w3, w4, w5, w6, w7, w8, w9, w10⟩ := wp
        refine ⟨⟨w1, w2, w3, w4, hl7, w5, w7, fun p hp => (w8 p hp).1, w9, hli.1⟩, ⟨⟨⟨Nat.zero_le _, fun p i => ?_, fun p hp => if_neg (Nat.not_lt.mpr hp), fun p i _ _ => b_0 i⟩, fun p => ?_, Nat.zero_le _⟩, Nat.zero_le _, fun i hi' => absurd hi' (Nat.not_lt_zero i), Nat.zero_le _, fun i hi' => absurd hi' (Nat.not_lt_zero i)⟩, fun B hB => (by cases hB), Nat.zero_le _, fun i hi' => absurd hi' (Nat.not_lt_zero i)⟩
        · show (if p < znp (s_P s) then s_wk s p i else 0) < zns (s_P s)
          by_cases t : p < znp (s_P s)
          · rw [if_pos t]; exact (w8 p t).2.2.1 i
          · rw [if_neg t]; omega
        · show 0 ≤ (if p < znp (s_P s) then nI (s_pu s p) else 0) ∧ (if p < znp (s_P s) then nI (s_pu s p) else 0) ≤ 999
          by_cases t : p < znp (s_P s)
          · rw [if_pos t]
            have := (w8 p t).2.1
            exact ⟨nI_pos' (by omega), zlel 999 999 rfl this (by omega)⟩
          · rw [if_neg t]; decide
      · have gc : ∀ c, c < 67 → M2 c = M1 c := fun c hc => g1 c (by omega) (by omega) (by omega) (by omega)
        refine ⟨?_, hPC.1.of (fun a h1 h2 _ => ?_) ?_, ⟨?_, ?_, fun i hi' => absurd hi' (Nat.not_lt_zero i), ?_, fun i hi' => absurd hi' (Nat.not_lt_zero i), fun i hi' => ?_⟩, ?_, ?_, fun i hi' => absurd hi' (Nat.not_lt_zero i), fun _ => ?_, fun B hB => (by cases hB), fun t ht => ?_⟩
        · rw [gc 0 (by omega), gc 1 (by omega), l01, l12]
          rcases hvw with ⟨rfl, rfl⟩ | ⟨rfl, rfl⟩
          · exact Or.inr ⟨rfl, rfl, rfl⟩
          · exact Or.inl ⟨rfl, rfl, rfl⟩
        · rw [gc a (by omega), lo2 a (by omega) (by omega) (by omega) (by omega) (by omega) (by omega)]
        · rw [gc (v + 7) (by omega), lo2 (v + 7) (by omega) (by omega) (by omega) (by omega) (by omega) (by omega)]
        · refine hCT.cong (fun k _ => ?_)
          unfold crow
          rw [gc 25 (by omega), gc (25 + 1) (by omega), gc (25 + 2) (by omega), gc (25 + 3) (by omega), lo 25 (by omega) (by omega) (by omega) (by omega), lo (25 + 1) (by omega) (by omega) (by omega) (by omega), lo (25 + 2) (by omega) (by omega) (by omega) (by omega), lo (25 + 3) (by omega) (by omega) (by omega) (by omega)]
        · rw [gc 29 (by omega)]; exact l29
        · rw [gc 31 (by omega)]; exact l31
        · rw [gc 35 (by omega), lo2 35 (by omega) (by omega) (by omega) (by omega) (by omega) (by omega), fc 35 (by omega) (by omega) (by omega)]
          exact k3.2.2.2.2.2 i hi'
        · rw [gc 0 (by omega)]; exact l02
        · rw [gc 1 (by omega)]; exact l11
        · rw [gc 0 (by omega)]; exact l05
        · rw [gc 59 (by omega), lo2 59 (by omega) (by omega) (by omega) (by omega) (by omega) (by omega), fc 59 (by omega) (by omega) (by omega)]
          exact k9 t ht
      · refine ⟨t1, ⟨t2, t3, fun i hi' => absurd hi' (Nat.not_lt_zero i), t4, fun i hi' => absurd hi' (Nat.not_lt_zero i), fun i hi' => ?_⟩, by rw [g67 23 (by omega)]; rfl, by rw [g67 14 (by omega)]; rfl, fun i hi' => absurd hi' (Nat.not_lt_zero i), ?_, fun _ => t5, fun B hB => (by cases hB)⟩
        · rw [g1 79 (by omega) (by omega) (by omega) (by omega), hi 79 (by omega) (by omega)]
          exact m2.2.2.2.2.2 i hi'
        · rw [g67 35 (by omega)]
          show M1 67 35 = -1
          rw [hi 67 (by omega) (by omega)]; exact m6
    · have hcb : ∃ c q, r1 = nI c ∧ BAD c q N1 q0 := by
        rcases hq0 with ⟨h, -⟩ | h
        · exact absurd h e0
        · exact h
      have f35 : N1 35 0 = b_u (z_B Z) 0 := by rw [fc 35 (by omega) (by omega) (by omega)]; exact k3.2.2.2.2.2 0 (by omega)
      have eC : F_L_ward 0 106 (nI n) M = some (0, up (up (up N1 0 2 (N1 1 4)) 35 0 (b_u (z_B Z) 0 + 1)) 106 0 r1) := by
        unfold F_L_ward F_X11_ward
        rw [if_neg (nI_pos (by omega)), if_pos (show nI n ≤ M (0 + 1) 1 by rw [show (0 + 1 : Nat) = 1 from rfl, k5]; exact nI_le (by omega) (by omega)), show F_X5_read (0 + 1) (nI n) M = some (r1, N1) from er, zbs rfl]
        dsimp only
        rw [if_neg e0, zbs rfl]
        have e1 : (F_X0_refuse (0 + 24) 0 (up N1 0 2 (N1 (0 + 1) 4))).2 = up (up N1 0 2 (N1 1 4)) 35 0 (b_u (z_B Z) 0 + 1) := by
          unfold F_X0_refuse
          dsimp only
          rw [show F_X11_at (0 + 24 + 11) 3 0 (up N1 0 2 (N1 (0 + 1) 4)) = b_u (z_B Z) 0 from (zat_at (i := 0) (by omega) (by omega)).trans (by rw [up_ne (by omega)]; exact f35)]
          exact zput_at (i := 0) (by omega) (by omega)
        rw [e1]
        rfl
      generalize hM1 : up (up (up N1 0 2 (N1 1 4)) 35 0 (b_u (z_B Z) 0 + 1)) 106 0 r1 = M1 at eC
      have lo2 : ∀ c, c ≠ 0 → c ≠ 35 → c ≠ 106 → M1 c = N1 c := fun c x1 x2 x3 => by subst hM1; rw [up_ne x3, up_ne x2, up_ne x1]
      have lo : ∀ c, c ≠ 0 → c ≠ 1 → c ≠ 13 → (c < v ∨ v + 8 < c) → c ≠ 35 → c ≠ 106 → M1 c = M c := fun c x1 x2 x3 x4 x5 x6 => by rw [lo2 c x1 x5 x6]; exact fc c x2 x3 x4
      have hi : ∀ c, 67 ≤ c → c ≠ 106 → M1 c = M c := fun c x1 x2 => lo c (by omega) (by omega) (by omega) (by omega) (by omega) x2
      have l0 : ∀ k, k ≠ 2 → M1 0 k = M 0 k := fun k hk => by
        subst hM1
        rw [up_ne (by omega), up_ne (by omega), up_nk hk, fc 0 (by omega) (by omega) (by omega)]
      have l02 : M1 0 2 = N1 1 4 := by
        subst hM1
        rw [up_ne (by omega), up_ne (by omega), up_at]
      have l35 : ∀ k, M1 35 k = if k = 0 then b_u (z_B Z) 0 + 1 else M 35 k := fun k => by
        subst hM1
        rw [up_ne (by omega), up_app]
        by_cases t : k = 0
        · rw [if_pos ⟨rfl, t⟩, if_pos t]
        · rw [if_neg (fun x => t x.2), if_neg t, up_ne (by omega), fc 35 (by omega) (by omega) (by omega)]
      have l106 : M1 106 0 = r1 := by subst hM1; exact up_at
      obtain ⟨q, eq, F1, G1, hq⟩ := hr M1 (fun i hi' => by rw [hi 80 (by omega) (by omega)]; exact m5 i (by omega))
      dsimp only at F1 hq
      have hs : ∃ c p, r1 = nI c ∧ BAD c p N1 q := by
        rcases hq with ⟨h, -⟩ | h
        · exact absurd h e0
        · exact h
      obtain ⟨c, p, hc1, hB⟩ := hs
      have gX : ∀ c, c ≠ 67 → (up (up (up (up (up (up (up M1 67 2 0) 67 14 0) 67 16 (nI n)) 67 15 0) 67 21 0) 67 23 (-1)) 67 24 (bi false)) c = M1 c := fun c hc => by rw [up_ne hc, up_ne hc, up_ne hc, up_ne hc, up_ne hc, up_ne hc, up_ne hc]
      have gX67 : ∀ k, k ≠ 2 → k ≠ 14 → k ≠ 16 → k ≠ 15 → k ≠ 21 → k ≠ 23 → k ≠ 24 → (up (up (up (up (up (up (up M1 67 2 0) 67 14 0) 67 16 (nI n)) 67 15 0) 67 21 0) 67 23 (-1)) 67 24 (bi false)) 67 k = M1 67 k := fun k x1 x2 x3 x4 x5 x6 x7 => by rw [up_nk x7, up_nk x6, up_nk x5, up_nk x4, up_nk x3, up_nk x2, up_nk x1]
      have gX2 : (up (up (up (up (up (up (up M1 67 2 0) 67 14 0) 67 16 (nI n)) 67 15 0) 67 21 0) 67 23 (-1)) 67 24 (bi false)) 67 2 = 0 := by rw [up_nk (by omega), up_nk (by omega), up_nk (by omega), up_nk (by omega), up_nk (by omega), up_nk (by omega), up_at]
      have gX14 : (up (up (up (up (up (up (up M1 67 2 0) 67 14 0) 67 16 (nI n)) 67 15 0) 67 21 0) 67 23 (-1)) 67 24 (bi false)) 67 14 = 0 := by rw [up_nk (by omega), up_nk (by omega), up_nk (by omega), up_nk (by omega), up_nk (by omega), up_at]
      generalize up (up (up (up (up (up (up M1 67 2 0) 67 14 0) 67 16 (nI n)) 67 15 0) 67 21 0) 67 23 (-1)) 67 24 (bi false) = X at G1 gX gX67 gX2 gX14
      have mX : MP X (z_P Z) := m1.of (fun a h1 h2 => by rw [gX a (by omega)]; exact hi a (by omega) (by omega))
      have mq : MP q (z_P Z) := G1.mp hz1 mX
      have gq : ∀ c, c ≠ 67 → (c < 70 ∨ 78 < c) → q c = M1 c := fun c x1 x2 => by rw [G1.1 c x1 x2]; exact gX c x1
      have gq67 : ∀ k, k ≠ 2 → k ≠ 14 → k ≠ 23 → (k < 15 ∨ 24 < k ∨ k = 23) → q 67 k = M1 67 k := fun k x1 x2 x3 x4 => by rw [G1.2.1 k (by omega) (by omega) (by omega) (by omega) (by omega) (by omega) (by omega) (by omega)]; exact gX67 k x1 x2 (by omega) (by omega) (by omega) (by omega) (by omega)
      have gq2 : q 67 2 = 0 := by rw [G1.2.1 2 (by omega) (by omega) (by omega) (by omega) (by omega) (by omega) (by omega) (by omega)]; exact gX2
      have gq14 : q 67 14 = 0 := by rw [G1.2.1 14 (by omega) (by omega) (by omega) (by omega) (by omega) (by omega) (by omega) (by omega)]; exact gX14
      have q79 : ∀ k, q 79 k = M 79 k := fun k => by rw [gq 79 (by omega) (by omega), hi 79 (by omega) (by omega)]
      have eM : F_X12_ward 67 (nI n) M1 = some (nI c, up (up q 67 23 (nI p)) 79 0 (b_u (z_B Z) 0 + 1)) := by
        rw [hwd M1 (by rw [hi 67 (by omega) (by omega)]; exact m4), eq, zbs rfl]
        unfold J_X12_ward_j164
        rw [if_neg hB.ne, hB.2.2.2, show ald (up q 67 23 (nI p)) (67 + 12) 3 0 = some (b_u (z_B Z) 0) from (zald (i := 0) (by omega) (by omega)).trans (congrArg some (by rw [up_ne (by omega)]; exact (q79 0).trans (m2.2.2.2.2.2 0 (by omega)))), zbs rfl, show ast (up q 67 23 (nI p)) (67 + 12) 3 0 (b_u (z_B Z) 0 + 1) = some (up (up q 67 23 (nI p)) 79 0 (b_u (z_B Z) 0 + 1)) from zast (i := 0) (by omega) (by omega), zbs rfl, show (up (up q 67 23 (nI p)) 79 0 (b_u (z_B Z) 0 + 1)) 67 21 = nI c from by rw [up_ne (by omega), up_nk (by omega)]; exact hB.2.2.1]
      have g1 : ∀ a, a ≠ 67 → (a < 70 ∨ 79 < a) → (up (up q 67 23 (nI p)) 79 0 (b_u (z_B Z) 0 + 1)) a = M1 a := fun a x1 x2 => by rw [up_ne (by omega), up_ne x1]; exact gq a x1 (by omega)
      have g67 : ∀ k, k ≠ 23 → (up (up q 67 23 (nI p)) 79 0 (b_u (z_B Z) 0 + 1)) 67 k = q 67 k := fun k hk => by rw [up_ne (by omega), up_nk hk]
      have g79 : ∀ k, (up (up q 67 23 (nI p)) 79 0 (b_u (z_B Z) 0 + 1)) 79 k = if k = 0 then b_u (z_B Z) 0 + 1 else M 79 k := fun k => by
        rw [up_app]
        by_cases t : k = 0
        · rw [if_pos ⟨rfl, t⟩, if_pos t]
        · rw [if_neg (fun x => t x.2), if_neg t, up_ne (by omega)]; exact q79 k
      have g23 : (up (up q 67 23 (nI p)) 79 0 (b_u (z_B Z) 0 + 1)) 67 23 = nI p := by rw [up_ne (by omega), up_at]
      have gmp : MP (up (up q 67 23 (nI p)) 79 0 (b_u (z_B Z) 0 + 1)) (z_P Z) := mq.of (fun a h1 h2 => by rw [up_ne (by omega), up_ne (by omega)])
      generalize up (up q 67 23 (nI p)) 79 0 (b_u (z_B Z) 0 + 1) = M2 at eM g1 g67 g79 g23 gmp
      refine ⟨0, nI c, M1, M2, eC, eM, by rw [g67 2 (by omega)]; exact gq2, fun _ => by rw [g1 106 (by omega) (by omega), l106]; exact hc1, w, (z_P Z, (b_t (z_B Z), b_a (z_B Z), b_p (z_B Z), b_m (z_B Z), b_q (z_B Z), b_i (z_B Z), b_s (z_B Z), fun k => if k = 0 then b_u (z_B Z) 0 + 1 else b_u (z_B Z) k), z_I Z, 0, z_y Z, nI p), ?_, ?_, ?_⟩
      · exact ⟨hz1, hz2, hz3, Nat.zero_le _, fun i hi' => absurd hi' (Nat.not_lt_zero i)⟩
      · have gc : ∀ c, c < 67 → M2 c = M1 c := fun c hc => g1 c (by omega) (by omega)
        have gl : ∀ c, c < 67 → c ≠ 0 → c ≠ 1 → c ≠ 13 → (c < v ∨ v + 8 < c) → c ≠ 35 → M2 c = M c := fun c x0 x1 x2 x3 x4 x5 => by rw [gc c x0]; exact lo c x1 x2 x3 x4 x5 (by omega)
        obtain ⟨t1, t2, t3, t4, t5, t6⟩ := k3
        refine ⟨?_, k2.of (fun a h1 h2 _ => gl a (by omega) (by omega) (by omega) (by omega) (by omega) (by omega)) (by rw [gl (w + 7) (by omega) (by omega) (by omega) (by omega) (by omega) (by omega)]), ⟨?_, ?_, ?_, ?_, ?_, fun i hi' => ?_⟩, ?_, ?_, fun i hi' => absurd hi' (Nat.not_lt_zero i), fun hI => ?_, fun B hI => ⟨?_, ?_⟩, fun t ht => ?_⟩
        · rw [gc 0 (by omega), gc 1 (by omega), l0 1 (by omega), lo2 1 (by omega) (by omega) (by omega), f12, h01]
          rcases hvw with ⟨rfl, rfl⟩ | ⟨rfl, rfl⟩
          · exact Or.inl ⟨rfl, rfl, rfl⟩
          · exact Or.inr ⟨rfl, rfl, rfl⟩
        · refine t1.cong (fun k _ => ?_)
          unfold crow
          rw [gl (24 + 1) (by omega) (by omega) (by omega) (by omega) (by omega) (by omega), gl (24 + 1 + 1) (by omega) (by omega) (by omega) (by omega) (by omega) (by omega), gl (24 + 1 + 2) (by omega) (by omega) (by omega) (by omega) (by omega) (by omega), gl (24 + 1 + 3) (by omega) (by omega) (by omega) (by omega) (by omega) (by omega)]
        · rw [gl (24 + 5) (by omega) (by omega) (by omega) (by omega) (by omega) (by omega)]; exact t2
        · rw [gl (24 + 6) (by omega) (by omega) (by omega) (by omega) (by omega) (by omega)]; exact t3
        · rw [gl (24 + 7) (by omega) (by omega) (by omega) (by omega) (by omega) (by omega)]; exact t4
        · rw [gl (24 + 8) (by omega) (by omega) (by omega) (by omega) (by omega) (by omega), gl (24 + 9) (by omega) (by omega) (by omega) (by omega) (by omega) (by omega), gl (24 + 10) (by omega) (by omega) (by omega) (by omega) (by omega) (by omega)]; exact t5
        · rw [show (24 + 11 : Nat) = 35 from rfl, gc 35 (by omega), l35]
          show _ = if i = 0 then b_u (z_B Z) 0 + 1 else b_u (z_B Z) i
          by_cases t : i = 0
          · rw [if_pos t, if_pos t]
          · rw [if_neg t, if_neg t]; exact t6 i hi'
        · rw [gc 0 (by omega), l02]; exact hB.2.1.2
        · rw [gc 1 (by omega), lo2 1 (by omega) (by omega) (by omega)]; exact f11
        · rw [gc 0 (by omega), l0 5 (by omega)]; exact k7 hI
        · rw [gc 0 (by omega), l0 5 (by omega)]; exact (k8 B hI).1
        · exact (k8 B hI).2.of (fun a h1 h2 => gl a (by omega) (by omega) (by omega) (by omega) (by omega) (by omega))
        · rw [gl 59 (by omega) (by omega) (by omega) (by omega) (by omega) (by omega)]; exact k9 t ht
      · obtain ⟨t1, t2, t3, t4, t5, t6⟩ := m2
        have gm : ∀ c, 79 < c → c < 106 → M2 c = M c := fun c x1 x2 => by rw [g1 c (by omega) (by omega)]; exact hi c (by omega) (by omega)
        have g7 : ∀ k, k ≠ 2 → k ≠ 14 → k ≠ 23 → (k < 15 ∨ 24 < k) → M2 67 k = M 67 k := fun k x1 x2 x3 x4 => by rw [g67 k x3, gq67 k x1 x2 x3 (by omega), hi 67 (by omega) (by omega)]
        refine ⟨gmp, ⟨?_, ?_, ?_, ?_, ?_, fun i hi' => ?_⟩, g23, ?_, fun i hi' => absurd hi' (Nat.not_lt_zero i), ?_, fun hI => ?_, fun B hI => ?_⟩
        · refine t1.cong (fun k _ => ?_)
          unfold mrow
          rw [gm 81 (by omega) (by omega), gm 82 (by omega) (by omega), gm 83 (by omega) (by omega)]
          by_cases t : k < 4
          · rw [if_pos t, if_pos t]; exact g7 (29 + k) (by omega) (by omega) (by omega) (by omega)
          · rw [if_neg t, if_neg t]
        · rw [g7 33 (by omega) (by omega) (by omega) (by omega)]; exact t2
        · rw [gm 84 (by omega) (by omega)]; exact t3
        · rw [g7 34 (by omega) (by omega) (by omega) (by omega)]; exact t4
        · rw [gm 93 (by omega) (by omega), gm 94 (by omega) (by omega), gm 96 (by omega) (by omega)]; exact t5
        · rw [g79]
          show _ = if i = 0 then b_u (z_B Z) 0 + 1 else b_u (z_B Z) i
          by_cases t : i = 0
          · rw [if_pos t, if_pos t]
          · rw [if_neg t, if_neg t]; exact t6 i hi'
        · rw [g67 14 (by omega)]; exact gq14
        · rw [g7 35 (by omega) (by omega) (by omega) (by omega)]; exact m6
        · rw [g7 55 (by omega) (by omega) (by omega) (by omega)]; exact m7 hI
        · rw [g7 55 (by omega) (by omega) (by omega) (by omega), g7 56 (by omega) (by omega) (by omega) (by omega), g7 57 (by omega) (by omega) (by omega) (by omega), gm 100 (by omega) (by omega), gm 101 (by omega) (by omega), gm 102 (by omega) (by omega), gm 103 (by omega) (by omega), gm 104 (by omega) (by omega), gm 105 (by omega) (by omega)]
          exact m8 B hI
  · have h0 : p < 0 ∨ ¬ p ≤ nI (z_n Z) := by
      rcases hbad with h | ⟨h, h2⟩
      · exact Or.inl h
      · refine Or.inr (fun z => h2 (Int32.lt_of_le_of_lt z (nI_lt (by omega) (by omega))))
    obtain ⟨h01, G0, c0⟩ := zm_0 hm0
    have eC : F_L_ward 0 106 p M = some (1, M) := by
      unfold F_L_ward F_X11_ward J_X11_ward_j15
      by_cases t : p < 0
      · rw [if_pos t, zbs rfl]; rfl
      · rw [if_neg t, if_neg (show ¬ p ≤ M (0 + 1) 1 by rw [show (0 + 1 : Nat) = 1 from rfl, k5]; rcases h0 with z | z; exact absurd z t; exact z), zbs rfl]; rfl
    have eM : F_X12_ward 67 p M = some (0, up (up M 67 2 0) 67 2 1) := by
      unfold F_X12_ward J_X12_ward_j17
      by_cases t : p < 0
      · rw [if_pos t]; rfl
      · rw [if_neg t, if_neg (show ¬ p ≤ (up M 67 2 0) 67 14 by rw [up_nk (by omega), m4]; rcases h0 with z | z; exact absurd z t; exact z)]; rfl
    have G1 : Gz M (up (up M 67 2 0) 67 2 1) := G0.tr (Gz.f (by omega) (by omega))
    exact ⟨1, 0, M, _, eC, eM, up_at, fun z => absurd z (by decide), w, Z, hz0, hc0.of (fun a h => G1.fr (Or.inl h)), hm0.keep G1⟩
end WARD
