/-! ===== NOT, AND, EXPR ===== -/
section NOTS
variable {w n : Nat} {y : Nat → Nat} {ex : Nat → Int32 → Mem → Option (Bool × Mem)} {exm : Nat → Int32 → Mem → Option Mem} {p : Nat}
def wrd (u : Nat) (y : Nat → Nat) (s : St) : Bool := decide (s_k s = 1) && ywd u y (s_a s) (s_b s)
theorem wrd_k {u : Nat} {s : St} (h : wrd u y s = true) : s_k s = 1 := by
  unfold wrd at h
  rw [Bool.and_eq_true] at h
  exact of_decide_eq_true h.1
theorem SY.cw {s : St} {N Nm : Mem} (h : SY w y n s N Nm) (hn : n ≤ 700) (hy : ∀ i, i < n → y i < 256) {u : Nat} (hu : u < 38) : F_X5_isWord 1 u N = some (wrd u y s) := xc_word hu h.2.1 hn hy h.1.1.1
theorem SY.mw {s : St} {N Nm : Mem} (h : SY w y n s N Nm) (hn : n ≤ 700) (hy : ∀ i, i < n → y i < 256) {u v : Nat} (hu : u < 38) (h1 : TXL.getD v 0 = TXL.getD u 0) (h2 : TXB.getD v [] = TXB.getD u []) : F_X12_is 67 u Nm = some (wrd v y s) := by
  rw [xm_is hu h.2.1 hn hy h.1.2.1 h.1.2.2.1]
  unfold wrd
  rw [ywd_eq h1 h2]
theorem k_count (hn : n ≤ 700) (hy : ∀ i, i < n → y i < 256) (hw : w = 3 ∨ w = 14) {s0 : St} {N0 Nm0 : Mem} {x : Int32} : ∀ m c f g s N Nm, c + m = 6 → m < f → m + 1 < g → SY w y n s N Nm → s.2 = s0.2 → c + s_a s0 ≤ s_a s → FW w N0 N → GW Nm0 Nm → ∃ c' N' m' Nm' s', L_X5_denied_2 ex 1 (nI p) f (nI c) N = some (nI c', N') ∧ L_X12_readNot_2 exm 67 x g (nI c) Nm = some (nI m', Nm') ∧ c' ≤ 6 ∧ FW w N0 N' ∧ GW Nm0 Nm' ∧ ((SY w y n s' N' Nm' ∧ m' = c' ∧ wrd 8 y s' = false ∧ s'.2 = s0.2 ∧ c' + s_a s0 ≤ s_a s') ∨ (c' = 6 ∧ m' = 7 ∧ ∃ Nm1, SY w y n s' N' Nm1 ∧ wrd 8 y s' = true ∧ Nm' = ywr 2 Nm1)) := by
  intro m
  induction m with
  | zero =>
    intro c f g s N Nm e hf hg h h2 hc F G
    obtain ⟨f, rfl⟩ : ∃ f', f = f' + 1 := ⟨f - 1, by omega⟩
    obtain ⟨g, rfl⟩ : ∃ g', g = g' + 2 := ⟨g - 2, by omega⟩
    obtain rfl : c = 6 := by omega
    rw [L_X5_denied_2, if_pos (show (6 : Int32) ≤ nI 6 by decide), L_X12_readNot_2, h.mw hn hy (u := 34) (v := 8) (by omega) rfl rfl, zbs rfl]
    rcases Bool.eq_false_or_eq_true (wrd 8 y s) with q | q
    · rw [q, if_neg (show ¬ bi true = 0 by decide), if_pos (show nI 6 = 6 from rfl), show F_X12_wrong 67 2 Nm = ywr 2 Nm from ywr_eq (c := 2) h.1.2.2.1]
      unfold J_X12_readNot_j23
      rw [if_neg (ywr_ne (by omega)), L_X12_readNot_2, xm_is0 (ywr_ne (by omega)), zbs rfl, if_pos (show bi false = 0 from rfl)]
      exact ⟨6, N, 7, ywr 2 Nm, s, rfl, rfl, by omega, F, G.tr ywr_G, Or.inr ⟨rfl, rfl, Nm, h, q, rfl⟩⟩
    · rw [q, if_pos (show bi false = 0 from rfl)]
      exact ⟨6, N, 6, Nm, s, rfl, rfl, by omega, F, G, Or.inl ⟨h, rfl, q, h2, hc⟩⟩
  | succ m ih =>
    intro c f g s N Nm e hf hg h h2 hc F G
    obtain ⟨f, rfl⟩ : ∃ f', f = f' + 1 := ⟨f - 1, by omega⟩
    obtain ⟨g, rfl⟩ : ∃ g', g = g' + 1 := ⟨g - 1, by omega⟩
    rw [L_X5_denied_2, if_neg (znge 6 6 rfl (by omega) (by omega)), h.cw hn hy (u := 8) (by omega), zbs rfl, L_X12_readNot_2, h.mw hn hy (u := 34) (v := 8) (by omega) rfl rfl, zbs rfl]
    rcases Bool.eq_false_or_eq_true (wrd 8 y s) with q | q
    · rw [q, if_neg (show ¬ bi true = 0 by decide), if_neg (show ¬ bi true = 0 by decide), if_neg (zne 6 6 rfl (by omega) (by omega) (by omega))]
      unfold J_X12_readNot_j23
      rw [if_pos h.1.2.2.1]
      obtain ⟨N1, Nm1, d1, d2, d3, d4, d5⟩ := h.nx hn hy hw
      rw [zbs d1, zbs d2, nI_1]
      have ha := ynx_a (y := y) (n := n) (s := s)
      have hab := (h.2.1.ne (by have := wrd_k q; omega)).1
      exact ih (c + 1) f g (ynx y n s) N1 Nm1 (by omega) (by omega) (by omega) d3 h2 (by omega) (F.tr d4) (G.tr d5.1)
    · rw [q, if_pos (show bi false = 0 from rfl), if_pos (show bi false = 0 from rfl)]
      exact ⟨c, N, c, Nm, s, rfl, rfl, by omega, F, G, Or.inl ⟨h, rfl, q, h2, hc⟩⟩
def ygc (s s' : St) (k c : Nat) : Prop := ∃ l cd, s'.2 = (yPc (s_P s) l cd, s.2.2) ∧ znl (s_P s) < l ∧ l + c + s_a s ≤ znl (s_P s) + s_a s' ∧ ∀ h, zH (p_cd (s_P s)) (znl (s_P s)) = some h → h + k ≤ 40 → zH cd l = some (h + 1)
theorem ygr.c {s s1 s2 : St} {k c : Nat} (h : ygr s1 s2 k) (e : s1.2 = s.2) (hc : c + s_a s ≤ s_a s1) : ygc s s2 k c := by
  obtain ⟨l, cd, a1, a2, a3, a4⟩ := h
  have eP : s_P s1 = s_P s := congrArg Prod.fst e
  have e2 : s1.2.2 = s.2.2 := congrArg Prod.snd e
  rw [eP] at a1 a2 a3 a4
  rw [e2] at a1
  exact ⟨l, cd, a1, a2, by omega, a4⟩
theorem ygc.lay {s s' : St} {k c : Nat} (h : ygc s s' k (c + 1)) : ygc s (yad s' (-28)) k c := by
  obtain ⟨l, cd, a1, a2, a3, a4⟩ := h
  have eP : s_P s' = yPc (s_P s) l cd := by rw [show s_P s' = s'.2.1 from rfl, a1]
  have el : znl (s_P s') = l := by rw [eP]; rfl
  refine ⟨l + 1, (fun i => if i = l then (-28) else cd i), ?_, by omega, by show l + 1 + c + s_a s ≤ _ + s_a s'; omega, fun h hh hk => ?_⟩
  · show (yPc (s_P s') (znl (s_P s') + 1) (fun i => if i = znl (s_P s') then (-28) else p_cd (s_P s') i), s'.2.2) = _
    rw [el, eP, yPc_2, a1]
    rfl
  · rw [zH, zH_cong (cd' := cd) _ (fun i hi => if_neg (by omega)), a4 h hh hk, if_pos rfl]
    show zht (-28) (h + 1) = _
    unfold zht
    rw [if_neg (by decide), if_pos rfl, if_pos (by omega)]
theorem ygc.r {s s' : St} {k : Nat} (h : ygc s s' k 0) : ygr s s' k := h
theorem k_nots (hn : n ≤ 700) (hw : w = 3 ∨ w = 14) {s0 : St} {k c : Nat} (hc6 : c ≤ 6) (hl0 : znl (s_P s0) ≤ s_a s0) {N0 Nm0 : Mem} : ∀ m i f g s N Nm, i + m = c → m < f → m < g → SY w y n s N Nm → ygc s0 s k m → FW w N0 N → GW Nm0 Nm → Ev2 ((L_X5_denied_60 ex 1 (nI c) f (nI i) N).bind fun s14 => some (true, s14)) (L_X12_readNot_96 exm 67 (nI c) g (nI i) Nm) (RES w y n N0 Nm0 (fun s' => ygr s0 s' k)) := by
  intro m
  induction m with
  | zero =>
    intro i f g s N Nm e hf hg h hgc F G
    obtain ⟨f, rfl⟩ : ∃ f', f = f' + 1 := ⟨f - 1, by omega⟩
    obtain ⟨g, rfl⟩ : ∃ g', g = g' + 1 := ⟨g - 1, by omega⟩
    rw [L_X5_denied_60, if_pos (nI_le (by omega) (by omega)), L_X12_readNot_96, if_pos (nI_le (by omega) (by omega)), zbs rfl]
    exact Ev2.pure (RES.ok hgc.r h F G)
  | succ m ih =>
    intro i f g s N Nm e hf hg h hgc F G
    obtain ⟨f, rfl⟩ : ∃ f', f = f' + 1 := ⟨f - 1, by omega⟩
    obtain ⟨g, rfl⟩ : ∃ g', g = g' + 1 := ⟨g - 1, by omega⟩
    rw [L_X5_denied_60, if_neg (nI_ge (by omega) (by omega)), L_X12_readNot_96, if_neg (nI_ge (by omega) (by omega)), ygrd hw h.1.1.2.1, zbs rfl]
    have hl : znl (s_P s) + 1 ≤ s_a s := by
      obtain ⟨l, cd, a1, a2, a3, a4⟩ := hgc
      have eP : s_P s = yPc (s_P s0) l cd := by rw [show s_P s = s.2.1 from rfl, a1]
      have el : znl (s_P s) = l := by rw [eP]; rfl
      omega
    obtain ⟨Nm1, b1, b2, b3, b4⟩ := h.lay hw hn hl (sg := -28) (v := -11) rfl
    rw [zbs b1, nI_1]
    exact ih (i + 1) f g _ _ _ (by omega) (by omega) (by omega) b2 hgc.lay (F.tr b3) (G.tr b4.1)
theorem k_nots0 {c : Nat} (hc : c ≤ 7) {Nm : Mem} (h0 : ¬ Nm 67 21 = 0) : L_X12_readNot_96 exm 67 (nI c) FU 0 Nm = some Nm := by
  have key : ∀ m i f, i + m = c → m < f → L_X12_readNot_96 exm 67 (nI c) f (nI i) Nm = some Nm := by
    intro m
    induction m with
    | zero =>
      intro i f e hf
      obtain ⟨f, rfl⟩ : ∃ f', f = f' + 1 := ⟨f - 1, by omega⟩
      rw [L_X12_readNot_96, if_pos (nI_le (by omega) (by omega))]
    | succ m ih =>
      intro i f e hf
      obtain ⟨f, rfl⟩ : ∃ f', f = f' + 1 := ⟨f - 1, by omega⟩
      rw [L_X12_readNot_96, if_neg (nI_ge (by omega) (by omega)), xm_lay0 h0, zbs rfl, nI_1]
      exact ih (i + 1) f (by omega) (by omega)
  exact key c 0 FU (by omega) (by unfold FU; omega)
theorem k_notw {Nm : Mem} {x : Int32} (h0 : ¬ Nm 67 21 = 0) : F_X12_readNot exm 67 x Nm = some Nm := by
  unfold F_X12_readNot
  rw [show L_X12_readNot_2 exm 67 x FU 0 Nm = some (0, Nm) from by
    show L_X12_readNot_2 exm 67 x (99999 + 1) 0 Nm = _
    rw [L_X12_readNot_2, xm_is0 h0, zbs rfl, if_pos (show bi false = 0 from rfl)], zbs rfl]
  dsimp only
  rw [k_sumw h0, zbs rfl, xm_marked0 h0, zbs rfl, if_pos (show bi false = 0 from rfl), xm_marked0 h0, zbs rfl, if_pos (show bi false = 0 from rfl)]
  unfold J_X12_readNot_j94
  rw [show L_X12_readNot_96 exm 67 0 FU 0 Nm = some Nm from k_nots0 (c := 0) (by omega) h0, zbs rfl]
theorem k_not (hn : n ≤ 700) (hy : ∀ i, i < n → y i < 256) (hw : w = 3 ∨ w = 14) (hp : 1 ≤ p ∧ p ≤ 6) (hx : EXH w y n (p + 1) ex exm) {s : St} {N Nm : Mem} (h : SY w y n s N Nm) : Ev2 (F_X5_denied ex 1 (nI p) N) (F_X12_readNot exm 67 (nI (p - 1)) Nm) (RES w y n N Nm (fun s' => ygr s s' (34 - 5 * p))) := by
  have hl0 := h.2.2.2
  obtain ⟨c, N1, m, Nm1, s1, e1, e2, hc, F1, G1, hcase⟩ := k_count (ex := ex) (exm := exm) (p := p) (x := nI (p - 1)) hn hy hw (s0 := s) (N0 := N) (Nm0 := Nm) 6 0 FU FU s N Nm (by omega) (by decide) (by decide) h rfl (by omega) FW.rf GW.rf
  unfold F_X5_denied F_X12_readNot
  rw [show L_X5_denied_2 ex 1 (nI p) FU 0 N = some (nI c, N1) from e1, show L_X12_readNot_2 exm 67 (nI (p - 1)) FU 0 Nm = some (nI m, Nm1) from e2, zbs rfl, zbs rfl]
  dsimp only
  unfold J_X5_denied_j27
  rcases hcase with ⟨h1, rfl, hq, h2, hcs⟩ | ⟨rfl, rfl, Nm2, h1, hq, rfl⟩
  · rw [h1.cw hn hy (u := 8) (by omega), zbs rfl, hq, if_pos (show bi false = 0 from rfl)]
    unfold J_X5_denied_j48 F_X5_test
    obtain ⟨r, Nm2, x1, x2, x3, x4, x5⟩ := k_sum hn hy hw hp hx h1
    rw [x1, x2, zbs rfl, zbs rfl]
    rcases x5 with ⟨r1, s3, g3, h3⟩ | ⟨r1, c', q3, hbad⟩
    · have h61 := h3.2.1.k61 hy
      have m1 : F_X12_isMarked 67 60 Nm2 = some (decide (s_k s3 = 60)) := xm_marked (c := 60) (by omega) (by omega) h3.2.1 hn hy h3.1.2.1 h3.1.2.2.1
      have m2 : F_X12_isMarked 67 61 Nm2 = some (decide (s_k s3 = 61)) := xm_marked (c := 61) (by omega) (by omega) h3.2.1 hn hy h3.1.2.1 h3.1.2.2.1
      have k6 : r.2 1 6 = nI (s_k s3) := h3.1.1.1.2.2.2.1
      rw [if_neg (by rw [r1]; decide), m1, zbs rfl, m2, zbs rfl, k6]
      have fin : ∀ s5 N5 Nm5, SY w y n s5 N5 Nm5 → ygr s1 s5 (34 - 5 * p) → FW w N N5 → GW Nm Nm5 → Ev2 ((L_X5_denied_60 ex 1 (nI m) FU 0 N5).bind fun s14 => some (true, s14)) (J_X12_readNot_j94 exm 67 (nI m) Nm5) (RES w y n N Nm (fun s' => ygr s s' (34 - 5 * p))) := fun s5 N5 Nm5 h5 g5 F5 G5 => by
        unfold J_X12_readNot_j94
        rw [obs]
        exact k_nots hn hw hc hl0 m 0 FU FU s5 N5 Nm5 (by omega) (by unfold FU; omega) (by unfold FU; omega) h5 (g5.c h2 hcs) F5 G5
      by_cases q : s_k s3 = 60 ∨ s_k s3 = 61
      · have hk0 : s_k s3 ≠ 0 := by omega
        obtain ⟨N4, Nm4, d1, d2, d3, d4, d5⟩ := h3.nx hn hy hw
        obtain ⟨r5, Nm5, y1, y2, y3, y4, y5⟩ := k_sum hn hy hw hp hx d3
        have hcls : (if nI (s_k s3) = 60 then J_X5_test_j30 ex 1 (nI p) r.2 else if nI (s_k s3) = 61 then J_X5_test_j30 ex 1 (nI p) r.2 else some (true, r.2)) = J_X5_test_j30 ex 1 (nI p) r.2 := by
          rcases q with q | q
          · rw [q, if_pos (show nI 60 = 60 from rfl)]
          · rw [q, if_neg (show ¬ nI 61 = 60 by decide), if_pos (show nI 61 = 61 from rfl)]
        have hmod : (if bi (decide (s_k s3 = 60)) = 0 then (if bi (decide (s_k s3 = 61)) = 0 then J_X12_readNot_j94 exm 67 (nI m) Nm2 else J_X12_readNot_j63 exm 67 (nI (p - 1)) (nI m) Nm2) else J_X12_readNot_j63 exm 67 (nI (p - 1)) (nI m) Nm2) = J_X12_readNot_j63 exm 67 (nI (p - 1)) (nI m) Nm2 := by
          rcases q with q | q
          · rw [q]; rfl
          · rw [q]; rfl
        rw [hcls, hmod]
        unfold J_X5_test_j30 J_X12_readNot_j63
        rw [m1, zbs rfl, d1, d2, zbs rfl, zbs rfl, y1, y2, zbs rfl, zbs rfl, k6]
        rcases y5 with ⟨r51, s5, g5, h5⟩ | ⟨r51, c5, q5, hbad⟩
        · rw [if_neg (by rw [r51]; decide), ygrd hw h5.1.1.2.1, zbs rfl, zbs rfl]
          dsimp only
          rw [if_neg (show ¬ bi true = 0 by decide)]
          have hsg : ∃ sg : Int32, (if bi (decide (s_k s3 = 60)) = 0 then (-25 : Int32) else (-24 : Int32)) = sg ∧ (if nI (s_k s3) = 60 then (-14 : Int32) else (-15 : Int32)) = zcv sg ∧ ∀ h, zht sg (h + 2) = some (h + 1) := by
            rcases q with q | q
            · rw [q]; exact ⟨-24, rfl, rfl, fun h => zht_op (by decide) (by decide) (by decide) h⟩
            · rw [q]; exact ⟨-25, rfl, rfl, fun h => zht_op (by decide) (by decide) (by decide) h⟩
          obtain ⟨sg, s1', s2', s3'⟩ := hsg
          rw [s1', s2']
          obtain ⟨gg, gl⟩ := g3.op (sg := sg) (k := 34 - 5 * p) h3.2.1 hk0 g5 s3' (by omega) (by omega) h3.2.2.2
          obtain ⟨Nm6, l1, l2, l3, l4⟩ := h5.lay hw hn gl (sg := sg) rfl
          rw [l1, zbs rfl]
          exact fin _ _ _ l2 gg ((((F1.tr x3).tr d4).tr y3).tr l3) ((((G1.tr x4).tr d5.1).tr y4).tr l4.1)
        · rw [if_pos (by rw [r51]; rfl), zbs rfl]
          dsimp only
          rw [if_pos (show bi false = 0 from rfl), xm_lay0 hbad.ne, zbs rfl]
          unfold J_X12_readNot_j94
          rw [k_nots0 (by omega) hbad.ne, zbs rfl]
          exact Ev2.pure (RES.bad hbad (((F1.tr x3).tr d4).tr y3) (((G1.tr x4).tr d5.1).tr y4))
      · rw [if_neg (zne 60 60 rfl (by omega) (by omega) (by omega)), if_neg (zne 61 61 rfl (by omega) (by omega) (by omega)), zbs rfl, decide_eq_false (show ¬ s_k s3 = 60 by omega), decide_eq_false (show ¬ s_k s3 = 61 by omega), if_pos (show bi false = 0 from rfl), if_pos (show bi false = 0 from rfl)]
        dsimp only
        rw [if_neg (show ¬ bi true = 0 by decide)]
        exact fin _ _ _ h3 (g3.mono (by omega)) (F1.tr x3) (G1.tr x4)
    · rw [if_pos (by rw [r1]; rfl), zbs rfl]
      dsimp only
      rw [if_pos (show bi false = 0 from rfl), xm_marked0 hbad.ne, zbs rfl, if_pos (show bi false = 0 from rfl), xm_marked0 hbad.ne, zbs rfl, if_pos (show bi false = 0 from rfl)]
      unfold J_X12_readNot_j94
      rw [k_nots0 (by omega) hbad.ne, zbs rfl]
      exact Ev2.pure (RES.bad hbad (F1.tr x3) (G1.tr x4))
  · rw [h1.cw hn hy (u := 8) (by omega), zbs rfl, hq, if_neg (show ¬ bi true = 0 by decide), if_pos (show nI 6 = 6 from rfl)]
    have h0 : ¬ (ywr 2 Nm2) 67 21 = 0 := ywr_ne (by omega)
    rw [k_sumw h0, zbs rfl, xm_marked0 h0, zbs rfl, if_pos (show bi false = 0 from rfl), xm_marked0 h0, zbs rfl, if_pos (show bi false = 0 from rfl)]
    unfold J_X12_readNot_j94
    rw [k_nots0 (by omega) h0, zbs rfl]
    exact Ev2.pure (RES.bad (h1.bad (c := 2) (by omega)) (F1.tr (FW.f (by omega))) G1)
end NOTS
