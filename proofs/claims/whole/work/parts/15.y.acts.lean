/-! ===== acts ===== -/
theorem zsi_bt {x : Int32} {i b : Nat} (hi : i < 6) (hb : b < 32) : bt (F_X11_streetIn x (nI i)) b = (decide (b < 3) && bt x (3 * i + b)) := by
  unfold F_X11_streetIn
  rw [show (3 : Int32) * nI i = nI (3 * i) from zmul 3 i, b_and, b_sshr (3 * i) (by omega) x hb]
  have h7 : ∀ b, b < 32 → bt 7 b = decide (b < 3) := by decide +kernel
  rw [h7 b hb]
  by_cases h : b < 3
  · rw [if_pos (by omega)]; simp [h]
  · simp [h]
theorem zlow3 : ∀ s, s < 8 → ∀ b, b < 32 → 3 ≤ b → bt (nI s) b = false := by decide +kernel
theorem zwith {x : Int32} {i s j : Nat} (hi : i < 6) (hs : s < 8) (hj : j < 6) : F_X11_streetIn (F_X11_walkWith x (nI i) (nI s)) (nI j) = if j = i then nI s else F_X11_streetIn x (nI j) := by
  have h7 : ∀ b, b < 32 → bt 7 b = decide (b < 3) := by decide +kernel
  have hw : ∀ k, k < 32 → bt (F_X11_walkWith x (nI i) (nI s)) k = ((bt x k && !(decide (3 * i ≤ k) && decide (k < 3 * i + 3))) || (decide (3 * i ≤ k) && bt (nI s) (k - 3 * i))) := by
    intro k hk
    unfold F_X11_walkWith
    rw [show (3 : Int32) * nI i = nI (3 * i) from zmul 3 i, b_or, b_and, b_xor, b_m1 k hk, b_shl (3 * i) (by omega) 7 hk, b_shl (3 * i) (by omega) (nI s) hk]
    congr 2
    by_cases h : 3 * i ≤ k
    · rw [h7 _ (by omega)]
      have : (k - 3 * i < 3) ↔ (k < 3 * i + 3) := by omega
      simp [h, this]
    · simp [h]
  apply b_ext
  intro b hb
  rw [zsi_bt hj hb]
  by_cases hb3 : b < 3
  · rw [hw _ (by omega)]
    by_cases e : j = i
    · subst e
      rw [if_pos rfl]
      have e2 : 3 * j + b - 3 * j = b := by omega
      rw [e2]
      have e3 : 3 * j ≤ 3 * j + b := by omega
      have e4 : 3 * j + b < 3 * j + 3 := by omega
      simp [hb3, e4]
    · rw [if_neg e, zsi_bt hj hb]
      by_cases lt : 3 * i ≤ 3 * j + b
      · have e4 : ¬ 3 * j + b < 3 * i + 3 := by omega
        rw [zlow3 s hs _ (by omega) (by omega)]
        simp [hb3, e4]
      · simp [hb3, lt]
  · simp only [hb3, decide_false, Bool.false_and]
    by_cases e : j = i
    · rw [if_pos e]; exact (zlow3 s hs b hb (by omega)).symm
    · rw [if_neg e, zsi_bt hj hb]; simp [hb3]
theorem agr_set {FL FM : Mem → Option (Int32 × Mem)} (h : ∀ w Z M, ZW Z → RC w Z M → (∃ a : Sum Nat Int32, CL FL w M a ∧ ∀ M1, RM Z M1 → Evs (FM M1) (ML M1 a)) ∨ (∃ (v : Int32) (Z' : Zs), ZW Z' ∧ (∃ M', FL M = some (0, up M' 106 0 v) ∧ RC w Z' M' ∧ ∀ a, 67 ≤ a → M' a = M a) ∧ ∀ M1, RM Z M1 → Evs (FM M1) (fun r => r.1 = v ∧ r.2 67 2 = 0 ∧ RM Z' r.2 ∧ ∀ a, a < 67 ∨ a = 106 → r.2 a = M1 a))) : Agr FL FM := by
  intro M ⟨w, Z, hz, hc, hm⟩
  rcases h w Z M hz hc with ⟨a, c, m⟩ | ⟨v, Z', hz', ⟨M', e, hc', F⟩, m⟩
  · cases a with
    | inl k =>
      obtain ⟨hk, e⟩ := c.1 k rfl
      obtain ⟨r, e2, r1, -, G⟩ := m M hm
      refine ⟨nI k, r.1, M, r.2, e, e2, r1 k rfl, fun z => ?_, w, Z, hz, hc.of (fun a h => G.fr (Or.inl h)), hm.keep G⟩
      exact absurd z (nI_ne0 (by omega) (by omega))
    | inr v =>
      obtain ⟨M', e, F⟩ := c.2 v rfl
      have hc1 : RC w Z (up M' 106 0 v) := (hc.keep F).of (fun a h => up_ne (by omega))
      have hm1 : RM Z (up M' 106 0 v) := hm.of (fun a h1 h2 => by rw [up_ne (by omega)]; exact F.1 a (by omega))
      obtain ⟨r, e2, -, r1, G⟩ := m _ hm1
      refine ⟨0, r.1, _, r.2, e, e2, (r1 v rfl).2, fun _ => ?_, w, Z, hz, hc1.of (fun a h => G.fr (Or.inl h)), hm1.keep G⟩
      rw [G.fr (Or.inr rfl), up_app, if_pos ⟨rfl, rfl⟩]; exact (r1 v rfl).1.symm
  · have hc1 : RC w Z' (up M' 106 0 v) := hc'.of (fun a h => up_ne (by omega))
    have hm1 : RM Z (up M' 106 0 v) := hm.of (fun a h1 h2 => by rw [up_ne (by omega)]; exact F a h1)
    obtain ⟨r, e2, r1, r2, hm2, G⟩ := m _ hm1
    refine ⟨0, r.1, _, r.2, e, e2, r2, fun _ => ?_, w, Z', hz', hc1.of (fun a h => G a (Or.inl h)), hm2⟩
    rw [G 106 (Or.inr rfl), up_app, if_pos ⟨rfl, rfl⟩]; exact r1.symm
theorem sl_mk {Z' : Zs} {x v : Int32} {M1 M' : Mem} (e : x = v) (h2 : M' 67 2 = 0) (h : RM Z' M') (G : ∀ a, a < 67 ∨ a = 106 → M' a = M1 a) : (x, M').1 = v ∧ (x, M').2 67 2 = 0 ∧ RM Z' (x, M').2 ∧ ∀ a, a < 67 ∨ a = 106 → (x, M').2 a = M1 a := ⟨e, h2, h, G⟩
theorem sl_mk3 {Z' : Zs} {x v : Int32} {M1 M' : Mem} (e : x = v) (h : RM Z' M') (G : ∀ a, a < 67 → M' a = M1 a) : (x, M').1 = v ∧ RM Z' (x, M').2 ∧ ∀ a, a < 67 → (x, M').2 a = M1 a := ⟨e, h, G⟩
/-- calls that throw nothing -/
def Ag3 (FX FM : Mem → Option (Int32 × Mem)) : Prop := ∀ M, RR M → ∃ (v : Int32) (M1 M2 : Mem), FX M = some (v, M1) ∧ FM M1 = some (v, M2) ∧ RR M2
theorem agr_set3 {FX FM : Mem → Option (Int32 × Mem)} (h : ∀ w Z M, ZW Z → RC w Z M → ∃ (v : Int32) (Z' : Zs), ZW Z' ∧ (∃ M', FX M = some (v, M') ∧ RC w Z' M' ∧ ∀ a, 67 ≤ a → M' a = M a) ∧ ∀ M1, RM Z M1 → Evs (FM M1) (fun r => r.1 = v ∧ RM Z' r.2 ∧ ∀ a, a < 67 → r.2 a = M1 a)) : Ag3 FX FM := by
  intro M ⟨w, Z, hz, hc, hm⟩
  obtain ⟨v, Z', hz', ⟨M', e, hc', F⟩, m⟩ := h w Z M hz hc
  obtain ⟨r, e2, r1, hm2, G⟩ := m M' (hm.of (fun a h1 h2 => F a h1))
  exact ⟨v, M', r.2, e, by rw [e2, ← r1], w, Z', hz', hc'.of G, hm2⟩
section ACTS
variable {M M' : Mem} {w : Nat} {Z : Zs}
theorem RC.refuse (hc : RC w Z M) {k : Nat} (hk : k < 3) : RC w (zB Z (zrf (z_B Z) k)) (up M 35 k (b_u (z_B Z) k + 1)) ∧ ∀ a, 67 ≤ a → (up M 35 k (b_u (z_B Z) k + 1)) a = M a := by
  have hw := hc.ww
  exact ⟨hc.setB (fun a ha => up_ne (by omega)) (by rw [up_ne (by omega)]) (zc_refuse hc.B hk).2, fun a ha => up_ne (by omega)⟩
/-- a town of the class's is set by its cells -/
theorem RC.kept (hc : RC w Z M) (hz : ZW Z) : ∃ M', F_X0_keepAct 24 M = some M' ∧ RC w (zB Z (zkp (z_B Z))) M' ∧ (∀ a, a ≠ 29 → a ≠ 30 → M' a = M a) := by
  have hw := hc.ww
  obtain ⟨M', e, h1, h2⟩ := zc_keep hc.B hz.2.1.2.1
  exact ⟨M', e, hc.setB (fun a ha => h2 a (by omega) (by omega)) (by rw [h2 _ (by omega) (by omega)]) h1, h2⟩
theorem RC.setT (hc : RC w Z M) {T : Tn} (hT : CT (crow M' 25) T) (e : ∀ a, (a < 25 ∨ 28 < a) → M' a = M a) : RC w (zB Z (zT (z_B Z) T)) M' := by
  have hw := hc.ww
  exact hc.setB (fun a ha => e a (by omega)) (by rw [e _ (by omega)]) (hc.B.town hT (fun a h1 h2 => e a (by omega)))
theorem RM.setT (hm : RM Z M) {T : Tn} (hT : MT (mrow M') T) (e : ∀ a, a ≠ 67 → a ≠ 81 → a ≠ 82 → a ≠ 83 → M' a = M a) (ef : ∀ k, (k < 29 ∨ 32 < k) → M' 67 k = M 67 k) : RM (zB Z (zT (z_B Z) T)) M' := by
  refine hm.setB (fun a ha => e a (by omega) (by omega) (by omega) (by omega)) (fun k hk => ef k (by omega)) ⟨hT, ?_⟩
  rw [ef 33 (by omega), ef 34 (by omega), e 84 (by omega) (by omega) (by omega) (by omega), e 93 (by omega) (by omega) (by omega) (by omega), e 94 (by omega) (by omega) (by omega) (by omega), e 96 (by omega) (by omega) (by omega) (by omega), e 79 (by omega) (by omega) (by omega) (by omega)]
  exact hm.2.1.2
end ACTS
theorem agr_bribe (p : Int32) : Agr (F_L_bribe 0 106 p) (F_X12_bribe 67 p) := by
  refine agr_set (fun w Z M hz hc => ?_)
  have hP := hz.1
  have h7 := hP.2.2.1
  obtain ⟨hTW, hTC, h9⟩ := hz.2.1.1
  rcases znum p (znp (z_P Z)) (by omega) with ⟨p, hp, rfl⟩ | hx
  · right
    have cb : F_X8_canBribe 25 (nI p) M = (!(bt (t_b (b_t (z_B Z))) p) && decide (¬ t_c (b_t (z_B Z)) p < 5)) := by
      unfold F_X8_canBribe
      rw [zc_brib (T := b_t (z_B Z)) (by omega) hc.T.b, zat_at (by omega) (by omega), hc.T.c (by omega)]
      by_cases e : bt (t_b (b_t (z_B Z))) p = true
      · rw [if_neg (by rw [e]; decide), e]; rfl
      · rw [if_pos (zbi.mpr (by simpa using e))]
        by_cases e2 : t_c (b_t (z_B Z)) p < 5
        · rw [if_pos e2]; simp [e2]
        · rw [if_neg e2]; simp [e, e2]
    have mb : ∀ M0, RM Z M0 → F_X12_canBribe 67 (nI p) M0 = some (!(bt (t_b (b_t (z_B Z))) p) && decide (¬ t_c (b_t (z_B Z)) p < 5)) := by
      intro M0 hm0
      unfold F_X12_canBribe
      rw [hm0.T.b, zis (by omega)]
      by_cases e : bt (t_b (b_t (z_B Z))) p = true
      · rw [if_neg (by rw [e]; decide), e]; rfl
      · rw [if_pos (zbi.mpr (by simpa using e)), zald (by omega) (by omega), zbs rfl, hm0.T.c (by omega)]
        by_cases e2 : t_c (b_t (z_B Z)) p < 5
        · rw [if_pos e2]; simp [e2]
        · rw [if_neg e2]; simp [e, e2]
    by_cases can : (!(bt (t_b (b_t (z_B Z))) p) && decide (¬ t_c (b_t (z_B Z)) p < 5)) = true
    · have c5 : ¬ t_c (b_t (z_B Z)) p < 5 := by simp at can; simpa using can.2
      let T' : Tn := (t_n (b_t (z_B Z)), t_d (b_t (z_B Z)), t_h (b_t (z_B Z)), t_b (b_t (z_B Z)) ||| ((1 : Int32) <<< (nI p &&& 31)), upd (t_c (b_t (z_B Z))) p (t_c (b_t (z_B Z)) p - 5), t_k (b_t (z_B Z)), t_w (b_t (z_B Z)))
      have hT' : TSt (z_P Z) T' := by
        refine ⟨⟨hTW.1, hTW.2.1, fun q hq => ?_, hTW.2.2.2⟩, fun q => ?_, h9⟩
        · show upd _ p _ q = 0
          rw [upd_app, if_neg (by omega)]; exact hTW.2.2.1 q hq
        · show 0 ≤ upd _ p _ q ∧ upd _ p _ q ≤ 999
          rw [upd_app]
          split
          · exact zi_sub (by decide) (Int32.not_lt.mp c5) (hTC p).2
          · exact hTC q
      refine ⟨t_c (b_t (z_B Z)) p - 5, zB Z (zT (zkp (z_B Z)) T'), hz.B (hz.2.1.kp.T hT'), ?_, fun M1 hm => ?_⟩
      · obtain ⟨M2, e1, hc2, n2⟩ := hc.kept hz
        have hs : F_X8_startBribing 25 (nI p) M2 = up (up M2 26 p (t_c (b_t (z_B Z)) p - 5)) 25 2 (t_b (b_t (z_B Z)) ||| ((1 : Int32) <<< (nI p &&& 31))) := by
          unfold F_X8_startBribing
          rw [zat_at (by omega) (by omega), zput_at (by omega) (by omega), up_ne (j := 25) (by omega)]
          rw [show M2 (25 + 1) p = t_c (b_t (z_B Z)) p from hc2.T.c (by omega), show M2 25 2 = t_b (b_t (z_B Z)) from hc2.T.b]
        refine ⟨up (up M2 26 p (t_c (b_t (z_B Z)) p - 5)) 25 2 (t_b (b_t (z_B Z)) ||| ((1 : Int32) <<< (nI p &&& 31))), ?_, hc2.setT (CT.of ?_ ?_ ?_ ?_ ?_ ?_ ?_) (fun a ha => by rw [up_ne (by omega), up_ne (by omega)]), fun a ha => by rw [up_ne (by omega), up_ne (by omega)]; exact n2 a (by omega) (by omega)⟩
        · have e : F_X11_bribe 0 (nI p) M = some (Sum.inr (t_c (b_t (z_B Z)) p - 5, up (up M2 26 p (t_c (b_t (z_B Z)) p - 5)) 25 2 (t_b (b_t (z_B Z)) ||| ((1 : Int32) <<< (nI p &&& 31))))) := by
            unfold F_X11_bribe
            rw [zc_np hc hp h7, zbs rfl]
            simp only [Sum.elim_inr]
            rw [show (0 + 24 + 1 : Nat) = 25 from rfl, cb, can, if_neg (by decide), zbs (show F_X0_keepAct (0 + 24) M = some M2 from e1), hs, zat_at (by omega) (by omega)]
            rw [show (up (up M2 26 p (t_c (b_t (z_B Z)) p - 5)) 25 2 (t_b (b_t (z_B Z)) ||| ((1 : Int32) <<< (nI p &&& 31)))) (25 + 1) p = t_c (b_t (z_B Z)) p - 5 by rw [up_ne (by omega), up_app, if_pos ⟨rfl, rfl⟩]]
          unfold F_L_bribe
          rw [zbs e]; rfl
        · rw [up_app, if_neg (by omega), up_ne (by omega)]; exact hc2.T.n
        · rw [up_app, if_neg (by omega), up_ne (by omega)]; exact hc2.T.d
        · rw [up_app, if_pos ⟨rfl, rfl⟩]
        · rw [up_app, if_neg (by omega), up_ne (by omega)]; exact hc2.T.h
        · intro q hq
          rw [up_ne (by omega), up_app]
          show _ = upd _ p _ q
          rw [upd_app]
          by_cases e : q = p
          · rw [if_pos ⟨rfl, e⟩, if_pos e]
          · rw [if_neg (fun z => e z.2), if_neg e]; exact hc2.T.c hq
        · intro q hq; rw [up_ne (by omega), up_ne (by omega)]; exact hc2.T.k hq
        · intro q hq i hi; rw [up_ne (by omega), up_ne (by omega)]; exact hc2.T.w hq hi
      · obtain ⟨hm0, G0, c0⟩ := zm_0 hm
        unfold F_X12_bribe
        generalize up M1 67 2 0 = M0 at hm0 G0 c0 ⊢
        obtain ⟨M2, e1, hm2, n2, f2⟩ := zm_keep hm0 hz.2.1.2.1
        rw [zm_ip1 hm0 hp h7, if_neg (by decide), mb M0 hm0, zbs rfl, can, if_neg (by decide), zbs e1]
        unfold F_X12_doBribe
        rw [zald (by omega) (by omega), zbs rfl, zast (by omega) (by omega), zbs rfl, show M2 (67 + 14) p = t_c (b_t (z_B Z)) p from hm2.T.c (by omega)]
        rw [zbs rfl, zald (by omega) (by omega), zbs rfl]
        have eb : (up M2 (67 + 14) p (t_c (b_t (z_B Z)) p - 5)) 67 32 = t_b (b_t (z_B Z)) := by rw [up_ne (by omega)]; exact hm2.T.b
        rw [eb]
        refine Evs.pure (sl_mk ?_ ?_ (hm2.setT (MT.of ?_ ?_ ?_ ?_ ?_ ?_ ?_) (fun a x1 x2 x3 x4 => by rw [up_ne x1, up_ne (by omega)]) (fun k hk => by rw [up_app, if_neg (by omega), up_ne (by omega)])) (fun a ha => ?_))
        · rw [up_ne (by omega), up_app, if_pos ⟨rfl, rfl⟩]
        · rw [up_app, if_neg (by omega), up_ne (by omega), f2 2 (by omega)]; exact c0
        · rw [up_app, if_neg (by omega), up_ne (by omega)]; exact hm2.T.n
        · rw [up_app, if_neg (by omega), up_ne (by omega)]; exact hm2.T.d
        · rw [up_app, if_neg (by omega), up_ne (by omega)]; exact hm2.T.h
        · rw [up_app, if_pos ⟨rfl, rfl⟩]
        · intro q hq
          rw [up_ne (by omega), up_app]
          show _ = upd _ p _ q
          rw [upd_app]
          by_cases e : q = p
          · rw [if_pos ⟨rfl, e⟩, if_pos e]
          · rw [if_neg (fun z => e z.2), if_neg e]; exact hm2.T.c hq
        · intro q hq; rw [up_ne (by omega), up_ne (by omega)]; exact hm2.T.k hq
        · intro q hq i hi; rw [up_ne (by omega), up_ne (by omega)]; exact hm2.T.w hq hi
        · rw [up_ne (by omega), up_ne (by omega), n2 a (by omega) (by omega)]; exact G0.fr ha
    · refine ⟨-1, zB Z (zrf (z_B Z) 1), hz.B (hz.2.1.rf 1), ⟨_, ?_, (hc.refuse (k := 1) (by omega)).1, (hc.refuse (k := 1) (by omega)).2⟩, fun M1 hm => ?_⟩
      · have e : F_X11_bribe 0 (nI p) M = some (Sum.inr (-1, up M 35 1 (b_u (z_B Z) 1 + 1))) := by
          unfold F_X11_bribe
          rw [zc_np hc hp h7, zbs rfl]
          simp only [Sum.elim_inr]
          rw [show (0 + 24 + 1 : Nat) = 25 from rfl, cb, if_pos (zbi.mpr (by simpa using can)), show F_X0_refuse (0 + 24) 1 M = (-1, up M 35 1 (b_u (z_B Z) 1 + 1)) from (zc_refuse hc.B (k := 1) (by omega)).1]
        unfold F_L_bribe
        rw [zbs e]; rfl
      · obtain ⟨hm0, G0, c0⟩ := zm_0 hm
        unfold F_X12_bribe
        generalize up M1 67 2 0 = M0 at hm0 G0 c0 ⊢
        obtain ⟨M2, e1, hm2, n2⟩ := zm_refuse hm0 (k := 1) (by omega)
        rw [zm_ip1 hm0 hp h7, if_neg (by decide), mb M0 hm0, zbs rfl, if_pos (zbi.mpr (by simpa using can)), zbs (show F_X12_refuse 67 1 M0 = some (-1, M2) from e1)]
        exact Evs.pure ⟨rfl, by show M2 67 2 = 0; rw [n2 67 (by omega)]; exact c0, hm2, fun a ha => by show M2 a = _; rw [n2 a (by omega)]; exact G0.fr ha⟩
  · left
    refine ⟨.inl 1, CL.thr (by omega) ?_, fun M1 hm => ?_⟩
    · have e : F_X11_bribe 0 p M = some (Sum.inl 1) := by
        unfold F_X11_bribe
        rw [zc_npx hc hx, zbs rfl]; rfl
      unfold F_L_bribe
      rw [zbs e]; rfl
    · obtain ⟨hm0, G0, c0⟩ := zm_0 hm
      unfold F_X12_bribe
      generalize up M1 67 2 0 = M0 at hm0 G0 c0 ⊢
      rw [zm_ip0 hm0 h7 hx, if_pos (by decide)]
      exact Evs.pure (zm_fail (k := 1) G0)
