/-! ===== years by a seed ===== -/
def zdr (s : Int32) : Int32 := s * 1103515245 + 12345
theorem zdq (s : Int32) : ∃ v, v < 32768 ∧ iushr s 16 &&& 32767 = nI v ∧ (s >>> (16 &&& 31)) &&& 32767 = nI v := by
  have hm : ∀ i, i < 32 → bt 32767 i = decide (i < 15) := by decide +kernel
  have e1 : ∀ i, i < 32 → bt (iushr s 16 &&& 32767) i = (decide (i < 15) && bt s (16 + i)) := fun i hi => by
    rw [b_and, hm i hi]
    have : bt (iushr s 16) i = bt s (16 + i) := b_ushr 16 (by omega) s i
    rw [this, Bool.and_comm]
  have e2 : ∀ i, i < 32 → bt ((s >>> (16 &&& 31)) &&& 32767) i = (decide (i < 15) && bt s (16 + i)) := fun i hi => by
    rw [b_and, hm i hi]
    have : bt (s >>> (16 &&& 31)) i = if 16 + i < 32 then bt s (16 + i) else bt s 31 := b_sshr 16 (by omega) s hi
    rw [this]
    by_cases h : i < 15
    · rw [if_pos (by omega)]; simp [h]
    · simp [h]
  have ee : (iushr s 16 &&& 32767 : Int32) = ((s >>> ((16 : Int32) &&& 31)) &&& (32767 : Int32)) := b_ext (fun i hi => by rw [e1 i hi, e2 i hi])
  obtain ⟨v, hv, q⟩ := z_few (n := 15) (x := iushr s 16 &&& 32767) (by omega) (fun i h1 h2 => by rw [e1 i h2]; have : ¬ i < 15 := by omega
                                                                                                 simp [this])
  exact ⟨v, hv, q, by rw [← ee]; exact q⟩
noncomputable def zdn (s : Int32) : Nat := Classical.choose (zdq s)
theorem zdn_lt (s : Int32) : zdn s < 32768 := (Classical.choose_spec (zdq s)).1
theorem zdn_c (s : Int32) : iushr s 16 &&& 32767 = nI (zdn s) := (Classical.choose_spec (zdq s)).2.1
theorem zdn_m (s : Int32) : (s >>> (16 &&& 31)) &&& 32767 = nI (zdn s) := (Classical.choose_spec (zdq s)).2.2
/-- what happens ahead of a night: the seed, the town -/
def zTw (T : Tn) (p i s : Nat) : Tn := (t_n T, t_d T, t_h T, t_b T, t_c T, t_k T, fun q j => if q = p ∧ j = i then s else t_w T q j)
noncomputable def zev (P : Pl) (s : Int32) (T : Tn) : Int32 × Tn :=
  if znp P = 0 ∨ 2 ≤ zdn (zdr s) % 4 then (zdr s, T)
  else if zdn (zdr s) % 4 = 0 then (zdr (zdr s), zTc T (zdn (zdr (zdr s)) % znp P) (imin 999 (t_c T (zdn (zdr (zdr s)) % znp P) + 20)))
  else (zdr (zdr (zdr (zdr s))), zTw T (zdn (zdr (zdr s)) % znp P) (zdn (zdr (zdr (zdr s))) % p_ln P (zdn (zdr (zdr s)) % znp P)) (zdn (zdr (zdr (zdr (zdr s)))) % zns P))
noncomputable def zyr (P : Pl) (s : Int32) (T : Tn) : Nat → Int32 × Tn × Int32
  | 0 => (s, T, 0)
  | k + 1 => (zdr (zev P (zyr P s T k).1 (zyr P s T k).2.1).1, (zpass P (zev P (zyr P s T k).1 (zyr P s T k).2.1).2 (zdn (zdr (zev P (zyr P s T k).1 (zyr P s T k).2.1).1) % 10)).1, (zyr P s T k).2.2 + (zpass P (zev P (zyr P s T k).1 (zyr P s T k).2.1).2 (zdn (zdr (zev P (zyr P s T k).1 (zyr P s T k).2.1).1) % 10)).2.2.2)
theorem zTw_W {P : Pl} {T : Tn} (h : TW9 P T) {p i s : Nat} (hs : s < zns P) : TW9 P (zTw T p i s) := by
  refine ⟨h.1, fun q j => ?_, h.2.2.1, h.2.2.2⟩
  show (if q = p ∧ j = i then s else t_w T q j) < zns P
  split
  · exact hs
  · exact h.2.1 q j
theorem zev_W {P : Pl} (hP : PW P) {T : Tn} (h : TW9 P T) (s : Int32) : TW9 P (zev P s T).2 ∧ t_n (zev P s T).2 = t_n T := by
  unfold zev
  by_cases c1 : znp P = 0 ∨ 2 ≤ zdn (zdr s) % 4
  · rw [if_pos c1]; exact ⟨h, rfl⟩
  · rw [if_neg c1]
    have hn : 0 < znp P := by omega
    by_cases c2 : zdn (zdr s) % 4 = 0
    · rw [if_pos c2]; exact ⟨zTc_W h (Nat.mod_lt _ hn) _, rfl⟩
    · rw [if_neg c2]; exact ⟨zTw_W h (Nat.mod_lt _ (by have := hP.1.1; omega)), rfl⟩
theorem zyr_W {P : Pl} (hP : PW P) {T : Tn} (h : TW9 P T) (s : Int32) : ∀ k, t_n T + k ≤ 2000 → TW9 P (zyr P s T k).2.1 ∧ t_n (zyr P s T k).2.1 = t_n T + k
  | 0, _ => ⟨h, rfl⟩
  | k + 1, hk => by
    obtain ⟨a, b⟩ := zyr_W hP h s k (by omega)
    obtain ⟨c, d⟩ := zev_W hP a (zyr P s T k).1
    have q := zpass_k (P := P) (T := (zev P (zyr P s T k).1 (zyr P s T k).2.1).2) (fog := zdn (zdr (zev P (zyr P s T k).1 (zyr P s T k).2.1).1) % 10) hP
    exact ⟨q.2.2.2.2.1 c (by omega), q.1.trans (by omega)⟩
section YEARS
variable {M : Mem} {w : Nat} {Z : Zs}
theorem zc_draw {n : Nat} (h0 : 0 < n) (hn : n < 1000) : F_X2_draw 64 (nI n) M = some (nI (zdn (zdr (M 64 0)) % n), up M 64 0 (zdr (M 64 0))) := by
  have := zdn_lt (zdr (M 64 0))
  unfold F_X2_draw
  rw [if_neg (nI_nle h0 (by omega))]
  have e : (up M 64 0 (M 64 0 * 1103515245 + 12345)) 64 0 = zdr (M 64 0) := by rw [up_app, if_pos ⟨rfl, rfl⟩]; rfl
  rw [e, zdn_c, zirm (by omega) h0 (by omega)]
  rfl
theorem zm_draw {n : Nat} (h0 : 0 < n) (hn : n < 1000) : F_X12_drawOf 67 (nI n) M = some (nI (zdn (zdr (M 67 54)) % n), up M 67 54 (zdr (M 67 54))) := by
  have := zdn_lt (zdr (M 67 54))
  unfold F_X12_drawOf
  have e : (up M 67 54 (M 67 54 * 1103515245 + 12345)) 67 54 = zdr (M 67 54) := by rw [up_app, if_pos ⟨rfl, rfl⟩]; rfl
  rw [e, zdn_m, zirm (by omega) h0 (by omega)]
  rfl
theorem CT.off {M' : Mem} {T : Tn} {t : Nat} (h : CT (crow M t) T) (e : ∀ a, t ≤ a → a ≤ t + 3 → M' a = M a) : CT (crow M' t) T := by rw [crow_of (M := M) e]; exact h
theorem CT.tc {T : Tn} {t p : Nat} {v : Int32} (h : CT (crow M t) T) (hp : p < 7) : CT (crow (up M (t + 1) p v) t) (zTc T p v) := by
  refine CT.of ?_ ?_ ?_ ?_ ?_ ?_ ?_
  · rw [up_ne (by omega)]; exact h.n
  · rw [up_ne (by omega)]; exact h.d
  · rw [up_ne (by omega)]; exact h.b
  · rw [up_ne (by omega)]; exact h.h
  · intro q hq
    rw [up_app]
    show _ = upd _ p _ q
    rw [upd_app]
    by_cases e : q = p
    · rw [if_pos ⟨rfl, e⟩, if_pos e]
    · rw [if_neg (fun z => e z.2), if_neg e]; exact h.c hq
  · intro q hq; rw [up_ne (by omega)]; exact h.k hq
  · intro q hq i hi; rw [up_ne (by omega)]; exact h.w hq hi
theorem CT.tw {T : Tn} {t p i s : Nat} (h : CT (crow M t) T) (hp : p < 7) (hi : i < 6) (hs : s < 8) : CT (crow (up M (t + 3) p (F_X11_walkWith (M (t + 3) p) (nI i) (nI s))) t) (zTw T p i s) := by
  refine CT.of ?_ ?_ ?_ ?_ ?_ ?_ ?_
  · rw [up_ne (by omega)]; exact h.n
  · rw [up_ne (by omega)]; exact h.d
  · rw [up_ne (by omega)]; exact h.b
  · rw [up_ne (by omega)]; exact h.h
  · intro q hq; rw [up_ne (by omega)]; exact h.c hq
  · intro q hq; rw [up_ne (by omega)]; exact h.k hq
  · intro q hq j hj
    show _ = nI (if q = p ∧ j = i then s else t_w T q j)
    rw [up_app]
    by_cases e : q = p
    · subst e
      rw [if_pos ⟨rfl, rfl⟩, zwith hi hs hj]
      by_cases e2 : j = i
      · rw [if_pos e2, if_pos ⟨rfl, e2⟩]
      · rw [if_neg e2, if_neg (fun z => e2 z.2)]; exact h.w hq hj
    · rw [if_neg (fun z => e z.2), if_neg (fun z => e z.1)]; exact h.w hq hj
theorem MT.tc {T : Tn} {p : Nat} {v : Int32} (h : MT (mrow M) T) (hp : p < 7) : MT (mrow (up M 81 p v)) (zTc T p v) := by
  refine MT.of ?_ ?_ ?_ ?_ ?_ ?_ ?_
  · rw [up_ne (by omega)]; exact h.n
  · rw [up_ne (by omega)]; exact h.d
  · rw [up_ne (by omega)]; exact h.h
  · rw [up_ne (by omega)]; exact h.b
  · intro q hq
    rw [up_app]
    show _ = upd _ p _ q
    rw [upd_app]
    by_cases e : q = p
    · rw [if_pos ⟨rfl, e⟩, if_pos e]
    · rw [if_neg (fun z => e z.2), if_neg e]; exact h.c hq
  · intro q hq; rw [up_ne (by omega)]; exact h.k hq
  · intro q hq i hi; rw [up_ne (by omega)]; exact h.w hq hi
theorem MT.tw {T : Tn} {p i s : Nat} (h : MT (mrow M) T) (hp : p < 7) (hi : i < 6) : MT (mrow (up M 83 (6 * p + i) (nI s))) (zTw T p i s) := by
  refine MT.of ?_ ?_ ?_ ?_ ?_ ?_ ?_
  · rw [up_ne (by omega)]; exact h.n
  · rw [up_ne (by omega)]; exact h.d
  · rw [up_ne (by omega)]; exact h.h
  · rw [up_ne (by omega)]; exact h.b
  · intro q hq; rw [up_ne (by omega)]; exact h.c hq
  · intro q hq; rw [up_ne (by omega)]; exact h.k hq
  · intro q hq j hj
    show _ = nI (if q = p ∧ j = i then s else t_w T q j)
    rw [up_app]
    by_cases e : q = p ∧ j = i
    · rw [if_pos e, if_pos ⟨rfl, by omega⟩]
    · rw [if_neg e, if_neg (fun z => e (by omega))]; exact h.w hq hj
theorem MT.off {M' : Mem} {T : Tn} (h : MT (mrow M) T) (e : ∀ k, 29 ≤ k → k ≤ 32 → M' 67 k = M 67 k) (e1 : M' 81 = M 81) (e2 : M' 82 = M 82) (e3 : M' 83 = M 83) : MT (mrow M') T := by rw [mrow_of (M := M) e e1 e2 e3]; exact h
theorem zc_event (hz : ZW Z) (hc : RC w Z M) {T : Tn} (hT : CT (crow M 48) T) (hW : TW9 (z_P Z) T) : Evs (F_X11_drawEvent 0 M) (fun M' => M' 64 0 = (zev (z_P Z) (M 64 0) T).1 ∧ CT (crow M' 48) (zev (z_P Z) (M 64 0) T).2 ∧ Fz w M M') := by
  have hP := hz.1
  have hw := hc.ww
  have h7 := hP.2.2.1
  have h8 := hP.1
  have fz : ∀ (N : Mem) (v : Int32), Fz w N (up N 64 0 v) := fun N v => ⟨fun a x => by rw [up_ne (by omega)], by rw [up_ne (by omega)]⟩
  unfold F_X11_drawEvent
  rw [show F_X2_draw (0 + 64) 4 M = some (nI (zdn (zdr (M 64 0)) % 4), up M 64 0 (zdr (M 64 0))) from zc_draw (n := 4) (by omega) (by omega), zbs rfl]
  have F1 := fz M (zdr (M 64 0))
  have s1 : (up M 64 0 (zdr (M 64 0))) 64 0 = zdr (M 64 0) := by rw [up_app, if_pos ⟨rfl, rfl⟩]
  have T1 : CT (crow (up M 64 0 (zdr (M 64 0))) 48) T := hT.off (fun a _ _ => up_ne (by omega))
  generalize up M 64 0 (zdr (M 64 0)) = M1 at F1 s1 T1
  have hc1 := hc.keep F1
  generalize hs1 : zdr (M 64 0) = S1 at s1
  have hby := Nat.mod_lt (zdn S1) (by omega : 0 < 4)
  simp only []
  rw [hc1.grd, zbs rfl, hc1.P.1.2.2.2.1]
  unfold zev
  rw [hs1]
  by_cases c0 : znp (z_P Z) = 0
  · rw [if_pos (by rw [c0]; rfl), if_pos (Or.inl c0)]
    exact Evs.pure ⟨s1, T1, F1⟩
  · rw [if_neg (zne 0 0 rfl c0 (by omega) (by omega))]
    by_cases c2 : 2 ≤ zdn S1 % 4
    · rw [if_neg (zne 0 0 rfl (by omega) (by omega) (by omega)), if_neg (zne 1 1 rfl (by omega) (by omega) (by omega)), if_pos (Or.inr c2)]
      exact Evs.pure ⟨s1, T1, F1⟩
    · rw [if_neg (show ¬ (znp (z_P Z) = 0 ∨ 2 ≤ zdn S1 % 4) by omega)]
      have dp : F_X2_draw (0 + 64) (nI (znp (z_P Z))) M1 = some (nI (zdn (zdr S1) % znp (z_P Z)), up M1 64 0 (zdr S1)) := by rw [← s1]; exact zc_draw (by omega) (by omega)
      have F2 := F1.tr (fz M1 (zdr S1))
      have s2 : (up M1 64 0 (zdr S1)) 64 0 = zdr S1 := by rw [up_app, if_pos ⟨rfl, rfl⟩]
      have T2 : CT (crow (up M1 64 0 (zdr S1)) 48) T := T1.off (fun a _ _ => up_ne (by omega))
      have hp := Nat.mod_lt (zdn (zdr S1)) (by omega : 0 < znp (z_P Z))
      by_cases c1 : zdn S1 % 4 = 0
      · rw [if_pos (by rw [c1]; rfl), if_pos c1, zbs rfl, hc1.P.1.2.2.2.1, dp, zbs rfl]
        generalize up M1 64 0 (zdr S1) = M2 at F2 s2 T2
        simp only []
        have ea : F_X8_addCoins (0 + 48) (nI (zdn (zdr S1) % znp (z_P Z))) 20 M2 = up M2 49 (zdn (zdr S1) % znp (z_P Z)) (imin 999 (t_c T (zdn (zdr S1) % znp (z_P Z)) + 20)) := by
          unfold F_X8_addCoins
          rw [zat_at (by omega) (by omega), zput_at (by omega) (by omega), show M2 (0 + 48 + 1) (zdn (zdr S1) % znp (z_P Z)) = _ from T2.c (by omega)]
        rw [ea]
        exact Evs.pure ⟨by rw [up_ne (by omega)]; exact s2, T2.tc (t := 48) (by omega), F2.tr ⟨fun a x => by rw [up_ne (by omega)], by rw [up_ne (by omega)]⟩⟩
      · rw [if_neg (zne 0 0 rfl c1 (by omega) (by omega)), if_pos (by rw [show zdn S1 % 4 = 1 by omega]; rfl), if_neg c1, zbs rfl, hc1.P.1.2.2.2.1, dp, zbs rfl]
        generalize up M1 64 0 (zdr S1) = M2 at F2 s2 T2
        simp only []
        have hc2 := hc.keep F2
        have hl := hP.2.2.2.2.2.2.2.1 _ hp
        rw [hc2.grd, zbs rfl, zat_at (by omega) (by omega), hc2.P.2.2.2.2.1 _ hp]
        have dl : F_X2_draw (0 + 64) (nI (p_ln (z_P Z) (zdn (zdr S1) % znp (z_P Z)))) M2 = some (nI (zdn (zdr (zdr S1)) % p_ln (z_P Z) (zdn (zdr S1) % znp (z_P Z))), up M2 64 0 (zdr (zdr S1))) := by
          have d0 := zc_draw (M := M2) (n := p_ln (z_P Z) (zdn (zdr S1) % znp (z_P Z))) (by omega) (by omega)
          rw [s2] at d0
          exact d0
        have hi := Nat.mod_lt (zdn (zdr (zdr S1))) (by omega : 0 < p_ln (z_P Z) (zdn (zdr S1) % znp (z_P Z)))
        have F3 := F2.tr (fz M2 (zdr (zdr S1)))
        have s3 : (up M2 64 0 (zdr (zdr S1))) 64 0 = zdr (zdr S1) := by rw [up_app, if_pos ⟨rfl, rfl⟩]
        have T3 : CT (crow (up M2 64 0 (zdr (zdr S1))) 48) T := T2.off (fun a _ _ => up_ne (by omega))
        rw [dl, zbs rfl]
        generalize up M2 64 0 (zdr (zdr S1)) = M3 at F3 s3 T3
        simp only []
        have hc3 := hc.keep F3
        have ds : F_X2_draw (0 + 64) (nI (zns (z_P Z))) M3 = some (nI (zdn (zdr (zdr (zdr S1))) % zns (z_P Z)), up M3 64 0 (zdr (zdr (zdr S1)))) := by rw [← s3]; exact zc_draw (by omega) (by omega)
        have hs := Nat.mod_lt (zdn (zdr (zdr (zdr S1)))) (by omega : 0 < zns (z_P Z))
        have F4 := F3.tr (fz M3 (zdr (zdr (zdr S1))))
        have s4 : (up M3 64 0 (zdr (zdr (zdr S1)))) 64 0 = zdr (zdr (zdr S1)) := by rw [up_app, if_pos ⟨rfl, rfl⟩]
        have T4 : CT (crow (up M3 64 0 (zdr (zdr (zdr S1)))) 48) T := T3.off (fun a _ _ => up_ne (by omega))
        rw [hc3.grd, zbs rfl, hc3.P.1.1, ds, zbs rfl]
        generalize up M3 64 0 (zdr (zdr (zdr S1))) = M4 at F4 s4 T4
        simp only []
        have em : F_X8_move (0 + 48) (nI (zdn (zdr S1) % znp (z_P Z))) (nI (zdn (zdr (zdr S1)) % p_ln (z_P Z) (zdn (zdr S1) % znp (z_P Z)))) (nI (zdn (zdr (zdr (zdr S1))) % zns (z_P Z))) M4 = up M4 51 (zdn (zdr S1) % znp (z_P Z)) (F_X11_walkWith (M4 51 (zdn (zdr S1) % znp (z_P Z))) (nI (zdn (zdr (zdr S1)) % p_ln (z_P Z) (zdn (zdr S1) % znp (z_P Z)))) (nI (zdn (zdr (zdr (zdr S1))) % zns (z_P Z)))) := by
          unfold F_X8_move
          rw [zat_at (by omega) (by omega), zput_at (by omega) (by omega)]
        rw [em]
        exact Evs.pure ⟨by rw [up_ne (by omega)]; exact s4, T4.tw (t := 48) (by omega) (by omega) (by omega), F4.tr ⟨fun a x => by rw [up_ne (by omega)], by rw [up_ne (by omega)]⟩⟩
theorem zc_years (hz : ZW Z) (hc : RC w Z M) {n : Nat} (sd x3 : Int32) (hn : n ≤ 40) : ∃ M1 r, F_X8_copy (0 + 48) (0 + 24 + 1) M = some M1 ∧ L_X11_years_40 0 (nI n) x3 FU 0 0 (F_X2_start (0 + 64) sd M1) = some r ∧ r.1 = (zyr (z_P Z) sd (b_t (z_B Z)) n).2.2 ∧ CT (crow r.2 48) (zyr (z_P Z) sd (b_t (z_B Z)) n).2.1 ∧ Fz w M r.2 := by
  have hP := hz.1
  have hw := hc.ww
  obtain ⟨hTW, hTC, h9⟩ := hz.2.1.1
  have key : ∀ j i f (M1 : Mem), i + j = n → j < f → M1 64 0 = (zyr (z_P Z) sd (b_t (z_B Z)) i).1 → CT (crow M1 48) (zyr (z_P Z) sd (b_t (z_B Z)) i).2.1 → Fz w M M1 →
      Evs (L_X11_years_40 0 (nI n) x3 f (zyr (z_P Z) sd (b_t (z_B Z)) i).2.2 (nI i) M1) (fun r => r.1 = (zyr (z_P Z) sd (b_t (z_B Z)) n).2.2 ∧ CT (crow r.2 48) (zyr (z_P Z) sd (b_t (z_B Z)) n).2.1 ∧ Fz w M r.2) := by
    intro j
    induction j with
    | zero =>
      intro i f M1 e hf a0 a1 a3
      obtain ⟨f, rfl⟩ : ∃ f', f = f' + 1 := ⟨f - 1, by omega⟩
      obtain rfl : i = n := by omega
      rw [L_X11_years_40, if_pos (nI_le (by omega) (by omega))]
      exact Evs.pure ⟨rfl, a1, a3⟩
    | succ j ih =>
      intro i f M1 e hf a0 a1 a3
      obtain ⟨f, rfl⟩ : ∃ f', f = f' + 1 := ⟨f - 1, by omega⟩
      obtain ⟨w1, w2⟩ := zyr_W hP hTW sd i (by omega)
      obtain ⟨v1, v2⟩ := zev_W hP w1 (zyr (z_P Z) sd (b_t (z_B Z)) i).1
      rw [L_X11_years_40, if_neg (nI_ge (by omega) (by omega)), nI_1]
      refine Evs.bind (zc_event hz (hc.keep a3) a1 w1) (fun M2 h2 => ?_)
      rw [a0] at h2
      obtain ⟨b0, b1, b3⟩ := h2
      have F2 := a3.tr b3
      have hc2 := hc.keep F2
      rw [hc2.grd, zbs rfl, show F_X2_draw (0 + 64) 10 M2 = some (nI (zdn (zdr (M2 64 0)) % 10), up M2 64 0 (zdr (M2 64 0))) from zc_draw (n := 10) (by omega) (by omega), zbs rfl, b0]
      have F3 : Fz w M (up M2 64 0 (zdr (zev (z_P Z) (zyr (z_P Z) sd (b_t (z_B Z)) i).1 (zyr (z_P Z) sd (b_t (z_B Z)) i).2.1).1)) := F2.tr ⟨fun a x => by rw [up_ne (by omega)], by rw [up_ne (by omega)]⟩
      have s3 : (up M2 64 0 (zdr (zev (z_P Z) (zyr (z_P Z) sd (b_t (z_B Z)) i).1 (zyr (z_P Z) sd (b_t (z_B Z)) i).2.1).1)) 64 0 = zdr (zev (z_P Z) (zyr (z_P Z) sd (b_t (z_B Z)) i).1 (zyr (z_P Z) sd (b_t (z_B Z)) i).2.1).1 := by rw [up_app, if_pos ⟨rfl, rfl⟩]
      have T3 : CT (crow (up M2 64 0 (zdr (zev (z_P Z) (zyr (z_P Z) sd (b_t (z_B Z)) i).1 (zyr (z_P Z) sd (b_t (z_B Z)) i).2.1).1)) 48) (zev (z_P Z) (zyr (z_P Z) sd (b_t (z_B Z)) i).1 (zyr (z_P Z) sd (b_t (z_B Z)) i).2.1).2 := b1.off (fun a _ _ => up_ne (by omega))
      generalize up M2 64 0 (zdr (zev (z_P Z) (zyr (z_P Z) sd (b_t (z_B Z)) i).1 (zyr (z_P Z) sd (b_t (z_B Z)) i).2.1).1) = M3 at F3 s3 T3
      have h10 := Nat.mod_lt (zdn (zdr (zev (z_P Z) (zyr (z_P Z) sd (b_t (z_B Z)) i).1 (zyr (z_P Z) sd (b_t (z_B Z)) i).2.1).1)) (by omega : 0 < 10)
      refine Evs.bind (zc_pass hP (hc.keep F3).P hw (c := 48) T3 v1 (by omega) h10) (fun M4 h4 => ?_)
      obtain ⟨S4, F4⟩ := h4
      rw [show M4 (0 + 52) 5 = _ from S4.2.2.2]
      exact ih (i + 1) f M4 (by omega) (by omega) (by rw [F4.1 64 (by omega) (by omega) (by omega) (by omega)]; exact s3) S4.1 (F3.tr (F4.z hw))
  obtain ⟨M1, e1, h1, h2, h3⟩ := zc_cp48 hc
  obtain ⟨r, e2, r1, r2, r3⟩ := key n 0 FU (up M1 64 0 sd) (by omega) (by unfold FU; omega) (by rw [up_app, if_pos ⟨rfl, rfl⟩]; rfl) (h1.off (fun a _ _ => up_ne (by omega))) (h2.tr ⟨fun a x => by rw [up_ne (by omega)], by rw [up_ne (by omega)]⟩)
  exact ⟨M1, r, e1, e2, r1, r2, r3⟩
end YEARS
