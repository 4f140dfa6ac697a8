/-! ===== years, by the model ===== -/
section MYEARS
variable {M : Mem} {Z : Zs}
/-- what years change of the model's heap -/
def Gy (M M' : Mem) : Prop := (∀ a, a ≠ 67 → a ≠ 81 → a ≠ 82 → a ≠ 83 → (a < 85 ∨ 89 < a) → M' a = M a) ∧ ∀ k, k ≠ 29 → k ≠ 30 → k ≠ 32 → k ≠ 35 → k ≠ 39 → k ≠ 42 → k ≠ 54 → M' 67 k = M 67 k
theorem Gy.rf : Gy M M := ⟨fun _ _ _ _ _ _ => rfl, fun _ _ _ _ _ _ _ _ => rfl⟩
theorem Gy.tr {M1 M2 : Mem} (h : Gy M M1) (h2 : Gy M1 M2) : Gy M M2 := ⟨fun a x1 x2 x3 x4 x5 => (h2.1 a x1 x2 x3 x4 x5).trans (h.1 a x1 x2 x3 x4 x5), fun k x1 x2 x3 x4 x5 x6 x7 => (h2.2 k x1 x2 x3 x4 x5 x6 x7).trans (h.2 k x1 x2 x3 x4 x5 x6 x7)⟩
theorem Gm.y {M' : Mem} (h : Gm M M') : Gy M M' := ⟨fun a x1 x2 x3 _ x5 => h.1 a x1 x2 x3 x5, fun k x1 x2 x3 _ x5 x6 _ => h.2 k x1 x2 x3 x5 x6⟩
theorem Gy.s {v : Int32} : Gy M (up M 67 54 v) := ⟨fun a x1 _ _ _ _ => by rw [up_ne x1], fun k _ _ _ _ _ _ x7 => by rw [up_app, if_neg (fun z => x7 z.2)]⟩
theorem Gy.f {v : Int32} : Gy M (up M 67 35 v) := ⟨fun a x1 _ _ _ _ => by rw [up_ne x1], fun k _ _ _ x4 _ _ _ => by rw [up_app, if_neg (fun z => x4 z.2)]⟩
theorem Gy.c {j : Nat} {v : Int32} : Gy M (up M 81 j v) := ⟨fun a _ x2 _ _ _ => by rw [up_ne x2], fun k _ _ _ _ _ _ _ => by rw [up_ne (by omega)]⟩
theorem Gy.w {j : Nat} {v : Int32} : Gy M (up M 83 j v) := ⟨fun a _ _ _ x4 _ => by rw [up_ne x4], fun k _ _ _ _ _ _ _ => by rw [up_ne (by omega)]⟩
theorem MP.y {M' : Mem} {P : Pl} (C : MP M P) (h : Gy M M') : MP M' P := C.of (fun a _ _ => h.1 a (by omega) (by omega) (by omega) (by omega) (by omega))
theorem MT.s {T : Tn} {k : Nat} {v : Int32} (h : MT (mrow M) T) (hk : k < 29 ∨ 32 < k) : MT (mrow (up M 67 k v)) T := h.off (fun j _ _ => by rw [up_app, if_neg (by omega)]) (up_ne (by omega)) (up_ne (by omega)) (up_ne (by omega))
theorem zm_event {P : Pl} {T : Tn} (hP : PW P) (C : MP M P) (hT : MT (mrow M) T) (hW : TW9 P T) : Evs (F_X12_something 67 M) (fun M' => M' 67 54 = zdr (zev P (M 67 54) T).1 ∧ M' 67 35 = nI (zdn (zdr (zev P (M 67 54) T).1) % 10) ∧ MT (mrow M') (zev P (M 67 54) T).2 ∧ Gy M M') := by
  have h7 := hP.2.2.1
  have h8 := hP.1
  have fin : ∀ (N : Mem) (s : Int32) (T' : Tn), N 67 54 = s → MT (mrow N) T' → Gy M N → Evs (J_X12_something_j93 67 N) (fun M' => M' 67 54 = zdr s ∧ M' 67 35 = nI (zdn (zdr s) % 10) ∧ MT (mrow M') T' ∧ Gy M M') := by
    intro N s T' e hT G
    unfold J_X12_something_j93
    rw [show F_X12_drawOf 67 10 N = some (nI (zdn (zdr (N 67 54)) % 10), up N 67 54 (zdr (N 67 54))) from zm_draw (n := 10) (by omega) (by omega), zbs rfl, e]
    simp only []
    exact Evs.pure ⟨by rw [up_app, if_neg (by omega), up_app, if_pos ⟨rfl, rfl⟩], by rw [up_app, if_pos ⟨rfl, rfl⟩], (hT.s (k := 54) (by omega)).s (k := 35) (by omega), G.tr (Gy.s.tr Gy.f)⟩
  unfold F_X12_something
  rw [show F_X12_drawOf 67 4 M = some (nI (zdn (zdr (M 67 54)) % 4), up M 67 54 (zdr (M 67 54))) from zm_draw (n := 4) (by omega) (by omega), zbs rfl]
  have F1 : Gy M (up M 67 54 (zdr (M 67 54))) := Gy.s
  have s1 : (up M 67 54 (zdr (M 67 54))) 67 54 = zdr (M 67 54) := by rw [up_app, if_pos ⟨rfl, rfl⟩]
  have T1 : MT (mrow (up M 67 54 (zdr (M 67 54)))) T := hT.s (by omega)
  generalize up M 67 54 (zdr (M 67 54)) = M1 at F1 s1 T1
  generalize hs1 : zdr (M 67 54) = S1 at s1
  have hby := Nat.mod_lt (zdn S1) (by omega : 0 < 4)
  have C1 := C.y F1
  simp only []
  unfold zev
  rw [hs1]
  by_cases c2 : 2 ≤ zdn S1 % 4
  · rw [if_pos (zle 2 2 rfl c2 (by omega)), if_pos (Or.inr c2)]
    exact fin M1 _ _ s1 T1 F1
  · rw [if_neg (znge 2 2 rfl (by omega) (by omega)), show M1 (67 + 3) 3 = nI (znp P) from C1.1.2.2.2.1]
    by_cases c0 : znp P = 0
    · rw [if_pos (by rw [c0]; decide), if_pos (Or.inl c0)]
      exact fin M1 _ _ s1 T1 F1
    · rw [if_neg (nI_nle (by omega) (by omega)), if_neg (show ¬ (znp P = 0 ∨ 2 ≤ zdn S1 % 4) by omega)]
      have dp : F_X12_drawOf 67 (nI (znp P)) M1 = some (nI (zdn (zdr S1) % znp P), up M1 67 54 (zdr S1)) := by
        have d0 := zm_draw (M := M1) (n := znp P) (by omega) (by omega)
        rw [s1] at d0; exact d0
      have F2 : Gy M (up M1 67 54 (zdr S1)) := F1.tr Gy.s
      have s2 : (up M1 67 54 (zdr S1)) 67 54 = zdr S1 := by rw [up_app, if_pos ⟨rfl, rfl⟩]
      have T2 : MT (mrow (up M1 67 54 (zdr S1))) T := T1.s (by omega)
      have hp := Nat.mod_lt (zdn (zdr S1)) (by omega : 0 < znp P)
      rw [dp, zbs rfl]
      generalize up M1 67 54 (zdr S1) = M2 at F2 s2 T2
      have C2 := C.y F2
      simp only []
      unfold J_X12_something_j56
      by_cases c1 : zdn S1 % 4 = 0
      · rw [if_pos (by rw [c1]; rfl), if_pos c1, zald (by omega) (by omega), zbs rfl, zast (by omega) (by omega), zbs rfl, show M2 (67 + 14) (zdn (zdr S1) % znp P) = _ from T2.c (by omega), if_neg (zne 1 1 rfl (by omega) (by omega) (by omega))]
        exact fin _ _ _ (by rw [up_ne (by omega)]; exact s2) (T2.tc (by omega)) (F2.tr Gy.c)
      · have hl := hP.2.2.2.2.2.2.2.1 _ hp
        rw [if_neg (zne 0 0 rfl c1 (by omega) (by omega)), if_pos (by rw [show zdn S1 % 4 = 1 by omega]; rfl), if_neg c1, zald (by omega) (by omega), zbs rfl, C2.2.2.2.2.1 _ hp]
        have dl : F_X12_drawOf 67 (nI (p_ln P (zdn (zdr S1) % znp P))) M2 = some (nI (zdn (zdr (zdr S1)) % p_ln P (zdn (zdr S1) % znp P)), up M2 67 54 (zdr (zdr S1))) := by
          have d0 := zm_draw (M := M2) (n := p_ln P (zdn (zdr S1) % znp P)) (by omega) (by omega)
          rw [s2] at d0; exact d0
        have hi := Nat.mod_lt (zdn (zdr (zdr S1))) (by omega : 0 < p_ln P (zdn (zdr S1) % znp P))
        have F3 : Gy M (up M2 67 54 (zdr (zdr S1))) := F2.tr Gy.s
        have s3 : (up M2 67 54 (zdr (zdr S1))) 67 54 = zdr (zdr S1) := by rw [up_app, if_pos ⟨rfl, rfl⟩]
        have T3 : MT (mrow (up M2 67 54 (zdr (zdr S1)))) T := T2.s (by omega)
        rw [dl, zbs rfl]
        generalize up M2 67 54 (zdr (zdr S1)) = M3 at F3 s3 T3
        have C3 := C.y F3
        simp only []
        have ds : F_X12_drawOf 67 (nI (zns P)) M3 = some (nI (zdn (zdr (zdr (zdr S1))) % zns P), up M3 67 54 (zdr (zdr (zdr S1)))) := by
          have d0 := zm_draw (M := M3) (n := zns P) (by omega) (by omega)
          rw [s3] at d0; exact d0
        have hs := Nat.mod_lt (zdn (zdr (zdr (zdr S1)))) (by omega : 0 < zns P)
        have F4 : Gy M (up M3 67 54 (zdr (zdr (zdr S1)))) := F3.tr Gy.s
        have s4 : (up M3 67 54 (zdr (zdr (zdr S1)))) 67 54 = zdr (zdr (zdr S1)) := by rw [up_app, if_pos ⟨rfl, rfl⟩]
        have T4 : MT (mrow (up M3 67 54 (zdr (zdr (zdr S1))))) T := T3.s (by omega)
        rw [show M3 (67 + 3) 0 = nI (zns P) from C3.1.1, ds, zbs rfl]
        generalize up M3 67 54 (zdr (zdr (zdr S1))) = M4 at F4 s4 T4
        simp only []
        rw [z6, nI_add, zast (by omega) (by omega), zbs rfl]
        exact fin _ _ _ (by rw [up_ne (by omega)]; exact s4) (T4.tw (by omega) (by omega)) (F4.tr Gy.w)
theorem zm_years (hz : ZW Z) (hm : RM Z M) {n : Nat} (sd x3 : Int32) (hn : n ≤ 40) : ∃ M1 r M3, F_X12_pack 67 (67 + 23) 60 0 M = some M1 ∧ L_X12_years_61 67 (nI n) x3 FU 0 0 (up M1 67 54 sd) = some r ∧ r.1 = (zyr (z_P Z) sd (b_t (z_B Z)) n).2.2 ∧ MT (mrow r.2) (zyr (z_P Z) sd (b_t (z_B Z)) n).2.1 ∧ MP r.2 (z_P Z) ∧ TW9 (z_P Z) (zyr (z_P Z) sd (b_t (z_B Z)) n).2.1 ∧ F_X12_unpack 67 (67 + 23) 60 0 (up r.2 67 35 (-1)) = some M3 ∧ Gz M M3 ∧ M3 67 2 = M 67 2 := by
  have hP := hz.1
  obtain ⟨hTW, hTC, h9⟩ := hz.2.1.1
  obtain ⟨M1, e1, h1⟩ := zm_pack (M := M) (a := 90) (n := 60) (f := 0) (by omega) (by omega) (by omega)
  have c1 : ∀ b, b ≠ 90 → M1 b = M b := fun b hb => h1.cell (fun k _ => by simp [sloc]; omega)
  have P1 : MP M1 (z_P Z) := hm.P.of (fun a _ _ => c1 a (by omega))
  have T1 : MT (mrow M1) (b_t (z_B Z)) := by rw [mrow_of (M := M) (fun k _ _ => by rw [c1 _ (by omega)]) (c1 _ (by omega)) (c1 _ (by omega)) (c1 _ (by omega))]; exact hm.T
  have key : ∀ j i f (M2 : Mem), i + j = n → j < f → M2 67 54 = (zyr (z_P Z) sd (b_t (z_B Z)) i).1 → MT (mrow M2) (zyr (z_P Z) sd (b_t (z_B Z)) i).2.1 → Gy M1 M2 →
      Evs (L_X12_years_61 67 (nI n) x3 f (zyr (z_P Z) sd (b_t (z_B Z)) i).2.2 (nI i) M2) (fun r => r.1 = (zyr (z_P Z) sd (b_t (z_B Z)) n).2.2 ∧ MT (mrow r.2) (zyr (z_P Z) sd (b_t (z_B Z)) n).2.1 ∧ Gy M1 r.2) := by
    intro j
    induction j with
    | zero =>
      intro i f M2 e hf a0 a1 a2
      obtain ⟨f, rfl⟩ : ∃ f', f = f' + 1 := ⟨f - 1, by omega⟩
      obtain rfl : i = n := by omega
      rw [L_X12_years_61, if_pos (nI_le (by omega) (by omega))]
      exact Evs.pure ⟨rfl, a1, a2⟩
    | succ j ih =>
      intro i f M2 e hf a0 a1 a2
      obtain ⟨f, rfl⟩ : ∃ f', f = f' + 1 := ⟨f - 1, by omega⟩
      obtain ⟨w1, w2⟩ := zyr_W hP hTW sd i (by omega)
      obtain ⟨v1, v2⟩ := zev_W hP w1 (zyr (z_P Z) sd (b_t (z_B Z)) i).1
      rw [L_X12_years_61, if_neg (nI_ge (by omega) (by omega)), nI_1]
      refine Evs.bind (zm_event hP (P1.y a2) a1 w1) (fun M3 h3 => ?_)
      rw [a0] at h3
      obtain ⟨b0, b1, b2, b3⟩ := h3
      have h10 := Nat.mod_lt (zdn (zdr (zev (z_P Z) (zyr (z_P Z) sd (b_t (z_B Z)) i).1 (zyr (z_P Z) sd (b_t (z_B Z)) i).2.1).1)) (by omega : 0 < 10)
      refine Evs.bind (zm_night hP (P1.y (a2.tr b3)) b2 v1 (zm_fogx b1 h10) h10) (fun M4 h4 => ?_)
      obtain ⟨S4, l4, G4⟩ := h4
      rw [S4.2.2.2]
      exact ih (i + 1) f M4 (by omega) (by omega) (by rw [G4.2 54 (by omega) (by omega) (by omega) (by omega) (by omega)]; exact b0) S4.1 ((a2.tr b3).tr G4.y)
  obtain ⟨r, e2, r1, r2, r3⟩ := key n 0 FU (up M1 67 54 sd) (by omega) (by unfold FU; omega) (by rw [up_app, if_pos ⟨rfl, rfl⟩]; rfl) (T1.s (by omega)) Gy.s
  obtain ⟨M3, e3, h4⟩ := zm_unpack (M := up r.2 67 35 (-1)) (a := 90) (n := 60) (f := 0) (by omega) (by omega) (by omega)
  have c3 : ∀ b, b ≠ 67 → b ≠ 81 → b ≠ 82 → b ≠ 83 → M3 b = (up r.2 67 35 (-1)) b := fun b x1 x2 x3 x4 => h4.cell (fun k _ => by have := mloc_cell k; omega)
  have c4 : ∀ k, (k < 29 ∨ 32 < k) → M3 67 k = (up r.2 67 35 (-1)) 67 k := fun k hk => h4.2 67 k (fun i hi e => by unfold mloc at e; (repeat' split at e) <;> simp at e <;> omega)
  have n35 : M 67 35 = -1 := hm.2.2.2.2.2.1
  refine ⟨M1, r, M3, e1, e2, r1, r2, P1.y r3, (zyr_W hP hTW sd n (by omega)).1, e3, ⟨fun b x1 x2 x3 x4 x5 x6 x7 x8 x9 => ?_, fun k hk => ?_, fun k hk => ?_⟩, ?_⟩
  · rw [c3 b x1 x2 x3 x4, up_ne x1, r3.1 b x1 x2 x3 x4 (by omega), c1 b (by omega)]
  · rw [c4 k (by omega), up_app]
    by_cases q : k = 35
    · rw [if_pos ⟨rfl, q⟩, q, n35]
    · rw [if_neg (fun z => q z.2), r3.2 k (by omega) (by omega) (by omega) q (by omega) (by omega) (by omega), c1 67 (by omega)]
  · rw [← mloc_row M3 k, h4.1 k hk trivial]
    show (up r.2 67 35 (-1)) 90 (0 + k) = _
    rw [up_ne (by omega), r3.1 90 (by omega) (by omega) (by omega) (by omega) (by omega)]
    exact h1.1 k hk trivial
  · rw [c4 2 (by omega), up_app, if_neg (by omega), r3.2 2 (by omega) (by omega) (by omega) (by omega) (by omega) (by omega) (by omega), c1 67 (by omega)]
end MYEARS
