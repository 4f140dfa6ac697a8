/-! ===== the game: who rests; the model ===== -/
section MGAME
variable {M : Mem} {w : Nat} {Z : Zs}
theorem zc_rest {P : Pl} {T : Tn} {p o C1 C2 c r : Nat} (h1 : C1 ≤ 2) (h2 : C2 ≤ 2) (hc : c < C1) (hr : r < C2) (hv : ∀ c r, c < C1 → r < C2 → M 65 (2 * c + r) = nI (zl1 P T p o (2 * c + r)) ∧ M 66 (2 * c + r) = nI (zl2 P T p o (2 * c + r))) : F_X11_rests 0 (nI c) (nI r) (nI C1) (nI C2) M = zrest P T p o C1 C2 (2 * c + r) := by
  have b1 : ∀ k, k < 4 → zl1 P T p o k ≤ 15 := fun k hk => by unfold zl1; rcases zlo9_or (zbu P T p o (k / 2) (k % 2)) p with e | e <;> rw [e] <;> omega
  have b2 : ∀ k, k < 4 → zl2 P T p o k ≤ 15 := fun k hk => by unfold zl2; rcases zlo9_or (zbu P T p o (k / 2) (k % 2)) o with e | e <;> rw [e] <;> omega
  have d1 : (2 * c + r) / 2 = c := by omega
  have d2 : (2 * c + r) % 2 = r := by omega
  have i1 : (2 : Int32) * nI c + nI r = nI (2 * c + r) := by rw [show (2 : Int32) * nI c = nI (2 * c) from zmul 2 c, nI_add]
  have i2 : (2 : Int32) * (1 - nI c) + nI r = nI (2 * (1 - c) + r) := by
    rw [show (1 : Int32) - nI c = nI (1 - c) from zsub (a := 1) (by omega), show (2 : Int32) * nI (1 - c) = nI (2 * (1 - c)) from zmul 2 _, nI_add]
  have i3 : (2 : Int32) * nI c + 1 - nI r = nI (2 * c + 1 - r) := by
    rw [show (2 : Int32) * nI c = nI (2 * c) from zmul 2 c, nI_1, zsub (by omega)]
  have second : J_X11_rests_j40 0 (nI c) (nI r) (nI C2) (nI (2 * c + r)) M = !(decide (C2 = 2) && decide (zl2 P T p o (2 * c + 1 - r) < zl2 P T p o (2 * c + r))) := by
    unfold J_X11_rests_j40
    by_cases e : C2 = 2
    · rw [if_neg (show ¬ nI C2 < 2 from zngl2 2 2 rfl (by omega) (by omega)), i3, zat_at (by omega) (by omega), zat_at (by omega) (by omega)]
      have q := (hv c (1 - r) hc (by omega)).2
      rw [show 2 * c + (1 - r) = 2 * c + 1 - r by omega] at q
      rw [show M (0 + 66) (2 * c + 1 - r) = _ from q, show M (0 + 66) (2 * c + r) = _ from (hv c r hc hr).2]
      have x1 := b2 (2 * c + 1 - r) (by omega)
      have x2 := b2 (2 * c + r) (by omega)
      by_cases z : zl2 P T p o (2 * c + 1 - r) < zl2 P T p o (2 * c + r)
      · rw [if_pos (nI_lt z (by omega))]; simp [e, z]
      · rw [if_neg (nI_nlt (by omega) (by omega))]; simp [e, z]
    · rw [if_pos (show nI C2 < 2 from nI_lt (b := 2) (by omega) (by omega))]; simp [e]
  unfold F_X11_rests zrest
  rw [i1, second, d1, d2]
  by_cases e : C1 = 2
  · rw [if_pos (by rw [e]; rfl), i2, zat_at (by omega) (by omega), zat_at (by omega) (by omega), show M (0 + 65) (2 * (1 - c) + r) = _ from (hv (1 - c) r (by omega) hr).1, show M (0 + 65) (2 * c + r) = _ from (hv c r hc hr).1]
    have x1 := b1 (2 * (1 - c) + r) (by omega)
    have x2 := b1 (2 * c + r) (by omega)
    by_cases z : zl1 P T p o (2 * (1 - c) + r) < zl1 P T p o (2 * c + r)
    · rw [if_neg (nI_ge z (by omega))]; simp [e, z]
    · rw [if_pos (nI_le (by omega) (by omega))]; simp [e, z]
  · rw [if_neg (zne 2 2 rfl e (by omega) (by omega))]; simp [e]
theorem zgm_le (P : Pl) (T : Tn) (p o C1 C2 : Nat) : ∀ k, (zgm P T p o C1 C2 k).1 ≤ k
  | 0 => Nat.le_refl _
  | k + 1 => by
    have := zgm_le P T p o C1 C2 k
    rw [zgm]
    split
    · show _ + 1 ≤ _; omega
    · omega
theorem zc_gm {P : Pl} {T : Tn} {p o C1 C2 : Nat} (x3 : Int32) (h1 : C1 ≤ 2) (h2 : C2 ≤ 2) (h01 : 1 ≤ C1) (h02 : 1 ≤ C2) (hv : ∀ c r, c < C1 → r < C2 → M 65 (2 * c + r) = nI (zl1 P T p o (2 * c + r)) ∧ M 66 (2 * c + r) = nI (zl2 P T p o (2 * c + r))) : L_X11_game_92 0 x3 (nI C1) (nI C2) M FU 0 (-1) 0 = some (nI (zgm P T p o C1 C2 4).1, (zgm P T p o C1 C2 4).2) := by
  have skip : ∀ k, ¬ (k / 2 < C1 ∧ k % 2 < C2) → zgm P T p o C1 C2 (k + 1) = zgm P T p o C1 C2 k := fun k h => by rw [zgm, if_neg (fun z => h ⟨z.1, z.2.1⟩)]
  have inner : ∀ c, c < C1 → ∀ j r f, r + j = C2 → j < f → L_X11_game_102 0 x3 (nI C1) (nI C2) (nI c) M f (nI (zgm P T p o C1 C2 (2 * c + r)).1) (zgm P T p o C1 C2 (2 * c + r)).2 (nI r) = some (nI (zgm P T p o C1 C2 (2 * c + 2)).1, (zgm P T p o C1 C2 (2 * c + 2)).2) := by
    intro c hc j
    induction j with
    | zero =>
      intro r f e hf
      obtain ⟨f, rfl⟩ : ∃ f', f = f' + 1 := ⟨f - 1, by omega⟩
      obtain rfl : r = C2 := by omega
      rw [L_X11_game_102, if_pos (nI_le (by omega) (by omega))]
      by_cases q : r = 2
      · rw [q]
      · have r1 : r = 1 := by omega
        subst r1
        rw [show 2 * c + 2 = 2 * c + 1 + 1 by omega, skip (2 * c + 1) (by omega)]
    | succ j ih =>
      intro r f e hf
      obtain ⟨f, rfl⟩ : ∃ f', f = f' + 1 := ⟨f - 1, by omega⟩
      have e1 := ih (r + 1) f (by omega) (by omega)
      rw [← Nat.add_assoc, zgm] at e1
      have dd1 : (2 * c + r) / 2 = c := by omega
      have dd2 : (2 * c + r) % 2 = r := by omega
      have hle := zgm_le P T p o C1 C2 (2 * c + r)
      rw [L_X11_game_102, if_neg (nI_ge (by omega) (by omega)), zc_rest (P := P) (T := T) (p := p) (o := o) h1 h2 hc (by omega) hv, nI_1]
      by_cases q : zrest P T p o C1 C2 (2 * c + r) = true
      · rw [if_neg (by rw [q]; decide)]
        rw [if_pos ⟨by omega, by omega, q⟩, dd1, dd2] at e1
        rw [nI_1]
        have e10 : (10 : Int32) * nI c + nI r = nI (10 * c + r) := by rw [show (10 : Int32) * nI c = nI (10 * c) from zmul 10 c, nI_add]
        rw [e10]
        have ei : (if nI (zgm P T p o C1 C2 (2 * c + r)).1 = 0 then nI (10 * c + r) else (zgm P T p o C1 C2 (2 * c + r)).2) = (if (zgm P T p o C1 C2 (2 * c + r)).1 = 0 then nI (10 * c + r) else (zgm P T p o C1 C2 (2 * c + r)).2) := by
          by_cases z : (zgm P T p o C1 C2 (2 * c + r)).1 = 0
          · rw [if_pos (by rw [z]; rfl), if_pos z]
          · rw [if_neg (zne 0 0 rfl z (by omega) (by omega)), if_neg z]
        rw [ei]
        exact e1
      · rw [if_pos (zbi.mpr (by simpa using q))]
        rw [if_neg (fun z => q z.2.2)] at e1
        exact e1
  have outer : ∀ j c f, c + j = C1 → j < f → L_X11_game_92 0 x3 (nI C1) (nI C2) M f (nI (zgm P T p o C1 C2 (2 * c)).1) (zgm P T p o C1 C2 (2 * c)).2 (nI c) = some (nI (zgm P T p o C1 C2 4).1, (zgm P T p o C1 C2 4).2) := by
    intro j
    induction j with
    | zero =>
      intro c f e hf
      obtain ⟨f, rfl⟩ : ∃ f', f = f' + 1 := ⟨f - 1, by omega⟩
      obtain rfl : c = C1 := by omega
      rw [L_X11_game_92, if_pos (nI_le (by omega) (by omega))]
      by_cases q : c = 2
      · rw [q]
      · have r1 : c = 1 := by omega
        subst r1
        rw [show (4 : Nat) = 2 * 1 + 1 + 1 from rfl, skip (2 * 1 + 1) (by omega), skip (2 * 1) (by omega)]
    | succ j ih =>
      intro c f e hf
      obtain ⟨f, rfl⟩ : ∃ f', f = f' + 1 := ⟨f - 1, by omega⟩
      have e2 := inner c (by omega) C2 0 FU (by omega) (by unfold FU; omega)
      rw [L_X11_game_92, if_neg (nI_ge (by omega) (by omega)), zbs (show L_X11_game_102 0 x3 (nI C1) (nI C2) (nI c) M FU (nI (zgm P T p o C1 C2 (2 * c)).1) (zgm P T p o C1 C2 (2 * c)).2 0 = _ from e2), nI_1]
      have e3 := ih (c + 1) f (by omega) (by omega)
      rw [show 2 * (c + 1) = 2 * c + 2 by omega] at e3
      exact e3
  exact outer C1 0 FU (by omega) (by unfold FU; omega)
/-- the model plays all four couples -/
theorem zm_gains (hz : ZW Z) (hm : RM Z M) {p o : Nat} (hp : p < znp (z_P Z)) (ho : o < znp (z_P Z)) : ∃ M', F_X12_tellGains 67 (nI p) (nI o) M = some M' ∧ (∀ k, k < 4 → M' 99 (2 * k) = 0 - nI (zl1 (z_P Z) (b_t (z_B Z)) p o k) ∧ M' 99 (2 * k + 1) = 0 - nI (zl2 (z_P Z) (b_t (z_B Z)) p o k)) ∧ Gz M M' ∧ M' 67 2 = M 67 2 := by
  have hP := hz.1
  have h7 := hP.2.2.1
  obtain ⟨hTW, hTC, h9⟩ := hz.2.1.1
  have hf9 := zfog_le hP (t_n (b_t (z_B Z)))
  obtain ⟨M1, e1, h1⟩ := zm_pack (M := M) (a := 90) (n := 60) (f := 0) (by omega) (by omega) (by omega)
  have c1 : ∀ b, b ≠ 90 → M1 b = M b := fun b hb => h1.cell (fun k _ => by simp [sloc]; omega)
  have row : ∀ k, k < 60 → M1 90 k = mrow M k := fun k hk => by have := h1.1 k hk trivial; simpa [sloc] using this
  have G1 : Gz M M1 := ⟨fun b x1 x2 x3 x4 x5 x6 x7 x8 x9 => c1 b (by omega), fun k _ => by rw [c1 67 (by omega)], fun k _ => by rw [mrow_of (M := M) (fun k _ _ => by rw [c1 _ (by omega)]) (c1 _ (by omega)) (c1 _ (by omega)) (c1 _ (by omega))]⟩
  have key : ∀ j k f (M2 : Mem), k + j = 4 → j < f → Gz M M2 → M2 90 = M1 90 → M2 67 2 = M 67 2 → (∀ i, i < k → M2 99 (2 * i) = 0 - nI (zl1 (z_P Z) (b_t (z_B Z)) p o i) ∧ M2 99 (2 * i + 1) = 0 - nI (zl2 (z_P Z) (b_t (z_B Z)) p o i)) →
      Evs (L_X12_tellGains_11 67 (nI p) (nI o) f (nI k) M2) (fun M' => (∀ k, k < 4 → M' 99 (2 * k) = 0 - nI (zl1 (z_P Z) (b_t (z_B Z)) p o k) ∧ M' 99 (2 * k + 1) = 0 - nI (zl2 (z_P Z) (b_t (z_B Z)) p o k)) ∧ Gz M M' ∧ M' 67 2 = M 67 2) := by
    intro j
    induction j with
    | zero =>
      intro k f M2 e hf G e90 e2 a
      obtain ⟨f, rfl⟩ : ∃ f', f = f' + 1 := ⟨f - 1, by omega⟩
      obtain rfl : k = 4 := by omega
      rw [L_X12_tellGains_11, if_pos (by decide)]
      exact Evs.pure ⟨a, G, e2⟩
    | succ j ih =>
      intro k f M2 e hf G e90 e2 a
      obtain ⟨f, rfl⟩ : ∃ f', f = f' + 1 := ⟨f - 1, by omega⟩
      have hm2 := hm.keep G
      have kd : nI k / 2 = nI (k / 2) := pk_div (a := k) (d := 2) (by omega) (by omega) (by omega)
      have km : irem (nI k) 2 = nI (k % 2) := pk_rem (a := k) (d := 2) (by omega) (by omega) (by omega)
      have ck : k / 2 < 2 := by omega
      have rk : k % 2 < 2 := by omega
      obtain ⟨w1, w2⟩ := zcp_W (P := z_P Z) hTW (c := k / 2) (r := k % 2) hp ho
      -- from the bribes on
      have go : ∀ N : Mem, MT (mrow N) (zcp (b_t (z_B Z)) p o (k / 2) (k % 2)) → (∀ a, a ≠ 67 → a ≠ 81 → N a = M2 a) → (∀ k, k ≠ 32 → N 67 k = M2 67 k) → Evs (J_X12_tellGains_j40 67 (L_X12_tellGains_11 67 (nI p) (nI o) f) (nI p) (nI o) (nI k) N) (fun M' => (∀ k, k < 4 → M' 99 (2 * k) = 0 - nI (zl1 (z_P Z) (b_t (z_B Z)) p o k) ∧ M' 99 (2 * k + 1) = 0 - nI (zl2 (z_P Z) (b_t (z_B Z)) p o k)) ∧ Gz M M' ∧ M' 67 2 = M 67 2) := by
        intro N hN n1 n2
        unfold J_X12_tellGains_j40
        have PN : MP N (z_P Z) := hm2.P.of (fun a _ _ => n1 a (by omega) (by omega))
        refine Evs.bind (zm_night hP PN hN w1 (fog := zfog (z_P Z) (t_n (b_t (z_B Z)))) (by
          have := zm_fog hP PN hN (by rw [w2]; omega) (by rw [n2 35 (by omega)]; exact hm2.2.2.2.2.2.1)
          rw [w2] at this; exact this) (by omega)) (fun M4 h4 => ?_)
        obtain ⟨S4, l4, G4⟩ := h4
        have i1 : (2 : Int32) * nI k = nI (2 * k) := zmul 2 k
        rw [kd, km, zm_loss (B := zbu (z_P Z) (b_t (z_B Z)) p o (k / 2) (k % 2)) (S4.2.1 p (by omega)) (by omega) ck, zbs rfl, i1, nI_1, zast (by omega) (by omega), zbs rfl, zm_loss (B := zbu (z_P Z) (b_t (z_B Z)) p o (k / 2) (k % 2)) (by rw [up_ne (by omega)]; exact S4.2.1 o (by omega)) (by omega) rk, zbs rfl, zast (by omega) (by omega), zbs rfl]
        have g99 : ∀ j, j ≠ 2 * k → j ≠ 2 * k + 1 → (up (up M4 (67 + 32) (2 * k) (0 - nI (5 * (k / 2) + zlo9 (zbu (z_P Z) (b_t (z_B Z)) p o (k / 2) (k % 2)) p))) (67 + 32) (2 * k + 1) (0 - nI (5 * (k % 2) + zlo9 (zbu (z_P Z) (b_t (z_B Z)) p o (k / 2) (k % 2)) o))) 99 j = M2 99 j := fun j x1 x2 => by
          rw [up_app, if_neg (fun z => x2 z.2), up_app, if_neg (fun z => x1 z.2), G4.1 99 (by omega) (by omega) (by omega) (by omega), n1 99 (by omega) (by omega)]
        have v1 : (up (up M4 (67 + 32) (2 * k) (0 - nI (5 * (k / 2) + zlo9 (zbu (z_P Z) (b_t (z_B Z)) p o (k / 2) (k % 2)) p))) (67 + 32) (2 * k + 1) (0 - nI (5 * (k % 2) + zlo9 (zbu (z_P Z) (b_t (z_B Z)) p o (k / 2) (k % 2)) o))) 99 (2 * k) = 0 - nI (zl1 (z_P Z) (b_t (z_B Z)) p o k) := by rw [up_app, if_neg (by omega), up_app, if_pos ⟨rfl, rfl⟩]; rfl
        have v2 : (up (up M4 (67 + 32) (2 * k) (0 - nI (5 * (k / 2) + zlo9 (zbu (z_P Z) (b_t (z_B Z)) p o (k / 2) (k % 2)) p))) (67 + 32) (2 * k + 1) (0 - nI (5 * (k % 2) + zlo9 (zbu (z_P Z) (b_t (z_B Z)) p o (k / 2) (k % 2)) o))) 99 (2 * k + 1) = 0 - nI (zl2 (z_P Z) (b_t (z_B Z)) p o k) := by rw [up_app, if_pos ⟨rfl, rfl⟩]; rfl
        have ga : ∀ a, a ≠ 99 → (up (up M4 (67 + 32) (2 * k) (0 - nI (5 * (k / 2) + zlo9 (zbu (z_P Z) (b_t (z_B Z)) p o (k / 2) (k % 2)) p))) (67 + 32) (2 * k + 1) (0 - nI (5 * (k % 2) + zlo9 (zbu (z_P Z) (b_t (z_B Z)) p o (k / 2) (k % 2)) o))) a = M4 a := fun a ha => by rw [up_ne ha, up_ne ha]
        generalize up (up M4 (67 + 32) (2 * k) (0 - nI (5 * (k / 2) + zlo9 (zbu (z_P Z) (b_t (z_B Z)) p o (k / 2) (k % 2)) p))) (67 + 32) (2 * k + 1) (0 - nI (5 * (k % 2) + zlo9 (zbu (z_P Z) (b_t (z_B Z)) p o (k / 2) (k % 2)) o)) = M5 at g99 v1 v2 ga
        obtain ⟨M6, e6, h6⟩ := zm_unpack (M := M5) (a := 90) (n := 60) (f := 0) (by omega) (by omega) (by omega)
        have c6 : ∀ b, b ≠ 67 → b ≠ 81 → b ≠ 82 → b ≠ 83 → M6 b = M5 b := fun b x1 x2 x3 x4 => h6.cell (fun k _ => by have := mloc_cell k; omega)
        have f6 : ∀ k, (k < 29 ∨ 32 < k) → M6 67 k = M5 67 k := fun k hk => h6.2 67 k (fun i hi e => by unfold mloc at e; (repeat' split at e) <;> simp at e <;> omega)
        have e590 : M5 90 = M1 90 := by rw [ga 90 (by omega), G4.1 90 (by omega) (by omega) (by omega) (by omega), n1 90 (by omega) (by omega), e90]
        have G6 : Gz M M6 := by
          refine ⟨fun b x1 x2 x3 x4 x5 x6 x7 x8 x9 => ?_, fun k hk => ?_, fun k hk => ?_⟩
          · rw [c6 b x1 x2 x3 x4, ga b x9, G4.1 b x1 x2 x3 (by omega), n1 b x1 x2]; exact G.1 b x1 x2 x3 x4 x5 x6 x7 x8 x9
          · rw [f6 k (by omega), ga 67 (by omega), G4.2 k (by omega) (by omega) (by omega) (by omega) (by omega), n2 k (by omega)]; exact G.2.1 k hk
          · rw [← mloc_row M6 k, h6.1 k hk trivial]
            show M5 90 (0 + k) = _
            rw [e590, Nat.zero_add]; exact row k hk
        rw [zbs (show F_X12_unpack 67 (67 + 23) 60 0 M5 = some M6 from e6), nI_1]
        refine ih (k + 1) f M6 (by omega) (by omega) G6 (by rw [c6 90 (by omega) (by omega) (by omega) (by omega), e590]) (by rw [f6 2 (by omega), ga 67 (by omega), G4.2 2 (by omega) (by omega) (by omega) (by omega) (by omega), n2 2 (by omega)]; exact e2) (fun i hi => ?_)
        rw [c6 99 (by omega) (by omega) (by omega) (by omega)]
        by_cases q : i = k
        · rw [q]; exact ⟨v1, v2⟩
        · rw [g99 _ (by omega) (by omega), g99 _ (by omega) (by omega)]; exact a i (by omega)
      have go2 : ∀ N : Mem, MT (mrow N) (if k / 2 = 1 then zbr (b_t (z_B Z)) p else b_t (z_B Z)) → (∀ a, a ≠ 67 → a ≠ 81 → N a = M2 a) → (∀ k, k ≠ 32 → N 67 k = M2 67 k) → Evs (J_X12_tellGains_j28 67 (L_X12_tellGains_11 67 (nI p) (nI o) f) (nI p) (nI o) (nI k) N) (fun M' => (∀ k, k < 4 → M' 99 (2 * k) = 0 - nI (zl1 (z_P Z) (b_t (z_B Z)) p o k) ∧ M' 99 (2 * k + 1) = 0 - nI (zl2 (z_P Z) (b_t (z_B Z)) p o k)) ∧ Gz M M' ∧ M' 67 2 = M 67 2) := by
        intro N hN n1 n2
        unfold J_X12_tellGains_j28
        rw [km]
        by_cases q : k % 2 = 1
        · rw [if_pos (by rw [q]; rfl)]
          obtain ⟨N2, b1, b2, b3, b4⟩ := hN.br (p := o) (by omega)
          rw [zbs b1]
          exact go N2 (by unfold zcp; rw [if_pos q]; exact b2) (fun a x1 x2 => (b3 a x1 x2).trans (n1 a x1 x2)) (fun k hk => (b4 k hk).trans (n2 k hk))
        · rw [if_neg (zne 1 1 rfl q (by omega) (by omega))]
          exact go N (by unfold zcp; rw [if_neg q]; exact hN) n1 n2
      rw [L_X12_tellGains_11, if_neg (znge 4 4 rfl (by omega) (by omega)), kd]
      by_cases q : k / 2 = 1
      · rw [if_pos (by rw [q]; rfl)]
        obtain ⟨N2, b1, b2, b3, b4⟩ := hm2.T.br (p := p) (by omega)
        rw [zbs b1]
        exact go2 N2 (by rw [if_pos q]; exact b2) b3 b4
      · rw [if_neg (zne 1 1 rfl q (by omega) (by omega))]
        exact go2 M2 (by rw [if_neg q]; exact hm2.T) (fun _ _ _ => rfl) (fun _ _ => rfl)
  obtain ⟨M', e, a, G, e2⟩ := key 4 0 FU M1 (by omega) (by decide) G1 rfl (by rw [c1 67 (by omega)]) (fun i hi => by omega)
  refine ⟨M', ?_, a, G, e2⟩
  unfold F_X12_tellGains
  rw [zbs (show F_X12_pack 67 (67 + 23) 60 0 M = some M1 from e1)]
  exact zbs e
end MGAME
