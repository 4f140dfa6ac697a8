/-! ===== the game: the model counts; the calls agree ===== -/
section MGAME2
variable {M : Mem} {w : Nat} {Z : Zs}
theorem zneglt : ∀ a, a < 16 → ∀ b, b < 16 → (((0 : Int32) - nI a < 0 - nI b) ↔ b < a) := by decide +kernel
theorem znegle : ∀ a, a < 16 → ∀ b, b < 16 → (((0 : Int32) - nI a ≤ 0 - nI b) ↔ b ≤ a) := by decide +kernel
theorem zx2 : ∀ k, k < 4 → nI k ^^^ 2 = nI (2 * (1 - k / 2) + k % 2) := by decide +kernel
theorem zx1 : ∀ k, k < 4 → nI k ^^^ 1 = nI (2 * (k / 2) + 1 - k % 2) := by decide +kernel
theorem zgm_f (P : Pl) (T : Tn) (p o C1 C2 : Nat) : ∀ k, k ≤ 4 → ((zgm P T p o C1 C2 k).1 = 0 ∧ (zgm P T p o C1 C2 k).2 = -1) ∨ ((zgm P T p o C1 C2 k).1 ≠ 0 ∧ ¬ (zgm P T p o C1 C2 k).2 = -1)
  | 0, _ => Or.inl ⟨rfl, rfl⟩
  | k + 1, hk => by
    have ih := zgm_f P T p o C1 C2 k (by omega)
    have nn : ∀ j, j < 100 → ¬ nI j = -1 := by decide +kernel
    rw [zgm]
    split
    · right
      refine ⟨Nat.succ_ne_zero _, ?_⟩
      show ¬ (if (zgm P T p o C1 C2 k).1 = 0 then nI (10 * (k / 2) + k % 2) else (zgm P T p o C1 C2 k).2) = -1
      split
      · exact nn _ (by omega)
      · rename_i h
        rcases ih with ih | ih
        · exact absurd ih.1 h
        · exact ih.2
    · exact ih
theorem zm_gm {P : Pl} {T : Tn} {p o : Nat} (x3 : Int32) (b1 b2 : Bool) (hv : ∀ k, k < 4 → M 99 (2 * k) = 0 - nI (zl1 P T p o k) ∧ M 99 (2 * k + 1) = 0 - nI (zl2 P T p o k)) : L_X12_game_76 67 x3 (bi b1) (bi b2) M FU 0 (-1) 0 = some (nI (zgm P T p o (if b1 then 2 else 1) (if b2 then 2 else 1) 4).1, (zgm P T p o (if b1 then 2 else 1) (if b2 then 2 else 1) 4).2) := by
  have y1 : ∀ k, k < 4 → zl1 P T p o k < 16 := fun k hk => by unfold zl1; rcases zlo9_or (zbu P T p o (k / 2) (k % 2)) p with e | e <;> rw [e] <;> omega
  have y2 : ∀ k, k < 4 → zl2 P T p o k < 16 := fun k hk => by unfold zl2; rcases zlo9_or (zbu P T p o (k / 2) (k % 2)) o with e | e <;> rw [e] <;> omega
  generalize hC1 : (if b1 then 2 else 1) = C1
  generalize hC2 : (if b2 then 2 else 1) = C2
  have q1 : (b1 = true ∧ C1 = 2) ∨ (b1 = false ∧ C1 = 1) := by cases b1 <;> simp_all
  have q2 : (b2 = true ∧ C2 = 2) ∨ (b2 = false ∧ C2 = 1) := by cases b2 <;> simp_all
  have key : ∀ j k f, k + j = 4 → j < f → L_X12_game_76 67 x3 (bi b1) (bi b2) M f (nI (zgm P T p o C1 C2 k).1) (zgm P T p o C1 C2 k).2 (nI k) = some (nI (zgm P T p o C1 C2 4).1, (zgm P T p o C1 C2 4).2) := by
    intro j
    induction j with
    | zero =>
      intro k f e hf
      obtain ⟨f, rfl⟩ : ∃ f', f = f' + 1 := ⟨f - 1, by omega⟩
      obtain rfl : k = 4 := by omega
      rw [L_X12_game_76, if_pos (by decide)]
    | succ j ih =>
      intro k f e hf
      obtain ⟨f, rfl⟩ : ∃ f', f = f' + 1 := ⟨f - 1, by omega⟩
      have hk : k < 4 := by omega
      have kd : nI k / 2 = nI (k / 2) := pk_div (a := k) (d := 2) (by omega) (by omega) (by omega)
      have km : irem (nI k) 2 = nI (k % 2) := pk_rem (a := k) (d := 2) (by omega) (by omega) (by omega)
      have e1 := ih (k + 1) f (by omega) (by omega)
      rw [zgm] at e1
      have hle := zgm_le P T p o C1 C2 k
      have hff := zgm_f P T p o C1 C2 k (by omega)
      have no : ¬ (k / 2 < C1 ∧ k % 2 < C2 ∧ zrest P T p o C1 C2 k = true) → L_X12_game_76 67 x3 (bi b1) (bi b2) M f (nI (zgm P T p o C1 C2 k).1) (zgm P T p o C1 C2 k).2 (nI k + 1) = some (nI (zgm P T p o C1 C2 4).1, (zgm P T p o C1 C2 4).2) := by
        intro h
        rw [if_neg h] at e1
        rw [nI_1]; exact e1
      have yes : (k / 2 < C1 ∧ k % 2 < C2 ∧ zrest P T p o C1 C2 k = true) → J_X12_game_j174 67 (L_X12_game_76 67 x3 (bi b1) (bi b2) M f) x3 (bi b1) (bi b2) (nI (zgm P T p o C1 C2 k).1) (zgm P T p o C1 C2 k).2 (nI k) M = some (nI (zgm P T p o C1 C2 4).1, (zgm P T p o C1 C2 4).2) := by
        intro h
        rw [if_pos h] at e1
        unfold J_X12_game_j174
        rw [kd, km, nI_1, nI_1]
        have e10 : (10 : Int32) * nI (k / 2) + nI (k % 2) = nI (10 * (k / 2) + k % 2) := by rw [show (10 : Int32) * nI (k / 2) = nI (10 * (k / 2)) from zmul 10 _, nI_add]
        rw [e10]
        rcases hff with ⟨z1, z2⟩ | ⟨z1, z2⟩
        · rw [if_pos z2]; rw [if_pos z1] at e1; exact e1
        · rw [if_neg z2]; rw [if_neg z1] at e1; exact e1
      have h139 : k / 2 < C1 → k % 2 < C2 → ¬ (C1 = 2 ∧ zl1 P T p o (2 * (1 - k / 2) + k % 2) < zl1 P T p o k) → J_X12_game_j139 67 (L_X12_game_76 67 x3 (bi b1) (bi b2) M f) x3 (bi b1) (bi b2) (nI (zgm P T p o C1 C2 k).1) (zgm P T p o C1 C2 k).2 (nI k) M = some (nI (zgm P T p o C1 C2 4).1, (zgm P T p o C1 C2 4).2) := by
        intro g1 g2 g3
        unfold J_X12_game_j139
        rcases q2 with ⟨u1, u2⟩ | ⟨u1, u2⟩
        · have i1 : (2 : Int32) * (nI k ^^^ 1) + 1 = nI (2 * (2 * (k / 2) + 1 - k % 2) + 1) := by rw [zx1 k hk, show (2 : Int32) * nI (2 * (k / 2) + 1 - k % 2) = nI (2 * (2 * (k / 2) + 1 - k % 2)) from zmul 2 _, nI_1]
          have i2 : (2 : Int32) * nI k + 1 = nI (2 * k + 1) := by rw [show (2 : Int32) * nI k = nI (2 * k) from zmul 2 _, nI_1]
          rw [if_neg (by rw [u1]; decide), i1, i2, zald (by omega) (by omega), zbs rfl, zald (by omega) (by omega), zbs rfl, show M (67 + 32) (2 * (2 * (k / 2) + 1 - k % 2) + 1) = _ from (hv (2 * (k / 2) + 1 - k % 2) (by omega)).2, show M (67 + 32) (2 * k + 1) = _ from (hv k hk).2]
          by_cases z : zl2 P T p o k ≤ zl2 P T p o (2 * (k / 2) + 1 - k % 2)
          · rw [if_pos ((znegle _ (y2 _ (by omega)) _ (y2 _ hk)).mpr z)]
            refine yes ⟨g1, g2, ?_⟩
            unfold zrest
            have z' : ¬ zl2 P T p o (2 * (k / 2) + 1 - k % 2) < zl2 P T p o k := by omega
            by_cases c : C1 = 2
            · have g4 : ¬ zl1 P T p o (2 * (1 - k / 2) + k % 2) < zl1 P T p o k := fun x => g3 ⟨c, x⟩
              simp [z', g4]
            · simp [z', c]
          · rw [if_neg (fun x => z ((znegle _ (y2 _ (by omega)) _ (y2 _ hk)).mp x))]
            refine no (fun h => ?_)
            have := h.2.2
            unfold zrest at this
            have z' : zl2 P T p o (2 * (k / 2) + 1 - k % 2) < zl2 P T p o k := by omega
            simp [z', u2] at this
        · rw [if_pos (by rw [u1]; decide)]
          refine yes ⟨g1, g2, ?_⟩
          unfold zrest
          by_cases c : C1 = 2
          · have g4 : ¬ zl1 P T p o (2 * (1 - k / 2) + k % 2) < zl1 P T p o k := fun x => g3 ⟨c, x⟩
            simp [u2, g4]
          · simp [u2, c]
      have h111 : k / 2 < C1 → k % 2 < C2 → J_X12_game_j111 67 (L_X12_game_76 67 x3 (bi b1) (bi b2) M f) x3 (bi b1) (bi b2) (nI (zgm P T p o C1 C2 k).1) (zgm P T p o C1 C2 k).2 (nI k) M = some (nI (zgm P T p o C1 C2 4).1, (zgm P T p o C1 C2 4).2) := by
        intro g1 g2
        unfold J_X12_game_j111
        rcases q1 with ⟨u1, u2⟩ | ⟨u1, u2⟩
        · have i1 : (2 : Int32) * (nI k ^^^ 2) = nI (2 * (2 * (1 - k / 2) + k % 2)) := by rw [zx2 k hk]; exact zmul 2 _
          have i2 : (2 : Int32) * nI k = nI (2 * k) := zmul 2 _
          rw [if_neg (by rw [u1]; decide), i1, i2, zald (by omega) (by omega), zbs rfl, zald (by omega) (by omega), zbs rfl, show M (67 + 32) (2 * (2 * (1 - k / 2) + k % 2)) = _ from (hv (2 * (1 - k / 2) + k % 2) (by omega)).1, show M (67 + 32) (2 * k) = _ from (hv k hk).1]
          by_cases z : zl1 P T p o (2 * (1 - k / 2) + k % 2) < zl1 P T p o k
          · rw [if_pos ((zneglt _ (y1 _ hk) _ (y1 _ (by omega))).mpr z)]
            refine no (fun h => ?_)
            have := h.2.2
            unfold zrest at this
            simp [z, u2] at this
          · rw [if_neg (fun x => z ((zneglt _ (y1 _ hk) _ (y1 _ (by omega))).mp x))]
            exact h139 g1 g2 (fun x => z x.2)
        · rw [if_pos (by rw [u1]; decide)]
          exact h139 g1 g2 (fun x => by omega)
      have h95 : k / 2 < C1 → J_X12_game_j95 67 (L_X12_game_76 67 x3 (bi b1) (bi b2) M f) x3 (bi b1) (bi b2) (nI (zgm P T p o C1 C2 k).1) (zgm P T p o C1 C2 k).2 (nI k) M = some (nI (zgm P T p o C1 C2 4).1, (zgm P T p o C1 C2 4).2) := by
        intro g1
        unfold J_X12_game_j95
        rw [km]
        by_cases z : k % 2 = 1
        · rw [if_pos (by rw [z]; rfl)]
          rcases q2 with ⟨u1, u2⟩ | ⟨u1, u2⟩
          · rw [if_neg (by rw [u1]; decide)]; exact h111 g1 (by omega)
          · rw [if_pos (by rw [u1]; decide)]; exact no (fun h => by omega)
        · rw [if_neg (zne 1 1 rfl z (by omega) (by omega))]; exact h111 g1 (by omega)
      rw [L_X12_game_76, if_neg (znge 4 4 rfl hk (by omega)), kd]
      by_cases z : k / 2 = 1
      · rw [if_pos (by rw [z]; rfl)]
        rcases q1 with ⟨u1, u2⟩ | ⟨u1, u2⟩
        · rw [if_neg (by rw [u1]; decide)]; exact h95 (by omega)
        · rw [if_pos (by rw [u1]; decide)]; exact no (fun h => by omega)
      · rw [if_neg (zne 1 1 rfl z (by omega) (by omega))]; exact h95 (by omega)
  exact key 4 0 FU (by omega) (by decide)
theorem zc_can (hc : RC w Z M) {p : Nat} (hp : p < 7) : F_X8_canBribe 25 (nI p) M = (!(bt (t_b (b_t (z_B Z))) p) && decide (¬ t_c (b_t (z_B Z)) p < 5)) := by
  unfold F_X8_canBribe
  rw [zc_brib (T := b_t (z_B Z)) (by omega) hc.T.b, zat_at (by omega) (by omega), hc.T.c (by omega)]
  by_cases e : bt (t_b (b_t (z_B Z))) p = true
  · rw [if_neg (by rw [e]; decide), e]; rfl
  · rw [if_pos (zbi.mpr (by simpa using e))]
    by_cases e2 : t_c (b_t (z_B Z)) p < 5
    · rw [if_pos e2]; simp [e2]
    · rw [if_neg e2]; simp [e, e2]
theorem zm_can (hm : RM Z M) {p : Nat} (hp : p < 7) : F_X12_canBribe 67 (nI p) M = some (!(bt (t_b (b_t (z_B Z))) p) && decide (¬ t_c (b_t (z_B Z)) p < 5)) := by
  unfold F_X12_canBribe
  rw [hm.T.b, zis (by omega)]
  by_cases e : bt (t_b (b_t (z_B Z))) p = true
  · rw [if_neg (by rw [e]; decide), e]; rfl
  · rw [if_pos (zbi.mpr (by simpa using e)), zald (by omega) (by omega), zbs rfl, hm.T.c (by omega)]
    by_cases e2 : t_c (b_t (z_B Z)) p < 5
    · rw [if_pos e2]; simp [e2]
    · rw [if_neg e2]; simp [e, e2]
theorem zbC (b : Bool) : (if bi b = 0 then (1 : Int32) else 2) = nI (if b then 2 else 1) := by cases b <;> rfl
end MGAME2
