/-! ===== does what one was told hold? ===== -/
def yal (f : Nat → Bool) : Nat → Bool
  | 0 => true
  | n + 1 => yal f n && f n
theorem yal_iff (f : Nat → Bool) : ∀ n, yal f n = true ↔ ∀ i, i < n → f i = true
  | 0 => ⟨fun _ i h => by omega, fun _ => rfl⟩
  | n + 1 => by
    rw [yal, Bool.and_eq_true, yal_iff f n]
    refine ⟨fun h i hi => ?_, fun h => ⟨fun i hi => h i (by omega), h n (by omega)⟩⟩
    by_cases e : i = n
    · subst e; exact h.2
    · exact h.1 i (by omega)
theorem yal_cong {f g : Nat → Bool} : ∀ n, (∀ i, i < n → f i = g i) → yal f n = yal g n
  | 0, _ => rfl
  | n + 1, h => by rw [yal, yal, yal_cong n (fun i hi => h i (by omega)), h n (by omega)]
/-- the i-th telling holds -/
def yhd (P : Pl) (T : Tn) (B : Bk) (i : Nat) : Bool := (!(zsk P T (t_w T (b_q B i)) (b_i B i) (b_q B i) == 0)) == b_s B i
/-- all that was told holds -/
def yha (P : Pl) (T : Tn) (B : Bk) : Bool := yal (yhd P T B) (b_m B)
/-- all that was told of the first k nights holds -/
def yhn (P : Pl) (T : Tn) (B : Bk) : Nat → Bool
  | 0 => true
  | k + 1 => yhn P T B k && yal (fun i => !(b_i B i == k + 1) || yhd P T B i) (b_m B)
theorem yhn_iff (P : Pl) (T : Tn) (B : Bk) : ∀ k, yhn P T B k = true ↔ ∀ i, i < b_m B → 1 ≤ b_i B i → b_i B i ≤ k → yhd P T B i = true
  | 0 => ⟨fun _ i _ h1 h2 => by omega, fun _ => rfl⟩
  | k + 1 => by
    rw [yhn, Bool.and_eq_true, yhn_iff P T B k, yal_iff]
    refine ⟨fun h i hi h1 h2 => ?_, fun h => ⟨fun i hi h1 h2 => h i hi h1 (by omega), fun i hi => ?_⟩⟩
    · by_cases e : b_i B i = k + 1
      · have := h.2 i hi
        simpa [e] using this
      · exact h.1 i hi h1 (by omega)
    · by_cases e : b_i B i = k + 1
      · simp [e]; exact h i hi (by omega) (by omega)
      · simp [e]
theorem yhn_12 {P : Pl} {T : Tn} {B : Bk} (h : ∀ i, i < b_m B → 1 ≤ b_i B i ∧ b_i B i ≤ 12) : yhn P T B 12 = yha P T B := by
  rw [Bool.eq_iff_iff, yhn_iff]
  unfold yha
  rw [yal_iff]
  exact ⟨fun q i hi => q i hi (h i hi).1 (h i hi).2, fun q i hi _ _ => q i hi⟩
theorem yhn_mono {P : Pl} {T : Tn} {B : Bk} {k : Nat} (h : yhn P T B k = false) : ∀ j, yhn P T B (k + j) = false
  | 0 => h
  | j + 1 => by
    show (yhn P T B (k + j) && _) = false
    rw [yhn_mono h j]; rfl
section HOLD
variable {M : Mem} {w : Nat} {Z : Zs}
theorem zc_holds {B : Bk} (hB : BC M 24 B) (hq : ∀ i, i < b_m B → b_q B i < 7 ∧ 1 ≤ b_i B i ∧ b_i B i ≤ 12) (h8 : b_m B ≤ 8) : F_X7_holds 31 62 7 M = some (yal (fun i => bt (M 62 (b_q B i)) (b_i B i - 1) == b_s B i) (b_m B)) := by
  obtain ⟨-, -, -, e3, e4, -⟩ := hB
  have key : ∀ j i f, i + j = b_m B → j < f → yal (fun i => bt (M 62 (b_q B i)) (b_i B i - 1) == b_s B i) i = true → (L_X7_holds_2 31 62 7 M f (nI i)).bind (fun q3 => Sum.elim (fun v => some v) (fun _ => some true) q3) = some (yal (fun i => bt (M 62 (b_q B i)) (b_i B i - 1) == b_s B i) (b_m B)) := by
    intro j
    induction j with
    | zero =>
      intro i f e hf r
      obtain ⟨f, rfl⟩ : ∃ f', f = f' + 1 := ⟨f - 1, by omega⟩
      obtain rfl : i = b_m B := by omega
      rw [L_X7_holds_2, show M 31 3 = _ from e3, if_pos (nI_le (by omega) (by omega)), r]
      rfl
    | succ j ih =>
      intro i f e hf r
      obtain ⟨f, rfl⟩ : ∃ f', f = f' + 1 := ⟨f - 1, by omega⟩
      obtain ⟨a1, a2, a3⟩ := e4 i (by omega)
      have b1 := hq i (by omega)
      rw [L_X7_holds_2, show M 31 3 = _ from e3, if_neg (nI_ge (by omega) (by omega)), zat_at (by omega) (by omega), show M (31 + 1) i = _ from a1, zat_at (by omega) (by omega), zat_at (by omega) (by omega), show M (31 + 2) i = _ from a2, zat_at (by omega) (by omega), show M (31 + 3) i = _ from a3, zsub1 (by omega), zbit (by omega), nI_1]
      by_cases c : bt (M 62 (b_q B i)) (b_i B i - 1) = b_s B i
      · rw [if_pos (by rw [c])]
        exact ih (i + 1) f (by omega) (by omega) (by rw [yal, r]; simp [c])
      · rw [if_neg (fun z => c (by revert z; cases bt (M 62 (b_q B i)) (b_i B i - 1) <;> cases b_s B i <;> decide))]
        have : yal (fun i => bt (M 62 (b_q B i)) (b_i B i - 1) == b_s B i) (b_m B) = false := by
          rw [← Bool.not_eq_true, yal_iff]
          intro z
          exact c (by simpa using z i (by omega))
        rw [this]; rfl
  exact key (b_m B) 0 FU (by omega) (by unfold FU; omega) rfl
/-- one night's tellings -/
theorem zm_one {B : Bk} {k : Nat} (hz : PW (z_P Z)) {T : Tn} (e1 : M 67 34 = nI (b_m B)) (e2 : ∀ j, j < b_m B → M 93 j = nI (b_q B j) ∧ M 94 j = nI (b_i B j) ∧ M 96 j = if b_s B j then 1 else 0) (h8 : b_m B ≤ 8) (hq : ∀ i, i < b_m B → b_q B i < znp (z_P Z) ∧ 1 ≤ b_i B i ∧ b_i B i ≤ 12) (h39 : M 67 39 = zlk (z_P Z) T k) (hk : k ≤ 12) : L_X12_isAsTold_29 67 (nI k) M FU 1 0 = some (bi (yal (fun i => !(b_i B i == k) || yhd (z_P Z) T B i) (b_m B))) := by
  have h7 := hz.2.2.1
  have key : ∀ j i f, i + j = b_m B → j < f → L_X12_isAsTold_29 67 (nI k) M f (bi (yal (fun i => !(b_i B i == k) || yhd (z_P Z) T B i) i)) (nI i) = some (bi (yal (fun i => !(b_i B i == k) || yhd (z_P Z) T B i) (b_m B))) := by
    intro j
    induction j with
    | zero =>
      intro i f e hf
      obtain ⟨f, rfl⟩ : ∃ f', f = f' + 1 := ⟨f - 1, by omega⟩
      obtain rfl : i = b_m B := by omega
      rw [L_X12_isAsTold_29, e1, if_pos (nI_le (by omega) (by omega))]
    | succ j ih =>
      intro i f e hf
      obtain ⟨f, rfl⟩ : ∃ f', f = f' + 1 := ⟨f - 1, by omega⟩
      have ih' := ih (i + 1) f (by omega) (by omega)
      rw [yal] at ih'
      rw [L_X12_isAsTold_29, e1, if_neg (nI_ge (by omega) (by omega)), nI_1]
      by_cases r : yal (fun i => !(b_i B i == k) || yhd (z_P Z) T B i) i = true
      · rw [if_neg (by rw [r]; decide)]
        rw [r, Bool.true_and] at ih'
        obtain ⟨a1, a2, a3⟩ := e2 i (by omega)
        have b1 := hq i (by omega)
        rw [zald (by omega) (by omega), zbs rfl, show M (67 + 27) i = _ from a2]
        by_cases c : b_i B i = k
        · rw [if_pos (by rw [c]), zald (by omega) (by omega), zbs rfl, zald (by omega) (by omega), zbs rfl, show M (67 + 26) i = _ from a1, show M (67 + 29) i = _ from a3, h39, zis (by omega)]
          have eb : bt (zlk (z_P Z) T k) (b_q B i) = !(zsk (z_P Z) T (t_w T (b_q B i)) (b_i B i) (b_q B i) == 0) := by
            unfold zlk; rw [zmk_bt _ (by omega) (by omega), c]; simp; intro _; exact b1.1
          have ez : yhd (z_P Z) T B i = (bt (zlk (z_P Z) T k) (b_q B i) == b_s B i) := by rw [eb]; rfl
          rw [show (!(b_i B i == k) || yhd (z_P Z) T B i) = (bt (zlk (z_P Z) T k) (b_q B i) == b_s B i) by rw [ez]; simp [c]] at ih'
          by_cases d : bt (zlk (z_P Z) T k) (b_q B i) = b_s B i
          · rw [if_pos (by rw [d]; cases b_s B i <;> decide)]
            rw [show (bt (zlk (z_P Z) T k) (b_q B i) == b_s B i) = true by simp [d]] at ih'
            exact ih'
          · rw [if_neg (fun z => d (by revert z; cases bt (zlk (z_P Z) T k) (b_q B i) <;> cases b_s B i <;> decide))]
            rw [show (bt (zlk (z_P Z) T k) (b_q B i) == b_s B i) = false by simp [d]] at ih'
            exact ih'
        · rw [if_neg (fun z => c ((nI_eq (by omega) (by omega)).mp z))]
          rw [show (!(b_i B i == k) || yhd (z_P Z) T B i) = true by simp [c]] at ih'
          exact ih'
      · rw [if_pos (by rw [zbi]; simpa using r)]
        rw [show yal (fun i => !(b_i B i == k) || yhd (z_P Z) T B i) i = false by simpa using r, Bool.false_and] at ih'
        exact ih'
  exact key (b_m B) 0 FU (by omega) (by unfold FU; omega)
end HOLD
