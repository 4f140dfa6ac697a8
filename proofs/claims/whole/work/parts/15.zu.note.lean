/-! ===== a walk that fits is noted ===== -/
def ymk (f : Nat → Bool) : Nat → Nat
  | 0 => 0
  | n + 1 => ymk f n + if f n = true then 2 ^ n else 0
theorem ymk_lt (f : Nat → Bool) : ∀ n, ymk f n < 2 ^ n
  | 0 => Nat.one_pos
  | n + 1 => by
    have := ymk_lt f n
    rw [ymk, Nat.pow_succ]
    split <;> omega
theorem yor : ∀ n, n < 7 → ∀ a, a < 2 ^ n → nI a ||| ((1 : Int32) <<< (nI n &&& 31)) = nI (a + 2 ^ n) := by decide +kernel
theorem ymk_z (f : Nat → Bool) : ∀ n, n ≤ 7 → zmk f n = nI (ymk f n)
  | 0, _ => rfl
  | n + 1, h => by
    rw [zmk, ymk, ymk_z f n (by omega)]
    split
    · exact yor n (by omega) _ (ymk_lt f n)
    · exact Int32.or_zero
section NOTE
variable {M : Mem}
theorem zc_note43 {k n : Nat} (hk : k < 12) (hn : n ≤ 7) : L_X4_note_43 61 (nI n) (nI k) M FU 0 0 = some (nI (ymk (fun p => bt (M 62 p) k) n)) := by
  have key : ∀ j p f, p + j = n → j < f → L_X4_note_43 61 (nI n) (nI k) M f (zmk (fun p => bt (M 62 p) k) p) (nI p) = some (nI (ymk (fun p => bt (M 62 p) k) n)) := by
    intro j
    induction j with
    | zero =>
      intro p f e hf
      obtain ⟨f, rfl⟩ : ∃ f', f = f' + 1 := ⟨f - 1, by omega⟩
      obtain rfl : p = n := by omega
      rw [L_X4_note_43, if_pos (nI_le (by omega) (by omega)), ymk_z _ _ hn]
    | succ j ih =>
      intro p f e hf
      obtain ⟨f, rfl⟩ : ∃ f', f = f' + 1 := ⟨f - 1, by omega⟩
      have ih' := ih (p + 1) f (by omega) (by omega)
      rw [zmk] at ih'
      rw [L_X4_note_43, if_neg (nI_ge (by omega) (by omega)), zat_at (by omega) (by omega), zbit (by omega), nI_1, ← ih']
      congr 1
      show _ ||| ((if bt (M 62 p) k = true then (1 : Int32) else 0) <<< (nI p &&& 31)) = _
      by_cases q : bt (M 62 p) k = true
      · rw [if_pos q, if_pos q]
      · rw [if_neg q, if_neg q]
        congr 1
        apply b_ext
        intro i hi
        rw [b_0]
        have : ∀ p, p < 32 → (0 : Int32) <<< (nI p &&& 31) = 0 := by decide +kernel
        rw [this p (by omega), b_0]
  exact key n 0 FU (by omega) (by unfold FU; omega)
theorem zidx : ∀ k, k < 12 → ∀ v, v < 128 → (nI k * 128 + nI v) / 32 = nI (4 * k + v / 32) ∧ irem (nI k * 128 + nI v) 32 = nI (v % 32) := by decide +kernel
/-- night k of the noted one: the lots as a number -/
def yv (M : Mem) (n k : Nat) : Nat := ymk (fun p => bt (M 62 p) k) n
theorem zc_note {n : Nat} {code : Int32} (hn : n ≤ 7) : Evs (F_X4_note 61 code (nI n) M) (fun M' => M' 61 2 = M 61 2 + 1 ∧ M' 61 3 = (if M 61 2 = 0 then code else M 61 3) ∧ (∀ k, k ≠ 2 → k ≠ 3 → M' 61 k = M 61 k) ∧ (∀ k, k < 12 → ∀ u, u < 4 → ∀ i, i < 32 → bt (M' 63 (4 * k + u)) i = (bt (M 63 (4 * k + u)) i || decide (yv M n k = 32 * u + i))) ∧ ∀ a, a ≠ 61 → a ≠ 63 → M' a = M a) := by
  have key : ∀ j k f (N : Mem), k + j = 12 → j < f → (∀ a, a ≠ 61 → a ≠ 63 → N a = M a) → N 61 = (up (up M 61 3 (if (M 61 2) = 0 then code else (M 61 3))) 61 2 (((up M 61 3 (if (M 61 2) = 0 then code else (M 61 3))) 61 2) + 1)) 61 → (∀ k' u i, k' < k → u < 4 → i < 32 → bt (N 63 (4 * k' + u)) i = (bt (M 63 (4 * k' + u)) i || decide (yv M n k' = 32 * u + i))) → (∀ k' u, k ≤ k' → u < 4 → N 63 (4 * k' + u) = M 63 (4 * k' + u)) → Evs (L_X4_note_31 61 (nI n) f (nI k) N) (fun M' => M' 61 = (up (up M 61 3 (if (M 61 2) = 0 then code else (M 61 3))) 61 2 (((up M 61 3 (if (M 61 2) = 0 then code else (M 61 3))) 61 2) + 1)) 61 ∧ (∀ k' u i, k' < 12 → u < 4 → i < 32 → bt (M' 63 (4 * k' + u)) i = (bt (M 63 (4 * k' + u)) i || decide (yv M n k' = 32 * u + i))) ∧ ∀ a, a ≠ 61 → a ≠ 63 → M' a = M a) := by
    intro j
    induction j with
    | zero =>
      intro k f N e hf n1 n2 n3 n4
      obtain ⟨f, rfl⟩ : ∃ f', f = f' + 1 := ⟨f - 1, by omega⟩
      obtain rfl : k = 12 := by omega
      rw [L_X4_note_31, if_pos (by decide)]
      exact Evs.pure ⟨n2, n3, n1⟩
    | succ j ih =>
      intro k f N e hf n1 n2 n3 n4
      obtain ⟨f, rfl⟩ : ∃ f', f = f' + 1 := ⟨f - 1, by omega⟩
      rw [L_X4_note_31, if_neg (znge 12 12 rfl (by omega) (by omega)), zc_note43 (by omega) hn, zbs rfl, n1 62 (by omega) (by omega)]
      have hv : yv M n k < 128 := by
        have := ymk_lt (fun p => bt (M 62 p) k) n
        have := z2n7 n (by omega)
        unfold yv; omega
      show Evs (L_X4_note_31 61 (nI n) f (nI k + 1) (F_X11_put (61 + 2) 48 ((nI k * 128 + nI (yv M n k)) / 32) (F_X11_at (61 + 2) 48 ((nI k * 128 + nI (yv M n k)) / 32) N ||| (1 : Int32) <<< (irem (nI k * 128 + nI (yv M n k)) 32 &&& 31)) N)) _
      rw [(zidx k (by omega) _ hv).1, (zidx k (by omega) _ hv).2, zat_at (by omega) (by omega), zput_at (by omega) (by omega), nI_1]
      refine ih (k + 1) f _ (by omega) (by omega) (fun a x y => by rw [up_ne (by omega)]; exact n1 a x y) (by rw [up_ne (by omega)]; exact n2) (fun k' u i h1 h2 h3 => ?_) (fun k' u h1 h2 => by rw [up_app, if_neg (by omega)]; exact n4 k' u (by omega) h2)
      by_cases ek : k' = k
      · subst ek
        by_cases eu : u = yv M n k' / 32
        · rw [up_app, if_pos ⟨rfl, by rw [eu]⟩, b_or, zone (by omega) h3, ← eu]
          show (bt (N 63 (4 * k' + u)) i || _) = _
          rw [n4 k' u (by omega) h2]
          congr 1
          rw [decide_eq_decide]
          omega
        · rw [up_app, if_neg (by omega), n4 k' u (by omega) h2]
          rw [show decide (yv M n k' = 32 * u + i) = false by rw [decide_eq_false_iff_not]; omega, Bool.or_false]
      · rw [up_app, if_neg (by omega)]; exact n3 k' u i (by omega) h2 h3
  unfold F_X4_note
  refine Evs.bind (key 12 0 FU _ (by omega) (by decide) (fun a x y => by rw [up_ne x, up_ne x]) rfl (fun k' u i h => by omega) (fun k' u _ _ => by rw [up_ne (by omega), up_ne (by omega)])) (fun N h => Evs.pure ⟨?_, ?_, fun k x y => ?_, fun k h1 u h2 i h3 => h.2.1 k u i h1 h2 h3, h.2.2⟩)
  · rw [h.1, up_app, if_pos ⟨rfl, rfl⟩, up_app, if_neg (by omega)]
  · rw [h.1, up_app, if_neg (by omega), up_app, if_pos ⟨rfl, rfl⟩]
  · rw [h.1, up_app, if_neg (fun z => x z.2), up_app, if_neg (fun z => y z.2)]
end NOTE
