/-! ===== how unlike the nights are ===== -/
def yU (P : Pl) (T : Tn) (L : List (Nat × Nat × Nat)) (k : Nat) : Nat := fb_ct (fun v => L.any (fun e => decide (yl P (yT T e) k = v))) 128
def ymx (U : Nat → Nat) : Nat → Nat
  | 0 => 0
  | n + 1 => if ymx U n < U n then U n else ymx U n
def yat (U : Nat → Nat) : Nat → Int32
  | 0 => -1
  | n + 1 => if ymx U n < U n then nI (n + 1) else yat U n
theorem ymx_le {U : Nat → Nat} {b : Nat} (h : ∀ k, U k ≤ b) : ∀ n, ymx U n ≤ b
  | 0 => Nat.zero_le _
  | n + 1 => by
    have := ymx_le h n
    have := h n
    rw [ymx]; split <;> omega
theorem ymx_ge {U : Nat → Nat} : ∀ n k, k < n → U k ≤ ymx U n
  | 0, k, h => by omega
  | n + 1, k, h => by
    rw [ymx]
    by_cases e : k = n
    · subst e; split <;> omega
    · have := ymx_ge (U := U) n k (by omega)
      split <;> omega
theorem yat_of {U : Nat → Nat} : ∀ n, (ymx U n = 0 ∧ yat U n = -1) ∨ (0 < ymx U n ∧ ∃ k, k < n ∧ U k = ymx U n ∧ (∀ j, j < k → U j < ymx U n) ∧ yat U n = nI (k + 1))
  | 0 => Or.inl ⟨rfl, rfl⟩
  | n + 1 => by
    have ih := yat_of (U := U) n
    have hg := ymx_ge (U := U) n
    rw [ymx, yat]
    by_cases q : ymx U n < U n
    · rw [if_pos q, if_pos q]
      exact Or.inr ⟨by omega, n, by omega, rfl, fun j hj => Nat.lt_of_le_of_lt (hg j hj) q, rfl⟩
    · rw [if_neg q, if_neg q]
      rcases ih with ih | ⟨h1, k, h2, h3⟩
      · exact Or.inl ih
      · exact Or.inr ⟨h1, k, by omega, h3⟩
theorem yU_le (P : Pl) (T : Tn) (L : List (Nat × Nat × Nat)) (k : Nat) : yU P T L k ≤ 128 := fb_ct_le _ _
section UNLIKE
variable {M : Mem} {P : Pl} {T : Tn} {L : List (Nat × Nat × Nat)}
theorem zc_unlike (h : CS P T M L) {k : Nat} (hk : k < 12) : F_X4_unlike 61 (nI k) M = some (nI (yU P T L k)) := by
  have key : ∀ j u f, u + j = 4 → j < f → L_X4_unlike_4 61 (nI k) M f (nI (fb_ct (fun v => L.any (fun e => decide (yl P (yT T e) k = v))) (32 * u))) (nI u) = some (nI (yU P T L k)) := by
    intro j
    induction j with
    | zero =>
      intro u f e hf
      obtain ⟨f, rfl⟩ : ∃ f', f = f' + 1 := ⟨f - 1, by omega⟩
      obtain rfl : u = 4 := by omega
      rw [L_X4_unlike_4, if_pos (by decide)]
      rfl
    | succ j ih =>
      intro u f e hf
      obtain ⟨f, rfl⟩ : ∃ f', f = f' + 1 := ⟨f - 1, by omega⟩
      rw [L_X4_unlike_4, if_neg (znge 4 4 rfl (by omega) (by omega)), show nI k * 4 + nI u = nI (4 * k + u) from by rw [show (4 : Int32) = nI 4 from rfl, zmul, nI_add, Nat.mul_comm], zat_at (by omega) (by omega), yp_pop, nI_add, nI_1]
      rw [show fb_ct (fun v => L.any (fun e => decide (yl P (yT T e) k = v))) (32 * u) + zct (M (61 + 2) (4 * k + u)) = fb_ct (fun v => L.any (fun e => decide (yl P (yT T e) k = v))) (32 * (u + 1)) from by
        rw [show 32 * (u + 1) = 32 * u + 32 by omega, fb_ct_split]
        congr 1
        exact fb_ct_cong (fun i hi => h.2.2 k hk u (by omega) i hi)]
      exact ih (u + 1) f (by omega) (by omega)
  unfold F_X4_unlike
  rw [show L_X4_unlike_4 61 (nI k) M FU 0 0 = some (nI (yU P T L k)) from key 4 0 FU (by omega) (by decide), zbs rfl]
theorem zc_mostU (h : CS P T M L) : F_X4_mostUnlike 61 M = some (nI (ymx (yU P T L) 12)) := by
  have key : ∀ j k f, k + j = 12 → j < f → L_X4_mostUnlike_4 61 M f (nI (ymx (yU P T L) k)) (nI k) = some (nI (ymx (yU P T L) 12)) := by
    intro j
    induction j with
    | zero =>
      intro k f e hf
      obtain ⟨f, rfl⟩ : ∃ f', f = f' + 1 := ⟨f - 1, by omega⟩
      obtain rfl : k = 12 := by omega
      rw [L_X4_mostUnlike_4, if_pos (by decide)]
    | succ j ih =>
      intro k f e hf
      obtain ⟨f, rfl⟩ : ∃ f', f = f' + 1 := ⟨f - 1, by omega⟩
      have l1 := ymx_le (yU_le P T L) k
      have l2 := yU_le P T L k
      have ih' := ih (k + 1) f (by omega) (by omega)
      rw [ymx] at ih'
      rw [L_X4_mostUnlike_4, if_neg (znge 12 12 rfl (by omega) (by omega)), zc_unlike h (by omega), zbs rfl, nI_1]
      unfold imax
      by_cases q : ymx (yU P T L) k < yU P T L k
      · rw [if_pos (nI_lt q (by omega))]
        rw [if_pos q] at ih'; exact ih'
      · rw [if_neg (nI_nlt (by omega) (by omega))]
        rw [if_neg q] at ih'; exact ih'
  unfold F_X4_mostUnlike
  rw [show L_X4_mostUnlike_4 61 M FU 0 0 = some (nI (ymx (yU P T L) 12)) from key 12 0 FU (by omega) (by decide), zbs rfl]
theorem zc_look (h : CS P T M L) : F_X4_nightToLook 61 M = some (yat (yU P T L) 12) := by
  unfold F_X4_nightToLook
  rw [zc_mostU h, zbs rfl]
  have l1 := ymx_le (yU_le P T L) 12
  rcases yat_of (U := yU P T L) 12 with ⟨a1, a2⟩ | ⟨a1, k, a2, a3, a4, a5⟩
  · rw [a1, a2]
    show (L_X4_nightToLook_7 61 (nI 0) M (99999 + 1) 0).bind _ = _
    rw [L_X4_nightToLook_7, if_neg (by decide), if_pos (by decide)]
    rfl
  · have key : ∀ j x f, x + j = k → j < f → L_X4_nightToLook_7 61 (nI (ymx (yU P T L) 12)) M f (nI x) = some (Sum.inr (nI k)) := by
      intro j
      induction j with
      | zero =>
        intro x f e hf
        obtain ⟨f, rfl⟩ : ∃ f', f = f' + 1 := ⟨f - 1, by omega⟩
        obtain rfl : x = k := by omega
        rw [L_X4_nightToLook_7, if_neg (znge 12 12 rfl (by omega) (by omega)), if_neg (znlel 0 0 rfl a1 (by omega)), zc_unlike h (by omega), zbs rfl, if_pos (by rw [a3])]
      | succ j ih =>
        intro x f e hf
        obtain ⟨f, rfl⟩ : ∃ f', f = f' + 1 := ⟨f - 1, by omega⟩
        have := a4 x (by omega)
        rw [L_X4_nightToLook_7, if_neg (znge 12 12 rfl (by omega) (by omega)), if_neg (znlel 0 0 rfl a1 (by omega)), zc_unlike h (by omega), zbs rfl, if_neg (fun z => by have := (nI_eq (by omega) (by omega)).mp z; omega), nI_1]
        exact ih (x + 1) f (by omega) (by omega)
    rw [show L_X4_nightToLook_7 61 (nI (ymx (yU P T L) 12)) M FU 0 = some (Sum.inr (nI k)) from key k 0 FU (by omega) (by unfold FU; omega), zbs rfl]
    show some (nI k + 1) = _
    rw [nI_1, a5]
end UNLIKE
/-! values that differ -/
def yany (g : Nat → Nat) : Nat → Nat → Bool
  | 0, _ => false
  | n + 1, v => yany g n v || decide (g n = v)
def ydi (g : Nat → Nat) : Nat → Nat
  | 0 => 0
  | n + 1 => ydi g n + if yany g n (g n) = true then 0 else 1
theorem yany_iff (g : Nat → Nat) (v : Nat) : ∀ n, yany g n v = true ↔ ∃ j, j < n ∧ g j = v
  | 0 => by
    rw [yany]
    exact ⟨fun h => (by cases h), fun ⟨j, h, _⟩ => (by omega)⟩
  | n + 1 => by
    rw [yany, Bool.or_eq_true, yany_iff g v n, decide_eq_true_iff]
    refine ⟨fun h => ?_, fun ⟨j, h, e⟩ => ?_⟩
    · rcases h with ⟨j, h, e⟩ | e
      · exact ⟨j, by omega, e⟩
      · exact ⟨n, by omega, e⟩
    · by_cases q : j = n
      · subst q; exact Or.inr e
      · exact Or.inl ⟨j, by omega, e⟩
theorem yany_mono {g : Nat → Nat} {v n m : Nat} (h : yany g n v = true) (hn : n ≤ m) : yany g m v = true := by
  rw [yany_iff] at h ⊢
  obtain ⟨j, h1, h2⟩ := h
  exact ⟨j, by omega, h2⟩
theorem ydi_ct {g : Nat → Nat} (hg : ∀ j, g j < 128) : ∀ n, ydi g n = fb_ct (fun v => yany g n v) 128
  | 0 => (fb_ct_zero.mpr (fun _ _ => rfl)).symm
  | n + 1 => by
    rw [ydi, ydi_ct hg n]
    by_cases q : yany g n (g n) = true
    · rw [if_pos q, Nat.add_zero]
      refine fb_ct_cong (fun v _ => ?_)
      rw [yany]
      by_cases e : g n = v
      · rw [← e, q]; rfl
      · rw [decide_eq_false e, Bool.or_false]
    · rw [if_neg q]
      have := fb_ct_upd (fun v => yany g n v) true (hg n)
      simp only [if_neg q, if_true, Nat.add_zero] at this
      rw [← this]
      refine fb_ct_cong (fun v _ => ?_)
      rw [yany]
      by_cases e : v = g n
      · rw [if_pos e, decide_eq_true e.symm, Bool.or_true]
      · rw [if_neg e, decide_eq_false (Ne.symm e), Bool.or_false]
theorem ydi_le (g : Nat → Nat) : ∀ n, ydi g n ≤ n
  | 0 => Nat.le_refl _
  | n + 1 => by
    have := ydi_le g n
    rw [ydi]; split <;> omega
/-- the value of the j-th fit on night k -/
def yg (P : Pl) (T : Tn) (L : List (Nat × Nat × Nat)) (k j : Nat) : Nat := match L[j]? with
  | some e => yl P (yT T e) k
  | none => 0
theorem yg_at {P : Pl} {T : Tn} {L : List (Nat × Nat × Nat)} {k j : Nat} {e : Nat × Nat × Nat} (h : L[j]? = some e) : yg P T L k j = yl P (yT T e) k := by unfold yg; rw [h]
theorem yl_lt {P : Pl} {T : Tn} (h : znp P ≤ 7) (k : Nat) : yl P T k < 128 := by
  have := ymk_lt (fun q => !(zsk P T (t_w T q) (k + 1) q == 0)) (znp P)
  have := z2n7 (znp P) (by omega)
  unfold yl; omega
theorem yg_lt {P : Pl} {T : Tn} {L : List (Nat × Nat × Nat)} {k : Nat} (h : znp P ≤ 7) (j : Nat) : yg P T L k j < 128 := by
  unfold yg
  split
  · exact yl_lt h k
  · omega
theorem yg_any (P : Pl) (T : Tn) (L : List (Nat × Nat × Nat)) (k v : Nat) : yany (yg P T L k) L.length v = L.any (fun e => decide (yl P (yT T e) k = v)) := by
  rw [Bool.eq_iff_iff, yany_iff, List.any_eq_true]
  refine ⟨fun ⟨j, h, e⟩ => ?_, fun ⟨e, h, q⟩ => ?_⟩
  · have hj : L[j]? = some L[j] := List.getElem?_eq_getElem h
    rw [yg_at hj] at e
    exact ⟨L[j], List.getElem_mem h, decide_eq_true e⟩
  · obtain ⟨j, hj⟩ := List.mem_iff_getElem?.mp h
    have : j < L.length := by
      rcases Nat.lt_or_ge j L.length with x | x
      · exact x
      · rw [List.getElem?_eq_none x] at hj; cases hj
    exact ⟨j, this, by rw [yg_at hj]; exact of_decide_eq_true q⟩
theorem yU_di {P : Pl} {T : Tn} {L : List (Nat × Nat × Nat)} {k : Nat} (h : znp P ≤ 7) : yU P T L k = ydi (yg P T L k) L.length := by
  rw [ydi_ct (yg_lt h)]
  unfold yU
  exact fb_ct_cong (fun v _ => (yg_any P T L k v).symm)
/-! the fits' bounds -/
theorem yS_mem {P : Pl} {T : Tn} {B : Bk} {p i : Nat} {e : Nat × Nat × Nat} : ∀ {s}, e ∈ yS P T B p i s → e.1 = p ∧ e.2.1 = i ∧ e.2.2 < s
  | 0, h => by rw [yS] at h; cases h
  | s + 1, h => by
    rw [yS, List.mem_append] at h
    rcases h with h | h
    · have := yS_mem h; omega
    · split at h
      · rw [List.mem_singleton] at h; rw [h]; exact ⟨rfl, rfl, by show s < s + 1; omega⟩
      · cases h
theorem yI_mem {P : Pl} {T : Tn} {B : Bk} {p : Nat} {e : Nat × Nat × Nat} : ∀ {i}, e ∈ yI P T B p i → e.1 = p ∧ e.2.1 < i ∧ e.2.2 < zns P
  | 0, h => by rw [yI] at h; cases h
  | i + 1, h => by
    rw [yI, List.mem_append] at h
    rcases h with h | h
    · have := yI_mem h; omega
    · have := yS_mem h; omega
theorem yL_mem {P : Pl} {T : Tn} {B : Bk} {e : Nat × Nat × Nat} : ∀ {p}, e ∈ yL P T B p → e.1 < p ∧ e.2.1 < p_ln P e.1 ∧ e.2.2 < zns P
  | 0, h => by rw [yL] at h; cases h
  | p + 1, h => by
    rw [yL, List.mem_append] at h
    rcases h with h | h
    · have := yL_mem h; omega
    · have := yI_mem h
      rw [this.1]; omega
