/-! ===== what nights keep ===== -/
def TC (T : Tn) : Prop := ∀ p, 0 ≤ t_c T p ∧ t_c T p ≤ 999
theorem zi_max {x y z : Int32} (h1 : x ≤ z) (h2 : y ≤ z) : imax x y ≤ z := by unfold imax; split <;> assumption
theorem zi_maxl (x y : Int32) : x ≤ imax x y := by
  unfold imax; split
  · rename_i h; exact Int32.le_of_lt h
  · exact Int32.le_refl x
theorem zi_maxr (x y : Int32) : y ≤ imax x y := by
  unfold imax; split
  · exact Int32.le_refl y
  · rename_i h; exact Int32.not_lt.mp h
theorem zi_minl (x y : Int32) : imin x y ≤ x := by
  unfold imin; split
  · rename_i h; exact Int32.le_of_lt h
  · exact Int32.le_refl x
theorem zbid_le {P : Pl} {T : Tn} {x : Int32} {lt q p : Nat} (h : 0 ≤ t_c T q) : zbid P T x lt q p ≤ t_c T q := by
  unfold zbid
  split
  · exact Int32.le_refl _
  · exact zi_max h (zi_minl _ _)
theorem zsel_inv (bd : Nat → Int32) : ∀ n, n < 2147483648 → 0 ≤ (zsel bd n).2.1 ∧ 0 ≤ (zsel bd n).2.2 ∧ (zsel bd n).2.2 ≤ (zsel bd n).2.1 ∧ (∀ k, (zsel bd n).1 = nI k → k < 2147483648 → (zsel bd n).2.1 = bd k)
  | 0, _ => ⟨Int32.le_refl _, Int32.le_refl _, Int32.le_refl _, fun k h hk => by
    exfalso
    have : (-1 : Int32).toInt = (nI k).toInt := congrArg Int32.toInt h
    rw [nI_toInt (by omega)] at this
    have e : (-1 : Int32).toInt = -1 := by decide
    rw [e] at this
    omega⟩
  | n + 1, hn => by
    obtain ⟨a, b, c, d⟩ := zsel_inv bd n (by omega)
    rw [zsel]
    by_cases h : bd n ≤ (zsel bd n).2.1
    · rw [if_pos h]
      exact ⟨a, Int32.le_trans b (zi_maxl _ _), zi_max c h, d⟩
    · rw [if_neg h]
      have h2 := Int32.le_of_lt (Int32.not_le.mp h)
      refine ⟨Int32.le_trans a h2, a, h2, fun k e hk => ?_⟩
      show bd n = bd k
      rw [(nI_eq (by omega) (by omega)).mp e]
theorem zi_sub {c p : Int32} (h0 : 0 ≤ p) (h1 : p ≤ c) (h2 : c ≤ 999) : 0 ≤ c - p ∧ c - p ≤ 999 := by
  obtain ⟨i, hi, rfl⟩ := nI_of2 (M := 999) (n := 999) (by decide) (Int32.not_lt.mpr (Int32.le_trans h0 h1)) h2
  obtain ⟨j, hj, rfl⟩ := nI_of2 (M := 999) (n := 999) (by decide) (Int32.not_lt.mpr h0) (Int32.le_trans h1 h2)
  have := (nI_leI (a := j) (b := i) (by omega) (by omega)).mp h1
  rw [zsub this]
  exact ⟨nI_pos' (by omega), nI_le (b := 999) (by omega) (by omega)⟩
/-- a sale: dark, or to b for pr -/
theorem zsell_or (P : Pl) (x : Int32) (lt p : Nat) (S : N9) (hn : znp P ≤ 7) : zsell P x lt p S = zdark S ∨ ∃ b pr, b < znp P ∧ zsell P x lt p S = zhand p b pr S ∧ 0 ≤ pr ∧ pr ≤ zbid P S.1 x lt b p := by
  unfold zsell
  by_cases k1 : (zsel (fun q => zbid P S.1 x lt q p) (znp P)).1 = -1
  · rw [if_pos k1]; exact Or.inl rfl
  · rw [if_neg k1]
    by_cases k2 : t_h S.1 ≤ (zsel (fun q => zbid P S.1 x lt q p) (znp P)).2.1
    · rw [if_pos k2]
      rcases zsel_b (fun q => zbid P S.1 x lt q p) (znp P) with e | ⟨b, hb, e⟩
      · exact absurd e k1
      · obtain ⟨a1, a2, a3, a4⟩ := zsel_inv (fun q => zbid P S.1 x lt q p) (znp P) (by omega)
        refine Or.inr ⟨b, imax (zsel (fun q => zbid P S.1 x lt q p) (znp P)).2.2 (t_h S.1), hb, by rw [e, nI_clamp (by omega)], Int32.le_trans a2 (zi_maxl _ _), ?_⟩
        have := a4 b e (by omega)
        rw [← this]
        exact zi_max a3 k2
    · rw [if_neg k2]; exact Or.inl rfl
/-- what a sale, and a night, keep of a town -/
def Tk (P : Pl) (T T' : Tn) : Prop := t_n T' = t_n T ∧ t_h T' = t_h T ∧ t_b T' = t_b T ∧ t_w T' = t_w T ∧ (TW9 P T → TW9 P T') ∧ (TC T → TC T')
theorem Tk.rf {P : Pl} {T : Tn} : Tk P T T := ⟨rfl, rfl, rfl, rfl, id, id⟩
theorem Tk.tr {P : Pl} {T T1 T2 : Tn} (h : Tk P T T1) (h2 : Tk P T1 T2) : Tk P T T2 := ⟨h2.1.trans h.1, h2.2.1.trans h.2.1, h2.2.2.1.trans h.2.2.1, h2.2.2.2.1.trans h.2.2.2.1, fun k => h2.2.2.2.2.1 (h.2.2.2.2.1 k), fun k => h2.2.2.2.2.2 (h.2.2.2.2.2 k)⟩
theorem zsell_k {P : Pl} {x : Int32} {lt p : Nat} {S : N9} (hP : PW P) (hp : p < znp P) : Tk P S.1 (zsell P x lt p S).1 := by
  have h7 := hP.2.2.1
  rcases zsell_or P x lt p S h7 with e | ⟨b, pr, hb, e, h0, h1⟩
  · rw [e]; exact ⟨rfl, rfl, rfl, rfl, id, id⟩
  · rw [e]
    refine ⟨rfl, rfl, rfl, rfl, fun w => ⟨w.1, w.2.1, fun q hq => ?_, fun q i hi hq => ?_⟩, fun w q => ?_⟩
    · show upd _ b _ q = 0
      rw [upd_app, if_neg (by omega)]; exact w.2.2.1 q hq
    · show bt ((if b = p then t_k S.1 else upd (t_k S.1) b (t_k S.1 b ||| ((1 : Int32) <<< (nI p &&& 31)))) q) i = false
      by_cases e2 : b = p
      · rw [if_pos e2]; exact w.2.2.2 q i hi hq
      · rw [if_neg e2, upd_app]
        by_cases e3 : q = b
        · rw [if_pos e3, b_or, zone (by omega) hi, w.2.2.2 b i hi (by omega)]
          have : ¬ p = i := by omega
          simp [this]
        · rw [if_neg e3]; exact w.2.2.2 q i hi hq
    · show 0 ≤ upd _ b _ q ∧ upd _ b _ q ≤ 999
      rw [upd_app]
      by_cases e3 : q = b
      · rw [if_pos e3]
        exact zi_sub h0 (Int32.le_trans h1 (zbid_le (w b).1)) (w b).2
      · rw [if_neg e3]; exact w q
theorem zsls_k {P : Pl} {hs : Nat → Int32} {lt : Nat} {T : Tn} (hP : PW P) : ∀ k, k ≤ znp P → Tk P T (zsls P hs lt T k).1
  | 0, _ => Tk.rf
  | k + 1, h => by
    rw [zsls]
    split
    · exact zsls_k hP k (by omega)
    · exact (zsls_k hP k (by omega)).tr (zsell_k hP (by omega))
theorem zpass_k {P : Pl} {T : Tn} {fog : Nat} (hP : PW P) : t_n (zpass P T fog).1 = t_n T + 1 ∧ t_h (zpass P T fog).1 = t_h T ∧ t_b (zpass P T fog).1 = 0 ∧ t_w (zpass P T fog).1 = t_w T ∧ (TW9 P T → t_n T + 1 ≤ 2000 → TW9 P (zpass P T fog).1) ∧ (TC T → TC (zpass P T fog).1) := by
  have h := zsls_k (hs := zhs P T fog) (lt := zlt P T fog) (T := T) hP (znp P) (Nat.le_refl _)
  refine ⟨?_, h.2.1, rfl, h.2.2.2.1, fun w q => ?_, fun w => h.2.2.2.2.2 w⟩
  · show t_n (zsls P (zhs P T fog) (zlt P T fog) T (znp P)).1 + 1 = _; rw [h.1]
  · have := h.2.2.2.2.1 w
    exact ⟨by show t_n (zsls P (zhs P T fog) (zlt P T fog) T (znp P)).1 + 1 ≤ 2000; rw [h.1]; exact q, this.2.1, this.2.2.1, this.2.2.2⟩
/-- nights one behind another -/
def zgo (P : Pl) (T : Tn) : Nat → Tn
  | 0 => T
  | k + 1 => (zpass P (zgo P T k) (zfog P (t_n T + k))).1
def zlast (P : Pl) (T : Tn) (k : Nat) : N9 := zpass P (zgo P T k) (zfog P (t_n T + k))
theorem zgo_k {P : Pl} {T : Tn} (hP : PW P) : ∀ k, t_n (zgo P T k) = t_n T + k ∧ t_h (zgo P T k) = t_h T ∧ t_b (zgo P T k) = (if k = 0 then t_b T else 0) ∧ t_w (zgo P T k) = t_w T ∧ (TW9 P T → t_n T + k ≤ 2000 → TW9 P (zgo P T k)) ∧ (TC T → TC (zgo P T k))
  | 0 => ⟨rfl, rfl, rfl, rfl, fun h _ => h, id⟩
  | k + 1 => by
    obtain ⟨a1, a2, a3, a4, a5, a6⟩ := zgo_k hP k
    obtain ⟨b1, b2, b3, b4, b5, b6⟩ := zpass_k (P := P) (T := zgo P T k) (fog := zfog P (t_n T + k)) hP
    refine ⟨?_, ?_, ?_, ?_, fun w q => ?_, fun w => b6 (a6 w)⟩
    · show t_n (zpass P (zgo P T k) (zfog P (t_n T + k))).1 = _; rw [b1, a1, Nat.add_assoc]
    · show t_h (zpass P (zgo P T k) (zfog P (t_n T + k))).1 = _; rw [b2, a2]
    · show t_b (zpass P (zgo P T k) (zfog P (t_n T + k))).1 = _; rw [b3, if_neg (by omega)]
    · show t_w (zpass P (zgo P T k) (zfog P (t_n T + k))).1 = _; rw [b4, a4]
    · exact b5 (a5 w (by omega)) (by rw [a1]; omega)
/-- the lots of the k-th night ahead, as one looks from the first -/
theorem zlots_go {P : Pl} {T : Tn} (hP : PW P) (k : Nat) : zlots P (zgo P T k) (zfog P (t_n T + k)) = zlk P T (k + 1) := by
  obtain ⟨a1, -, a3, a4, -, -⟩ := zgo_k (P := P) (T := T) hP k
  unfold zlots zlk zseen zsk
  rw [a1, a3, a4]
  refine zmk_cong (fun p _ => ?_)
  rw [show t_n T + (k + 1) - 1 = t_n T + k by omega]
  congr 1
  by_cases h : k = 0
  · subst h
    simp
  · rw [if_neg h]
    simp [h, b_0]
