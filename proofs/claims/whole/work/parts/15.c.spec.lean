/-! ===== the plan and the town, as they are meant ===== -/
abbrev Pl : Type := (Nat → Nat) × (Nat → Nat) × (Nat → Nat) × (Nat → Nat) × (Nat → Bool) × (Nat → Int32) × (Nat → Int32)
abbrev zns (P : Pl) : Nat := P.1 0
abbrev znr (P : Pl) : Nat := P.1 1
abbrev znp (P : Pl) : Nat := P.1 2
abbrev znf (P : Pl) : Nat := P.1 3
abbrev znl (P : Pl) : Nat := P.1 4
abbrev zpa (P : Pl) : Nat := P.1 5
abbrev zrs (P : Pl) : Nat := P.1 6
abbrev p_rd (P : Pl) : Nat → Nat := P.2.1
abbrev p_ln (P : Pl) : Nat → Nat := P.2.2.1
abbrev p_fg (P : Pl) : Nat → Nat := P.2.2.2.1
abbrev p_bi (P : Pl) : Nat → Bool := P.2.2.2.2.1
abbrev p_nr (P : Pl) : Nat → Int32 := P.2.2.2.2.2.1
abbrev p_cd (P : Pl) : Nat → Int32 := P.2.2.2.2.2.2
abbrev Tn : Type := Nat × Int32 × Int32 × Int32 × (Nat → Int32) × (Nat → Int32) × (Nat → Nat → Nat)
abbrev t_n (T : Tn) : Nat := T.1
abbrev t_d (T : Tn) : Int32 := T.2.1
abbrev t_h (T : Tn) : Int32 := T.2.2.1
abbrev t_b (T : Tn) : Int32 := T.2.2.2.1
abbrev t_c (T : Tn) : Nat → Int32 := T.2.2.2.2.1
abbrev t_k (T : Tn) : Nat → Int32 := T.2.2.2.2.2.1
abbrev t_w (T : Tn) : Nat → Nat → Nat := T.2.2.2.2.2.2
/-- the rule WORTH: what a sign does to the height of the stack -/
def zht (sg : Int32) (h : Nat) : Option Nat :=
  if -20 < sg then (if -8 ≤ sg ∧ h < 40 then some (h + 1) else none)
  else if sg = -28 then (if 1 ≤ h then some h else none)
  else if -28 < sg ∧ 2 ≤ h then some (h - 1) else none
def zH (cd : Nat → Int32) : Nat → Option Nat
  | 0 => some 0
  | k + 1 => (zH cd k).bind (zht (cd k))
def zf1 (P : Pl) : Nat := if znf P = 0 then 1 else znf P
def zfg (P : Pl) (k : Nat) : Nat := if znf P = 0 then 0 else p_fg P k
def PW (P : Pl) : Prop := (2 ≤ zns P ∧ zns P ≤ 8) ∧ (1 ≤ znr P ∧ znr P ≤ 8) ∧ znp P ≤ 7 ∧ znf P ≤ 8 ∧ znl P ≤ 700 ∧ zrs P ≤ 99 ∧ (∀ k, k < znr P → p_rd P k < zns P) ∧ (∀ p, p < znp P → 1 ≤ p_ln P p ∧ p_ln P p ≤ 6) ∧ (∀ k, k < znf P → p_fg P k ≤ 9) ∧ (0 < znl P → zH (p_cd P) (znl P) = some 1)
/-- the sign as the class has it -/
def zcv (sg : Int32) : Int32 :=
  if -20 < sg then sg
  else if sg = -20 then -16
  else if sg = -21 then -17
  else if sg = -22 then -18
  else if sg = -23 then -19
  else if sg = -24 then -14
  else if sg = -25 then -15
  else if sg = -26 then -13
  else if sg = -27 then -12
  else -11
def CP (M : Mem) (w : Nat) (P : Pl) : Prop := (M w 0 = nI (zns P) ∧ M w 1 = nI (zpa P) ∧ M w 2 = nI (znr P) ∧ M w 3 = nI (znp P) ∧ M w 5 = nI (zf1 P) ∧ M w 6 = nI (zrs P) ∧ M (w + 7) 1 = nI (znl P)) ∧ (∀ p, p < znp P → bt (M w 4) p = p_bi P p) ∧ (∀ s, s < 8 → M (w + 1) s = p_nr P s) ∧ (∀ k, k < znr P → M (w + 2) k = nI (p_rd P k)) ∧ (∀ p, p < znp P → M (w + 4) p = nI (p_ln P p)) ∧ (∀ k, k < zf1 P → M (w + 6) k = nI (zfg P k)) ∧ ∀ k, k < znl P → M (w + 8) k = zcv (p_cd P k)
def MP (M : Mem) (P : Pl) : Prop := (M 70 0 = nI (zns P) ∧ M 70 1 = nI (zpa P) ∧ M 70 2 = nI (znr P) ∧ M 70 3 = nI (znp P) ∧ M 70 4 = nI (znf P) ∧ M 70 5 = nI (zrs P) ∧ M 70 6 = nI (znl P)) ∧ (∀ p, p < znp P → M 73 p = if p_bi P p then 1 else 0) ∧ (∀ s, s < 8 → M 71 s = p_nr P s) ∧ (∀ k, k < znr P → M 72 k = nI (p_rd P k)) ∧ (∀ p, p < znp P → M 75 p = nI (p_ln P p)) ∧ (∀ k, k < znf P → M 77 k = nI (p_fg P k)) ∧ ∀ k, k < znl P → M 78 k = p_cd P k
/-- a town's row: as the class has it, as the model has it -/
def CT (r : Nat → Int32) (T : Tn) : Prop := (r 0 = nI (t_n T) ∧ r 1 = t_d T ∧ r 2 = t_b T ∧ r 3 = t_h T) ∧ (∀ p, p < 7 → r (4 + p) = t_c T p) ∧ (∀ p, p < 7 → r (11 + p) = t_k T p) ∧ ∀ p, p < 7 → ∀ i, i < 6 → F_X11_streetIn (r (18 + p)) (nI i) = nI (t_w T p i)
def MT (r : Nat → Int32) (T : Tn) : Prop := (r 0 = nI (t_n T) ∧ r 1 = t_d T ∧ r 2 = t_h T ∧ r 3 = t_b T) ∧ (∀ p, p < 7 → r (4 + p) = t_c T p) ∧ (∀ p, p < 7 → r (11 + p) = t_k T p) ∧ ∀ p, p < 7 → ∀ i, i < 6 → r (18 + 6 * p + i) = nI (t_w T p i)
def crow (M : Mem) (t : Nat) : Nat → Int32 := fun k => if k < 4 then M t k else if k < 11 then M (t + 1) (k - 4) else if k < 18 then M (t + 2) (k - 11) else M (t + 3) (k - 18)
def mrow (M : Mem) : Nat → Int32 := fun k => if k < 4 then M 67 (29 + k) else if k < 11 then M 81 (k - 4) else if k < 18 then M 82 (k - 11) else M 83 (k - 18)
def TW9 (P : Pl) (T : Tn) : Prop := t_n T ≤ 2000 ∧ (∀ p i, t_w T p i < zns P) ∧ (∀ p, znp P ≤ p → t_c T p = 0) ∧ ∀ p i, i < 32 → (znp P ≤ p ∨ znp P ≤ i ∨ i = p) → bt (t_k T p) i = false
/-! the watch, the fog, who is seen -/
def zw (P : Pl) (n h : Nat) : Nat := p_rd P ((6 * n + h) % znr P)
def zfog (P : Pl) (n : Nat) : Nat := zfg P (n % zf1 P)
def zmet (P : Pl) (wk : Nat → Nat) (p n : Nat) : Int32 := zmk (fun h => zw P n h == wk (h % p_ln P p)) 6
def zseen (P : Pl) (T : Tn) (fog p : Nat) : Int32 := if fog < 7 ∧ bt (t_b T) p = false then zmet P (t_w T p) p (t_n T) else 0
def zlots (P : Pl) (T : Tn) (fog : Nat) : Int32 := zmk (fun p => !(zseen P T fog p == 0)) (znp P)
theorem zw_lt {P : Pl} (hP : PW P) (n h : Nat) : zw P n h < zns P := hP.2.2.2.2.2.2.1 _ (Nat.mod_lt _ hP.2.1.1)
theorem zf1_pos (P : Pl) : 0 < zf1 P := by unfold zf1; split <;> omega
theorem zf1_le {P : Pl} (hP : PW P) : zf1 P ≤ 8 := by
  have := hP.2.2.2.1
  unfold zf1; split <;> omega
theorem zfg_le {P : Pl} (hP : PW P) {k : Nat} (hk : k < zf1 P) : zfg P k ≤ 9 := by
  unfold zf1 at hk
  unfold zfg
  split
  · omega
  · rename_i h; rw [if_neg h] at hk; exact hP.2.2.2.2.2.2.2.2.1 k hk
theorem zfog_le {P : Pl} (hP : PW P) (n : Nat) : zfog P n ≤ 9 := zfg_le hP (Nat.mod_lt _ (zf1_pos P))
/-! the class reads its plan -/
section CREAD
variable {M : Mem} {w : Nat} {P : Pl}
theorem zc_wat (hP : PW P) (C : CP M w P) {n h : Nat} (hn : n ≤ 3000) (hh : h < 32) : F_X9_watchAt w (nI n) (nI h) M = some (nI (zw P n h)) := by
  have h1 := hP.2.1
  unfold F_X9_watchAt
  rw [C.1.2.2.1, if_neg (nI_nle (by omega) (by omega)), z6, nI_add, zirm (by omega) (by omega) (by omega)]
  have h2 := Nat.mod_lt (6 * n + h) (by omega : 0 < znr P)
  rw [zbs rfl, zat_at (by omega) (by omega), C.2.2.2.1 _ h2]
  rfl
theorem zc_fog (hP : PW P) (C : CP M w P) {n : Nat} (hn : n ≤ 3000) : F_X9_fogOf w (nI n) M = some (nI (zfog P n)) := by
  have h1 := zf1_pos P
  have h2 := zf1_le hP
  unfold F_X9_fogOf
  rw [C.1.2.2.2.2.1, if_neg (nI_nle (by omega) (by omega)), zirm (by omega) (by omega) (by omega)]
  have h3 := Nat.mod_lt n h1
  rw [zbs rfl, zat_at (by omega) (by omega), C.2.2.2.2.2.1 _ h3]
  rfl
theorem zc_plc (hP : PW P) (C : CP M w P) {p h : Nat} (hp : p < znp P) (hh : h < 32) : F_X9_placeAt w (nI p) (nI h) M = some (nI (h % p_ln P p)) := by
  have h1 := hP.2.2.2.2.2.2.2.1 p hp
  have h2 := hP.2.2.1
  unfold F_X9_placeAt
  rw [zat_at (by omega) (by omega), C.2.2.2.2.1 p hp, if_neg (nI_nle (by omega) (by omega)), zirm (by omega) (by omega) (by omega)]
  rfl
theorem zc_met (hP : PW P) (C : CP M w P) {p n : Nat} {x : Int32} {wk : Nat → Nat} (hp : p < znp P) (hn : n ≤ 3000) (hx : ∀ i, i < 6 → F_X11_streetIn x (nI i) = nI (wk i)) (hk : ∀ i, wk i < 8) : F_X9_hoursMet w (nI p) x (nI n) M = some (zmet P wk p n) := by
  have key : ∀ j h f, h + j = 6 → j < f → L_X9_hoursMet_6 w (nI p) x (nI n) M f (zmk (fun h => zw P n h == wk (h % p_ln P p)) h) (nI h) = some (zmet P wk p n) := by
    intro j
    induction j with
    | zero =>
      intro h f e hf
      obtain ⟨f, rfl⟩ : ∃ f', f = f' + 1 := ⟨f - 1, by omega⟩
      obtain rfl : h = 6 := by omega
      rw [L_X9_hoursMet_6, if_pos (by decide)]
      rfl
    | succ j ih =>
      intro h f e hf
      obtain ⟨f, rfl⟩ : ∃ f', f = f' + 1 := ⟨f - 1, by omega⟩
      have h1 := hP.2.2.2.2.2.2.2.1 p hp
      have h3 := Nat.mod_lt h (by omega : 0 < p_ln P p)
      have h4 := zw_lt hP n h
      have h5 := hP.1.2
      have h6 := hk (h % p_ln P p)
      rw [L_X9_hoursMet_6, if_neg (znge 6 6 rfl (by omega) (by omega)), zc_wat hP C hn (by omega), zbs rfl, zc_plc hP C hp (by omega), zbs rfl, hx _ (by omega), nI_1]
      have e1 := ih (h + 1) f (by omega) (by omega)
      rw [zmk] at e1
      by_cases q : zw P n h = wk (h % p_ln P p)
      · rw [if_pos (by rw [q])]
        rw [if_pos (by simp [q])] at e1
        exact e1
      · rw [if_neg (fun e => q ((nI_eq (by omega) (by omega)).mp e))]
        rw [if_neg (by simp [q]), z_or0] at e1
        exact e1
  unfold F_X9_hoursMet
  exact zbs (key 6 0 FU (by omega) (by decide))
end CREAD
