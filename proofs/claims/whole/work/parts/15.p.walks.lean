/-! ===== streets, hiding, gossip ===== -/
def zspr (P : Pl) (r : Int32) : Nat → Int32
  | 0 => r
  | k + 1 => zspr P r k ||| (if bt r k then p_nr P k else 0)
def zspread (P : Pl) (r : Int32) : Int32 := zspr P r (zns P)
section WALKS
variable {M : Mem} {w : Nat} {P : Pl} {T : Tn}
theorem zc_spread (hP : PW P) (C : CP M w P) (r : Int32) : F_X9_spread w r M = some (zspread P r) := by
  have h8 := hP.1.2
  have key : ∀ j k f, k + j = zns P → j < f → L_X9_spread_4 w r M f (zspr P r k) (nI k) = some (zspread P r) := by
    intro j
    induction j with
    | zero =>
      intro k f e hf
      obtain ⟨f, rfl⟩ : ∃ f', f = f' + 1 := ⟨f - 1, by omega⟩
      obtain rfl : k = zns P := by omega
      rw [L_X9_spread_4, C.1.1, if_pos (nI_le (by omega) (by omega))]
      rfl
    | succ j ih =>
      intro k f e hf
      obtain ⟨f, rfl⟩ : ∃ f', f = f' + 1 := ⟨f - 1, by omega⟩
      have e1 := ih (k + 1) f (by omega) (by omega)
      rw [zspr] at e1
      rw [L_X9_spread_4, C.1.1, if_neg (nI_ge (by omega) (by omega)), nI_1]
      by_cases q : bt r k = false
      · rw [if_pos ((zbit0 (by omega)).mpr q)]
        rw [q, if_neg (by decide), z_or0] at e1
        exact e1
      · rw [if_neg (fun z => q ((zbit0 (by omega)).mp z)), zat_at (by omega) (by omega), C.2.2.1 k (by omega)]
        rw [if_pos (by simpa using q)] at e1
        exact e1
  unfold F_X9_spread
  exact zbs (key (zns P) 0 FU (by omega) (by unfold FU; omega))
theorem zm_spread (hP : PW P) (C : MP M P) (r : Int32) : F_X12_stepped 67 r M = some (zspread P r) := by
  have h8 := hP.1.2
  have key : ∀ j k f, k + j = zns P → j < f → L_X12_stepped_4 67 r M f (zspr P r k) (nI k) = some (zspread P r) := by
    intro j
    induction j with
    | zero =>
      intro k f e hf
      obtain ⟨f, rfl⟩ : ∃ f', f = f' + 1 := ⟨f - 1, by omega⟩
      obtain rfl : k = zns P := by omega
      rw [L_X12_stepped_4, C.1.1, if_pos (nI_le (by omega) (by omega))]
      rfl
    | succ j ih =>
      intro k f e hf
      obtain ⟨f, rfl⟩ : ∃ f', f = f' + 1 := ⟨f - 1, by omega⟩
      have e1 := ih (k + 1) f (by omega) (by omega)
      rw [zspr] at e1
      rw [L_X12_stepped_4, C.1.1, if_neg (nI_ge (by omega) (by omega)), zis (by omega)]
      unfold J_X12_stepped_j33
      rw [nI_1]
      by_cases q : bt r k = false
      · rw [if_pos (zbi.mpr q)]
        rw [q, if_neg (by decide)] at e1
        exact e1
      · rw [if_neg (fun z => q (zbi.mp z)), zald (by omega) (by omega), zbs rfl, C.2.2.1 k (by omega)]
        rw [if_pos (by simpa using q)] at e1
        exact e1
  unfold F_X12_stepped
  exact zbs (key (zns P) 0 FU (by omega) (by unfold FU; omega))
/-- the way -/
def zway (P : Pl) (b : Nat) : Nat → Nat → Int32 → Int32
  | 0, _, _ => -1
  | j + 1, k, r => if bt r b = false then zway P b j (k + 1) (zspread P r) else nI k
def zsnk (P : Pl) (n b : Nat) : Nat → Nat → Int32 → Int32
  | 0, _, _ => -1
  | j + 1, h, r => if bt (r &&& (((1 : Int32) <<< (nI (zw P n h) &&& 31)) ^^^ (-1))) b = false then zsnk P n b j (h + 1) (zspread P (r &&& (((1 : Int32) <<< (nI (zw P n h) &&& 31)) ^^^ (-1)))) else nI h
end WALKS
section WALKZ
variable {M : Mem} {w : Nat} {Z : Zs}
theorem zc_way (hz : ZW Z) (hc : RC w Z M) {b : Nat} (hb : b < 32) (r : Int32) : ∃ q, L_X11_way_17 0 (nI b) M FU r 0 = some q ∧ Sum.elim (fun v => some (Sum.inr v)) (fun _ => some (Sum.inr (-1))) q = (some (Sum.inr (zway (z_P Z) b 8 0 r)) : Option (Sum Nat Int32)) := by
  have key : ∀ j k f r, k + j = 8 → j < f → ∃ q, L_X11_way_17 0 (nI b) M f r (nI k) = some q ∧ Sum.elim (fun v => some (Sum.inr v)) (fun _ => some (Sum.inr (-1))) q = (some (Sum.inr (zway (z_P Z) b j k r)) : Option (Sum Nat Int32)) := by
    intro j
    induction j with
    | zero =>
      intro k f r e hf
      obtain ⟨f, rfl⟩ : ∃ f', f = f' + 1 := ⟨f - 1, by omega⟩
      obtain rfl : k = 8 := by omega
      rw [L_X11_way_17, if_pos (by decide)]
      exact ⟨_, rfl, rfl⟩
    | succ j ih =>
      intro k f r e hf
      obtain ⟨f, rfl⟩ : ∃ f', f = f' + 1 := ⟨f - 1, by omega⟩
      rw [L_X11_way_17, if_neg (znge 8 8 rfl (by omega) (by omega)), zway]
      by_cases q : bt r b = false
      · rw [if_pos ((zbit0 hb).mpr q), if_pos q, hc.grd, zbs rfl, zc_spread hz.1 hc.P, zbs rfl, nI_1]
        exact ih (k + 1) f _ (by omega) (by omega)
      · rw [if_neg (fun z => q ((zbit0 hb).mp z)), if_neg q]
        exact ⟨_, rfl, rfl⟩
  exact key 8 0 FU r (by omega) (by decide)
theorem zm_way (hz : ZW Z) (hm : RM Z M) {b : Nat} (hb : b < 32) (r : Int32) : ∃ q, L_X12_way_34 67 (nI b) M FU r 0 = some q ∧ Sum.elim (fun v => some v) (fun _ => some ((-1), M)) q = some (zway (z_P Z) b 8 0 r, M) := by
  have key : ∀ j k f r, k + j = 8 → j < f → ∃ q, L_X12_way_34 67 (nI b) M f r (nI k) = some q ∧ Sum.elim (fun v => some v) (fun _ => some ((-1), M)) q = some (zway (z_P Z) b j k r, M) := by
    intro j
    induction j with
    | zero =>
      intro k f r e hf
      obtain ⟨f, rfl⟩ : ∃ f', f = f' + 1 := ⟨f - 1, by omega⟩
      obtain rfl : k = 8 := by omega
      rw [L_X12_way_34, if_pos (by decide)]
      exact ⟨_, rfl, rfl⟩
    | succ j ih =>
      intro k f r e hf
      obtain ⟨f, rfl⟩ : ∃ f', f = f' + 1 := ⟨f - 1, by omega⟩
      rw [L_X12_way_34, if_neg (znge 8 8 rfl (by omega) (by omega)), zway, zis hb]
      by_cases q : bt r b = false
      · rw [if_pos (zbi.mpr q), if_pos q, zm_spread hz.1 hm.P, zbs rfl, nI_1]
        exact ih (k + 1) f _ (by omega) (by omega)
      · rw [if_neg (fun z => q (zbi.mp z)), if_neg q]
        exact ⟨_, rfl, rfl⟩
  exact key 8 0 FU r (by omega) (by decide)
theorem zc_snk (hz : ZW Z) (hc : RC w Z M) {b : Nat} (hb : b < 32) (r : Int32) : ∃ q, L_X11_sneak_17 0 (nI b) M FU r 0 = some q ∧ Sum.elim (fun v => some (Sum.inr v)) (fun _ => some (Sum.inr (-1))) q = (some (Sum.inr (zsnk (z_P Z) (t_n (b_t (z_B Z))) b 6 0 r)) : Option (Sum Nat Int32)) := by
  have hn := hz.2.1.1.2.2
  have step : ∀ j h f r, h + (j + 1) = 6 → (∀ r', ∃ q, L_X11_sneak_17 0 (nI b) M f r' (nI (h + 1)) = some q ∧ Sum.elim (fun v => some (Sum.inr v)) (fun _ => some (Sum.inr (-1))) q = (some (Sum.inr (zsnk (z_P Z) (t_n (b_t (z_B Z))) b j (h + 1) (zspread (z_P Z) r'))) : Option (Sum Nat Int32))) → ∃ q, J_X11_sneak_j38 0 (L_X11_sneak_17 0 (nI b) M f) (nI b) r (nI h) M = some q ∧ Sum.elim (fun v => some (Sum.inr v)) (fun _ => some (Sum.inr (-1))) q = (some (Sum.inr (zsnk (z_P Z) (t_n (b_t (z_B Z))) b (j + 1) h r)) : Option (Sum Nat Int32)) := by
    intro j h f r e ih
    unfold J_X11_sneak_j38
    rw [hc.grd, zbs rfl, hc.T.n, zc_wat hz.1 hc.P (by omega) (by omega), zbs rfl, zsnk, nI_1]
    by_cases q : bt (r &&& (((1 : Int32) <<< (nI (zw (z_P Z) (t_n (b_t (z_B Z))) h) &&& 31)) ^^^ (-1))) b = false
    · rw [if_pos ((zbit0 hb).mpr q), if_pos q]
      exact ih _
    · rw [if_neg (fun z => q ((zbit0 hb).mp z)), if_neg q]
      exact ⟨_, rfl, rfl⟩
  have key : ∀ j h f r, h + j = 6 → 0 < h → j < f → ∃ q, L_X11_sneak_17 0 (nI b) M f r (nI h) = some q ∧ Sum.elim (fun v => some (Sum.inr v)) (fun _ => some (Sum.inr (-1))) q = (some (Sum.inr (zsnk (z_P Z) (t_n (b_t (z_B Z))) b j h (zspread (z_P Z) r))) : Option (Sum Nat Int32)) := by
    intro j
    induction j with
    | zero =>
      intro h f r e h0 hf
      obtain ⟨f, rfl⟩ : ∃ f', f = f' + 1 := ⟨f - 1, by omega⟩
      obtain rfl : h = 6 := by omega
      rw [L_X11_sneak_17, if_pos (by decide)]
      exact ⟨_, rfl, rfl⟩
    | succ j ih =>
      intro h f r e h0 hf
      obtain ⟨f, rfl⟩ : ∃ f', f = f' + 1 := ⟨f - 1, by omega⟩
      rw [L_X11_sneak_17, if_neg (znge 6 6 rfl (by omega) (by omega)), if_neg (nI_nle (by omega) (by omega)), hc.grd, zbs rfl, zc_spread hz.1 hc.P, zbs rfl]
      exact step j h f _ e (fun r' => ih (h + 1) f r' (by omega) (by omega) (by omega))
  show ∃ q, L_X11_sneak_17 0 (nI b) M (99999 + 1) r 0 = some q ∧ _
  rw [L_X11_sneak_17, if_neg (by decide), if_pos (by decide)]
  exact step 5 0 99999 r rfl (fun r' => key 5 1 99999 r' (by omega) (by omega) (by omega))
theorem zm_snk (hz : ZW Z) (hm : RM Z M) {b : Nat} (hb : b < 32) (r : Int32) : ∃ q, L_X12_sneak_34 67 (nI b) M FU r 0 = some q ∧ Sum.elim (fun v => some v) (fun _ => some ((-1), M)) q = some (zsnk (z_P Z) (t_n (b_t (z_B Z))) b 6 0 r, M) := by
  have hn := hz.2.1.1.2.2
  have key : ∀ j k f r, k + j = 6 → j < f → ∃ q, L_X12_sneak_34 67 (nI b) M f r (nI k) = some q ∧ Sum.elim (fun v => some v) (fun _ => some ((-1), M)) q = some (zsnk (z_P Z) (t_n (b_t (z_B Z))) b j k r, M) := by
    intro j
    induction j with
    | zero =>
      intro k f r e hf
      obtain ⟨f, rfl⟩ : ∃ f', f = f' + 1 := ⟨f - 1, by omega⟩
      obtain rfl : k = 6 := by omega
      rw [L_X12_sneak_34, if_pos (by decide)]
      exact ⟨_, rfl, rfl⟩
    | succ j ih =>
      intro k f r e hf
      obtain ⟨f, rfl⟩ : ∃ f', f = f' + 1 := ⟨f - 1, by omega⟩
      rw [L_X12_sneak_34, if_neg (znge 6 6 rfl (by omega) (by omega)), hm.T.n, zm_wat hz.1 hm.P (by omega) (by omega), zbs rfl, zsnk, zis hb]
      by_cases q : bt (r &&& (((1 : Int32) <<< (nI (zw (z_P Z) (t_n (b_t (z_B Z))) k) &&& 31)) ^^^ (-1))) b = false
      · rw [if_pos (zbi.mpr q), if_pos q, zm_spread hz.1 hm.P, zbs rfl, nI_1]
        exact ih (k + 1) f _ (by omega) (by omega)
      · rw [if_neg (fun z => q (zbi.mp z)), if_neg q]
        exact ⟨_, rfl, rfl⟩
  exact key 6 0 FU r (by omega) (by decide)
/-! hiding -/
/-- in hours below k the watch is where the street is, at that place of the walk -/
def zmt (P : Pl) (n p i s k : Nat) : Nat := fb_ct (fun h => decide (h % p_ln P p = i) && decide (zw P n h = s)) k
def zlit (P : Pl) (n p i : Nat) : Nat → Int32
  | 0 => 0
  | h + 1 => zlit P n p i h ||| (if h % p_ln P p = i then (1 : Int32) <<< (nI (zw P n h) &&& 31) else 0)
theorem zlit_bt {P : Pl} (hP : PW P) (n p i : Nat) {s : Nat} (hs : s < 32) : ∀ k, bt (zlit P n p i k) s = decide (0 < zmt P n p i s k)
  | 0 => by rw [zlit, b_0]; rfl
  | k + 1 => by
    have h4 := zw_lt hP n k
    have h5 := hP.1.2
    rw [zlit, b_or, zlit_bt hP n p i hs k]
    unfold zmt
    rw [fb_ct_succ]
    by_cases e : k % p_ln P p = i
    · rw [if_pos e, zone (by omega) hs]
      by_cases e2 : zw P n k = s
      · simp [e, e2]
      · simp [e, e2]
    · rw [if_neg e, b_0]
      simp [e]
theorem zc_safe (hz : ZW Z) (hc : RC w Z M) {p i s : Nat} (hp : p < znp (z_P Z)) (hi : i < 32) (hs : s < 32) : F_X11_isSafe 0 (nI p) (nI i) (nI s) M = some (decide (zmt (z_P Z) (t_n (b_t (z_B Z))) p i s 6 = 0)) := by
  have hP := hz.1
  have hn := hz.2.1.1.2.2
  have h7 := hP.2.2.1
  have hl := hP.2.2.2.2.2.2.2.1 p hp
  have key : ∀ j h f, h + j = 6 → j < f → zmt (z_P Z) (t_n (b_t (z_B Z))) p i s h = 0 → ∃ q, L_X11_isSafe_3 0 (nI p) (nI i) (nI s) M f (nI h) = some q ∧ Sum.elim (fun v => some v) (fun _ => some true) q = some (decide (zmt (z_P Z) (t_n (b_t (z_B Z))) p i s 6 = 0)) := by
    intro j
    induction j with
    | zero =>
      intro h f e hf h0
      obtain ⟨f, rfl⟩ : ∃ f', f = f' + 1 := ⟨f - 1, by omega⟩
      obtain rfl : h = 6 := by omega
      rw [L_X11_isSafe_3, if_pos (by decide)]
      exact ⟨_, rfl, by rw [h0]; rfl⟩
    | succ j ih =>
      intro h f e hf h0
      obtain ⟨f, rfl⟩ : ∃ f', f = f' + 1 := ⟨f - 1, by omega⟩
      have hm := Nat.mod_lt h (by omega : 0 < p_ln (z_P Z) p)
      have h4 := zw_lt hP (t_n (b_t (z_B Z))) h
      have h5 := hP.1.2
      have e0 : zmt (z_P Z) (t_n (b_t (z_B Z))) p i s (h + 1) = zmt (z_P Z) (t_n (b_t (z_B Z))) p i s h + (if (decide (h % p_ln (z_P Z) p = i) && decide (zw (z_P Z) (t_n (b_t (z_B Z))) h = s)) = true then 1 else 0) := rfl
      rw [L_X11_isSafe_3, if_neg (znge 6 6 rfl (by omega) (by omega)), hc.grd, zbs rfl, zc_plc hP hc.P hp (by omega), zbs rfl, nI_1]
      by_cases q : h % p_ln (z_P Z) p = i
      · rw [if_pos (by rw [q]), zbs rfl, hc.T.n, zc_wat hP hc.P (by omega) (by omega), zbs rfl]
        by_cases q2 : zw (z_P Z) (t_n (b_t (z_B Z))) h = s
        · rw [if_pos (by rw [q2])]
          refine ⟨_, rfl, ?_⟩
          have : 0 < zmt (z_P Z) (t_n (b_t (z_B Z))) p i s 6 := fb_ct_pos.mpr ⟨h, by omega, by simp [q, q2]⟩
          rw [decide_eq_false (by omega)]; rfl
        · rw [if_neg (fun z => q2 ((nI_eq (by omega) (by omega)).mp z))]
          exact ih (h + 1) f (by omega) (by omega) (by rw [e0, h0]; simp [q2])
      · rw [if_neg (fun z => q ((nI_eq (by omega) (by omega)).mp z))]
        exact ih (h + 1) f (by omega) (by omega) (by rw [e0, h0]; simp [q])
  obtain ⟨q, e1, e2⟩ := key 6 0 FU (by omega) (by decide) rfl
  unfold F_X11_isSafe
  exact (zbs e1).trans e2
theorem zm_lit (hz : ZW Z) (hm : RM Z M) {p i : Nat} (hp : p < znp (z_P Z)) (hi : i < 32) : F_X12_lit 67 (nI p) (nI i) M = some (zlit (z_P Z) (t_n (b_t (z_B Z))) p i 6) := by
  have hP := hz.1
  have hn := hz.2.1.1.2.2
  have h7 := hP.2.2.1
  have hl := hP.2.2.2.2.2.2.2.1 p hp
  have key : ∀ j h f, h + j = 6 → j < f → L_X12_lit_5 67 (nI p) (nI i) M f (zlit (z_P Z) (t_n (b_t (z_B Z))) p i h) (nI h) = some (zlit (z_P Z) (t_n (b_t (z_B Z))) p i 6) := by
    intro j
    induction j with
    | zero =>
      intro h f e hf
      obtain ⟨f, rfl⟩ : ∃ f', f = f' + 1 := ⟨f - 1, by omega⟩
      obtain rfl : h = 6 := by omega
      rw [L_X12_lit_5, if_pos (by decide)]
    | succ j ih =>
      intro h f e hf
      obtain ⟨f, rfl⟩ : ∃ f', f = f' + 1 := ⟨f - 1, by omega⟩
      have hm2 := Nat.mod_lt h (by omega : 0 < p_ln (z_P Z) p)
      have e1 := ih (h + 1) f (by omega) (by omega)
      rw [zlit] at e1
      rw [L_X12_lit_5, if_neg (znge 6 6 rfl (by omega) (by omega)), zald (by omega) (by omega), zbs rfl, hm.P.2.2.2.2.1 p hp, zirm (by omega) (by omega) (by omega), zbs rfl]
      unfold J_X12_lit_j42
      rw [nI_1]
      by_cases q : h % p_ln (z_P Z) p = i
      · rw [if_pos (by rw [q]), hm.T.n, zm_wat hP hm.P (by omega) (by omega), zbs rfl]
        rw [if_pos q] at e1
        exact e1
      · rw [if_neg (fun z => q ((nI_eq (by omega) (by omega)).mp z))]
        rw [if_neg q] at e1
        exact e1
  unfold F_X12_lit
  exact zbs (key 6 0 FU (by omega) (by decide))
end WALKZ
