/-! ===== places, knowers, gossip ===== -/
section MORE
variable {M : Mem} {w : Nat} {Z : Zs}
def zsf (P : Pl) (T : Tn) (p i : Nat) : Bool := decide (zmt P (t_n T) p i (t_w T p i) 6 = 0)
theorem zc_safes (hz : ZW Z) (hc : RC w Z M) {p : Nat} (hp : p < znp (z_P Z)) : L_X11_safe_22 0 (nI p) (nI (p_ln (z_P Z) p)) M FU 0 0 = some (zmk (zsf (z_P Z) (b_t (z_B Z)) p) (p_ln (z_P Z) p)) := by
  have hP := hz.1
  have h7 := hP.2.2.1
  have h8 := hP.1.2
  have hl := hP.2.2.2.2.2.2.2.1 p hp
  have hTW := hz.2.1.1.1
  have key : ∀ j i f, i + j = p_ln (z_P Z) p → j < f → L_X11_safe_22 0 (nI p) (nI (p_ln (z_P Z) p)) M f (zmk (zsf (z_P Z) (b_t (z_B Z)) p) i) (nI i) = some (zmk (zsf (z_P Z) (b_t (z_B Z)) p) (p_ln (z_P Z) p)) := by
    intro j
    induction j with
    | zero =>
      intro i f e hf
      obtain ⟨f, rfl⟩ : ∃ f', f = f' + 1 := ⟨f - 1, by omega⟩
      obtain rfl : i = p_ln (z_P Z) p := by omega
      rw [L_X11_safe_22, if_pos (nI_le (by omega) (by omega))]
    | succ j ih =>
      intro i f e hf
      obtain ⟨f, rfl⟩ : ∃ f', f = f' + 1 := ⟨f - 1, by omega⟩
      have hw := hTW.2.1 p i
      have e1 := ih (i + 1) f (by omega) (by omega)
      rw [zmk] at e1
      rw [L_X11_safe_22, if_neg (nI_ge (by omega) (by omega)), zat_at (by omega) (by omega), hc.T.w (by omega) (by omega), zc_safe hz hc hp (by omega) (by omega), zbs rfl, nI_1]
      show (if bi (zsf (z_P Z) (b_t (z_B Z)) p i) = 0 then _ else _) = _
      by_cases q : zsf (z_P Z) (b_t (z_B Z)) p i = true
      · rw [if_neg (by rw [q]; decide)]
        rw [if_pos q] at e1
        exact e1
      · rw [if_pos (zbi.mpr (by simpa using q))]
        rw [if_neg q, z_or0] at e1
        exact e1
  exact key (p_ln (z_P Z) p) 0 FU (by omega) (by unfold FU; omega)
theorem zlit_sf (hz : ZW Z) {p i : Nat} : bt (zlit (z_P Z) (t_n (b_t (z_B Z))) p i 6) (t_w (b_t (z_B Z)) p i) = !(zsf (z_P Z) (b_t (z_B Z)) p i) := by
  have h8 := hz.1.1.2
  have hw := hz.2.1.1.1.2.1 p i
  rw [zlit_bt hz.1 _ _ _ (by omega)]
  unfold zsf
  by_cases q : zmt (z_P Z) (t_n (b_t (z_B Z))) p i (t_w (b_t (z_B Z)) p i) 6 = 0
  · simp [q]
  · simp [q]; omega
theorem zm_safes (hz : ZW Z) (hm : RM Z M) {p : Nat} (hp : p < znp (z_P Z)) : L_X12_safe_23 67 (nI p) M FU 0 0 = some (zmk (zsf (z_P Z) (b_t (z_B Z)) p) (p_ln (z_P Z) p)) := by
  have hP := hz.1
  have h7 := hP.2.2.1
  have h8 := hP.1.2
  have hl := hP.2.2.2.2.2.2.2.1 p hp
  have hTW := hz.2.1.1.1
  have key : ∀ j i f, i + j = p_ln (z_P Z) p → j < f → L_X12_safe_23 67 (nI p) M f (zmk (zsf (z_P Z) (b_t (z_B Z)) p) i) (nI i) = some (zmk (zsf (z_P Z) (b_t (z_B Z)) p) (p_ln (z_P Z) p)) := by
    intro j
    induction j with
    | zero =>
      intro i f e hf
      obtain ⟨f, rfl⟩ : ∃ f', f = f' + 1 := ⟨f - 1, by omega⟩
      obtain rfl : i = p_ln (z_P Z) p := by omega
      rw [L_X12_safe_23, zald (by omega) (by omega), zbs rfl, hm.P.2.2.2.2.1 p hp, if_pos (nI_le (by omega) (by omega))]
    | succ j ih =>
      intro i f e hf
      obtain ⟨f, rfl⟩ : ∃ f', f = f' + 1 := ⟨f - 1, by omega⟩
      have hw := hTW.2.1 p i
      have e1 := ih (i + 1) f (by omega) (by omega)
      rw [zmk] at e1
      rw [L_X12_safe_23, zald (by omega) (by omega), zbs rfl, hm.P.2.2.2.2.1 p hp, if_neg (nI_ge (by omega) (by omega)), zm_lit hz hm hp (by omega), zbs rfl, z6, nI_add, zald (by omega) (by omega), zbs rfl, hm.T.w (by omega) (by omega), zis (by omega), zlit_sf hz, nI_1]
      by_cases q : zsf (z_P Z) (b_t (z_B Z)) p i = true
      · rw [if_pos (by rw [q]; decide)]
        rw [if_pos q] at e1
        exact e1
      · rw [if_neg (by simp [q, bi])]
        rw [if_neg q] at e1
        exact e1
  exact key (p_ln (z_P Z) p) 0 FU (by omega) (by unfold FU; omega)
/-- no street is dark at that place -/
def zno (P : Pl) (n p i : Nat) : Prop := ∀ s, s < zns P → 0 < zmt P n p i s 6
theorem zc_hide (hz : ZW Z) (hc : RC w Z M) {p i : Nat} (hp : p < znp (z_P Z)) (hi : i < 32) : ∃ b, F_X11_canHide 0 (nI p) (nI i) M = some b ∧ (b = false ↔ zno (z_P Z) (t_n (b_t (z_B Z))) p i) := by
  have hP := hz.1
  have h8 := hP.1.2
  have key : ∀ j s f, s + j = zns (z_P Z) → j < f → (∀ k, k < s → 0 < zmt (z_P Z) (t_n (b_t (z_B Z))) p i k 6) → ∃ q b, L_X11_canHide_2 0 (nI p) (nI i) M f (nI s) = some q ∧ Sum.elim (fun v => some v) (fun _ => some false) q = some b ∧ (b = false ↔ zno (z_P Z) (t_n (b_t (z_B Z))) p i) := by
    intro j
    induction j with
    | zero =>
      intro s f e hf h0
      obtain ⟨f, rfl⟩ : ∃ f', f = f' + 1 := ⟨f - 1, by omega⟩
      obtain rfl : s = zns (z_P Z) := by omega
      rw [L_X11_canHide_2, hc.grd, zbs rfl, hc.P.1.1, if_pos (nI_le (by omega) (by omega))]
      exact ⟨_, _, rfl, rfl, ⟨fun _ => h0, fun _ => rfl⟩⟩
    | succ j ih =>
      intro s f e hf h0
      obtain ⟨f, rfl⟩ : ∃ f', f = f' + 1 := ⟨f - 1, by omega⟩
      rw [L_X11_canHide_2, hc.grd, zbs rfl, hc.P.1.1, if_neg (nI_ge (by omega) (by omega)), zc_safe hz hc hp hi (by omega), zbs rfl, nI_1]
      by_cases q : zmt (z_P Z) (t_n (b_t (z_B Z))) p i s 6 = 0
      · rw [if_neg (by simp [q, bi])]
        refine ⟨_, _, rfl, rfl, ⟨fun z => (by cases z), fun z => ?_⟩⟩
        have := z s (by omega)
        omega
      · rw [if_pos (by simp [q, bi])]
        refine ih (s + 1) f (by omega) (by omega) (fun k hk => ?_)
        by_cases e2 : k = s
        · rw [e2]; omega
        · exact h0 k (by omega)
  obtain ⟨q, b, e1, e2, e3⟩ := key (zns (z_P Z)) 0 FU (by omega) (by unfold FU; omega) (fun k hk => by omega)
  refine ⟨b, ?_, e3⟩
  unfold F_X11_canHide
  exact (zbs e1).trans e2
theorem zlit_all {P : Pl} (hP : PW P) (n p i : Nat) : zct (zlit P n p i 6) ≤ zns P ∧ (zct (zlit P n p i 6) = zns P ↔ zno P n p i) := by
  have h8 := hP.1.2
  have hhi : ∀ s, zns P ≤ s → zmt P n p i s 6 = 0 := fun s hs => fb_ct_zero.mpr (fun h _ => by
    have := zw_lt hP n h
    have : ¬ zw P n h = s := by omega
    simp [this])
  have e : zct (zlit P n p i 6) = fb_ct (bt (zlit P n p i 6)) (zns P) := by
    unfold zct
    have e32 : 32 = zns P + (32 - zns P) := by omega
    have z : fb_ct (fun k => bt (zlit P n p i 6) (zns P + k)) (32 - zns P) = 0 := fb_ct_zero.mpr (fun k hk => by rw [zlit_bt hP _ _ _ (by omega), hhi _ (by omega)]; rfl)
    rw [e32, fb_ct_split, z, Nat.add_zero]
  rw [e]
  refine ⟨fb_ct_le _ _, fb_ct_all.trans ⟨fun h s hs => ?_, fun h s hs => ?_⟩⟩
  · have := h s hs
    rw [zlit_bt hP _ _ _ (by omega)] at this
    simpa using this
  · rw [zlit_bt hP _ _ _ (by omega)]
    simpa using h s hs
theorem zlit_8 {P : Pl} (hP : PW P) (n p i : Nat) : ∀ k, 8 ≤ k → k < 32 → bt (zlit P n p i 6) k = false := fun k hk h => by
  have h8 := hP.1.2
  rw [zlit_bt hP _ _ _ h]
  have : zmt P n p i k 6 = 0 := fb_ct_zero.mpr (fun j _ => by
    have := zw_lt hP n j
    have : ¬ zw P n j = k := by omega
    simp [this])
  simp [this]
/-- to hide: from the i-th place on, many so far -/
def zhid (P : Pl) (T : Tn) (p : Nat) : Nat → Nat → Int32 → Int32
  | 0, _, m => m
  | j + 1, i, m => if zct (zlit P (t_n T) p i 6) = zns P then -1 else zhid P T p j (i + 1) (m + (if zsf P T p i = true then 0 else 1))
theorem zc_hides (hz : ZW Z) (hc : RC w Z M) {p : Nat} (hp : p < znp (z_P Z)) : ∃ q, L_X11_toHide_22 0 (nI p) (nI (p_ln (z_P Z) p)) M FU 0 0 = some q ∧ Sum.elim (fun v => some (Sum.inr v)) (fun v => some (Sum.inr v)) q = (some (Sum.inr (zhid (z_P Z) (b_t (z_B Z)) p (p_ln (z_P Z) p) 0 0)) : Option (Sum Nat Int32)) := by
  have hP := hz.1
  have h7 := hP.2.2.1
  have h8 := hP.1.2
  have hl := hP.2.2.2.2.2.2.2.1 p hp
  have hTW := hz.2.1.1.1
  have key : ∀ j i f m, i + j = p_ln (z_P Z) p → j < f → ∃ q, L_X11_toHide_22 0 (nI p) (nI (p_ln (z_P Z) p)) M f m (nI i) = some q ∧ Sum.elim (fun v => some (Sum.inr v)) (fun v => some (Sum.inr v)) q = (some (Sum.inr (zhid (z_P Z) (b_t (z_B Z)) p j i m)) : Option (Sum Nat Int32)) := by
    intro j
    induction j with
    | zero =>
      intro i f m e hf
      obtain ⟨f, rfl⟩ : ∃ f', f = f' + 1 := ⟨f - 1, by omega⟩
      obtain rfl : i = p_ln (z_P Z) p := by omega
      rw [L_X11_toHide_22, if_pos (nI_le (by omega) (by omega))]
      exact ⟨_, rfl, rfl⟩
    | succ j ih =>
      intro i f m e hf
      obtain ⟨f, rfl⟩ : ∃ f', f = f' + 1 := ⟨f - 1, by omega⟩
      have hw := hTW.2.1 p i
      have ha := zlit_all hP (t_n (b_t (z_B Z))) p i
      rw [L_X11_toHide_22, if_neg (nI_ge (by omega) (by omega)), zat_at (by omega) (by omega), hc.T.w (by omega) (by omega), zc_safe hz hc hp (by omega) (by omega), zbs rfl, nI_1, zhid]
      show ∃ q, (if bi (zsf (z_P Z) (b_t (z_B Z)) p i) = 0 then _ else _) = some q ∧ _
      by_cases q : zsf (z_P Z) (b_t (z_B Z)) p i = true
      · rw [if_neg (by rw [q]; decide), if_pos q, Int32.add_zero]
        have : ¬ zct (zlit (z_P Z) (t_n (b_t (z_B Z))) p i 6) = zns (z_P Z) := fun z => by
          have := ha.2.mp z _ hw
          unfold zsf at q
          simp at q
          omega
        rw [if_neg this]
        exact ih (i + 1) f m (by omega) (by omega)
      · rw [if_pos (zbi.mpr (by simpa using q)), if_neg q]
        obtain ⟨b, e1, e2⟩ := zc_hide hz hc hp (i := i) (by omega)
        rw [e1, zbs rfl]
        by_cases k : b = false
        · rw [if_pos (zbi.mpr k), if_pos (ha.2.mpr (e2.mp k))]
          exact ⟨_, rfl, rfl⟩
        · rw [if_neg (fun z => k (zbi.mp z)), if_neg (fun z => k (e2.mpr (ha.2.mp z)))]
          exact ih (i + 1) f _ (by omega) (by omega)
  exact key (p_ln (z_P Z) p) 0 FU 0 (by omega) (by unfold FU; omega)
theorem zm_hides (hz : ZW Z) (hm : RM Z M) {p : Nat} (hp : p < znp (z_P Z)) : ∃ q, L_X12_toHide_23 67 (nI p) M FU 0 0 = some q ∧ Sum.elim (fun v => some v) (fun s => some (s, M)) q = some (zhid (z_P Z) (b_t (z_B Z)) p (p_ln (z_P Z) p) 0 0, M) := by
  have hP := hz.1
  have h7 := hP.2.2.1
  have h8 := hP.1.2
  have hl := hP.2.2.2.2.2.2.2.1 p hp
  have hTW := hz.2.1.1.1
  have key : ∀ j i f m, i + j = p_ln (z_P Z) p → j < f → ∃ q, L_X12_toHide_23 67 (nI p) M f m (nI i) = some q ∧ Sum.elim (fun v => some v) (fun s => some (s, M)) q = some (zhid (z_P Z) (b_t (z_B Z)) p j i m, M) := by
    intro j
    induction j with
    | zero =>
      intro i f m e hf
      obtain ⟨f, rfl⟩ : ∃ f', f = f' + 1 := ⟨f - 1, by omega⟩
      obtain rfl : i = p_ln (z_P Z) p := by omega
      rw [L_X12_toHide_23, zald (by omega) (by omega), zbs rfl, hm.P.2.2.2.2.1 p hp, if_pos (nI_le (by omega) (by omega))]
      exact ⟨_, rfl, rfl⟩
    | succ j ih =>
      intro i f m e hf
      obtain ⟨f, rfl⟩ : ∃ f', f = f' + 1 := ⟨f - 1, by omega⟩
      have hw := hTW.2.1 p i
      have ha := zlit_all hP (t_n (b_t (z_B Z))) p i
      rw [L_X12_toHide_23, zald (by omega) (by omega), zbs rfl, hm.P.2.2.2.2.1 p hp, if_neg (nI_ge (by omega) (by omega)), zm_lit hz hm hp (by omega), zbs rfl, zm_bits (zlit_8 hP _ _ _), zbs rfl, hm.P.1.1, zhid, nI_1]
      by_cases k : zct (zlit (z_P Z) (t_n (b_t (z_B Z))) p i 6) = zns (z_P Z)
      · rw [if_pos (by rw [k]), if_pos k]
        exact ⟨_, rfl, rfl⟩
      · rw [if_neg (fun z => k ((nI_eq (by omega) (by omega)).mp z)), if_neg k, z6, nI_add, zald (by omega) (by omega), zbs rfl, hm.T.w (by omega) (by omega), zis (by omega), zlit_sf hz]
        have e3 : (if bi (!(zsf (z_P Z) (b_t (z_B Z)) p i)) = 0 then (0 : Int32) else 1) = if zsf (z_P Z) (b_t (z_B Z)) p i = true then 0 else 1 := by cases zsf (z_P Z) (b_t (z_B Z)) p i <;> rfl
        rw [e3]
        exact ih (i + 1) f _ (by omega) (by omega)
  exact key (p_ln (z_P Z) p) 0 FU 0 (by omega) (by unfold FU; omega)
/-! who knows one -/
def zkn (T : Tn) (p : Nat) : Int32 := zmk (fun q => bt (t_k T q) p) 7
theorem zc_knw {T : Tn} {t : Nat} (hT : CT (crow M t) T) {p : Nat} (hp : p < 32) : F_X8_knowers t (nI p) M = some (zkn T p) := by
  have key : ∀ j q f, q + j = 7 → j < f → L_X8_knowers_4 t (nI p) M f (zmk (fun q => bt (t_k T q) p) q) (nI q) = some (zkn T p) := by
    intro j
    induction j with
    | zero =>
      intro q f e hf
      obtain ⟨f, rfl⟩ : ∃ f', f = f' + 1 := ⟨f - 1, by omega⟩
      obtain rfl : q = 7 := by omega
      rw [L_X8_knowers_4, if_pos (by decide)]; rfl
    | succ j ih =>
      intro q f e hf
      obtain ⟨f, rfl⟩ : ∃ f', f = f' + 1 := ⟨f - 1, by omega⟩
      have e1 := ih (q + 1) f (by omega) (by omega)
      rw [zmk] at e1
      rw [L_X8_knowers_4, if_neg (znge 7 7 rfl (by omega) (by omega)), zald (by omega) (by omega), zbs rfl, hT.k (by omega), zbit hp, nI_1]
      have e2 : (if bt (t_k T q) p = true then (1 : Int32) else 0) <<< (nI q &&& 31) = if bt (t_k T q) p = true then (1 : Int32) <<< (nI q &&& 31) else 0 := by
        cases bt (t_k T q) p
        · simp
        · rfl
      rw [e2]
      exact e1
  unfold F_X8_knowers
  exact zbs (key 7 0 FU (by omega) (by decide))
theorem zkn_np {P : Pl} {T : Tn} (hP : PW P) (hW : TW9 P T) {p : Nat} (hp : p < 32) : zmk (fun q => bt (t_k T q) p) (znp P) = zkn T p := by
  have h7 := hP.2.2.1
  unfold zkn
  apply b_ext
  intro i hi
  rw [zmk_bt _ hi (by omega), zmk_bt _ hi (by omega)]
  by_cases h : i < znp P
  · simp [h]; omega
  · rw [hW.2.2.2 i p hp (by omega)]; simp
theorem zm_knw (hz : ZW Z) (hm : RM Z M) {p : Nat} (hp : p < 32) : F_X12_knowers 67 (nI p) M = some (zkn (b_t (z_B Z)) p) := by
  have hP := hz.1
  have h7 := hP.2.2.1
  rw [← zkn_np hP hz.2.1.1.1 hp]
  have key : ∀ j q f, q + j = znp (z_P Z) → j < f → L_X12_knowers_4 67 (nI p) M f (zmk (fun q => bt (t_k (b_t (z_B Z)) q) p) q) (nI q) = some (zmk (fun q => bt (t_k (b_t (z_B Z)) q) p) (znp (z_P Z))) := by
    intro j
    induction j with
    | zero =>
      intro q f e hf
      obtain ⟨f, rfl⟩ : ∃ f', f = f' + 1 := ⟨f - 1, by omega⟩
      obtain rfl : q = znp (z_P Z) := by omega
      rw [L_X12_knowers_4, hm.P.1.2.2.2.1, if_pos (nI_le (by omega) (by omega))]
    | succ j ih =>
      intro q f e hf
      obtain ⟨f, rfl⟩ : ∃ f', f = f' + 1 := ⟨f - 1, by omega⟩
      have e1 := ih (q + 1) f (by omega) (by omega)
      rw [zmk] at e1
      rw [L_X12_knowers_4, hm.P.1.2.2.2.1, if_neg (nI_ge (by omega) (by omega)), zald (by omega) (by omega), zbs rfl, hm.T.k (by omega), zis hp, nI_1]
      have e2 : (if bi (bt (t_k (b_t (z_B Z)) q) p) = 0 then (0 : Int32) else (1 : Int32) <<< (nI q &&& 31)) = if bt (t_k (b_t (z_B Z)) q) p = true then (1 : Int32) <<< (nI q &&& 31) else 0 := by
        cases bt (t_k (b_t (z_B Z)) q) p <;> rfl
      rw [e2]
      exact e1
  unfold F_X12_knowers
  exact zbs (key (znp (z_P Z)) 0 FU (by omega) (by unfold FU; omega))
theorem zkn_8 (T : Tn) (p : Nat) : ∀ i, 8 ≤ i → i < 32 → bt (zkn T p) i = false := fun i hi h => by
  unfold zkn
  rw [zmk_bt _ h (by omega)]
  simp; omega
/-- who has most: the best, the most -/
def zmo (v : Nat → Int32) : Nat → Int32 × Int32
  | 0 => (-1, -1)
  | k + 1 => if v k ≤ (zmo v k).2 then zmo v k else (nI k, v k)
def zmv (T : Tn) (i q : Nat) : Int32 := if i = 0 then nI (zct (zkn T q)) else t_c T q
theorem zc_most (hz : ZW Z) (hc : RC w Z M) {i : Nat} (hi : i < 2) : L_X11_most_12 0 (nI i) M FU (-1) (-1) 0 = some (zmo (zmv (b_t (z_B Z)) i) (znp (z_P Z))).1 := by
  have hP := hz.1
  have h7 := hP.2.2.1
  have key : ∀ j q f, q + j = znp (z_P Z) → j < f → L_X11_most_12 0 (nI i) M f (zmo (zmv (b_t (z_B Z)) i) q).1 (zmo (zmv (b_t (z_B Z)) i) q).2 (nI q) = some (zmo (zmv (b_t (z_B Z)) i) (znp (z_P Z))).1 := by
    intro j
    induction j with
    | zero =>
      intro q f e hf
      obtain ⟨f, rfl⟩ : ∃ f', f = f' + 1 := ⟨f - 1, by omega⟩
      obtain rfl : q = znp (z_P Z) := by omega
      rw [L_X11_most_12, hc.grd, zbs rfl, hc.P.1.2.2.2.1, if_pos (nI_le (by omega) (by omega))]
    | succ j ih =>
      intro q f e hf
      obtain ⟨f, rfl⟩ : ∃ f', f = f' + 1 := ⟨f - 1, by omega⟩
      have e1 := ih (q + 1) f (by omega) (by omega)
      rw [zmo] at e1
      have fin : J_X11_most_j61 0 (L_X11_most_12 0 (nI i) M f) (nI i) (zmo (zmv (b_t (z_B Z)) i) q).1 (zmo (zmv (b_t (z_B Z)) i) q).2 (nI q) (zmv (b_t (z_B Z)) i q) M = some (zmo (zmv (b_t (z_B Z)) i) (znp (z_P Z))).1 := by
        unfold J_X11_most_j61
        rw [nI_1]
        by_cases k : zmv (b_t (z_B Z)) i q ≤ (zmo (zmv (b_t (z_B Z)) i) q).2
        · rw [if_pos k] at e1 ⊢; exact e1
        · rw [if_neg k] at e1 ⊢; exact e1
      rw [L_X11_most_12, hc.grd, zbs rfl, hc.P.1.2.2.2.1, if_neg (nI_ge (by omega) (by omega))]
      by_cases z : i = 0
      · rw [if_pos (by rw [z]; rfl), zc_knw hc.T (by omega), zbs rfl, zj_bc2 (zkn_8 _ _)]
        rw [show zmv (b_t (z_B Z)) i q = nI (zct (zkn (b_t (z_B Z)) q)) by unfold zmv; rw [if_pos z]] at fin
        exact fin
      · rw [if_neg (zne 0 0 rfl z (by omega) (by omega)), zat_at (by omega) (by omega), hc.T.c (by omega)]
        rw [show zmv (b_t (z_B Z)) i q = t_c (b_t (z_B Z)) q by unfold zmv; rw [if_neg z]] at fin
        exact fin
  exact key (znp (z_P Z)) 0 FU (by omega) (by unfold FU; omega)
theorem zm_most (hz : ZW Z) (hm : RM Z M) {i : Nat} (hi : i < 2) : L_X12_most_27 67 (nI i) M FU (-1) (-1) 0 = some (zmo (zmv (b_t (z_B Z)) i) (znp (z_P Z))).1 := by
  have hP := hz.1
  have h7 := hP.2.2.1
  have key : ∀ j q f, q + j = znp (z_P Z) → j < f → L_X12_most_27 67 (nI i) M f (zmo (zmv (b_t (z_B Z)) i) q).1 (zmo (zmv (b_t (z_B Z)) i) q).2 (nI q) = some (zmo (zmv (b_t (z_B Z)) i) (znp (z_P Z))).1 := by
    intro j
    induction j with
    | zero =>
      intro q f e hf
      obtain ⟨f, rfl⟩ : ∃ f', f = f' + 1 := ⟨f - 1, by omega⟩
      obtain rfl : q = znp (z_P Z) := by omega
      rw [L_X12_most_27, hm.P.1.2.2.2.1, if_pos (nI_le (by omega) (by omega))]
    | succ j ih =>
      intro q f e hf
      obtain ⟨f, rfl⟩ : ∃ f', f = f' + 1 := ⟨f - 1, by omega⟩
      have e1 := ih (q + 1) f (by omega) (by omega)
      rw [zmo] at e1
      have fin : J_X12_most_j61 67 (L_X12_most_27 67 (nI i) M f) (nI i) (zmo (zmv (b_t (z_B Z)) i) q).1 (zmo (zmv (b_t (z_B Z)) i) q).2 (nI q) (zmv (b_t (z_B Z)) i q) M = some (zmo (zmv (b_t (z_B Z)) i) (znp (z_P Z))).1 := by
        unfold J_X12_most_j61
        rw [nI_1]
        by_cases k : zmv (b_t (z_B Z)) i q ≤ (zmo (zmv (b_t (z_B Z)) i) q).2
        · rw [if_neg (Int32.not_lt.mpr k)]; rw [if_pos k] at e1; exact e1
        · rw [if_pos (Int32.not_le.mp k)]; rw [if_neg k] at e1; exact e1
      rw [L_X12_most_27, hm.P.1.2.2.2.1, if_neg (nI_ge (by omega) (by omega))]
      by_cases z : i = 0
      · rw [if_pos (by rw [z]; rfl), zm_knw hz hm (by omega), zbs rfl, zm_bits (zkn_8 _ _), zbs rfl]
        rw [show zmv (b_t (z_B Z)) i q = nI (zct (zkn (b_t (z_B Z)) q)) by unfold zmv; rw [if_pos z]] at fin
        exact fin
      · rw [if_neg (zne 0 0 rfl z (by omega) (by omega)), zald (by omega) (by omega), zbs rfl, hm.T.c (by omega)]
        rw [show zmv (b_t (z_B Z)) i q = t_c (b_t (z_B Z)) q by unfold zmv; rw [if_neg z]] at fin
        exact fin
  exact key (znp (z_P Z)) 0 FU (by omega) (by unfold FU; omega)
/-! the lantern; who meets -/
theorem zc_lant (hz : ZW Z) (hc : RC w Z M) {s : Nat} (hs : s < 32) : L_X11_lantern_9 0 (nI s) M FU 0 0 = some (zmk (fun h => zw (z_P Z) (t_n (b_t (z_B Z))) h == s) 6) := by
  have hP := hz.1
  have hn := hz.2.1.1.2.2
  have key : ∀ j h f, h + j = 6 → j < f → L_X11_lantern_9 0 (nI s) M f (zmk (fun h => zw (z_P Z) (t_n (b_t (z_B Z))) h == s) h) (nI h) = some (zmk (fun h => zw (z_P Z) (t_n (b_t (z_B Z))) h == s) 6) := by
    intro j
    induction j with
    | zero =>
      intro h f e hf
      obtain ⟨f, rfl⟩ : ∃ f', f = f' + 1 := ⟨f - 1, by omega⟩
      obtain rfl : h = 6 := by omega
      rw [L_X11_lantern_9, if_pos (by decide)]
    | succ j ih =>
      intro h f e hf
      obtain ⟨f, rfl⟩ : ∃ f', f = f' + 1 := ⟨f - 1, by omega⟩
      have h4 := zw_lt hP (t_n (b_t (z_B Z))) h
      have h5 := hP.1.2
      have e1 := ih (h + 1) f (by omega) (by omega)
      rw [zmk] at e1
      rw [L_X11_lantern_9, if_neg (znge 6 6 rfl (by omega) (by omega)), hc.grd, zbs rfl, hc.T.n, zc_wat hP hc.P (by omega) (by omega), zbs rfl, nI_1]
      by_cases q : zw (z_P Z) (t_n (b_t (z_B Z))) h = s
      · rw [if_pos (by rw [q])]
        rw [if_pos (by simp [q])] at e1
        exact e1
      · rw [if_neg (fun z => q ((nI_eq (by omega) (by omega)).mp z))]
        rw [if_neg (by simp [q]), z_or0] at e1
        exact e1
  exact key 6 0 FU (by omega) (by decide)
theorem zm_lant (hz : ZW Z) (hm : RM Z M) {s : Nat} (hs : s < 32) : L_X12_lantern_23 67 (nI s) M FU 0 0 = some (zmk (fun h => zw (z_P Z) (t_n (b_t (z_B Z))) h == s) 6) := by
  have hP := hz.1
  have hn := hz.2.1.1.2.2
  have key : ∀ j h f, h + j = 6 → j < f → L_X12_lantern_23 67 (nI s) M f (zmk (fun h => zw (z_P Z) (t_n (b_t (z_B Z))) h == s) h) (nI h) = some (zmk (fun h => zw (z_P Z) (t_n (b_t (z_B Z))) h == s) 6) := by
    intro j
    induction j with
    | zero =>
      intro h f e hf
      obtain ⟨f, rfl⟩ : ∃ f', f = f' + 1 := ⟨f - 1, by omega⟩
      obtain rfl : h = 6 := by omega
      rw [L_X12_lantern_23, if_pos (by decide)]
    | succ j ih =>
      intro h f e hf
      obtain ⟨f, rfl⟩ : ∃ f', f = f' + 1 := ⟨f - 1, by omega⟩
      have h4 := zw_lt hP (t_n (b_t (z_B Z))) h
      have h5 := hP.1.2
      have e1 := ih (h + 1) f (by omega) (by omega)
      rw [zmk] at e1
      rw [L_X12_lantern_23, if_neg (znge 6 6 rfl (by omega) (by omega)), hm.T.n, zm_wat hP hm.P (by omega) (by omega), zbs rfl, nI_1]
      by_cases q : zw (z_P Z) (t_n (b_t (z_B Z))) h = s
      · rw [if_pos (by rw [q])]
        rw [if_pos (by simp [q])] at e1
        exact e1
      · rw [if_neg (fun z => q ((nI_eq (by omega) (by omega)).mp z))]
        rw [if_neg (by simp [q])] at e1
        exact e1
  exact key 6 0 FU (by omega) (by decide)
def zme (P : Pl) (T : Tn) (p o h : Nat) : Bool := t_w T p (h % p_ln P p) == t_w T o (h % p_ln P o)
theorem zc_meet (hz : ZW Z) (hc : RC w Z M) {p o : Nat} (hp : p < znp (z_P Z)) (ho : o < znp (z_P Z)) : L_X11_meet_15 0 (nI p) (nI o) M FU 0 0 = some (zmk (zme (z_P Z) (b_t (z_B Z)) p o) 6) := by
  have hP := hz.1
  have h7 := hP.2.2.1
  have hTW := hz.2.1.1.1
  have sn : ∀ p, p < znp (z_P Z) → ∀ h, h < 6 → F_X11_streetNow 0 (nI p) (nI h) M = some (nI (t_w (b_t (z_B Z)) p (h % p_ln (z_P Z) p))) := by
    intro p hp h hh
    have hl := hP.2.2.2.2.2.2.2.1 p hp
    have hm := Nat.mod_lt h (by omega : 0 < p_ln (z_P Z) p)
    unfold F_X11_streetNow
    rw [hc.grd, zbs rfl, zc_plc hP hc.P hp (by omega), zbs rfl, zat_at (by omega) (by omega), hc.T.w (by omega) (by omega)]
  have key : ∀ j h f, h + j = 6 → j < f → L_X11_meet_15 0 (nI p) (nI o) M f (zmk (zme (z_P Z) (b_t (z_B Z)) p o) h) (nI h) = some (zmk (zme (z_P Z) (b_t (z_B Z)) p o) 6) := by
    intro j
    induction j with
    | zero =>
      intro h f e hf
      obtain ⟨f, rfl⟩ : ∃ f', f = f' + 1 := ⟨f - 1, by omega⟩
      obtain rfl : h = 6 := by omega
      rw [L_X11_meet_15, if_pos (by decide)]
    | succ j ih =>
      intro h f e hf
      obtain ⟨f, rfl⟩ : ∃ f', f = f' + 1 := ⟨f - 1, by omega⟩
      have h4 := hTW.2.1 p (h % p_ln (z_P Z) p)
      have h6 := hTW.2.1 o (h % p_ln (z_P Z) o)
      have h5 := hP.1.2
      have e1 := ih (h + 1) f (by omega) (by omega)
      rw [zmk] at e1
      rw [L_X11_meet_15, if_neg (znge 6 6 rfl (by omega) (by omega)), sn p hp h (by omega), zbs rfl, sn o ho h (by omega), zbs rfl, nI_1]
      unfold zme at e1 ⊢
      by_cases q : t_w (b_t (z_B Z)) p (h % p_ln (z_P Z) p) = t_w (b_t (z_B Z)) o (h % p_ln (z_P Z) o)
      · rw [if_pos (by rw [q])]
        rw [if_pos (by simp [q])] at e1
        exact e1
      · rw [if_neg (fun z => q ((nI_eq (by omega) (by omega)).mp z))]
        rw [if_neg (by simp [q]), z_or0] at e1
        exact e1
  exact key 6 0 FU (by omega) (by decide)
theorem zm_meet (hz : ZW Z) (hm : RM Z M) {p o : Nat} (hp : p < znp (z_P Z)) (ho : o < znp (z_P Z)) : L_X12_meet_32 67 (nI p) (nI o) M FU 0 0 = some (zmk (zme (z_P Z) (b_t (z_B Z)) p o) 6) := by
  have hP := hz.1
  have h7 := hP.2.2.1
  have hTW := hz.2.1.1.1
  have key : ∀ j h f, h + j = 6 → j < f → L_X12_meet_32 67 (nI p) (nI o) M f (zmk (zme (z_P Z) (b_t (z_B Z)) p o) h) (nI h) = some (zmk (zme (z_P Z) (b_t (z_B Z)) p o) 6) := by
    intro j
    induction j with
    | zero =>
      intro h f e hf
      obtain ⟨f, rfl⟩ : ∃ f', f = f' + 1 := ⟨f - 1, by omega⟩
      obtain rfl : h = 6 := by omega
      rw [L_X12_meet_32, if_pos (by decide)]
    | succ j ih =>
      intro h f e hf
      obtain ⟨f, rfl⟩ : ∃ f', f = f' + 1 := ⟨f - 1, by omega⟩
      have h4 := hTW.2.1 p (h % p_ln (z_P Z) p)
      have h6 := hTW.2.1 o (h % p_ln (z_P Z) o)
      have h5 := hP.1.2
      have e1 := ih (h + 1) f (by omega) (by omega)
      rw [zmk] at e1
      rw [L_X12_meet_32, if_neg (znge 6 6 rfl (by omega) (by omega)), zm_str hP hm.P hm.T hp (by omega), zbs rfl, zm_str hP hm.P hm.T ho (by omega), zbs rfl, nI_1]
      unfold zme at e1 ⊢
      by_cases q : t_w (b_t (z_B Z)) p (h % p_ln (z_P Z) p) = t_w (b_t (z_B Z)) o (h % p_ln (z_P Z) o)
      · rw [if_pos (by rw [q])]
        rw [if_pos (by simp [q])] at e1
        exact e1
      · rw [if_neg (fun z => q ((nI_eq (by omega) (by omega)).mp z))]
        rw [if_neg (by simp [q])] at e1
        exact e1
  exact key 6 0 FU (by omega) (by decide)
end MORE
