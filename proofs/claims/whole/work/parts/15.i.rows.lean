/-! ===== rows: written and read ===== -/
def Al (loc : Nat → Nat × Nat) (n : Nat) (r : Nat → Int32) (M : Mem) (W : Nat → Prop) (M' : Mem) : Prop :=
  (∀ k, k < n → W k → M' (loc k).1 (loc k).2 = r k) ∧ ∀ c j, (∀ k, k < n → loc k ≠ (c, j)) → M' c j = M c j
theorem Al.rf {loc : Nat → Nat × Nat} {n : Nat} {r : Nat → Int32} {M : Mem} : Al loc n r M (fun _ => False) M := ⟨fun _ _ h => h.elim, fun _ _ _ => rfl⟩
theorem Al.mono {loc : Nat → Nat × Nat} {n : Nat} {r : Nat → Int32} {M M' : Mem} {W W' : Nat → Prop} (h : Al loc n r M W M') (hw : ∀ k, k < n → W' k → W k) : Al loc n r M W' M' := ⟨fun k hk w => h.1 k hk (hw k hk w), h.2⟩
theorem Al.st {loc : Nat → Nat × Nat} {n : Nat} {r : Nat → Int32} {M M' : Mem} {W : Nat → Prop} (h : Al loc n r M W M') (inj : ∀ i j, i < n → j < n → loc i = loc j → i = j) {k c j : Nat} {v : Int32} (hk : k < n) (hl : loc k = (c, j)) (hv : v = r k) : Al loc n r M (fun i => W i ∨ i = k) (up M' c j v) := by
  refine ⟨fun i hi w => ?_, fun c2 j2 q => ?_⟩
  · rw [up_app]
    by_cases e : (loc i).1 = c ∧ (loc i).2 = j
    · have : i = k := inj i k hi hk (by rw [hl]; exact Prod.ext e.1 e.2)
      rw [if_pos e, hv, this]
    · rw [if_neg e]
      rcases w with w | w
      · exact h.1 i hi w
      · subst w; rw [hl] at e; exact absurd ⟨rfl, rfl⟩ e
  · rw [up_app]
    by_cases e : c2 = c ∧ j2 = j
    · obtain ⟨rfl, rfl⟩ := e; exact absurd hl (q k hk)
    · rw [if_neg e]; exact h.2 c2 j2 q
def sloc (a f : Nat) : Nat → Nat × Nat := fun k => (a, f + k)
theorem sloc_inj {a f n : Nat} : ∀ i j, i < n → j < n → sloc a f i = sloc a f j → i = j := fun i j _ _ h => by
  have := congrArg Prod.snd h
  simp only [sloc] at this; omega
def cloc (t : Nat) : Nat → Nat × Nat := fun k => if k < 4 then (t, k) else if k < 11 then (t + 1, k - 4) else if k < 18 then (t + 2, k - 11) else (t + 3, k - 18)
def mloc : Nat → Nat × Nat := fun k => if k < 4 then (67, 29 + k) else if k < 11 then (81, k - 4) else if k < 18 then (82, k - 11) else (83, k - 18)
theorem cloc_row (M : Mem) (t k : Nat) : M (cloc t k).1 (cloc t k).2 = crow M t k := by
  unfold cloc crow
  repeat' split
  all_goals rfl
theorem mloc_row (M : Mem) (k : Nat) : M (mloc k).1 (mloc k).2 = mrow M k := by
  unfold mloc mrow
  repeat' split
  all_goals rfl
theorem cloc_inj {t n : Nat} : ∀ i j, i < n → j < n → cloc t i = cloc t j → i = j := fun i j _ _ h => by
  have h1 := congrArg Prod.fst h
  have h2 := congrArg Prod.snd h
  unfold cloc at h1 h2
  split at h1 <;> split at h1 <;> (try split at h1) <;> (try split at h1) <;> (try split at h1) <;> (try split at h1) <;> simp_all <;> omega
theorem mloc_inj {n : Nat} : ∀ i j, i < n → j < n → mloc i = mloc j → i = j := fun i j _ _ h => by
  have h1 := congrArg Prod.fst h
  have h2 := congrArg Prod.snd h
  unfold mloc at h1 h2
  split at h1 <;> split at h1 <;> (try split at h1) <;> (try split at h1) <;> (try split at h1) <;> (try split at h1) <;> simp_all <;> omega
theorem cloc_c {t p : Nat} (h : p < 7) : cloc t (4 + p) = (t + 1, p) := by unfold cloc; rw [if_neg (by omega), if_pos (by omega)]; congr 1; omega
theorem cloc_k {t p : Nat} (h : p < 7) : cloc t (11 + p) = (t + 2, p) := by unfold cloc; rw [if_neg (by omega), if_neg (by omega), if_pos (by omega)]; congr 1; omega
theorem cloc_w {t : Nat} (p : Nat) : cloc t (18 + p) = (t + 3, p) := by unfold cloc; rw [if_neg (by omega), if_neg (by omega), if_neg (by omega)]; congr 1; omega
theorem cloc_0 {t k : Nat} (h : k < 4) : cloc t k = (t, k) := by unfold cloc; rw [if_pos h]
theorem mloc_c {p : Nat} (h : p < 7) : mloc (4 + p) = (81, p) := by unfold mloc; rw [if_neg (by omega), if_pos (by omega)]; congr 1; omega
theorem mloc_k {p : Nat} (h : p < 7) : mloc (11 + p) = (82, p) := by unfold mloc; rw [if_neg (by omega), if_neg (by omega), if_pos (by omega)]; congr 1; omega
theorem mloc_w (p : Nat) : mloc (18 + p) = (83, p) := by unfold mloc; rw [if_neg (by omega), if_neg (by omega), if_neg (by omega)]; congr 1; omega
theorem mloc_0 {k : Nat} (h : k < 4) : mloc k = (67, 29 + k) := by unfold mloc; rw [if_pos h]
theorem Al.cell {loc : Nat → Nat × Nat} {n : Nat} {r : Nat → Int32} {M M' : Mem} {W : Nat → Prop} (h : Al loc n r M W M') {c : Nat} (hc : ∀ k, k < n → (loc k).1 ≠ c) : M' c = M c := by
  funext j
  exact h.2 c j (fun k hk e => hc k hk (by rw [e]))
theorem cloc_cell (t k : Nat) : t ≤ (cloc t k).1 ∧ (cloc t k).1 ≤ t + 3 := by unfold cloc; (repeat' split) <;> simp
theorem mloc_cell (k : Nat) : (mloc k).1 = 67 ∨ (mloc k).1 = 81 ∨ (mloc k).1 = 82 ∨ (mloc k).1 = 83 := by unfold mloc; (repeat' split) <;> simp
theorem CT.cong {r r' : Nat → Int32} {T : Tn} (h : CT r T) (e : ∀ k, k < 25 → r' k = r k) : CT r' T := by
  refine ⟨⟨?_, ?_, ?_, ?_⟩, fun p hp => ?_, fun p hp => ?_, fun p hp i hi => ?_⟩
  · rw [e 0 (by omega)]; exact h.1.1
  · rw [e 1 (by omega)]; exact h.1.2.1
  · rw [e 2 (by omega)]; exact h.1.2.2.1
  · rw [e 3 (by omega)]; exact h.1.2.2.2
  · rw [e _ (by omega)]; exact h.2.1 p hp
  · rw [e _ (by omega)]; exact h.2.2.1 p hp
  · rw [e _ (by omega)]; exact h.2.2.2 p hp i hi
theorem MT.cong {r r' : Nat → Int32} {T : Tn} (h : MT r T) (e : ∀ k, k < 60 → r' k = r k) : MT r' T := by
  refine ⟨⟨?_, ?_, ?_, ?_⟩, fun p hp => ?_, fun p hp => ?_, fun p hp i hi => ?_⟩
  · rw [e 0 (by omega)]; exact h.1.1
  · rw [e 1 (by omega)]; exact h.1.2.1
  · rw [e 2 (by omega)]; exact h.1.2.2.1
  · rw [e 3 (by omega)]; exact h.1.2.2.2
  · rw [e _ (by omega)]; exact h.2.1 p hp
  · rw [e _ (by omega)]; exact h.2.2.1 p hp
  · rw [e _ (by omega)]; exact h.2.2.2 p hp i hi
/-- a row of the class's copied -/
theorem zc_copyRow {M : Mem} {a b n : Nat} (hab : a ≠ b) (hn : n ≤ 1000) : Evs (F_X11_copyRow a n b n M) (Al (sloc b 0) n (M a) M (fun k => k < n)) := by
  have key : ∀ j k f (M1 : Mem), k + j = n → j < f → Al (sloc b 0) n (M a) M (fun i => i < k) M1 → Evs (L_X11_copyRow_2 a n b n f (nI k) M1) (Al (sloc b 0) n (M a) M (fun i => i < n)) := by
    intro j
    induction j with
    | zero =>
      intro k f M1 e hf h
      obtain ⟨f, rfl⟩ : ∃ f', f = f' + 1 := ⟨f - 1, by omega⟩
      obtain rfl : k = n := by omega
      rw [L_X11_copyRow_2, if_pos (nI_le (by omega) (by omega))]
      exact Evs.pure h
    | succ j ih =>
      intro k f M1 e hf h
      obtain ⟨f, rfl⟩ : ∃ f', f = f' + 1 := ⟨f - 1, by omega⟩
      have ha : M1 a = M a := h.cell (fun i _ => Ne.symm hab)
      rw [L_X11_copyRow_2, if_neg (nI_ge (by omega) (by omega)), if_neg (nI_ge (by omega) (by omega)), zald (by omega) (by omega), zbs rfl, zast (by omega) (by omega), zbs rfl, nI_1, ha]
      exact ih (k + 1) f _ (by omega) (by omega) ((h.st sloc_inj (k := k) (by omega) (by simp [sloc]) rfl).mono (fun i _ hi => by omega))
  unfold F_X11_copyRow
  exact Evs.bind (key n 0 FU M (by omega) (by unfold FU; omega) (Al.rf.mono (fun i _ h => by omega))) (fun M' h => Evs.pure h)
/-- a town of the class's copied -/
theorem zc_copy {M : Mem} {t s : Nat} (h : s + 4 ≤ t ∨ t + 4 ≤ s) : Evs (F_X8_copy t s M) (Al (cloc t) 25 (crow M s) M (fun _ => True)) := by
  unfold F_X8_copy
  have e1 : (up M t 0 (M s 0)) s 1 = M s 1 := by rw [up_ne (by omega)]
  rw [e1]
  have e2 : (up (up M t 0 (M s 0)) t 1 (M s 1)) s 2 = M s 2 := by rw [up_ne (by omega), up_ne (by omega)]
  rw [e2]
  have e3 : (up (up (up M t 0 (M s 0)) t 1 (M s 1)) t 2 (M s 2)) s 3 = M s 3 := by rw [up_ne (by omega), up_ne (by omega), up_ne (by omega)]
  rw [e3]
  have h0 : Al (cloc t) 25 (crow M s) M (fun k => k < 4) (up (up (up (up M t 0 (M s 0)) t 1 (M s 1)) t 2 (M s 2)) t 3 (M s 3)) :=
    ((((Al.rf.st cloc_inj (k := 0) (by omega) (cloc_0 (by omega)) rfl).st cloc_inj (k := 1) (by omega) (cloc_0 (by omega)) rfl).st cloc_inj (k := 2) (by omega) (cloc_0 (by omega)) rfl).st cloc_inj (k := 3) (by omega) (cloc_0 (by omega)) rfl).mono (fun i _ hi => by omega)
  generalize up (up (up (up M t 0 (M s 0)) t 1 (M s 1)) t 2 (M s 2)) t 3 (M s 3) = M0 at h0
  have add : ∀ (c d lo : Nat) (W : Nat → Prop) (M1 M2 : Mem), Al (cloc t) 25 (crow M s) M W M1 → (s ≤ c ∧ c ≤ s + 3) → lo ≤ 18 → (∀ q, q < 7 → cloc t (lo + q) = (d, q)) → (∀ q, q < 7 → crow M s (lo + q) = M c q) → Al (sloc d 0) 7 (M1 c) M1 (fun k => k < 7) M2 → Al (cloc t) 25 (crow M s) M (fun k => W k ∨ (lo ≤ k ∧ k < lo + 7)) M2 := by
    intro c d lo W M1 M2 h1 hc hlo hd hr h2
    have hc1 : M1 c = M c := h1.cell (fun k _ => by have := cloc_cell t k; omega)
    refine ⟨fun k hk w => ?_, fun c2 j2 q => ?_⟩
    · by_cases e : lo ≤ k ∧ k < lo + 7
      · have hk2 : k = lo + (k - lo) := by omega
        have := h2.1 (k - lo) (by omega) (by omega)
        rw [hk2, hd _ (by omega), hr _ (by omega), ← hc1]
        simpa [sloc] using this
      · have w2 : W k := by rcases w with w | w; exact w; exact absurd w e
        rw [← h1.1 k hk w2]
        refine h2.2 _ _ (fun i hi e2 => ?_)
        have e3 : d = (cloc t k).1 ∧ i = (cloc t k).2 := by simpa [sloc] using e2
        have : cloc t (lo + i) = cloc t k := by rw [hd i hi]; exact Prod.ext e3.1 e3.2
        have := cloc_inj (n := 25) (lo + i) k (by omega) hk this
        omega
    · rw [h2.2 c2 j2 (fun i hi e2 => q (lo + i) (by omega) (by rw [hd i hi]; simpa [sloc] using e2))]
      exact h1.2 c2 j2 q
  have cell : ∀ (W : Nat → Prop) (M1 : Mem), Al (cloc t) 25 (crow M s) M W M1 → True := fun _ _ _ => trivial
  refine Evs.bind (zc_copyRow (a := s + 1) (b := t + 1) (n := 7) (by omega) (by omega)) (fun M1 g1 => ?_)
  have k1 := add (s + 1) (t + 1) 4 _ M0 M1 h0 (by omega) (by omega) (fun q hq => cloc_c hq) (fun q hq => crow_c hq) g1
  refine Evs.bind (zc_copyRow (a := s + 2) (b := t + 2) (n := 7) (by omega) (by omega)) (fun M2 g2 => ?_)
  have k2 := add (s + 2) (t + 2) 11 _ M1 M2 k1 (by omega) (by omega) (fun q hq => cloc_k hq) (fun q hq => crow_k hq) g2
  refine Evs.bind (zc_copyRow (a := s + 3) (b := t + 3) (n := 7) (by omega) (by omega)) (fun M3 g3 => ?_)
  have k3 := add (s + 3) (t + 3) 18 _ M2 M3 k2 (by omega) (by omega) (fun q hq => cloc_w q) (fun q hq => crow_w q) g3
  exact Evs.pure (k3.mono (fun i hi _ => by omega))
/-- a town written into a row -/
theorem zc_write {M : Mem} {t a n f : Nat} (ha : a < t ∨ t + 3 < a) (hf : f + 25 ≤ n) (hn : n ≤ 1000) : Evs (F_X8_writeTo t a n (nI f) M) (Al (sloc a f) 25 (crow M t) M (fun _ => True)) := by
  have cellA : ∀ {W : Nat → Prop} {M1 : Mem} {c : Nat}, c ≠ a → Al (sloc a f) 25 (crow M t) M W M1 → M1 c = M c := fun hc h => h.cell (fun k _ => Ne.symm hc)
  have key : ∀ j p g (M1 : Mem), p + j = 7 → j < g → Al (sloc a f) 25 (crow M t) M (fun k => k < 4 ∨ (4 ≤ k ∧ k < 4 + p) ∨ (11 ≤ k ∧ k < 11 + p) ∨ (18 ≤ k ∧ k < 18 + p)) M1 → Evs (L_X8_writeTo_44 t a n (nI f) g (nI p) M1) (Al (sloc a f) 25 (crow M t) M (fun _ => True)) := by
    intro j
    induction j with
    | zero =>
      intro p g M1 e hg h
      obtain ⟨g, rfl⟩ : ∃ g', g = g' + 1 := ⟨g - 1, by omega⟩
      obtain rfl : p = 7 := by omega
      rw [L_X8_writeTo_44, if_pos (by decide)]
      exact Evs.pure (h.mono (fun i hi _ => by omega))
    | succ j ih =>
      intro p g M1 e hg h
      obtain ⟨g, rfl⟩ : ∃ g', g = g' + 1 := ⟨g - 1, by omega⟩
      have i1 : nI f + 4 + nI p = nI (f + (4 + p)) := by rw [show (4 : Int32) = nI 4 from rfl, nI_add, nI_add, Nat.add_assoc]
      have i2 : nI f + 4 + 7 + nI p = nI (f + (11 + p)) := by rw [show (4 : Int32) = nI 4 from rfl, show (7 : Int32) = nI 7 from rfl, nI_add, nI_add, nI_add]; congr 1; omega
      have i3 : nI f + 4 + 14 + nI p = nI (f + (18 + p)) := by rw [show (4 : Int32) = nI 4 from rfl, show (14 : Int32) = nI 14 from rfl, nI_add, nI_add, nI_add]; congr 1; omega
      rw [L_X8_writeTo_44, if_neg (znge 7 7 rfl (by omega) (by omega)), i1, i2, i3, nI_1]
      have e1 : F_X11_put a n (nI (f + (4 + p))) (F_X11_at (t + 1) 7 (nI p) M1) M1 = up M1 a (f + (4 + p)) (crow M t (4 + p)) := by
        rw [zput_at (by omega) (by omega), zat_at (by omega) (by omega), cellA (by omega) h, crow_c (by omega)]
      rw [e1]
      have h2 := h.st sloc_inj (k := 4 + p) (c := a) (j := f + (4 + p)) (by omega) rfl rfl
      generalize up M1 a (f + (4 + p)) (crow M t (4 + p)) = M2 at h2
      have e2 : F_X11_put a n (nI (f + (11 + p))) (F_X11_at (t + 2) 7 (nI p) M2) M2 = up M2 a (f + (11 + p)) (crow M t (11 + p)) := by
        rw [zput_at (by omega) (by omega), zat_at (by omega) (by omega), cellA (by omega) h2, crow_k (by omega)]
      rw [e2]
      have h3 := h2.st sloc_inj (k := 11 + p) (c := a) (j := f + (11 + p)) (by omega) rfl rfl
      generalize up M2 a (f + (11 + p)) (crow M t (11 + p)) = M3 at h3
      have e3 : F_X11_put a n (nI (f + (18 + p))) (F_X11_at (t + 3) 7 (nI p) M3) M3 = up M3 a (f + (18 + p)) (crow M t (18 + p)) := by
        rw [zput_at (by omega) (by omega), zat_at (by omega) (by omega), cellA (by omega) h3, crow_w]
      rw [e3]
      have h4 := h3.st sloc_inj (k := 18 + p) (c := a) (j := f + (18 + p)) (by omega) rfl rfl
      exact ih (p + 1) g _ (by omega) (by omega) (h4.mono (fun i hi q => by omega))
  unfold F_X8_writeTo
  have j1 : nI f + 1 = nI (f + 1) := nI_1 f
  have j2 : nI f + 2 = nI (f + 2) := nI_add f 2
  have j3 : nI f + 3 = nI (f + 3) := nI_add f 3
  rw [j1, j2, j3]
  have e0 : F_X11_put a n (nI f) (M t 0) M = up M a (f + 0) (crow M t 0) := zput_at (by omega) (by omega)
  rw [e0]
  have h0 := (Al.rf (loc := sloc a f) (n := 25) (r := crow M t) (M := M)).st sloc_inj (k := 0) (c := a) (j := f + 0) (by omega) rfl rfl
  generalize up M a (f + 0) (crow M t 0) = M1 at h0
  have e1 : F_X11_put a n (nI (f + 1)) (M1 t 1) M1 = up M1 a (f + 1) (crow M t 1) := by rw [zput_at (by omega) (by omega), cellA (by omega) h0]; rfl
  rw [e1]
  have h1 := h0.st sloc_inj (k := 1) (c := a) (j := f + 1) (by omega) rfl rfl
  generalize up M1 a (f + 1) (crow M t 1) = M2 at h1
  have e2 : F_X11_put a n (nI (f + 2)) (M2 t 2) M2 = up M2 a (f + 2) (crow M t 2) := by rw [zput_at (by omega) (by omega), cellA (by omega) h1]; rfl
  rw [e2]
  have h2 := h1.st sloc_inj (k := 2) (c := a) (j := f + 2) (by omega) rfl rfl
  generalize up M2 a (f + 2) (crow M t 2) = M3 at h2
  have e3 : F_X11_put a n (nI (f + 3)) (M3 t 3) M3 = up M3 a (f + 3) (crow M t 3) := by rw [zput_at (by omega) (by omega), cellA (by omega) h2]; rfl
  rw [e3]
  have h3 := h2.st sloc_inj (k := 3) (c := a) (j := f + 3) (by omega) rfl rfl
  exact Evs.bind (key 7 0 FU _ (by omega) (by decide) (h3.mono (fun i hi q => by omega))) (fun M' h => Evs.pure h)
/-- a town read out of a row -/
theorem zc_readr {M : Mem} {t a n f : Nat} (ha : a < t ∨ t + 3 < a) (hf : f + 25 ≤ n) (hn : n ≤ 1000) : Evs (F_X8_readFrom t a n (nI f) M) (Al (cloc t) 25 (fun k => M a (f + k)) M (fun _ => True)) := by
  have cellA : ∀ {W : Nat → Prop} {M1 : Mem}, Al (cloc t) 25 (fun k => M a (f + k)) M W M1 → M1 a = M a := fun h => h.cell (fun k _ => by have := cloc_cell t k; omega)
  have key : ∀ j p g (M1 : Mem), p + j = 7 → j < g → Al (cloc t) 25 (fun k => M a (f + k)) M (fun k => k < 4 ∨ (4 ≤ k ∧ k < 4 + p) ∨ (11 ≤ k ∧ k < 11 + p) ∨ (18 ≤ k ∧ k < 18 + p)) M1 → Evs (L_X8_readFrom_44 t a n (nI f) g (nI p) M1) (Al (cloc t) 25 (fun k => M a (f + k)) M (fun _ => True)) := by
    intro j
    induction j with
    | zero =>
      intro p g M1 e hg h
      obtain ⟨g, rfl⟩ : ∃ g', g = g' + 1 := ⟨g - 1, by omega⟩
      obtain rfl : p = 7 := by omega
      rw [L_X8_readFrom_44, if_pos (by decide)]
      exact Evs.pure (h.mono (fun i hi _ => by omega))
    | succ j ih =>
      intro p g M1 e hg h
      obtain ⟨g, rfl⟩ : ∃ g', g = g' + 1 := ⟨g - 1, by omega⟩
      have i1 : nI f + 4 + nI p = nI (f + (4 + p)) := by rw [show (4 : Int32) = nI 4 from rfl, nI_add, nI_add, Nat.add_assoc]
      have i2 : nI f + 4 + 7 + nI p = nI (f + (11 + p)) := by rw [show (4 : Int32) = nI 4 from rfl, show (7 : Int32) = nI 7 from rfl, nI_add, nI_add, nI_add]; congr 1; omega
      have i3 : nI f + 4 + 14 + nI p = nI (f + (18 + p)) := by rw [show (4 : Int32) = nI 4 from rfl, show (14 : Int32) = nI 14 from rfl, nI_add, nI_add, nI_add]; congr 1; omega
      rw [L_X8_readFrom_44, if_neg (znge 7 7 rfl (by omega) (by omega)), i1, i2, i3, nI_1]
      have e1 : F_X11_put (t + 1) 7 (nI p) (F_X11_at a n (nI (f + (4 + p))) M1) M1 = up M1 (t + 1) p (M a (f + (4 + p))) := by
        rw [zput_at (by omega) (by omega), zat_at (by omega) (by omega), cellA h]
      rw [e1]
      have h2 := h.st cloc_inj (k := 4 + p) (by omega) (cloc_c (by omega)) rfl
      generalize up M1 (t + 1) p (M a (f + (4 + p))) = M2 at h2
      have e2 : F_X11_put (t + 2) 7 (nI p) (F_X11_at a n (nI (f + (11 + p))) M2) M2 = up M2 (t + 2) p (M a (f + (11 + p))) := by
        rw [zput_at (by omega) (by omega), zat_at (by omega) (by omega), cellA h2]
      rw [e2]
      have h3 := h2.st cloc_inj (k := 11 + p) (by omega) (cloc_k (by omega)) rfl
      generalize up M2 (t + 2) p (M a (f + (11 + p))) = M3 at h3
      have e3 : F_X11_put (t + 3) 7 (nI p) (F_X11_at a n (nI (f + (18 + p))) M3) M3 = up M3 (t + 3) p (M a (f + (18 + p))) := by
        rw [zput_at (by omega) (by omega), zat_at (by omega) (by omega), cellA h3]
      rw [e3]
      have h4 := h3.st cloc_inj (k := 18 + p) (by omega) (cloc_w p) rfl
      exact ih (p + 1) g _ (by omega) (by omega) (h4.mono (fun i hi q => by omega))
  unfold F_X8_readFrom
  have j1 : nI f + 1 = nI (f + 1) := nI_1 f
  have j2 : nI f + 2 = nI (f + 2) := nI_add f 2
  have j3 : nI f + 3 = nI (f + 3) := nI_add f 3
  rw [j1, j2, j3]
  have e0 : up M t 0 (F_X11_at a n (nI f) M) = up M t 0 (M a (f + 0)) := by rw [zat_at (by omega) (by omega)]; rfl
  rw [e0]
  have h0 := (Al.rf (loc := cloc t) (n := 25) (r := fun k => M a (f + k)) (M := M)).st cloc_inj (k := 0) (by omega) (cloc_0 (by omega)) rfl
  generalize up M t 0 (M a (f + 0)) = M1 at h0
  have e1 : up M1 t 1 (F_X11_at a n (nI (f + 1)) M1) = up M1 t 1 (M a (f + 1)) := by rw [zat_at (by omega) (by omega), cellA h0]
  rw [e1]
  have h1 := h0.st cloc_inj (k := 1) (by omega) (cloc_0 (by omega)) rfl
  generalize up M1 t 1 (M a (f + 1)) = M2 at h1
  have e2 : up M2 t 2 (F_X11_at a n (nI (f + 2)) M2) = up M2 t 2 (M a (f + 2)) := by rw [zat_at (by omega) (by omega), cellA h1]
  rw [e2]
  have h2 := h1.st cloc_inj (k := 2) (by omega) (cloc_0 (by omega)) rfl
  generalize up M2 t 2 (M a (f + 2)) = M3 at h2
  have e3 : up M3 t 3 (F_X11_at a n (nI (f + 3)) M3) = up M3 t 3 (M a (f + 3)) := by rw [zat_at (by omega) (by omega), cellA h2]
  rw [e3]
  have h3 := h2.st cloc_inj (k := 3) (by omega) (cloc_0 (by omega)) rfl
  exact Evs.bind (key 7 0 FU _ (by omega) (by decide) (h3.mono (fun i hi q => by omega))) (fun M' h => Evs.pure h)
/-- the model's town, packed -/
theorem zm_pack {M : Mem} {a n f : Nat} (ha : a ≠ 67 ∧ a ≠ 81 ∧ a ≠ 82 ∧ a ≠ 83) (hf : f + 60 ≤ n) (hn : n ≤ 3000) : Evs (F_X12_pack 67 a n (nI f) M) (Al (sloc a f) 60 (mrow M) M (fun _ => True)) := by
  have cellA : ∀ {W : Nat → Prop} {M1 : Mem} {c : Nat}, c ≠ a → Al (sloc a f) 60 (mrow M) M W M1 → M1 c = M c := fun hc h => h.cell (fun k _ => Ne.symm hc)
  have keyB : ∀ j p g (M1 : Mem), p + j = 42 → j < g → Al (sloc a f) 60 (mrow M) M (fun k => k < 18 + p) M1 → Evs (L_X12_pack_87 67 a n (nI (f + 18)) g (nI p) M1) (Al (sloc a f) 60 (mrow M) M (fun _ => True)) := by
    intro j
    induction j with
    | zero =>
      intro p g M1 e hg h
      obtain ⟨g, rfl⟩ : ∃ g', g = g' + 1 := ⟨g - 1, by omega⟩
      obtain rfl : p = 42 := by omega
      rw [L_X12_pack_87, if_pos (by decide)]
      exact Evs.pure (h.mono (fun i hi _ => by omega))
    | succ j ih =>
      intro p g M1 e hg h
      obtain ⟨g, rfl⟩ : ∃ g', g = g' + 1 := ⟨g - 1, by omega⟩
      rw [L_X12_pack_87, if_neg (znge 42 42 rfl (by omega) (by omega)), zald (by omega) (by omega), zbs rfl, nI_add, zast (by omega) (by omega), zbs rfl, nI_1, cellA (by omega) h]
      exact ih (p + 1) g _ (by omega) (by omega) ((h.st sloc_inj (k := 18 + p) (c := a) (j := f + 18 + p) (by omega) (by simp [sloc]; omega) (mrow_w p).symm).mono (fun i hi q => by omega))
  have keyA : ∀ j p g (M1 : Mem), p + j = 7 → j < g → Al (sloc a f) 60 (mrow M) M (fun k => k < 4 + p ∨ (11 ≤ k ∧ k < 11 + p)) M1 → Evs (L_X12_pack_36 67 a n (nI f) g (nI p) M1) (Al (sloc a f) 60 (mrow M) M (fun k => k < 18)) := by
    intro j
    induction j with
    | zero =>
      intro p g M1 e hg h
      obtain ⟨g, rfl⟩ : ∃ g', g = g' + 1 := ⟨g - 1, by omega⟩
      obtain rfl : p = 7 := by omega
      rw [L_X12_pack_36, if_pos (by decide)]
      exact Evs.pure (h.mono (fun i hi _ => by omega))
    | succ j ih =>
      intro p g M1 e hg h
      obtain ⟨g, rfl⟩ : ∃ g', g = g' + 1 := ⟨g - 1, by omega⟩
      have i1 : nI f + 4 + nI p = nI (f + (4 + p)) := by rw [show (4 : Int32) = nI 4 from rfl, nI_add, nI_add, Nat.add_assoc]
      have i2 : nI f + 4 + 7 + nI p = nI (f + (11 + p)) := by rw [show (4 : Int32) = nI 4 from rfl, show (7 : Int32) = nI 7 from rfl, nI_add, nI_add, nI_add]; congr 1; omega
      rw [L_X12_pack_36, if_neg (znge 7 7 rfl (by omega) (by omega)), i1, i2, nI_1, zald (by omega) (by omega), zbs rfl, zast (by omega) (by omega), zbs rfl, cellA (by omega) h]
      have h2 := h.st sloc_inj (k := 4 + p) (c := a) (j := f + (4 + p)) (v := M (67 + 14) p) (by omega) rfl (mrow_c (by omega)).symm
      generalize up M1 a (f + (4 + p)) (M (67 + 14) p) = M2 at h2
      rw [zald (by omega) (by omega), zbs rfl, zast (by omega) (by omega), zbs rfl, cellA (by omega) h2]
      have h3 := h2.st sloc_inj (k := 11 + p) (c := a) (j := f + (11 + p)) (v := M (67 + 15) p) (by omega) rfl (mrow_k (by omega)).symm
      exact ih (p + 1) g _ (by omega) (by omega) (h3.mono (fun i hi q => by omega))
  unfold F_X12_pack
  have j1 : nI f + 1 = nI (f + 1) := nI_1 f
  have j2 : nI f + 2 = nI (f + 2) := nI_add f 2
  have j3 : nI f + 3 = nI (f + 3) := nI_add f 3
  have j4 : nI f + 4 + 14 = nI (f + 18) := by rw [show (4 : Int32) = nI 4 from rfl, show (14 : Int32) = nI 14 from rfl, nI_add, nI_add]
  rw [j1, j2, j3, j4, zast (by omega) (by omega), zbs rfl]
  have h0 := (Al.rf (loc := sloc a f) (n := 60) (r := mrow M) (M := M)).st sloc_inj (k := 0) (c := a) (j := f) (v := M 67 29) (by omega) rfl rfl
  generalize up M a f (M 67 29) = M1 at h0
  rw [zast (by omega) (by omega), zbs rfl, cellA (by omega) h0]
  have h1 := h0.st sloc_inj (k := 1) (c := a) (j := f + 1) (v := M 67 30) (by omega) rfl rfl
  generalize up M1 a (f + 1) (M 67 30) = M2 at h1
  rw [zast (by omega) (by omega), zbs rfl, cellA (by omega) h1]
  have h2 := h1.st sloc_inj (k := 2) (c := a) (j := f + 2) (v := M 67 31) (by omega) rfl rfl
  generalize up M2 a (f + 2) (M 67 31) = M3 at h2
  rw [zast (by omega) (by omega), zbs rfl, cellA (by omega) h2]
  have h3 := h2.st sloc_inj (k := 3) (c := a) (j := f + 3) (v := M 67 32) (by omega) rfl rfl
  refine Evs.bind (keyA 7 0 FU _ (by omega) (by decide) (h3.mono (fun i hi q => by omega))) (fun M5 h5 => ?_)
  exact Evs.bind (keyB 42 0 FU _ (by omega) (by decide) (h5.mono (fun i hi q => by omega))) (fun M6 h6 => Evs.pure h6)
theorem zm_unpack {M : Mem} {a n f : Nat} (ha : a ≠ 67 ∧ a ≠ 81 ∧ a ≠ 82 ∧ a ≠ 83) (hf : f + 60 ≤ n) (hn : n ≤ 3000) : Evs (F_X12_unpack 67 a n (nI f) M) (Al mloc 60 (fun k => M a (f + k)) M (fun _ => True)) := by
  have cellA : ∀ {W : Nat → Prop} {M1 : Mem}, Al mloc 60 (fun k => M a (f + k)) M W M1 → M1 a = M a := fun h => h.cell (fun k _ => by have := mloc_cell k; omega)
  have keyB : ∀ j p g (M1 : Mem), p + j = 42 → j < g → Al mloc 60 (fun k => M a (f + k)) M (fun k => k < 18 + p) M1 → Evs (L_X12_unpack_87 67 a n (nI (f + 18)) g (nI p) M1) (Al mloc 60 (fun k => M a (f + k)) M (fun _ => True)) := by
    intro j
    induction j with
    | zero =>
      intro p g M1 e hg h
      obtain ⟨g, rfl⟩ : ∃ g', g = g' + 1 := ⟨g - 1, by omega⟩
      obtain rfl : p = 42 := by omega
      rw [L_X12_unpack_87, if_pos (by decide)]
      exact Evs.pure (h.mono (fun i hi _ => by omega))
    | succ j ih =>
      intro p g M1 e hg h
      obtain ⟨g, rfl⟩ : ∃ g', g = g' + 1 := ⟨g - 1, by omega⟩
      rw [L_X12_unpack_87, if_neg (znge 42 42 rfl (by omega) (by omega)), nI_add, zald (by omega) (by omega), zbs rfl, zast (by omega) (by omega), zbs rfl, nI_1, cellA h]
      exact ih (p + 1) g _ (by omega) (by omega) ((h.st mloc_inj (k := 18 + p) (by omega) (mloc_w p) (by show M a (f + 18 + p) = M a (f + (18 + p)); rw [Nat.add_assoc])).mono (fun i hi q => by omega))
  have keyA : ∀ j p g (M1 : Mem), p + j = 7 → j < g → Al mloc 60 (fun k => M a (f + k)) M (fun k => k < 4 + p ∨ (11 ≤ k ∧ k < 11 + p)) M1 → Evs (L_X12_unpack_36 67 a n (nI f) g (nI p) M1) (Al mloc 60 (fun k => M a (f + k)) M (fun k => k < 18)) := by
    intro j
    induction j with
    | zero =>
      intro p g M1 e hg h
      obtain ⟨g, rfl⟩ : ∃ g', g = g' + 1 := ⟨g - 1, by omega⟩
      obtain rfl : p = 7 := by omega
      rw [L_X12_unpack_36, if_pos (by decide)]
      exact Evs.pure (h.mono (fun i hi _ => by omega))
    | succ j ih =>
      intro p g M1 e hg h
      obtain ⟨g, rfl⟩ : ∃ g', g = g' + 1 := ⟨g - 1, by omega⟩
      have i1 : nI f + 4 + nI p = nI (f + (4 + p)) := by rw [show (4 : Int32) = nI 4 from rfl, nI_add, nI_add, Nat.add_assoc]
      have i2 : nI f + 4 + 7 + nI p = nI (f + (11 + p)) := by rw [show (4 : Int32) = nI 4 from rfl, show (7 : Int32) = nI 7 from rfl, nI_add, nI_add, nI_add]; congr 1; omega
      rw [L_X12_unpack_36, if_neg (znge 7 7 rfl (by omega) (by omega)), i1, i2, nI_1, zald (by omega) (by omega), zbs rfl, zast (by omega) (by omega), zbs rfl, cellA h]
      have h2 := h.st mloc_inj (k := 4 + p) (v := M a (f + (4 + p))) (by omega) (mloc_c (by omega)) rfl
      rw [show (67 + 14 : Nat) = 81 from rfl]
      generalize up M1 81 p (M a (f + (4 + p))) = M2 at h2
      rw [zald (by omega) (by omega), zbs rfl, zast (by omega) (by omega), zbs rfl, cellA h2]
      have h3 := h2.st mloc_inj (k := 11 + p) (v := M a (f + (11 + p))) (by omega) (mloc_k (by omega)) rfl
      exact ih (p + 1) g _ (by omega) (by omega) (h3.mono (fun i hi q => by omega))
  unfold F_X12_unpack
  have j1 : nI f + 1 = nI (f + 1) := nI_1 f
  have j2 : nI f + 2 = nI (f + 2) := nI_add f 2
  have j3 : nI f + 3 = nI (f + 3) := nI_add f 3
  have j4 : nI f + 4 + 14 = nI (f + 18) := by rw [show (4 : Int32) = nI 4 from rfl, show (14 : Int32) = nI 14 from rfl, nI_add, nI_add]
  rw [j1, j2, j3, j4, zald (by omega) (by omega), zbs rfl]
  have h0 := (Al.rf (loc := mloc) (n := 60) (r := fun k => M a (f + k)) (M := M)).st mloc_inj (k := 0) (v := M a f) (by omega) (mloc_0 (by omega)) rfl
  have t1 : 29 + 0 = 29 := rfl
  rw [t1] at h0
  generalize up M 67 29 (M a f) = M1 at h0
  rw [zald (by omega) (by omega), zbs rfl, cellA h0]
  have h1 := h0.st mloc_inj (k := 1) (v := M a (f + 1)) (by omega) (mloc_0 (by omega)) rfl
  have t2 : 29 + 1 = 30 := rfl
  rw [t2] at h1
  generalize up M1 67 30 (M a (f + 1)) = M2 at h1
  rw [zald (by omega) (by omega), zbs rfl, cellA h1]
  have h2 := h1.st mloc_inj (k := 2) (v := M a (f + 2)) (by omega) (mloc_0 (by omega)) rfl
  have t3 : 29 + 2 = 31 := rfl
  rw [t3] at h2
  generalize up M2 67 31 (M a (f + 2)) = M3 at h2
  rw [zald (by omega) (by omega), zbs rfl, cellA h2]
  have h3 := h2.st mloc_inj (k := 3) (v := M a (f + 3)) (by omega) (mloc_0 (by omega)) rfl
  have t4 : 29 + 3 = 32 := rfl
  rw [t4] at h3
  refine Evs.bind (keyA 7 0 FU _ (by omega) (by decide) (h3.mono (fun i hi q => by omega))) (fun M5 h5 => ?_)
  exact Evs.bind (keyB 42 0 FU _ (by omega) (by decide) (h5.mono (fun i hi q => by omega))) (fun M6 h6 => Evs.pure h6)
