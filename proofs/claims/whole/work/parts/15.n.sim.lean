/-! ===== the model looks ahead ===== -/
theorem zlel (k : Int32) (b : Nat) (e : k = nI b) {a : Nat} (h : a ≤ b) (hb : b < 2147483648) : nI a ≤ k := by rw [e]; exact nI_le h (by omega)
theorem zltl (k : Int32) (b : Nat) (e : k = nI b) {a : Nat} (h : b < a) (ha : a < 2147483648) : k < nI a := by rw [e]; exact nI_lt h (by omega)
theorem zngl (k : Int32) (b : Nat) (e : k = nI b) {a : Nat} (h : a ≤ b) (hb : b < 2147483648) : ¬ k < nI a := by rw [e]; exact nI_nlt h (by omega)
theorem zw0 {p : Int32} {n : Nat} (hn : n < 100000) (h : p < 0 ∨ (¬ p < 0 ∧ ¬ p < nI (n + 1))) : p < nI 0 ∨ (¬ p < nI 0 ∧ ¬ p ≤ nI n) := by
  rcases h with h | ⟨h, h2⟩
  · exact Or.inl h
  · refine Or.inr ⟨h, fun z => h2 ?_⟩
    exact Int32.lt_of_le_of_lt z (nI_lt (by omega) (by omega))
section SIM
variable {M : Mem} {w : Nat} {Z : Zs}
theorem zm_ahead (hz : ZW Z) (hm : RM Z M) {n : Nat} (hn : n ≤ 40) : ∃ M1 M2 M3, F_X12_pack 67 (67 + 23) 60 0 M = some M1 ∧ F_X12_goOn 67 (nI n) M1 = some M2 ∧ F_X12_unpack 67 (67 + 23) 60 0 M2 = some M3 ∧ MT (mrow M2) (zgo (z_P Z) (b_t (z_B Z)) n) ∧ (0 < n → SM9 M2 (zlast (z_P Z) (b_t (z_B Z)) (n - 1)) ∧ M2 67 39 = zlk (z_P Z) (b_t (z_B Z)) n) ∧ Gz M M3 ∧ M3 67 2 = M 67 2 ∧ M3 67 39 = M2 67 39 ∧ M3 88 = M2 88 ∧ M3 89 = M2 89 := by
  have hP := hz.1
  obtain ⟨hTW, hTC, h9⟩ := hz.2.1.1
  obtain ⟨M1, e1, h1⟩ := zm_pack (M := M) (a := 90) (n := 60) (f := 0) (by omega) (by omega) (by omega)
  have c1 : ∀ b, b ≠ 90 → M1 b = M b := fun b hb => h1.cell (fun k _ => by simp [sloc]; omega)
  have P1 : MP M1 (z_P Z) := hm.P.of (fun a _ _ => c1 a (by omega))
  have T1 : MT (mrow M1) (b_t (z_B Z)) := by rw [mrow_of (M := M) (fun k _ _ => by rw [c1 _ (by omega)]) (c1 _ (by omega)) (c1 _ (by omega)) (c1 _ (by omega))]; exact hm.T
  obtain ⟨M2, e2, h2, h3, G⟩ := zm_go hP P1 T1 hTW (by omega) (by rw [c1 _ (by omega)]; exact hm.2.2.2.2.2.1) hn
  obtain ⟨M3, e3, h4⟩ := zm_unpack (M := M2) (a := 90) (n := 60) (f := 0) (by omega) (by omega) (by omega)
  have c3 : ∀ b, b ≠ 67 → b ≠ 81 → b ≠ 82 → b ≠ 83 → M3 b = M2 b := fun b x1 x2 x3 x4 => h4.cell (fun k _ => by have := mloc_cell k; omega)
  have c4 : ∀ k, (k < 29 ∨ 32 < k) → M3 67 k = M2 67 k := fun k hk => h4.2 67 k (fun i hi e => by unfold mloc at e; (repeat' split at e) <;> simp at e <;> omega)
  refine ⟨M1, M2, M3, e1, e2, e3, h2, h3, zm_back (Or.inl rfl) h1 G h4, ?_, c4 39 (by omega), c3 88 (by omega) (by omega) (by omega) (by omega), c3 89 (by omega) (by omega) (by omega) (by omega)⟩
  rw [c4 2 (by omega), G.2 2 (by omega) (by omega) (by omega) (by omega) (by omega), c1 67 (by omega)]
/-- in which night one is first seen -/
def zfst (P : Pl) (T : Tn) (p : Nat) : Nat → Nat → Int32
  | 0, _ => -1
  | j + 1, k => if zsk P T (t_w T p) k p = 0 then zfst P T p j (k + 1) else nI k
theorem zc_first (hz : ZW Z) (hc : RC w Z M) {p : Nat} (hp : p < znp (z_P Z)) : F_X11_firstSeen 0 (nI p) M = some (zfst (z_P Z) (b_t (z_B Z)) p 40 1) := by
  have hP := hz.1
  have h7 := hP.2.2.1
  obtain ⟨hTW, hTC, h9⟩ := hz.2.1.1
  have key : ∀ j k f, k + j = 41 → 1 ≤ k → j < f → ∃ q, L_X11_firstSeen_17 0 (nI p) (M (0 + 24 + 1 + 3) p) M f (nI k) = some q ∧ Sum.elim (fun v => some v) (fun _ => some (-1)) q = some (zfst (z_P Z) (b_t (z_B Z)) p j k) := by
    intro j
    induction j with
    | zero =>
      intro k f e h1 hf
      obtain ⟨f, rfl⟩ : ∃ f', f = f' + 1 := ⟨f - 1, by omega⟩
      obtain rfl : k = 41 := by omega
      rw [L_X11_firstSeen_17, if_pos (by decide)]
      exact ⟨_, rfl, rfl⟩
    | succ j ih =>
      intro k f e h1 hf
      obtain ⟨f, rfl⟩ : ∃ f', f = f' + 1 := ⟨f - 1, by omega⟩
      rw [L_X11_firstSeen_17, if_neg (zngl 40 40 rfl (by omega) (by omega)), hc.grd, zbs rfl, zc_seen hP hc.P hc.T.n hc.T.b (by omega) hp h1 (by omega) (fun i hi => hc.T.w (by omega) hi) (fun i => Nat.lt_of_lt_of_le (hTW.2.1 p i) hP.1.2), zbs rfl, zfst]
      by_cases q : zsk (z_P Z) (b_t (z_B Z)) (t_w (b_t (z_B Z)) p) k p = 0
      · rw [if_pos q, if_pos q, nI_1]
        exact ih (k + 1) f (by omega) (by omega) (by omega)
      · rw [if_neg q, if_neg q]
        exact ⟨_, rfl, rfl⟩
  obtain ⟨q, e1, e2⟩ := key 40 1 FU (by omega) (by omega) (by decide)
  unfold F_X11_firstSeen
  rw [zat_at (by omega) (by omega)]
  exact (zbs e1).trans e2
theorem zm_first (hz : ZW Z) (hm : RM Z M) {p : Nat} (hp : p < znp (z_P Z)) : Evs (F_X12_firstOf 67 (nI p) M) (fun r => r.1 = zfst (z_P Z) (b_t (z_B Z)) p 40 1 ∧ Gz M r.2 ∧ r.2 67 2 = M 67 2) := by
  have hP := hz.1
  have h7 := hP.2.2.1
  obtain ⟨hTW, hTC, h9⟩ := hz.2.1.1
  obtain ⟨M1, e1, h1⟩ := zm_pack (M := M) (a := 90) (n := 60) (f := 0) (by omega) (by omega) (by omega)
  have c1 : ∀ b, b ≠ 90 → M1 b = M b := fun b hb => h1.cell (fun k _ => by simp [sloc]; omega)
  have P1 : MP M1 (z_P Z) := hm.P.of (fun a _ _ => c1 a (by omega))
  have T1 : MT (mrow M1) (b_t (z_B Z)) := by rw [mrow_of (M := M) (fun k _ _ => by rw [c1 _ (by omega)]) (c1 _ (by omega)) (c1 _ (by omega)) (c1 _ (by omega))]; exact hm.T
  have n35 : M1 67 35 = -1 := by rw [c1 _ (by omega)]; exact hm.2.2.2.2.2.1
  have key : ∀ j k f (M2 : Mem), k + j = 40 → j + 1 < f → MT (mrow M2) (zgo (z_P Z) (b_t (z_B Z)) k) → Gm M1 M2 →
      Evs (L_X12_firstOf_13 67 (nI p) f (-1) (nI (k + 1)) M2) (fun r => r.1 = zfst (z_P Z) (b_t (z_B Z)) p j (k + 1) ∧ Gm M1 r.2) := by
    intro j
    induction j with
    | zero =>
      intro k f M2 e hf a1 a2
      obtain ⟨f, rfl⟩ : ∃ f', f = f' + 1 := ⟨f - 1, by omega⟩
      obtain rfl : k = 40 := by omega
      rw [L_X12_firstOf_13, if_pos (by decide)]
      exact Evs.pure ⟨rfl, a2⟩
    | succ j ih =>
      intro k f M2 e hf a1 a2
      obtain ⟨f, rfl⟩ : ∃ f', f = f' + 1 := ⟨f - 1, by omega⟩
      have q := zgo_k (T := b_t (z_B Z)) hP k
      have hf9 := zfog_le hP (t_n (b_t (z_B Z)) + k)
      rw [L_X12_firstOf_13, if_neg (zngl 40 40 rfl (by omega) (by omega)), if_pos rfl]
      refine Evs.bind (zm_night hP (P1.g a2) a1 (q.2.2.2.2.1 hTW (by omega)) (fog := zfog (z_P Z) (t_n (b_t (z_B Z)) + k)) (by rw [← q.1]; exact zm_fog hP (P1.g a2) a1 (by rw [q.1]; omega) (by rw [a2.2 35 (by omega) (by omega) (by omega) (by omega) (by omega)]; exact n35)) (by omega)) (fun M3 h3 => ?_)
      obtain ⟨s1, s2, s3⟩ := h3
      have eb : bt (zlk (z_P Z) (b_t (z_B Z)) (k + 1)) p = !(zsk (z_P Z) (b_t (z_B Z)) (t_w (b_t (z_B Z)) p) (k + 1) p == 0) := by
        unfold zlk; rw [zmk_bt _ (by omega) (by omega)]; simp; intro _; omega
      rw [s2, zlots_go hP, zis (by omega), eb, zfst]
      by_cases z : zsk (z_P Z) (b_t (z_B Z)) (t_w (b_t (z_B Z)) p) (k + 1) p = 0
      · rw [if_pos (by rw [z]; rfl), if_pos z, nI_1]
        exact ih (k + 1) f M3 (by omega) (by omega) s1.1 (a2.tr s3)
      · rw [if_neg (by simp [z, bi]), if_neg z]
        obtain ⟨f, rfl⟩ : ∃ f', f = f' + 1 := ⟨f - 1, by omega⟩
        rw [L_X12_firstOf_13, nI_1]
        by_cases z2 : (40 : Int32) < nI (k + 1 + 1)
        · rw [if_pos z2]; exact Evs.pure ⟨rfl, a2.tr s3⟩
        · have nn : ∀ j, j < 50 → ¬ nI j = -1 := by decide +kernel
          rw [if_neg z2, if_neg (nn _ (by omega))]; exact Evs.pure ⟨rfl, a2.tr s3⟩
  unfold F_X12_firstOf
  rw [zbs (show F_X12_pack 67 (67 + 23) 60 0 M = some M1 from e1)]
  refine Evs.bind (key 40 0 FU M1 (by omega) (by decide) T1 Gm.rf) (fun r hr => ?_)
  unfold J_X12_firstOf_j47
  obtain ⟨M3, e3, h4⟩ := zm_unpack (M := r.2) (a := 90) (n := 60) (f := 0) (by omega) (by omega) (by omega)
  rw [zbs (show F_X12_unpack 67 (67 + 23) 60 0 r.2 = some M3 from e3)]
  have c4 : ∀ k, (k < 29 ∨ 32 < k) → M3 67 k = r.2 67 k := fun k hk => h4.2 67 k (fun i hi e => by unfold mloc at e; (repeat' split at e) <;> simp at e <;> omega)
  refine Evs.pure ⟨hr.1, zm_back (Or.inl rfl) h1 hr.2 h4, ?_⟩
  show M3 67 2 = _
  rw [c4 2 (by omega), hr.2.2 2 (by omega) (by omega) (by omega) (by omega) (by omega), c1 67 (by omega)]
end SIM
/-! non-throwing calls that read -/
/-- a call that throws nothing: its answers are one, and what stood stands -/
def Ag2 (FL FM : Mem → Option (Int32 × Mem)) : Prop := ∀ M, RR M → ∃ (a : Int32) (M1 M2 : Mem), FL M = some (a, M1) ∧ FM M1 = some (a, M2) ∧ RR M2
theorem agr_secret : ∀ M, RR M → ∃ (a : Int32) (M2 : Mem), F_X11_secret 0 M = some a ∧ F_X12_secret 67 M = some (a, M2) ∧ RR M2 := by
  intro M ⟨w, Z, hz, hc, hm⟩
  have hP := hz.1
  have h7 := hP.2.2.1
  have kc : ∀ j p f, p + j = znp (z_P Z) → j < f → L_X11_secret_4 0 M f (zmk (fun p => zfst (z_P Z) (b_t (z_B Z)) p 40 1 == -1) p) (nI p) = some (zmk (fun p => zfst (z_P Z) (b_t (z_B Z)) p 40 1 == -1) (znp (z_P Z))) := by
    intro j
    induction j with
    | zero =>
      intro p f e hf
      obtain ⟨f, rfl⟩ : ∃ f', f = f' + 1 := ⟨f - 1, by omega⟩
      obtain rfl : p = znp (z_P Z) := by omega
      rw [L_X11_secret_4, hc.grd, zbs rfl, hc.P.1.2.2.2.1, if_pos (nI_le (by omega) (by omega))]
    | succ j ih =>
      intro p f e hf
      obtain ⟨f, rfl⟩ : ∃ f', f = f' + 1 := ⟨f - 1, by omega⟩
      have e1 := ih (p + 1) f (by omega) (by omega)
      rw [zmk] at e1
      rw [L_X11_secret_4, hc.grd, zbs rfl, hc.P.1.2.2.2.1, if_neg (nI_ge (by omega) (by omega)), zc_first hz hc (by omega), zbs rfl, nI_1]
      by_cases q : zfst (z_P Z) (b_t (z_B Z)) p 40 1 = -1
      · rw [if_pos q]
        rw [if_pos (by simp [q])] at e1
        exact e1
      · rw [if_neg q]
        rw [if_neg (by simp [q]), z_or0] at e1
        exact e1
  obtain ⟨hm0, G0, c0⟩ := zm_0 hm
  have km : ∀ j p f (M1 : Mem), p + j = znp (z_P Z) → j < f → Gz (up M 67 2 0) M1 → Evs (L_X12_secret_9 67 f (zmk (fun p => zfst (z_P Z) (b_t (z_B Z)) p 40 1 == -1) p) (nI p) M1) (fun r => r.1 = zmk (fun p => zfst (z_P Z) (b_t (z_B Z)) p 40 1 == -1) (znp (z_P Z)) ∧ Gz (up M 67 2 0) r.2) := by
    intro j
    induction j with
    | zero =>
      intro p f M1 e hf g
      obtain ⟨f, rfl⟩ : ∃ f', f = f' + 1 := ⟨f - 1, by omega⟩
      obtain rfl : p = znp (z_P Z) := by omega
      rw [L_X12_secret_9, (hm0.keep g).P.1.2.2.2.1, if_pos (nI_le (by omega) (by omega))]
      exact Evs.pure ⟨rfl, g⟩
    | succ j ih =>
      intro p f M1 e hf g
      obtain ⟨f, rfl⟩ : ∃ f', f = f' + 1 := ⟨f - 1, by omega⟩
      rw [L_X12_secret_9, (hm0.keep g).P.1.2.2.2.1, if_neg (nI_ge (by omega) (by omega)), nI_1]
      refine Evs.bind (zm_first hz (hm0.keep g) (p := p) (by omega)) (fun r hr => ?_)
      have e1 := ih (p + 1) f r.2 (by omega) (by omega) (g.tr hr.2.1)
      rw [zmk] at e1
      rw [hr.1]
      by_cases q : zfst (z_P Z) (b_t (z_B Z)) p 40 1 = -1
      · rw [if_pos q]
        rw [if_pos (by simp [q])] at e1
        exact e1
      · rw [if_neg q]
        rw [if_neg (by simp [q])] at e1
        exact e1
  obtain ⟨r, e1, r1, g⟩ := km (znp (z_P Z)) 0 FU _ (by omega) (by unfold FU; omega) Gz.rf
  refine ⟨zmk (fun p => zfst (z_P Z) (b_t (z_B Z)) p 40 1 == -1) (znp (z_P Z)), r.2, ?_, ?_, w, Z, hz, hc.of (fun a h => (G0.tr g).fr (Or.inl h)), hm0.keep g⟩
  · unfold F_X11_secret
    exact zbs (kc (znp (z_P Z)) 0 FU (by omega) (by unfold FU; omega))
  · unfold F_X12_secret
    rw [← r1]
    exact zbs e1
