/-! ===== the class's heap and the model's, and what both mean ===== -/
abbrev Bk : Type := Tn × Nat × (Nat → Tn) × Nat × (Nat → Nat) × (Nat → Nat) × (Nat → Bool) × (Nat → Int32)
abbrev b_t (B : Bk) : Tn := B.1
abbrev b_a (B : Bk) : Nat := B.2.1
abbrev b_p (B : Bk) : Nat → Tn := B.2.2.1
abbrev b_m (B : Bk) : Nat := B.2.2.2.1
abbrev b_q (B : Bk) : Nat → Nat := B.2.2.2.2.1
abbrev b_i (B : Bk) : Nat → Nat := B.2.2.2.2.2.1
abbrev b_s (B : Bk) : Nat → Bool := B.2.2.2.2.2.2.1
abbrev b_u (B : Bk) : Nat → Int32 := B.2.2.2.2.2.2.2
abbrev Zs : Type := Pl × Bk × Option Bk × Nat × (Nat → Nat) × Int32
abbrev z_P (Z : Zs) : Pl := Z.1
abbrev z_B (Z : Zs) : Bk := Z.2.1
abbrev z_I (Z : Zs) : Option Bk := Z.2.2.1
abbrev z_n (Z : Zs) : Nat := Z.2.2.2.1
abbrev z_y (Z : Zs) : Nat → Nat := Z.2.2.2.2.1
abbrev z_f (Z : Zs) : Int32 := Z.2.2.2.2.2
/-- a town that stands -/
def TSt (P : Pl) (T : Tn) : Prop := TW9 P T ∧ TC T ∧ t_n T ≤ 999
def BW (P : Pl) (B : Bk) : Prop := TSt P (b_t B) ∧ b_a B ≤ 40 ∧ (∀ i, i < b_a B → TSt P (b_p B i)) ∧ b_m B ≤ 8 ∧ ∀ i, i < b_m B → b_q B i < znp P ∧ 1 ≤ b_i B i ∧ b_i B i ≤ 12
def ZW (Z : Zs) : Prop := PW (z_P Z) ∧ BW (z_P Z) (z_B Z) ∧ (∀ B, z_I Z = some B → BW (z_P Z) B) ∧ z_n Z ≤ 700 ∧ ∀ i, i < z_n Z → z_y Z i < 256
def BC (M : Mem) (b : Nat) (B : Bk) : Prop := CT (crow M (b + 1)) (b_t B) ∧ M (b + 5) 1 = nI (b_a B) ∧ (∀ i, i < b_a B → CT (fun k => M (b + 6) (25 * i + k)) (b_p B i)) ∧ M (b + 7) 3 = nI (b_m B) ∧ (∀ i, i < b_m B → M (b + 8) i = nI (b_q B i) ∧ M (b + 9) i = nI (b_i B i) ∧ M (b + 10) i = if b_s B i then 1 else 0) ∧ ∀ i, i < 3 → M (b + 11) i = b_u B i
def BM (r : Nat → Int32) (ac : Int32) (pa : Nat → Int32) (tl : Int32) (q i s u : Nat → Int32) (B : Bk) : Prop := MT r (b_t B) ∧ ac = nI (b_a B) ∧ (∀ j, j < b_a B → MT (fun k => pa (60 * j + k)) (b_p B j)) ∧ tl = nI (b_m B) ∧ (∀ j, j < b_m B → q j = nI (b_q B j) ∧ i j = nI (b_i B j) ∧ s j = if b_s B j then 1 else 0) ∧ ∀ j, j < 3 → u j = b_u B j
def RC (w : Nat) (Z : Zs) (M : Mem) : Prop := ((w = 3 ∧ M 0 1 = nI 3 ∧ M 1 2 = nI 14) ∨ (w = 14 ∧ M 0 1 = nI 14 ∧ M 1 2 = nI 3)) ∧ CP M w (z_P Z) ∧ BC M 24 (z_B Z) ∧ M 0 2 = z_f Z ∧ M 1 1 = nI (z_n Z) ∧ (∀ i, i < z_n Z → M 2 i = nI (z_y Z i)) ∧ (z_I Z = none → M 0 5 = 0) ∧ (∀ B, z_I Z = some B → M 0 5 = 1 ∧ BC M 36 B) ∧ ∀ t, t < 128 → M 59 (896 + t) = 0
def RM (Z : Zs) (M : Mem) : Prop := MP M (z_P Z) ∧ BM (mrow M) (M 67 33) (M 84) (M 67 34) (M 93) (M 94) (M 96) (M 79) (z_B Z) ∧ M 67 23 = z_f Z ∧ M 67 14 = nI (z_n Z) ∧ (∀ i, i < z_n Z → M 80 i = nI (z_y Z i)) ∧ M 67 35 = -1 ∧ (z_I Z = none → M 67 55 = 0) ∧ ∀ B, z_I Z = some B → M 67 55 = 1 ∧ BM (M 100) (M 67 56) (M 101) (M 67 57) (M 102) (M 103) (M 105) (M 104) B
section RELS
variable {M M' : Mem} {w : Nat} {Z : Zs}
theorem RC.ww (h : RC w Z M) : w = 3 ∨ w = 14 := by rcases h.1 with h | h; exact Or.inl h.1; exact Or.inr h.1
theorem RC.grd (h : RC w Z M) : grd (M 0 1) = some w := by
  rcases h.1 with ⟨rfl, h, -⟩ | ⟨rfl, h, -⟩
  · rw [h]; rfl
  · rw [h]; rfl
theorem RC.P (h : RC w Z M) : CP M w (z_P Z) := h.2.1
theorem RC.B (h : RC w Z M) : BC M 24 (z_B Z) := h.2.2.1
theorem RC.T (h : RC w Z M) : CT (crow M 25) (b_t (z_B Z)) := h.2.2.1.1
theorem RM.P (h : RM Z M) : MP M (z_P Z) := h.1
theorem RM.T (h : RM Z M) : MT (mrow M) (b_t (z_B Z)) := h.2.1.1
/-- the class's scratch alone has changed -/
def Fz (w : Nat) (M M' : Mem) : Prop := (∀ a, a = 0 ∨ a = 1 ∨ a = 2 ∨ (w ≤ a ∧ a ≤ w + 8 ∧ a ≠ w + 7) ∨ (24 ≤ a ∧ a ≤ 47) ∨ 67 ≤ a ∨ a = 59 → M' a = M a) ∧ M' (w + 7) 1 = M (w + 7) 1
theorem Fz.rf : Fz w M M := ⟨fun _ _ => rfl, rfl⟩
theorem Fz.tr {M1 M2 : Mem} (h : Fz w M M1) (h2 : Fz w M1 M2) : Fz w M M2 := ⟨fun a x => (h2.1 a x).trans (h.1 a x), h2.2.trans h.2⟩
theorem BC.of {b : Nat} {B : Bk} (h : BC M b B) (e : ∀ a, b ≤ a → a ≤ b + 11 → M' a = M a) : BC M' b B := by
  unfold BC
  rw [crow_of (M := M) (fun a h1 h2 => e a (by omega) (by omega)), e (b + 5) (by omega) (by omega), e (b + 6) (by omega) (by omega), e (b + 7) (by omega) (by omega), e (b + 8) (by omega) (by omega), e (b + 9) (by omega) (by omega), e (b + 10) (by omega) (by omega), e (b + 11) (by omega) (by omega)]
  exact h
theorem RC.keep (h : RC w Z M) (F : Fz w M M') : RC w Z M' := by
  have hw := h.ww
  obtain ⟨a1, a2, a3, a4, a5, a6, a7, a8⟩ := h
  have e0 := F.1 0 (by omega)
  have e1 := F.1 1 (by omega)
  have e2 := F.1 2 (by omega)
  refine ⟨by rw [e0, e1]; exact a1, a2.of (fun a h1 h2 h3 => F.1 a (by omega)) F.2, a3.of (fun a h1 h2 => F.1 a (by omega)), by rw [e0]; exact a4, by rw [e1]; exact a5, by rw [e2]; exact a6, by rw [e0]; exact a7, fun B hB => ?_, by rw [F.1 59 (by omega)]; exact a8.2⟩
  rw [e0]
  exact ⟨(a8.1 B hB).1, (a8.1 B hB).2.of (fun a h1 h2 => F.1 a (by omega))⟩
theorem RC.of (h : RC w Z M) (e : ∀ a, a < 67 → M' a = M a) : RC w Z M' := by
  have hw := h.ww
  obtain ⟨a1, a2, a3, a4, a5, a6, a7, a8⟩ := h
  have e0 := e 0 (by omega)
  have e1 := e 1 (by omega)
  have e2 := e 2 (by omega)
  refine ⟨by rw [e0, e1]; exact a1, a2.of (fun a h1 h2 h3 => e a (by omega)) (by rw [e _ (by omega)]), a3.of (fun a h1 h2 => e a (by omega)), by rw [e0]; exact a4, by rw [e1]; exact a5, by rw [e2]; exact a6, by rw [e0]; exact a7, fun B hB => ?_, by rw [e 59 (by omega)]; exact a8.2⟩
  rw [e0]
  exact ⟨(a8.1 B hB).1, (a8.1 B hB).2.of (fun a h1 h2 => e a (by omega))⟩
theorem RM.of (h : RM Z M) (e : ∀ a, 67 ≤ a → a < 106 → M' a = M a) : RM Z M' := by
  unfold RM
  rw [mrow_of (M := M) (fun k _ _ => by rw [e 67 (by omega) (by omega)]) (e _ (by omega) (by omega)) (e _ (by omega) (by omega)) (e _ (by omega) (by omega)), e 67 (by omega) (by omega), e 84 (by omega) (by omega), e 93 (by omega) (by omega), e 94 (by omega) (by omega), e 96 (by omega) (by omega), e 79 (by omega) (by omega), e 80 (by omega) (by omega), e 100 (by omega) (by omega), e 101 (by omega) (by omega), e 102 (by omega) (by omega), e 103 (by omega) (by omega), e 104 (by omega) (by omega), e 105 (by omega) (by omega)]
  exact ⟨h.1.of (fun a _ _ => e a (by omega) (by omega)), h.2⟩
/-- the model's scratch alone has changed -/
def Gz (M M' : Mem) : Prop := (∀ a, a ≠ 67 → a ≠ 81 → a ≠ 82 → a ≠ 83 → (a < 85 ∨ 92 < a) → a ≠ 95 → a ≠ 97 → a ≠ 98 → a ≠ 99 → M' a = M a) ∧ (∀ k, k = 14 ∨ k = 23 ∨ k = 33 ∨ k = 34 ∨ k = 35 ∨ k = 55 ∨ k = 56 ∨ k = 57 → M' 67 k = M 67 k) ∧ ∀ k, k < 60 → mrow M' k = mrow M k
theorem Gz.rf : Gz M M := ⟨fun _ _ _ _ _ _ _ _ _ _ => rfl, fun _ _ => rfl, fun _ _ => rfl⟩
theorem Gz.tr {M1 M2 : Mem} (h : Gz M M1) (h2 : Gz M1 M2) : Gz M M2 := ⟨fun a x1 x2 x3 x4 x5 x6 x7 x8 x9 => (h2.1 a x1 x2 x3 x4 x5 x6 x7 x8 x9).trans (h.1 a x1 x2 x3 x4 x5 x6 x7 x8 x9), fun k x => (h2.2.1 k x).trans (h.2.1 k x), fun k x => (h2.2.2 k x).trans (h.2.2 k x)⟩
theorem RM.keep (h : RM Z M) (G : Gz M M') : RM Z M' := by
  obtain ⟨a1, a2, a3, a4, a5, a6, a7, a8⟩ := h
  have e : ∀ a, a = 79 ∨ a = 80 ∨ a = 84 ∨ a = 93 ∨ a = 94 ∨ a = 96 ∨ (100 ≤ a ∧ a ≤ 105) → M' a = M a := fun a x => G.1 a (by omega) (by omega) (by omega) (by omega) (by omega) (by omega) (by omega) (by omega) (by omega)
  refine ⟨a1.of (fun a _ _ => G.1 a (by omega) (by omega) (by omega) (by omega) (by omega) (by omega) (by omega) (by omega) (by omega)), ?_, ?_, ?_, ?_, ?_, ?_, ?_⟩
  · obtain ⟨b1, b2, b3, b4, b5, b6⟩ := a2
    refine ⟨b1.cong G.2.2, ?_, ?_, ?_, ?_, ?_⟩
    · rw [G.2.1 33 (by omega)]; exact b2
    · rw [e 84 (by omega)]; exact b3
    · rw [G.2.1 34 (by omega)]; exact b4
    · rw [e 93 (by omega), e 94 (by omega), e 96 (by omega)]; exact b5
    · rw [e 79 (by omega)]; exact b6
  · rw [G.2.1 23 (by omega)]; exact a3
  · rw [G.2.1 14 (by omega)]; exact a4
  · rw [e 80 (by omega)]; exact a5
  · rw [G.2.1 35 (by omega)]; exact a6
  · rw [G.2.1 55 (by omega)]; exact a7
  · rw [G.2.1 55 (by omega), G.2.1 56 (by omega), G.2.1 57 (by omega), e 100 (by omega), e 101 (by omega), e 102 (by omega), e 103 (by omega), e 104 (by omega), e 105 (by omega)]; exact a8
theorem Gz.f {k : Nat} {v : Int32} (h1 : k ≠ 14 ∧ k ≠ 23 ∧ k ≠ 33 ∧ k ≠ 34 ∧ k ≠ 35 ∧ k ≠ 55 ∧ k ≠ 56 ∧ k ≠ 57) (h2 : k < 29 ∨ 32 < k) : Gz M (up M 67 k v) := by
  refine ⟨fun a x1 _ _ _ _ _ _ _ _ => by rw [up_ne x1], fun j hj => by rw [up_app, if_neg (by omega)], fun j _ => ?_⟩
  rw [mrow_of (M := M) (fun i _ _ => by rw [up_app, if_neg (by omega)]) (up_ne (by omega)) (up_ne (by omega)) (up_ne (by omega))]
end RELS
/-! nights ahead -/
section AHEAD
variable {M : Mem} {w : Nat} {Z : Zs}
/-- what nights of the later town change -/
theorem Fp.z {M' : Mem} (hw : w = 3 ∨ w = 14) (h : Fp 48 w M M') : Fz w M M' := ⟨fun a x => h.1 a (by omega) (by omega) (by omega) (by omega), h.2 1 (by omega)⟩
theorem zc_cp48 (hc : RC w Z M) : Evs (F_X8_copy 48 25 M) (fun M' => CT (crow M' 48) (b_t (z_B Z)) ∧ Fz w M M' ∧ ∀ a, (a < 48 ∨ 51 < a) → M' a = M a) := by
  have hw := hc.ww
  refine (zc_copy (M := M) (t := 48) (s := 25) (by omega)).mono (fun M' h => ?_)
  have hn : ∀ a, (a < 48 ∨ 51 < a) → M' a = M a := fun a ha => h.cell (fun k _ => by have := cloc_cell 48 k; omega)
  exact ⟨hc.T.cong (fun k hk => by rw [← cloc_row M' 48 k]; exact h.1 k hk trivial), ⟨fun a x => hn a (by omega), by rw [hn _ (by omega)]⟩, hn⟩
theorem zc_go (hz : ZW Z) (hc : RC w Z M) {n : Nat} (hn : n ≤ 40) : Evs (F_X11_goAhead 0 (nI n) M) (fun M' => CT (crow M' 48) (zgo (z_P Z) (b_t (z_B Z)) n) ∧ (0 < n → SC9 48 M' (zlast (z_P Z) (b_t (z_B Z)) (n - 1))) ∧ Fz w M M') := by
  have hP := hz.1
  have hw := hc.ww
  obtain ⟨hTW, hTC, h9⟩ := hz.2.1.1
  have key : ∀ j i f (M1 : Mem), i + j = n → j < f → CT (crow M1 48) (zgo (z_P Z) (b_t (z_B Z)) i) → (0 < i → SC9 48 M1 (zlast (z_P Z) (b_t (z_B Z)) (i - 1))) → Fz w M M1 →
      Evs (L_X11_goAhead_16 0 (nI n) f (nI i) M1) (fun M' => CT (crow M' 48) (zgo (z_P Z) (b_t (z_B Z)) n) ∧ (0 < n → SC9 48 M' (zlast (z_P Z) (b_t (z_B Z)) (n - 1))) ∧ Fz w M M') := by
    intro j
    induction j with
    | zero =>
      intro i f M1 e hf a1 a2 a3
      obtain ⟨f, rfl⟩ : ∃ f', f = f' + 1 := ⟨f - 1, by omega⟩
      obtain rfl : i = n := by omega
      rw [L_X11_goAhead_16, if_pos (nI_le (by omega) (by omega))]
      exact Evs.pure ⟨a1, a2, a3⟩
    | succ j ih =>
      intro i f M1 e hf a1 a2 a3
      obtain ⟨f, rfl⟩ : ∃ f', f = f' + 1 := ⟨f - 1, by omega⟩
      have hc1 := hc.keep a3
      have k := zgo_k (T := b_t (z_B Z)) hP i
      rw [L_X11_goAhead_16, if_neg (nI_ge (by omega) (by omega)), hc1.grd, zbs rfl, zbs rfl, a1.n, k.1, zc_fog hP hc1.P (by omega), zbs rfl, nI_1]
      refine Evs.bind (zc_pass hP hc1.P hw (c := 48) a1 (k.2.2.2.2.1 hTW (by omega)) (by omega) (fog := zfog (z_P Z) (t_n (b_t (z_B Z)) + i)) (by have := zfog_le hP (t_n (b_t (z_B Z)) + i); omega)) (fun M2 h2 => ?_)
      exact ih (i + 1) f M2 (by omega) (by omega) h2.1.1 (fun _ => h2.1) (a3.tr (h2.2.z hw))
  unfold F_X11_goAhead
  refine Evs.bind (zc_cp48 hc) (fun M1 h1 => ?_)
  exact Evs.bind (key n 0 FU M1 (by omega) (by unfold FU; omega) h1.1 (fun h => by omega) h1.2.1) (fun M2 h2 => Evs.pure h2)
theorem zm_go {P : Pl} {T : Tn} (hP : PW P) (C : MP M P) (hT : MT (mrow M) T) (hW : TW9 P T) (h9 : t_n T ≤ 1500) (h35 : M 67 35 = -1) {n : Nat} (hn : n ≤ 40) : Evs (F_X12_goOn 67 (nI n) M) (fun M' => MT (mrow M') (zgo P T n) ∧ (0 < n → SM9 M' (zlast P T (n - 1)) ∧ M' 67 39 = zlk P T n) ∧ Gm M M') := by
  have key : ∀ j i f (M1 : Mem), i + j = n → j < f → MT (mrow M1) (zgo P T i) → (0 < i → SM9 M1 (zlast P T (i - 1)) ∧ M1 67 39 = zlk P T i) → Gm M M1 →
      Evs (L_X12_goOn_2 67 (nI n) f (nI i) M1) (fun M' => MT (mrow M') (zgo P T n) ∧ (0 < n → SM9 M' (zlast P T (n - 1)) ∧ M' 67 39 = zlk P T n) ∧ Gm M M') := by
    intro j
    induction j with
    | zero =>
      intro i f M1 e hf a1 a2 a3
      obtain ⟨f, rfl⟩ : ∃ f', f = f' + 1 := ⟨f - 1, by omega⟩
      obtain rfl : i = n := by omega
      rw [L_X12_goOn_2, if_pos (nI_le (by omega) (by omega))]
      exact Evs.pure ⟨a1, a2, a3⟩
    | succ j ih =>
      intro i f M1 e hf a1 a2 a3
      obtain ⟨f, rfl⟩ : ∃ f', f = f' + 1 := ⟨f - 1, by omega⟩
      have k := zgo_k (T := T) hP i
      rw [L_X12_goOn_2, if_neg (nI_ge (by omega) (by omega)), nI_1]
      have hf9 := zfog_le hP (t_n T + i)
      refine Evs.bind (zm_night hP (C.g a3) a1 (k.2.2.2.2.1 hW (by omega)) (fog := zfog P (t_n T + i)) (by rw [← k.1]; exact zm_fog hP (C.g a3) a1 (by rw [k.1]; omega) (by rw [a3.2 35 (by omega) (by omega) (by omega) (by omega) (by omega)]; exact h35)) (by omega)) (fun M2 h2 => ?_)
      refine ih (i + 1) f M2 (by omega) (by omega) h2.1.1 (fun _ => ⟨h2.1, ?_⟩) (a3.tr h2.2.2)
      rw [h2.2.1]; exact zlots_go hP i
  unfold F_X12_goOn
  exact Evs.bind (key n 0 FU M (by omega) (by unfold FU; omega) hT (fun h => by omega) Gm.rf) (fun M2 h2 => Evs.pure h2)
/-- the model packs, goes on, unpacks: nothing is left but scratch -/
theorem zm_back {a : Nat} {M1 M2 M3 : Mem} (ha : a = 90 ∨ a = 95) (h1 : Al (sloc a 0) 60 (mrow M) M (fun _ => True) M1) (h2 : Gm M1 M2) (h3 : Al mloc 60 (fun k => M2 a (0 + k)) M2 (fun _ => True) M3) : Gz M M3 := by
  have c1 : ∀ b, b ≠ a → M1 b = M b := fun b hb => h1.cell (fun k _ => by simp [sloc]; omega)
  have c3 : ∀ b, b ≠ 67 → b ≠ 81 → b ≠ 82 → b ≠ 83 → M3 b = M2 b := fun b x1 x2 x3 x4 => h3.cell (fun k _ => by have := mloc_cell k; omega)
  refine ⟨fun b x1 x2 x3 x4 x5 x6 x7 x8 x9 => ?_, fun k hk => ?_, fun k hk => ?_⟩
  · rw [c3 b x1 x2 x3 x4, h2.1 b x1 x2 x3 (by omega), c1 b (by omega)]
  · have : M3 67 k = M2 67 k := h3.2 67 k (fun i hi e => by unfold mloc at e; (repeat' split at e) <;> simp at e <;> omega)
    rw [this, h2.2 k (by omega) (by omega) (by omega) (by omega) (by omega), c1 67 (by omega)]
  · have e := h3.1 k hk trivial
    rw [mloc_row M3 k] at e
    rw [e]
    show M2 a (0 + k) = _
    rw [h2.1 a (by omega) (by omega) (by omega) (by omega)]
    exact h1.1 k hk trivial
end AHEAD
