/-! ===== the reader's state: the class's, the model's ===== -/
abbrev St : Type := (Nat × Nat × Nat) × Pl × (Nat → Nat) × (Nat → Nat → Nat) × Int32 × Bool
abbrev s_a (s : St) : Nat := s.1.1
abbrev s_b (s : St) : Nat := s.1.2.1
abbrev s_k (s : St) : Nat := s.1.2.2
abbrev s_P (s : St) : Pl := s.2.1
abbrev s_pu (s : St) : Nat → Nat := s.2.2.1
abbrev s_wk (s : St) : Nat → Nat → Nat := s.2.2.2.1
abbrev s_o (s : St) : Int32 := s.2.2.2.2.1
abbrev s_f (s : St) : Bool := s.2.2.2.2.2
/-- the next token -/
def ynx (y : Nat → Nat) (n : Nat) (s : St) : St := ((yta y n (s_b s), ytb y n (yta y n (s_b s)), ytk y n (yta y n (s_b s))), s.2)
/-- another plan -/
def ysP (s : St) (P : Pl) : St := (s.1, P, s.2.2)
def yfl (s : St) : St := (s.1, s_P s, s_pu s, s_wk s, s_o s, true)
def yso (s : St) (o : Int32) : St := (s.1, s_P s, s_pu s, s_wk s, o, s_f s)
def PC (w : Nat) (s : St) (N : Mem) : Prop := CP N w (s_P s) ∧ (∀ p, p < znp (s_P s) → N (w + 3) p = nI (s_pu s p) ∧ ∀ i, i < 6 → F_X11_streetIn (N (w + 5) p) (nI i) = nI (s_wk s p i)) ∧ ∀ p, znp (s_P s) ≤ p → p < 32 → bt (N w 4) p = false
def PMd (s : St) (N : Mem) : Prop := (N 70 7 = nI (zns (s_P s)) ∧ N 70 8 = nI (zpa (s_P s)) ∧ N 70 9 = nI (znr (s_P s)) ∧ N 70 10 = nI (znp (s_P s)) ∧ N 70 11 = nI (znf (s_P s)) ∧ N 70 12 = nI (zrs (s_P s)) ∧ N 70 13 = nI (znl (s_P s))) ∧ (∀ p, p < znp (s_P s) → N 73 (7 + p) = if p_bi (s_P s) p then 1 else 0) ∧ (∀ t, t < 8 → N 71 (8 + t) = p_nr (s_P s) t) ∧ (∀ k, k < znr (s_P s) → N 72 (8 + k) = nI (p_rd (s_P s) k)) ∧ (∀ p, p < znp (s_P s) → N 75 (7 + p) = nI (p_ln (s_P s) p)) ∧ (∀ k, k < znf (s_P s) → N 77 (8 + k) = nI (p_fg (s_P s) k)) ∧ (∀ k, k < znl (s_P s) → N 78 (700 + k) = p_cd (s_P s) k) ∧ (∀ p, p < znp (s_P s) → N 74 (7 + p) = nI (s_pu s p) ∧ ∀ i, i < p_ln (s_P s) p → N 76 (6 * (7 + p) + i) = nI (s_wk s p i))
def XC (w : Nat) (y : Nat → Nat) (n : Nat) (s : St) (N : Mem) : Prop := KC y n N (s_a s) (s_b s) (s_k s) ∧ N 1 2 = nI w ∧ N 1 9 = s_o s ∧ N 1 10 = bi (s_f s) ∧ PC w s N
def XM (y : Nat → Nat) (n : Nat) (s : St) (N : Mem) : Prop := KM y n N (s_a s) (s_b s) (s_k s) ∧ N 67 21 = 0 ∧ N 67 24 = bi (s_f s) ∧ PMd s N
/-- a token, as it must be -/
def TK (y : Nat → Nat) (n : Nat) (s : St) : Prop := s_a s ≤ n ∧ s_b s = ytb y n (s_a s) ∧ s_k s = ytk y n (s_a s)
/-- the plan so far -/
def WP (s : St) : Prop := (2 ≤ zns (s_P s) ∧ zns (s_P s) ≤ 8) ∧ (1 ≤ znr (s_P s) ∧ znr (s_P s) ≤ 8) ∧ znp (s_P s) ≤ 7 ∧ znf (s_P s) ≤ 8 ∧ zrs (s_P s) ≤ 99 ∧ zpa (s_P s) ≤ 14 ∧ (∀ k, k < znr (s_P s) → p_rd (s_P s) k < zns (s_P s)) ∧ (∀ p, p < znp (s_P s) → (1 ≤ p_ln (s_P s) p ∧ p_ln (s_P s) p ≤ 6) ∧ s_pu s p ≤ 999 ∧ (∀ i, s_wk s p i < zns (s_P s)) ∧ ∀ i, p_ln (s_P s) p ≤ i → s_wk s p i = 0) ∧ (∀ k, k < znf (s_P s) → p_fg (s_P s) k ≤ 9) ∧ (s_f s = false → (∀ k, k < znr (s_P s) → p_rd (s_P s) k = 0) ∧ znp (s_P s) = 0)
def FW (w : Nat) (M M' : Mem) : Prop := (∀ c, c ≠ 1 → c ≠ 13 → (c < w ∨ w + 8 < c) → M' c = M c) ∧ M' 1 1 = M 1 1 ∧ M' 1 2 = M 1 2 ∧ M' 1 3 = M 1 3
def GW (M M' : Mem) : Prop := (∀ c, c ≠ 67 → (c < 70 ∨ 78 < c) → M' c = M c) ∧ (∀ k, k ≠ 15 → k ≠ 17 → k ≠ 18 → k ≠ 19 → k ≠ 20 → k ≠ 21 → k ≠ 22 → k ≠ 24 → M' 67 k = M 67 k) ∧ (∀ k, k < 7 → M' 70 k = M 70 k ∧ M' 73 k = M 73 k ∧ M' 74 k = M 74 k ∧ M' 75 k = M 75 k) ∧ (∀ k, k < 8 → M' 71 k = M 71 k ∧ M' 72 k = M 72 k ∧ M' 77 k = M 77 k) ∧ (∀ k, k < 42 → M' 76 k = M 76 k) ∧ ∀ k, k < 700 → M' 78 k = M 78 k
/-- but for the second halves all stands, right or wrong -/
def WG (M M' : Mem) : Prop := GW M M' ∧ M' 67 21 = M 67 21 ∧ M' 67 22 = M 67 22
def BAD (c q : Nat) (N Nm : Mem) : Prop := (1 ≤ c ∧ c ≤ 5) ∧ (N 1 8 = nI c ∧ N 1 4 = nI q) ∧ Nm 67 21 = nI c ∧ Nm 67 22 = nI q
def SY (w : Nat) (y : Nat → Nat) (n : Nat) (s : St) (N Nm : Mem) : Prop := (XC w y n s N ∧ XM y n s Nm) ∧ TK y n s ∧ WP s ∧ znl (s_P s) ≤ s_a s
def RES (w : Nat) (y : Nat → Nat) (n : Nat) (N0 Nm0 : Mem) (Q : St → Prop) (r : Bool × Mem) (Nm : Mem) : Prop := FW w N0 r.2 ∧ GW Nm0 Nm ∧ ((r.1 = true ∧ ∃ s, Q s ∧ SY w y n s r.2 Nm) ∨ (r.1 = false ∧ ∃ c q, BAD c q r.2 Nm))
def Ev2 {α β : Type} (o : Option α) (o' : Option β) (P : α → β → Prop) : Prop := ∃ a b, o = some a ∧ o' = some b ∧ P a b
theorem Ev2.bind {α β γ δ : Type} {o : Option α} {o' : Option β} {f : α → Option γ} {g : β → Option δ} {P : α → β → Prop} {Q : γ → δ → Prop} (h : Ev2 o o' P) (k : ∀ a b, P a b → Ev2 (f a) (g b) Q) : Ev2 (o.bind f) (o'.bind g) Q := by
  obtain ⟨a, b, rfl, rfl, p⟩ := h
  exact k a b p
theorem Ev2.pure {α β : Type} {a : α} {b : β} {P : α → β → Prop} (h : P a b) : Ev2 (some a) (some b) P := ⟨a, b, rfl, rfl, h⟩
theorem Ev2.two {α β : Type} {o : Option α} {o' : Option β} {P : α → Prop} {P' : β → Prop} (h : Evs o P) (h' : Evs o' P') : Ev2 o o' (fun a b => P a ∧ P' b) := by
  obtain ⟨a, e, p⟩ := h
  obtain ⟨b, e', p'⟩ := h'
  exact ⟨a, b, e, e', p, p'⟩
theorem Ev2.mono {α β : Type} {o : Option α} {o' : Option β} {P Q : α → β → Prop} (h : Ev2 o o' P) (k : ∀ a b, P a b → Q a b) : Ev2 o o' Q := by
  obtain ⟨a, b, e, e', p⟩ := h
  exact ⟨a, b, e, e', k a b p⟩
/-- the model alone goes on -/
theorem Ev2.right {α β δ : Type} {o : Option α} {o' : Option β} {g : β → Option δ} {P : α → β → Prop} {Q : α → δ → Prop} (h : Ev2 o o' P) (k : ∀ a b, P a b → Evs (g b) (Q a)) : Ev2 o (o'.bind g) Q := by
  obtain ⟨a, b, rfl, rfl, p⟩ := h
  obtain ⟨d, e, q⟩ := k a b p
  exact ⟨a, d, rfl, e, q⟩
theorem Ev2.left {α β γ : Type} {o : Option α} {o' : Option β} {f : α → Option γ} {P : α → β → Prop} {Q : γ → β → Prop} (h : Ev2 o o' P) (k : ∀ a b, P a b → Evs (f a) (fun c => Q c b)) : Ev2 (o.bind f) o' Q := by
  obtain ⟨a, b, rfl, rfl, p⟩ := h
  obtain ⟨d, e, q⟩ := k a b p
  exact ⟨d, b, e, rfl, q⟩
section PST
variable {M : Mem} {w n : Nat} {y : Nat → Nat} {s : St} {N Nm : Mem}
theorem FW.rf : FW w M M := ⟨fun _ _ _ _ => rfl, rfl, rfl, rfl⟩
theorem FW.tr {M1 M2 : Mem} (h : FW w M M1) (h2 : FW w M1 M2) : FW w M M2 := ⟨fun a x1 x2 x3 => (h2.1 a x1 x2 x3).trans (h.1 a x1 x2 x3), h2.2.1.trans h.2.1, h2.2.2.1.trans h.2.2.1, h2.2.2.2.trans h.2.2.2⟩
theorem GW.rf : GW M M := ⟨fun _ _ _ => rfl, fun _ _ _ _ _ _ _ _ _ => rfl, fun _ _ => ⟨rfl, rfl, rfl, rfl⟩, fun _ _ => ⟨rfl, rfl, rfl⟩, fun _ _ => rfl, fun _ _ => rfl⟩
theorem GW.tr {M1 M2 : Mem} (h : GW M M1) (h2 : GW M1 M2) : GW M M2 := by
  obtain ⟨a1, a2, a3, a4, a5, a6⟩ := h
  obtain ⟨b1, b2, b3, b4, b5, b6⟩ := h2
  refine ⟨fun a x1 x2 => (b1 a x1 x2).trans (a1 a x1 x2), fun k x1 x2 x3 x4 x5 x6 x7 x8 => (b2 k x1 x2 x3 x4 x5 x6 x7 x8).trans (a2 k x1 x2 x3 x4 x5 x6 x7 x8), fun k hk => ?_, fun k hk => ?_, fun k hk => (b5 k hk).trans (a5 k hk), fun k hk => (b6 k hk).trans (a6 k hk)⟩
  · obtain ⟨c1, c2, c3, c4⟩ := a3 k hk
    obtain ⟨d1, d2, d3, d4⟩ := b3 k hk
    exact ⟨d1.trans c1, d2.trans c2, d3.trans c3, d4.trans c4⟩
  · obtain ⟨c1, c2, c3⟩ := a4 k hk
    obtain ⟨d1, d2, d3⟩ := b4 k hk
    exact ⟨d1.trans c1, d2.trans c2, d3.trans c3⟩
theorem WG.rf : WG M M := ⟨GW.rf, rfl, rfl⟩
theorem WG.tr {M1 M2 : Mem} (h : WG M M1) (h2 : WG M1 M2) : WG M M2 := ⟨h.1.tr h2.1, h2.2.1.trans h.2.1, h2.2.2.trans h.2.2⟩
theorem FW.f {k : Nat} {v : Int32} (h : 4 ≤ k) : FW w M (up M 1 k v) := ⟨fun c hc _ _ => up_ne hc, up_nk (by omega), up_nk (by omega), up_nk (by omega)⟩
theorem FW.c {c k : Nat} {v : Int32} (hw : w = 3 ∨ w = 14) (h : c = 13 ∨ (w ≤ c ∧ c ≤ w + 8)) : FW w M (up M c k v) := ⟨fun d _ _ _ => up_ne (by omega), by rw [up_ne (by omega)], by rw [up_ne (by omega)], by rw [up_ne (by omega)]⟩
theorem GW.f {k : Nat} {v : Int32} (h : k = 15 ∨ k = 17 ∨ k = 18 ∨ k = 19 ∨ k = 20 ∨ k = 21 ∨ k = 22 ∨ k = 24) : GW M (up M 67 k v) := ⟨fun c hc _ => up_ne hc, fun j _ _ _ _ _ _ _ _ => up_nk (by omega), fun k _ => by rw [up_ne (by omega), up_ne (by omega), up_ne (by omega), up_ne (by omega)]; exact ⟨rfl, rfl, rfl, rfl⟩, fun k _ => by rw [up_ne (by omega), up_ne (by omega), up_ne (by omega)]; exact ⟨rfl, rfl, rfl⟩, fun k _ => by rw [up_ne (by omega)], fun k _ => by rw [up_ne (by omega)]⟩
theorem WG.f {v : Int32} : WG M (up M 67 24 v) := ⟨GW.f (by omega), up_nk (by omega), up_nk (by omega)⟩
theorem GW.c {c k : Nat} {v : Int32} (h : ((c = 70 ∨ c = 73 ∨ c = 74 ∨ c = 75) ∧ 7 ≤ k) ∨ ((c = 71 ∨ c = 72 ∨ c = 77) ∧ 8 ≤ k) ∨ (c = 76 ∧ 42 ≤ k) ∨ (c = 78 ∧ 700 ≤ k)) : WG M (up M c k v) := by
  refine ⟨⟨fun d _ _ => up_ne (by omega), fun j _ _ _ _ _ _ _ _ => by rw [up_ne (by omega)], fun j hj => ⟨?_, ?_, ?_, ?_⟩, fun j hj => ⟨?_, ?_, ?_⟩, fun j hj => ?_, fun j hj => ?_⟩, by rw [up_ne (by omega)], by rw [up_ne (by omega)]⟩
  all_goals rw [up_app, if_neg (by omega)]
theorem Ft.fw {M' : Mem} (h : Ft M M') : FW w M M' := ⟨fun c hc _ _ => h.1 c hc, h.2 1 (by omega) (by omega) (by omega) (by omega), h.2 2 (by omega) (by omega) (by omega) (by omega), h.2 3 (by omega) (by omega) (by omega) (by omega)⟩
theorem Gt.gw {M' : Mem} (h : Gt M M') : WG M M' := ⟨⟨fun c hc _ => h.1 c hc, fun k x1 x2 x3 x4 x5 _ _ _ => h.2 k x1 x2 x3 x4 x5, fun k _ => by rw [h.1 70 (by omega), h.1 73 (by omega), h.1 74 (by omega), h.1 75 (by omega)]; exact ⟨rfl, rfl, rfl, rfl⟩, fun k _ => by rw [h.1 71 (by omega), h.1 72 (by omega), h.1 77 (by omega)]; exact ⟨rfl, rfl, rfl⟩, fun k _ => by rw [h.1 76 (by omega)], fun k _ => by rw [h.1 78 (by omega)]⟩, h.2 21 (by omega) (by omega) (by omega) (by omega) (by omega), h.2 22 (by omega) (by omega) (by omega) (by omega) (by omega)⟩
theorem PC.of {M' : Mem} (h : PC w s M) (hw : w = 3 ∨ w = 14) (e : ∀ c, w ≤ c → c ≤ w + 8 → M' c = M c) : PC w s M' := ⟨h.1.of (fun a h1 h2 _ => e a h1 h2) (by rw [e _ (by omega) (by omega)]), fun p hp => by rw [e (w + 3) (by omega) (by omega), e (w + 5) (by omega) (by omega)]; exact h.2.1 p hp, fun p x1 x2 => by rw [e w (by omega) (by omega)]; exact h.2.2 p x1 x2⟩
theorem PMd.of {M' : Mem} (h : PMd s M) (e : ∀ c, 70 ≤ c → c ≤ 78 → M' c = M c) : PMd s M' := by
  unfold PMd
  rw [e 70 (by omega) (by omega), e 71 (by omega) (by omega), e 72 (by omega) (by omega), e 73 (by omega) (by omega), e 74 (by omega) (by omega), e 75 (by omega) (by omega), e 76 (by omega) (by omega), e 77 (by omega) (by omega), e 78 (by omega) (by omega)]
  exact h
theorem TK.b (h : TK y n s) : s_a s ≤ s_b s ∧ s_b s ≤ n := by
  obtain ⟨h1, h2, h3⟩ := h
  by_cases q : s_a s < n
  · have := ytb_gt y q; omega
  · have := (ytb_end y q).1; omega
theorem TK.ne (h : TK y n s) (h0 : s_k s ≠ 0) : s_a s < s_b s ∧ s_a s < n := by
  obtain ⟨h1, h2, h3⟩ := h
  by_cases q : s_a s < n
  · have := ytb_gt y q; omega
  · have := (ytb_end y q).2; omega
theorem TK.nx (h : TK y n s) : TK y n (ynx y n s) := ⟨yta_le y h.b.2, rfl, rfl⟩
theorem TK.sg (hy : ∀ i, i < n → y i < 256) (h : TK y n s) (h3 : 3 < s_k s) : s_k s = y (s_a s) ∧ s_k s ≤ 61 := by
  obtain ⟨h1, h2, h4⟩ := h
  have q : s_a s < n := by
    rcases Nat.lt_or_ge (s_a s) n with q | q
    · exact q
    · have := (ytb_end (n := n) (a := s_a s) y (by omega)).2; omega
  have := ytk_ne hy q
  omega
theorem TK.k61 (hy : ∀ i, i < n → y i < 256) (h : TK y n s) : s_k s ≤ 61 := by
  by_cases q : 3 < s_k s
  · exact (h.sg hy q).2
  · omega
theorem ynx_a : s_b s ≤ s_a (ynx y n s) := yta_ge _ _ _
theorem xc_adv (hn : n ≤ 700) (hy : ∀ i, i < n → y i < 256) (hw : w = 3 ∨ w = 14) (hb : s_b s ≤ n) (h : XC w y n s N) : Evs (F_X5_advance 1 N) (fun N' => XC w y n (ynx y n s) N' ∧ FW w N N') := by
  obtain ⟨⟨k1, k2, k3, k4, k5, k6⟩, a1, a2, a3, a4⟩ := h
  refine (zc_adv hn hy hb k1 k3 k6).mono (fun N' h => ⟨⟨h.1, ?_, ?_, ?_, ?_⟩, h.2.fw⟩)
  · rw [h.2.2 2 (by omega) (by omega) (by omega) (by omega)]; exact a1
  · rw [h.2.2 9 (by omega) (by omega) (by omega) (by omega)]; exact a2
  · rw [h.2.2 10 (by omega) (by omega) (by omega) (by omega)]; exact a3
  · exact PC.of (s := s) a4 hw (fun c _ _ => h.2.1 c (by omega))
theorem xm_step (hn : n ≤ 700) (hy : ∀ i, i < n → y i < 256) (hb : s_b s ≤ n) (h : XM y n s Nm) : Evs (F_X12_stepOn 67 Nm) (fun N' => XM y n (ynx y n s) N' ∧ WG Nm N') := by
  obtain ⟨⟨k1, k2, k3, k4, k5, k6, k7⟩, a1, a2, a3⟩ := h
  refine (zm_step hn hy hb k1 k3 k7).mono (fun N' h => ⟨⟨h.1, ?_, ?_, ?_⟩, h.2.gw⟩)
  · rw [h.2.2 21 (by omega) (by omega) (by omega) (by omega) (by omega)]; exact a1
  · rw [h.2.2 24 (by omega) (by omega) (by omega) (by omega) (by omega)]; exact a2
  · exact PMd.of (s := s) a3 (fun c _ _ => h.2.1 c (by omega))
theorem SY.nx (hn : n ≤ 700) (hy : ∀ i, i < n → y i < 256) (hw : w = 3 ∨ w = 14) (h : SY w y n s N Nm) : Ev2 (F_X5_advance 1 N) (F_X12_stepOn 67 Nm) (fun N' Nm' => SY w y n (ynx y n s) N' Nm' ∧ FW w N N' ∧ WG Nm Nm') := by
  obtain ⟨⟨h1, h2⟩, h3, h4, h5⟩ := h
  refine (Ev2.two (xc_adv hn hy hw h3.b.2 h1) (xm_step hn hy h3.b.2 h2)).mono (fun a b p => ⟨⟨⟨p.1.1, p.2.1⟩, h3.nx, h4, ?_⟩, p.1.2, p.2.2⟩)
  have := h3.b
  have := ynx_a (y := y) (n := n) (s := s)
  show znl (s_P s) ≤ _
  omega
/-- a number that can't stand there, or is too much -/
def yne (y : Nat → Nat) (s : St) (lo hi : Nat) : Nat := if s_k s = 2 then (if s_a s + 4 < s_b s then 2 else if yval y (s_a s) (s_b s - s_a s) < lo then 2 else if yval y (s_a s) (s_b s - s_a s) ≤ hi then 0 else 2) else 1
def yvl (y : Nat → Nat) (s : St) : Nat := yval y (s_a s) (s_b s - s_a s)
theorem yne_le (lo hi : Nat) : yne y s lo hi ≤ 2 := by
  unfold yne; repeat' split
  all_goals omega
theorem yne_ok {lo hi : Nat} (h : yne y s lo hi = 0) : s_k s = 2 ∧ s_b s ≤ s_a s + 4 ∧ lo ≤ yvl y s ∧ yvl y s ≤ hi := by
  unfold yne at h
  unfold yvl
  split at h
  · split at h
    · omega
    · split at h
      · omega
      · split at h
        · omega
        · omega
  · omega
def ywr (c : Nat) (N : Mem) : Mem := up (up N 67 21 (nI c)) 67 22 (N 67 19)
theorem ywr_eq {c : Nat} (h : N 67 21 = 0) : F_X12_wrong 67 (nI c) N = ywr c N := by
  unfold F_X12_wrong ywr
  rw [if_pos h, up_nk (show 19 ≠ 21 by omega)]
theorem ywr_G {c : Nat} : GW N (ywr c N) := (GW.f (by omega)).tr (GW.f (by omega))
theorem BAD.of (h : KC y n N (s_a s) (s_b s) (s_k s)) (h2 : KM y n Nm (s_a s) (s_b s) (s_k s)) {c : Nat} (hc : 1 ≤ c ∧ c ≤ 5) : BAD c (s_a s) (up N 1 8 (nI c)) (ywr c Nm) := ⟨hc, ⟨up_at, by rw [up_nk (by omega)]; exact h.2.1⟩, by unfold ywr; rw [up_nk (by omega), up_at], by unfold ywr; rw [up_at]; exact h2.2.1⟩
theorem xc_num {lo hi : Nat} (hl : lo ≤ 9999) (hh : hi ≤ 9999) (ht : TK y n s) (hn : n ≤ 700) (hy : ∀ i, i < n → y i < 256) (h : KC y n N (s_a s) (s_b s) (s_k s)) : F_X5_number 1 (nI lo) (nI hi) N = if yne y s lo hi = 0 then (true, N) else (false, up N 1 8 (nI (yne y s lo hi))) := by
  obtain ⟨k1, k2, k3, k4, k5, k6⟩ := h
  have hb := ht.b
  have h61 := ht.k61 hy
  unfold F_X5_number J_X5_number_j43 F_X5_refuse yne
  rw [k4]
  by_cases q : s_k s = 2
  · rw [q, if_pos (show nI 2 = 2 from rfl), if_pos rfl, k3, k2, zsub hb.1]
    by_cases r : s_a s + 4 < s_b s
    · rw [if_pos (zltl 4 4 rfl (by omega) (by omega)), if_pos r, if_neg (by omega)]; rfl
    · obtain ⟨v1, v2⟩ := k5 q (by omega)
      rw [if_neg (zngl 4 4 rfl (by omega) (by omega)), if_neg r, v1]
      generalize yval y (s_a s) (s_b s - s_a s) = v at v2 ⊢
      by_cases z : v < lo
      · rw [if_pos (nI_lt z (by omega)), if_pos z, if_neg (by omega)]; rfl
      · rw [if_neg (nI_nlt (by omega) (by omega)), if_neg z]
        by_cases z2 : v ≤ hi
        · rw [if_pos (nI_le z2 (by omega)), if_pos z2, if_pos rfl]
        · rw [if_neg (nI_ge (by omega) (by omega)), if_neg z2, if_neg (by omega)]; rfl
  · rw [if_neg (zne 2 2 rfl q (by omega) (by omega)), if_neg q, if_neg (by omega)]; rfl
theorem xm_num {lo hi : Nat} (hl : lo ≤ 9999) (hh : hi ≤ 9999) (ht : TK y n s) (hn : n ≤ 700) (hy : ∀ i, i < n → y i < 256) (hv : s_k s = 2 → s_b s ≤ s_a s + 4 → yvl y s < 10000) (h : KM y n Nm (s_a s) (s_b s) (s_k s)) (a1 : Nm 67 21 = 0) : F_X12_numberNow 67 (nI lo) (nI hi) Nm = if yne y s lo hi = 0 then (nI (yvl y s), Nm) else (0, ywr (yne y s lo hi) Nm) := by
  obtain ⟨k1, k2, k3, k4, k5, k6, k7⟩ := h
  have hb := ht.b
  have h61 := ht.k61 hy
  have w21 : ∀ c : Nat, c = 1 ∨ c = 2 → J_X12_numberNow_j59 67 (F_X12_wrong 67 (nI c) Nm) = (0, ywr c Nm) := fun c hc => by
    rw [ywr_eq a1]
    unfold J_X12_numberNow_j59
    rw [if_neg (by unfold ywr; rw [up_nk (by omega), up_at]; exact nI_ne0 (by omega) (by omega))]
  unfold F_X12_numberNow J_X12_numberNow_j54 yne
  rw [if_pos a1, k5]
  by_cases q : s_k s = 2
  · rw [if_pos q, q, if_pos (show nI (ymo 2) = 2 from rfl), k4, k2, zsub hb.1]
    by_cases r : s_a s + 4 < s_b s
    · rw [if_pos (zltl 4 4 rfl (by omega) (by omega)), if_pos r, if_neg (by omega)]; exact w21 2 (by omega)
    · have v1 := k6 q (by omega)
      have v2 := hv q (by omega)
      rw [if_neg (zngl 4 4 rfl (by omega) (by omega)), if_neg r, v1]
      unfold yvl at v2 ⊢
      by_cases z : yval y (s_a s) (s_b s - s_a s) < lo
      · rw [if_pos (nI_lt z (by omega)), if_pos z, if_neg (by omega)]; exact w21 2 (by omega)
      · rw [if_neg (nI_nlt (by omega) (by omega)), if_neg z]
        by_cases z2 : yval y (s_a s) (s_b s - s_a s) ≤ hi
        · rw [if_pos (nI_le z2 (by omega)), if_pos z2, if_pos rfl]
          unfold J_X12_numberNow_j59
          rw [if_pos a1, v1]
        · rw [if_neg (nI_ge (by omega) (by omega)), if_neg z2, if_neg (by omega)]; exact w21 2 (by omega)
  · have : ymo (s_k s) ≠ 2 := by unfold ymo; repeat' split
                                 all_goals omega
    have h4 : ymo (s_k s) ≤ 61 := by unfold ymo; repeat' split
                                     all_goals omega
    rw [if_neg (zne 2 2 rfl this (by omega) (by omega)), if_neg q, if_neg (by omega)]; exact w21 1 (by omega)
end PST
