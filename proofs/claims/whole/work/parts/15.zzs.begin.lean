/-! ===== the reader begins ===== -/
def yP0 : Pl := ((fun i => if i = 0 then 4 else if i = 1 then 1 else if i = 6 then 5 else 0), fun _ => 0, fun _ => 0, fun _ => 0, fun _ => false, fun _ => 0, fun _ => 0)
def yS0 (y : Nat → Nat) (n : Nat) : St := ((yta y n 0, ytb y n (yta y n 0), ytk y n (yta y n 0)), yP0, fun _ => 0, fun _ _ => 0, 0, false)
def WRD (p0 : Int32) (M : Mem) : Option Mem :=
  (L_X12_ward_55 67 FU 0 (up (up (up (up (up (up (up M 67 2 0) 67 14 0) 67 16 p0) 67 15 0) 67 21 0) 67 23 (-1)) 67 24 (bi false))).bind fun s9 =>
  (L_X12_ward_105 67 FU 0 s9).bind fun s13 =>
  (ast s13 (67 + 5) 16 8 0).bind fun M14 =>
  (F_X12_stepOn 67 M14).bind fun q15 =>
  L_X12_ward_141 67 FU 0 q15
theorem m_ward {p0 : Int32} {M : Mem} (h1 : ¬ p0 < 0) (h2 : p0 ≤ M 67 14) : F_X12_ward 67 p0 M = (WRD p0 M).bind (J_X12_ward_j164 67) := by
  unfold F_X12_ward WRD
  rw [if_neg h1, if_pos (show p0 ≤ (up M 67 2 0) 67 14 by rw [up_nk (by omega)]; exact h2)]
  simp only [Option.bind_assoc]
def v55 (i : Nat) : Int32 := if i = 0 then 4 else if i = 2 then 1 else if i = 5 then 5 else 0
theorem s55 {M : Mem} {f i : Nat} (hi : i < 7) : L_X12_ward_55 67 (f + 1) (nI i) M = (ast M (67 + 3) 14 (7 + nI i) (v55 i)).bind fun M7 => L_X12_ward_55 67 f (nI i + 1) M7 := by
  rw [L_X12_ward_55, if_neg (znge 7 7 rfl hi (by omega))]
  unfold J_X12_ward_j96 v55
  by_cases a : i = 0
  · rw [if_pos a, if_pos (by rw [a]; rfl)]
  · rw [if_neg a, if_neg (zne 0 0 rfl a (by omega) (by omega))]
    by_cases b : i = 2
    · rw [if_pos b, if_pos (by rw [b]; rfl)]
    · rw [if_neg b, if_neg (zne 2 2 rfl b (by omega) (by omega))]
      by_cases c : i = 5
      · rw [if_pos c, if_pos (by rw [c]; rfl)]
      · rw [if_neg c, if_neg (zne 5 5 rfl c (by omega) (by omega))]
theorem xm_55 {X : Mem} : Evs (L_X12_ward_55 67 FU 0 X) (fun A => (∀ t, t < 7 → A 70 (7 + t) = v55 t) ∧ (∀ t, t < 7 → A 70 t = X 70 t) ∧ ∀ c, c ≠ 70 → A c = X c) := by
  have key : ∀ j i f M1, i + j = 7 → j < f → (∀ t, t < i → M1 70 (7 + t) = v55 t) → (∀ t, t < 7 → M1 70 t = X 70 t) → (∀ c, c ≠ 70 → M1 c = X c) → Evs (L_X12_ward_55 67 f (nI i) M1) (fun A => (∀ t, t < 7 → A 70 (7 + t) = v55 t) ∧ (∀ t, t < 7 → A 70 t = X 70 t) ∧ ∀ c, c ≠ 70 → A c = X c) := by
    intro j
    induction j with
    | zero =>
      intro i f M1 e hf a1 a2 a3
      obtain ⟨f, rfl⟩ : ∃ f', f = f' + 1 := ⟨f - 1, by omega⟩
      obtain rfl : i = 7 := by omega
      rw [L_X12_ward_55, if_pos (show (7 : Int32) ≤ nI 7 by decide)]
      exact Evs.pure ⟨a1, a2, a3⟩
    | succ j ih =>
      intro i f M1 e hf a1 a2 a3
      obtain ⟨f, rfl⟩ : ∃ f', f = f' + 1 := ⟨f - 1, by omega⟩
      rw [s55 (by omega), show (7 : Int32) + nI i = nI (7 + i) from nI_add 7 i, show ast M1 (67 + 3) 14 (nI (7 + i)) (v55 i) = some (up M1 70 (7 + i) (v55 i)) from zast (by omega) (by omega), zbs rfl, nI_1]
      refine ih (i + 1) f _ (by omega) (by omega) (fun t ht => ?_) (fun t ht => ?_) (fun c hc => ?_)
      · by_cases q : t = i
        · rw [q, up_at]
        · rw [up_nk (by omega)]; exact a1 t (by omega)
      · rw [up_nk (by omega)]; exact a2 t ht
      · rw [up_ne hc]; exact a3 c hc
  exact key 7 0 FU X (by omega) (by unfold FU; omega) (fun t ht => by omega) (fun t ht => rfl) (fun c hc => rfl)
theorem xm_105 {X : Mem} : Evs (L_X12_ward_105 67 FU 0 X) (fun A => (∀ t, t < 8 → A 71 (8 + t) = 0) ∧ (∀ t, t < 8 → A 71 t = X 71 t) ∧ ∀ c, c ≠ 71 → A c = X c) := by
  have key : ∀ j i f M1, i + j = 8 → j < f → (∀ t, t < i → M1 71 (8 + t) = 0) → (∀ t, t < 8 → M1 71 t = X 71 t) → (∀ c, c ≠ 71 → M1 c = X c) → Evs (L_X12_ward_105 67 f (nI i) M1) (fun A => (∀ t, t < 8 → A 71 (8 + t) = 0) ∧ (∀ t, t < 8 → A 71 t = X 71 t) ∧ ∀ c, c ≠ 71 → A c = X c) := by
    intro j
    induction j with
    | zero =>
      intro i f M1 e hf a1 a2 a3
      obtain ⟨f, rfl⟩ : ∃ f', f = f' + 1 := ⟨f - 1, by omega⟩
      obtain rfl : i = 8 := by omega
      rw [L_X12_ward_105, if_pos (show (8 : Int32) ≤ nI 8 by decide)]
      exact Evs.pure ⟨a1, a2, a3⟩
    | succ j ih =>
      intro i f M1 e hf a1 a2 a3
      obtain ⟨f, rfl⟩ : ∃ f', f = f' + 1 := ⟨f - 1, by omega⟩
      rw [L_X12_ward_105, if_neg (znge 8 8 rfl (by omega) (by omega)), show (8 : Int32) + nI i = nI (8 + i) from nI_add 8 i, show ast M1 (67 + 4) 16 (nI (8 + i)) 0 = some (up M1 71 (8 + i) 0) from zast (by omega) (by omega), zbs rfl, nI_1]
      refine ih (i + 1) f _ (by omega) (by omega) (fun t ht => ?_) (fun t ht => ?_) (fun c hc => ?_)
      · by_cases q : t = i
        · rw [q, up_at]
        · rw [up_nk (by omega)]; exact a1 t (by omega)
      · rw [up_nk (by omega)]; exact a2 t ht
      · rw [up_ne hc]; exact a3 c hc
  exact key 8 0 FU X (by omega) (by unfold FU; omega) (fun t ht => by omega) (fun t ht => rfl) (fun c hc => rfl)
theorem xc_clear {w : Nat} {X : Mem} (hw : w = 3 ∨ w = 14) : Evs (F_X9_clear w X) (fun M' => (M' w 0 = 4 ∧ M' w 1 = 0 ∧ M' w 2 = 1 ∧ M' w 3 = 0 ∧ M' w 4 = 0 ∧ M' w 5 = 1 ∧ M' w 6 = 5) ∧ (∀ t, t < 8 → M' (w + 1) t = 0) ∧ M' (w + 2) 0 = 0 ∧ M' (w + 6) 0 = 0 ∧ M' (w + 7) 1 = 0 ∧ ∀ c, (c < w ∨ w + 8 < c) → M' c = X c) := by
  have key : ∀ (X : Mem) j i f M1, i + j = 8 → j < f → (∀ t, t < i → M1 (w + 1) t = 0) → (∀ c, c ≠ w + 1 → M1 c = X c) → Evs (L_X9_clear_37 w f (nI i) M1) (fun A => (∀ t, t < 8 → A (w + 1) t = 0) ∧ ∀ c, c ≠ w + 1 → A c = X c) := by
    intro X j
    induction j with
    | zero =>
      intro i f M1 e hf a1 a3
      obtain ⟨f, rfl⟩ : ∃ f', f = f' + 1 := ⟨f - 1, by omega⟩
      obtain rfl : i = 8 := by omega
      rw [L_X9_clear_37, if_pos (show (8 : Int32) ≤ nI 8 by decide)]
      exact Evs.pure ⟨a1, a3⟩
    | succ j ih =>
      intro i f M1 e hf a1 a3
      obtain ⟨f, rfl⟩ : ∃ f', f = f' + 1 := ⟨f - 1, by omega⟩
      rw [L_X9_clear_37, if_neg (znge 8 8 rfl (by omega) (by omega)), show ast M1 (w + 1) 8 (nI i) 0 = some (up M1 (w + 1) i 0) from zast (by omega) (by omega), zbs rfl, nI_1]
      refine ih (i + 1) f _ (by omega) (by omega) (fun t ht => ?_) (fun c hc => ?_)
      · by_cases q : t = i
        · rw [q, up_at]
        · rw [up_nk q]; exact a1 t (by omega)
      · rw [up_ne hc]; exact a3 c hc
  unfold F_X9_clear
  refine Evs.bind (key _ 8 0 FU _ (by omega) (by unfold FU; omega) (fun t ht => by omega) (fun c hc => rfl)) (fun M1 h1 => Evs.pure ?_)
  obtain ⟨h1, h2⟩ := h1
  unfold F_X10_clear
  rw [show F_X11_put (w + 2) 8 0 0 M1 = up M1 (w + 2) 0 0 from zput_at (i := 0) (by omega) (by omega), show F_X11_put (w + 6) 8 0 0 (up M1 (w + 2) 0 0) = up (up M1 (w + 2) 0 0) (w + 6) 0 0 from zput_at (i := 0) (by omega) (by omega)]
  have e0 : (up (up (up M1 (w + 2) 0 0) (w + 6) 0 0) (w + 7) 1 0) w = M1 w := by rw [up_ne (by omega), up_ne (by omega), up_ne (by omega)]
  rw [e0, h2 w (by omega)]
  refine ⟨⟨?_, ?_, ?_, ?_, ?_, ?_, up_at⟩, fun t ht => ?_, ?_, ?_, up_at, fun c hc => ?_⟩
  · rw [up_nk (by omega), up_nk (by omega), up_nk (by omega), up_nk (by omega), up_nk (by omega), up_nk (by omega), up_at]
  · rw [up_nk (by omega), up_nk (by omega), up_nk (by omega), up_nk (by omega), up_nk (by omega), up_at]
  · rw [up_nk (by omega), up_nk (by omega), up_nk (by omega), up_nk (by omega), up_at]
  · rw [up_nk (by omega), up_nk (by omega), up_nk (by omega), up_at]
  · rw [up_nk (by omega), up_nk (by omega), up_at]
  · rw [up_nk (by omega), up_at]
  · rw [up_ne (by omega), up_ne (by omega), up_ne (by omega)]; exact h1 t ht
  · rw [up_ne (by omega), up_ne (by omega), up_at]
  · rw [up_ne (by omega), up_at]
  · rw [up_ne (by omega), up_ne (by omega), up_ne (by omega), h2 c (by omega), up_ne (by omega), up_ne (by omega), up_ne (by omega), up_ne (by omega), up_ne (by omega), up_ne (by omega), up_ne (by omega)]
section BEGIN
variable {w n : Nat} {y : Nat → Nat} {s : St} {N Nm : Mem}
theorem k_read (hn : n ≤ 700) (hy : ∀ i, i < n → y i < 256) (hw : w = 3 ∨ w = 14) (h2 : N 1 2 = nI w) (ht : ∀ i, i < n → N 2 i = nI (y i)) (ht' : ∀ i, i < n → Nm 80 i = nI (y i)) : Ev2 (F_X5_read 1 (nI n) N) (WRD (nI n) Nm) (FIN w y n (up (up (up (up (up (up N 1 1 0) 1 3 (nI n)) 1 5 0) 1 8 0) 1 9 0) 1 10 (bi false)) (up (up (up (up (up (up (up Nm 67 2 0) 67 14 0) 67 16 (nI n)) 67 15 0) 67 21 0) 67 23 (-1)) 67 24 (bi false))) := by
  unfold F_X5_read WRD
  have x2 : (up (up (up (up (up (up N 1 1 0) 1 3 (nI n)) 1 5 0) 1 8 0) 1 9 0) 1 10 (bi false)) 1 2 = nI w := by
    rw [up_nk (by omega), up_nk (by omega), up_nk (by omega), up_nk (by omega), up_nk (by omega), up_nk (by omega)]; exact h2
  have x3 : (up (up (up (up (up (up N 1 1 0) 1 3 (nI n)) 1 5 0) 1 8 0) 1 9 0) 1 10 (bi false)) 1 3 = nI n := by
    rw [up_nk (by omega), up_nk (by omega), up_nk (by omega), up_nk (by omega), up_at]
  have x5 : (up (up (up (up (up (up N 1 1 0) 1 3 (nI n)) 1 5 0) 1 8 0) 1 9 0) 1 10 (bi false)) 1 5 = nI 0 := by
    rw [up_nk (by omega), up_nk (by omega), up_nk (by omega), up_at]; rfl
  have x9 : (up (up (up (up (up (up N 1 1 0) 1 3 (nI n)) 1 5 0) 1 8 0) 1 9 0) 1 10 (bi false)) 1 9 = 0 := by
    rw [up_nk (by omega), up_at]
  have x10 : (up (up (up (up (up (up N 1 1 0) 1 3 (nI n)) 1 5 0) 1 8 0) 1 9 0) 1 10 (bi false)) 1 10 = bi false := up_at
  have xt : ∀ i, i < n → (up (up (up (up (up (up N 1 1 0) 1 3 (nI n)) 1 5 0) 1 8 0) 1 9 0) 1 10 (bi false)) 2 i = nI (y i) := fun i hi => by
    rw [up_ne (by omega), up_ne (by omega), up_ne (by omega), up_ne (by omega), up_ne (by omega), up_ne (by omega)]; exact ht i hi
  generalize up (up (up (up (up (up N 1 1 0) 1 3 (nI n)) 1 5 0) 1 8 0) 1 9 0) 1 10 (bi false) = X at x2 x3 x5 x9 x10 xt ⊢
  have z16 : (up (up (up (up (up (up (up Nm 67 2 0) 67 14 0) 67 16 (nI n)) 67 15 0) 67 21 0) 67 23 (-1)) 67 24 (bi false)) 67 16 = nI n := by
    rw [up_nk (by omega), up_nk (by omega), up_nk (by omega), up_nk (by omega), up_at]
  have z15 : (up (up (up (up (up (up (up Nm 67 2 0) 67 14 0) 67 16 (nI n)) 67 15 0) 67 21 0) 67 23 (-1)) 67 24 (bi false)) 67 15 = nI 0 := by
    rw [up_nk (by omega), up_nk (by omega), up_nk (by omega), up_at]; rfl
  have z21 : (up (up (up (up (up (up (up Nm 67 2 0) 67 14 0) 67 16 (nI n)) 67 15 0) 67 21 0) 67 23 (-1)) 67 24 (bi false)) 67 21 = 0 := by
    rw [up_nk (by omega), up_nk (by omega), up_at]
  have z24 : (up (up (up (up (up (up (up Nm 67 2 0) 67 14 0) 67 16 (nI n)) 67 15 0) 67 21 0) 67 23 (-1)) 67 24 (bi false)) 67 24 = bi false := up_at
  have zt : ∀ i, i < n → (up (up (up (up (up (up (up Nm 67 2 0) 67 14 0) 67 16 (nI n)) 67 15 0) 67 21 0) 67 23 (-1)) 67 24 (bi false)) 80 i = nI (y i) := fun i hi => by
    rw [up_ne (by omega), up_ne (by omega), up_ne (by omega), up_ne (by omega), up_ne (by omega), up_ne (by omega), up_ne (by omega)]; exact ht' i hi
  generalize up (up (up (up (up (up (up Nm 67 2 0) 67 14 0) 67 16 (nI n)) 67 15 0) 67 21 0) 67 23 (-1)) 67 24 (bi false) = Xm at z16 z15 z21 z24 zt ⊢
  obtain ⟨N1, e1, ⟨a0, a1, a2, a3, a4, a5, a6⟩, b1, b2, b3, b4, b5⟩ := xc_clear (X := X) hw
  obtain ⟨N2, e2, kc, F2⟩ := zc_adv (M := N1) hn hy (Nat.zero_le n) (by rw [b5 1 (by omega)]; exact x3) (by rw [b5 1 (by omega)]; exact x5) (fun i hi => by rw [b5 2 (by omega)]; exact xt i hi)
  obtain ⟨A1, f1, c1, c2, c3⟩ := xm_55 (X := Xm)
  obtain ⟨A2, f2, d1, d2, d3⟩ := xm_105 (X := A1)
  have q4 : ∀ c, c ≠ 70 → c ≠ 71 → c ≠ 72 → (up A2 72 8 0) c = Xm c := fun c h1 h2 h3 => by rw [up_ne h3, d3 c h2, c3 c h1]
  obtain ⟨A5, f5, km, G5⟩ := zm_step (M := up A2 72 8 0) hn hy (Nat.zero_le n) (by rw [q4 67 (by omega) (by omega) (by omega)]; exact z16) (by rw [q4 67 (by omega) (by omega) (by omega)]; exact z15) (fun i hi => by rw [q4 80 (by omega) (by omega) (by omega)]; exact zt i hi)
  rw [ygrd hw x2, zbs rfl, zbs e1, zbs e2, zbs f1, zbs f2, show ast A2 (67 + 5) 16 8 0 = some (up A2 72 8 0) from zast (i := 8) (by omega) (by omega), zbs rfl, zbs f5]
  have kw : ∀ c, c ≠ 1 → N2 c = N1 c := fun c hc => F2.1 c hc
  have k7 : ∀ t, t < 7 → A5 70 (7 + t) = v55 t := fun t h => by rw [G5.1 70 (by omega), up_ne (by omega), d3 70 (by omega)]; exact c1 t h
  have hS : SY w y n (yS0 y n) N2 A5 := by
    refine ⟨⟨⟨kc, ?_, ?_, ?_, ⟨⟨⟨?_, ?_, ?_, ?_, ?_, ?_, ?_⟩, fun p hp => absurd hp (Nat.not_lt_zero p), ?_, ?_, fun p hp => absurd hp (Nat.not_lt_zero p), ?_, fun p hp => absurd hp (Nat.not_lt_zero p)⟩, fun p hp => absurd hp (Nat.not_lt_zero p), ?_⟩⟩, ⟨km, ?_, ?_, ⟨⟨k7 0 (by omega), k7 1 (by omega), k7 2 (by omega), k7 3 (by omega), k7 4 (by omega), k7 5 (by omega), k7 6 (by omega)⟩, fun p hp => absurd hp (Nat.not_lt_zero p), ?_, ?_, fun p hp => absurd hp (Nat.not_lt_zero p), fun p hp => absurd hp (Nat.not_lt_zero p), fun p hp => absurd hp (Nat.not_lt_zero p), fun p hp => absurd hp (Nat.not_lt_zero p)⟩⟩⟩, ⟨yta_le y (Nat.zero_le n), rfl, rfl⟩, ?_, Nat.zero_le _⟩
    · rw [F2.2 2 (by omega) (by omega) (by omega) (by omega), b5 1 (by omega)]; exact x2
    · rw [F2.2 9 (by omega) (by omega) (by omega) (by omega), b5 1 (by omega)]; exact x9
    · rw [F2.2 10 (by omega) (by omega) (by omega) (by omega), b5 1 (by omega)]; exact x10
    · rw [kw w (by omega)]; exact a0
    · rw [kw w (by omega)]; exact a1
    · rw [kw w (by omega)]; exact a2
    · rw [kw w (by omega)]; exact a3
    · rw [kw w (by omega)]; exact a5
    · rw [kw w (by omega)]; exact a6
    · rw [kw (w + 7) (by omega)]; exact b4
    · intro t ht
      rw [kw (w + 1) (by omega)]; exact b1 t ht
    · intro k hk
      have hk' : k < 1 := hk
      obtain rfl : k = 0 := by omega
      rw [kw (w + 2) (by omega)]; exact b2
    · intro k hk
      have hk' : k < 1 := hk
      obtain rfl : k = 0 := by omega
      rw [kw (w + 6) (by omega)]; exact b3
    · intro p _ hp
      rw [kw w (by omega), a4, b_0]
    · rw [G5.2 21 (by omega) (by omega) (by omega) (by omega) (by omega), q4 67 (by omega) (by omega) (by omega)]; exact z21
    · rw [G5.2 24 (by omega) (by omega) (by omega) (by omega) (by omega), q4 67 (by omega) (by omega) (by omega)]; exact z24
    · intro t ht
      rw [G5.1 71 (by omega), up_ne (by omega)]; exact d1 t ht
    · intro k hk
      have hk' : k < 1 := hk
      obtain rfl : k = 0 := by omega
      rw [G5.1 72 (by omega)]; exact up_at
    · refine ⟨⟨show 2 ≤ 4 by omega, show 4 ≤ 8 by omega⟩, ⟨show 1 ≤ 1 by omega, show 1 ≤ 8 by omega⟩, Nat.zero_le _, Nat.zero_le _, show 5 ≤ 99 by omega, Nat.zero_le _, fun k hk => show 0 < 4 by omega, fun p hp => absurd hp (Nat.not_lt_zero p), fun p hp => absurd hp (Nat.not_lt_zero p), fun _ => ⟨fun k _ => rfl, rfl⟩⟩
  have hF : FW w X N2 := ⟨fun c h1 h2 h3 => by rw [kw c h1]; exact b5 c h3, by rw [F2.2 1 (by omega) (by omega) (by omega) (by omega), b5 1 (by omega)], by rw [F2.2 2 (by omega) (by omega) (by omega) (by omega), b5 1 (by omega)], by rw [F2.2 3 (by omega) (by omega) (by omega) (by omega), b5 1 (by omega)]⟩
  have hG : GW Xm A5 := by
    refine GW.tr (M1 := up A2 72 8 0) ⟨fun c h1 h2 => q4 c (by omega) (by omega) (by omega), fun k _ _ _ _ _ _ _ _ => by rw [q4 67 (by omega) (by omega) (by omega)], fun k hk => ⟨?_, ?_, ?_, ?_⟩, fun k hk => ⟨?_, ?_, ?_⟩, fun k hk => ?_, fun k hk => ?_⟩ G5.gw.1
    · rw [up_ne (by omega), d3 70 (by omega)]; exact c2 k hk
    · rw [q4 73 (by omega) (by omega) (by omega)]
    · rw [q4 74 (by omega) (by omega) (by omega)]
    · rw [q4 75 (by omega) (by omega) (by omega)]
    · rw [up_ne (by omega), d2 k hk, c3 71 (by omega)]
    · rw [up_nk (by omega), d3 72 (by omega), c3 72 (by omega)]
    · rw [q4 77 (by omega) (by omega) (by omega)]
    · rw [q4 76 (by omega) (by omega) (by omega)]
    · rw [q4 78 (by omega) (by omega) (by omega)]
  exact k_lines hn hy hw n 0 FU FU (yS0 y n) N2 A5 (by omega) (by omega) (by unfold FU; omega) (by unfold FU; omega) hS ⟨fun h => absurd h (Nat.lt_irrefl 0), fun _ => rfl⟩ hF hG
end BEGIN
