/-! ===== the class and the model read: who is seen ===== -/
theorem zsub1 {a : Nat} (h : 1 ≤ a) : nI a - 1 = nI (a - 1) := zsub (b := 1) h
theorem zis {x : Int32} {i : Nat} (h : i < 32) : F_X12_isOf x (nI i) = bt x i := by
  unfold F_X12_isOf
  by_cases q : bt x i = true
  · rw [if_pos ((zbit1 h).mpr q), q]
  · rw [if_neg (fun e => q ((zbit1 h).mp e))]; cases e : bt x i <;> simp_all
theorem zbi {b : Bool} : bi b = 0 ↔ b = false := by cases b <;> decide
theorem mrow_c {M : Mem} {p : Nat} (h : p < 7) : mrow M (4 + p) = M 81 p := by
  unfold mrow; rw [if_neg (by omega), if_pos (by omega)]; congr 1; omega
theorem mrow_k {M : Mem} {p : Nat} (h : p < 7) : mrow M (11 + p) = M 82 p := by
  unfold mrow; rw [if_neg (by omega), if_neg (by omega), if_pos (by omega)]; congr 1; omega
theorem mrow_w {M : Mem} (k : Nat) : mrow M (18 + k) = M 83 k := by
  unfold mrow; rw [if_neg (by omega), if_neg (by omega), if_neg (by omega)]; congr 1; omega
theorem crow_c {M : Mem} {t p : Nat} (h : p < 7) : crow M t (4 + p) = M (t + 1) p := by
  unfold crow; rw [if_neg (by omega), if_pos (by omega)]; congr 1; omega
theorem crow_k {M : Mem} {t p : Nat} (h : p < 7) : crow M t (11 + p) = M (t + 2) p := by
  unfold crow; rw [if_neg (by omega), if_neg (by omega), if_pos (by omega)]; congr 1; omega
theorem crow_w {M : Mem} {t : Nat} (k : Nat) : crow M t (18 + k) = M (t + 3) k := by
  unfold crow; rw [if_neg (by omega), if_neg (by omega), if_neg (by omega)]; congr 1; omega
section TOWNS
variable {M : Mem} {T : Tn}
theorem MT.n (h : MT (mrow M) T) : M 67 29 = nI (t_n T) := h.1.1
theorem MT.d (h : MT (mrow M) T) : M 67 30 = t_d T := h.1.2.1
theorem MT.h (h : MT (mrow M) T) : M 67 31 = t_h T := h.1.2.2.1
theorem MT.b (h : MT (mrow M) T) : M 67 32 = t_b T := h.1.2.2.2
theorem MT.c (h : MT (mrow M) T) {p : Nat} (hp : p < 7) : M 81 p = t_c T p := by rw [← h.2.1 p hp, mrow_c hp]
theorem MT.k (h : MT (mrow M) T) {p : Nat} (hp : p < 7) : M 82 p = t_k T p := by rw [← h.2.2.1 p hp, mrow_k hp]
theorem MT.w (h : MT (mrow M) T) {p i : Nat} (hp : p < 7) (hi : i < 6) : M 83 (6 * p + i) = nI (t_w T p i) := by
  rw [← h.2.2.2 p hp i hi, Nat.add_assoc, mrow_w]
theorem MT.of (h1 : M 67 29 = nI (t_n T)) (h2 : M 67 30 = t_d T) (h3 : M 67 31 = t_h T) (h4 : M 67 32 = t_b T) (h5 : ∀ p, p < 7 → M 81 p = t_c T p) (h6 : ∀ p, p < 7 → M 82 p = t_k T p) (h7 : ∀ p, p < 7 → ∀ i, i < 6 → M 83 (6 * p + i) = nI (t_w T p i)) : MT (mrow M) T :=
  ⟨⟨h1, h2, h3, h4⟩, fun p hp => by rw [mrow_c hp]; exact h5 p hp, fun p hp => by rw [mrow_k hp]; exact h6 p hp, fun p hp i hi => by rw [Nat.add_assoc, mrow_w]; exact h7 p hp i hi⟩
variable {t : Nat}
theorem CT.n (h : CT (crow M t) T) : M t 0 = nI (t_n T) := h.1.1
theorem CT.d (h : CT (crow M t) T) : M t 1 = t_d T := h.1.2.1
theorem CT.b (h : CT (crow M t) T) : M t 2 = t_b T := h.1.2.2.1
theorem CT.h (h : CT (crow M t) T) : M t 3 = t_h T := h.1.2.2.2
theorem CT.c (h : CT (crow M t) T) {p : Nat} (hp : p < 7) : M (t + 1) p = t_c T p := by rw [← h.2.1 p hp, crow_c hp]
theorem CT.k (h : CT (crow M t) T) {p : Nat} (hp : p < 7) : M (t + 2) p = t_k T p := by rw [← h.2.2.1 p hp, crow_k hp]
theorem CT.w (h : CT (crow M t) T) {p i : Nat} (hp : p < 7) (hi : i < 6) : F_X11_streetIn (M (t + 3) p) (nI i) = nI (t_w T p i) := by
  rw [← h.2.2.2 p hp i hi, crow_w]
theorem CT.of (h1 : M t 0 = nI (t_n T)) (h2 : M t 1 = t_d T) (h3 : M t 2 = t_b T) (h4 : M t 3 = t_h T) (h5 : ∀ p, p < 7 → M (t + 1) p = t_c T p) (h6 : ∀ p, p < 7 → M (t + 2) p = t_k T p) (h7 : ∀ p, p < 7 → ∀ i, i < 6 → F_X11_streetIn (M (t + 3) p) (nI i) = nI (t_w T p i)) : CT (crow M t) T :=
  ⟨⟨h1, h2, h3, h4⟩, fun p hp => by rw [crow_c hp]; exact h5 p hp, fun p hp => by rw [crow_k hp]; exact h6 p hp, fun p hp i hi => by rw [crow_w]; exact h7 p hp i hi⟩
end TOWNS
/-- seen in the k-th night on this walk, as the class reckons it -/
def zsk (P : Pl) (T : Tn) (wk : Nat → Nat) (k p : Nat) : Int32 := if zfog P (t_n T + k - 1) < 7 ∧ ¬ (k = 1 ∧ bt (t_b T) p = true) then zmet P wk p (t_n T + k - 1) else 0
def zlk (P : Pl) (T : Tn) (k : Nat) : Int32 := zmk (fun p => !(zsk P T (t_w T p) k p == 0)) (znp P)
section READ2
variable {M : Mem} {w c : Nat} {P : Pl} {T : Tn}
theorem zc_brib {p : Nat} (hp : p < 32) (hb : M c 2 = t_b T) : F_X8_isBribing c (nI p) M = bt (t_b T) p := by
  unfold F_X8_isBribing
  rw [hb]
  by_cases q : bt (t_b T) p = false
  · rw [if_pos ((zbit0 hp).mpr q), q]
  · rw [if_neg (fun e => q ((zbit0 hp).mp e))]; cases e : bt (t_b T) p <;> simp_all
theorem zc_seen (hP : PW P) (C : CP M w P) (h0 : M c 0 = nI (t_n T)) (hb : M c 2 = t_b T) (hn : t_n T ≤ 2000) {p k : Nat} {x : Int32} {wk : Nat → Nat} (hp : p < znp P) (hk : 1 ≤ k) (hk2 : k ≤ 100) (hx : ∀ i, i < 6 → F_X11_streetIn x (nI i) = nI (wk i)) (hwk : ∀ i, wk i < 8) : F_X9_seenIn w c (nI p) x (nI k) M = some (zsk P T wk k p) := by
  have h7 := hP.2.2.1
  unfold F_X9_seenIn
  rw [h0, nI_add, zsub1 (by omega), zc_fog hP C (by omega), zbs rfl]
  unfold zsk
  have hf := zfog_le hP (t_n T + k - 1)
  by_cases h1 : zfog P (t_n T + k - 1) < 7
  · rw [if_neg (znge 7 7 rfl h1 (by omega))]
    have hm := zc_met hP C (n := t_n T + k - 1) hp (by omega) hx hwk
    by_cases h2 : k = 1
    · subst h2
      rw [if_pos (by rfl), zc_brib (T := T) (by omega) hb]
      by_cases h3 : bt (t_b T) p = true
      · rw [if_neg (by rw [h3]; decide), if_neg (by simp [h3])]
      · rw [if_pos (by rw [zbi]; simpa using h3), if_pos ⟨h1, by simp [h3]⟩]
        unfold J_X9_seenIn_j38
        rw [hm]; rfl
    · rw [if_neg (zne 1 1 rfl h2 (by omega) (by omega)), if_pos ⟨h1, by simp [h2]⟩]
      unfold J_X9_seenIn_j38
      rw [hm]; rfl
  · rw [if_pos (zle 7 7 rfl (by omega) (by omega)), if_neg (fun e => h1 e.1)]
theorem zc_lots (hP : PW P) (C : CP M w P) (hT : CT (crow M c) T) (hW : TW9 P T) {k : Nat} (hk : 1 ≤ k) (hk2 : k ≤ 100) : F_X9_lotsIn w c (nI k) M = some (zlk P T k) := by
  have h7 := hP.2.2.1
  have key : ∀ j p f, p + j = znp P → j < f → L_X9_lotsIn_5 w c (nI k) M f (zmk (fun p => !(zsk P T (t_w T p) k p == 0)) p) (nI p) = some (zlk P T k) := by
    intro j
    induction j with
    | zero =>
      intro p f e hf
      obtain ⟨f, rfl⟩ : ∃ f', f = f' + 1 := ⟨f - 1, by omega⟩
      obtain rfl : p = znp P := by omega
      rw [L_X9_lotsIn_5, C.1.2.2.2.1, if_pos (nI_le (by omega) (by omega))]
      rfl
    | succ j ih =>
      intro p f e hf
      obtain ⟨f, rfl⟩ : ∃ f', f = f' + 1 := ⟨f - 1, by omega⟩
      have e1 := ih (p + 1) f (by omega) (by omega)
      rw [zmk] at e1
      rw [L_X9_lotsIn_5, C.1.2.2.2.1, if_neg (nI_ge (by omega) (by omega)), zat_at (by omega) (by omega), zc_seen hP C hT.n hT.b hW.1 (by omega) hk hk2 (fun i hi => hT.w (by omega) hi) (fun i => Nat.lt_of_lt_of_le (hW.2.1 p i) hP.1.2), zbs rfl, nI_1]
      by_cases q : zsk P T (t_w T p) k p = 0
      · rw [if_pos q]
        rw [if_neg (by simp [q]), z_or0] at e1
        exact e1
      · rw [if_neg q]
        rw [if_pos (by simp [q])] at e1
        exact e1
  unfold F_X9_lotsIn
  exact zbs (key (znp P) 0 FU (by omega) (by unfold FU; omega))
/-! the model -/
theorem zm_wat (hP : PW P) (C : MP M P) {n h : Nat} (hn : n ≤ 3000) (hh : h < 32) : F_X12_watchAt 67 (nI n) (nI h) M = some (nI (zw P n h)) := by
  have h1 := hP.2.1
  unfold F_X12_watchAt
  rw [C.1.2.2.1, z6, nI_add, zirm (by omega) (by omega) (by omega)]
  have h2 := Nat.mod_lt (6 * n + h) (by omega : 0 < znr P)
  rw [zbs rfl, zald (by omega) (by omega), zbs rfl, C.2.2.2.1 _ h2]
  rfl
theorem zm_fog (hP : PW P) (C : MP M P) (hT : MT (mrow M) T) (hn : t_n T ≤ 3000) (hf : M 67 35 = -1) : F_X12_fogOf 67 M = some (nI (zfog P (t_n T))) := by
  unfold F_X12_fogOf
  have h4 := hP.2.2.2.1
  rw [if_pos hf, C.1.2.2.2.2.1]
  unfold zfog zfg zf1
  by_cases h : znf P = 0
  · rw [if_pos (by rw [h]; rfl), if_pos h]; rfl
  · have h3 := Nat.mod_lt (t_n T) (by omega : 0 < znf P)
    rw [if_neg (zne 0 0 rfl h (by omega) (by omega)), if_neg h, if_neg h, hT.n, zirm (by omega) (by omega) (by omega), zbs rfl, zald (by omega) (by omega), zbs rfl, C.2.2.2.2.2.1 _ h3]
theorem zm_fogx {f : Nat} (hf : M 67 35 = nI f) (h : f < 10) : F_X12_fogOf 67 M = some (nI f) := by
  unfold F_X12_fogOf
  have : ¬ M 67 35 = -1 := by
    rw [hf]
    have : ∀ f, f < 10 → ¬ nI f = -1 := by decide +kernel
    exact this f h
  rw [if_neg this, hf]
theorem zm_str (hP : PW P) (C : MP M P) (hT : MT (mrow M) T) {p h : Nat} (hp : p < znp P) (hh : h < 32) : F_X12_streetOf 67 (nI p) (nI h) M = some (nI (t_w T p (h % p_ln P p))) := by
  have h1 := hP.2.2.2.2.2.2.2.1 p hp
  have h2 := hP.2.2.1
  have h3 := Nat.mod_lt h (by omega : 0 < p_ln P p)
  unfold F_X12_streetOf
  rw [zald (by omega) (by omega), zbs rfl, C.2.2.2.2.1 p hp, zirm (by omega) (by omega) (by omega), zbs rfl, z6, nI_add, zald (by omega) (by omega), zbs rfl, hT.w (by omega) (by omega)]
theorem zm_seen (hP : PW P) (C : MP M P) (hT : MT (mrow M) T) (hW : TW9 P T) {fog p : Nat} (hF : F_X12_fogOf 67 M = some (nI fog)) (hfog : fog < 10) (hp : p < znp P) : F_X12_seenHours 67 (nI p) M = some (zseen P T fog p) := by
  have h7 := hP.2.2.1
  have hn := hW.1
  have key : ∀ j h f, h + j = 6 → j < f → L_X12_seenHours_31 67 (nI p) 1 M f (zmk (fun h => zw P (t_n T) h == t_w T p (h % p_ln P p)) h) (nI h) = some (zmet P (t_w T p) p (t_n T)) := by
    intro j
    induction j with
    | zero =>
      intro h f e hf
      obtain ⟨f, rfl⟩ : ∃ f', f = f' + 1 := ⟨f - 1, by omega⟩
      obtain rfl : h = 6 := by omega
      rw [L_X12_seenHours_31, if_pos (by decide)]
      rfl
    | succ j ih =>
      intro h f e hf
      obtain ⟨f, rfl⟩ : ∃ f', f = f' + 1 := ⟨f - 1, by omega⟩
      have h4 := zw_lt hP (t_n T) h
      have h5 := hP.1.2
      have h6 := hW.2.1 p (h % p_ln P p)
      rw [L_X12_seenHours_31, if_neg (znge 6 6 rfl (by omega) (by omega)), if_neg (by decide), hT.n, zm_wat hP C (by omega) (by omega), zbs rfl, zm_str hP C hT hp (by omega), zbs rfl, nI_1]
      have e1 := ih (h + 1) f (by omega) (by omega)
      rw [zmk] at e1
      by_cases q : zw P (t_n T) h = t_w T p (h % p_ln P p)
      · rw [if_pos (by rw [q])]
        rw [if_pos (by simp [q])] at e1
        exact e1
      · rw [if_neg (fun e => q ((nI_eq (by omega) (by omega)).mp e))]
        rw [if_neg (by simp [q])] at e1
        exact e1
  have k0 : J_X12_seenHours_j26 67 (nI p) 0 M = some 0 := by
    unfold J_X12_seenHours_j26 J_X12_seenHours_j27
    have : L_X12_seenHours_31 67 (nI p) 0 M FU 0 0 = some 0 := by
      show L_X12_seenHours_31 67 (nI p) 0 M (99999 + 1) 0 0 = some 0
      rw [L_X12_seenHours_31, if_neg (by decide), if_pos rfl]
    rw [zbs this]
  unfold F_X12_seenHours
  rw [hF, zbs rfl]
  unfold zseen
  by_cases h1 : fog < 7
  · rw [if_neg (znge 7 7 rfl h1 (by omega)), hT.b, zis (by omega)]
    by_cases h3 : bt (t_b T) p = true
    · rw [if_neg (by rw [h3]; decide), if_neg (by simp [h3]), k0]
    · rw [if_pos (by rw [zbi]; simpa using h3), if_pos ⟨h1, by simpa using h3⟩]
      unfold J_X12_seenHours_j27
      exact zbs (key 6 0 FU (by omega) (by decide))
  · rw [if_pos (zle 7 7 rfl (by omega) (by omega)), if_neg (fun e => h1 e.1), k0]
theorem zm_lots (hP : PW P) (C : MP M P) (hT : MT (mrow M) T) (hW : TW9 P T) {fog : Nat} (hF : F_X12_fogOf 67 M = some (nI fog)) (hfog : fog < 10) : F_X12_lotsNow 67 M = some (zlots P T fog) := by
  have h7 := hP.2.2.1
  have key : ∀ j p f, p + j = znp P → j < f → L_X12_lotsNow_4 67 M f (zmk (fun p => !(zseen P T fog p == 0)) p) (nI p) = some (zlots P T fog) := by
    intro j
    induction j with
    | zero =>
      intro p f e hf
      obtain ⟨f, rfl⟩ : ∃ f', f = f' + 1 := ⟨f - 1, by omega⟩
      obtain rfl : p = znp P := by omega
      rw [L_X12_lotsNow_4, C.1.2.2.2.1, if_pos (nI_le (by omega) (by omega))]
      rfl
    | succ j ih =>
      intro p f e hf
      obtain ⟨f, rfl⟩ : ∃ f', f = f' + 1 := ⟨f - 1, by omega⟩
      have e1 := ih (p + 1) f (by omega) (by omega)
      rw [zmk] at e1
      rw [L_X12_lotsNow_4, C.1.2.2.2.1, if_neg (nI_ge (by omega) (by omega)), zm_seen hP C hT hW hF hfog (by omega), zbs rfl, nI_1]
      by_cases q : zseen P T fog p = 0
      · rw [if_pos q]
        rw [if_neg (by simp [q])] at e1
        exact e1
      · rw [if_neg q]
        rw [if_pos (by simp [q])] at e1
        exact e1
  unfold F_X12_lotsNow
  exact zbs (key (znp P) 0 FU (by omega) (by unfold FU; omega))
end READ2
