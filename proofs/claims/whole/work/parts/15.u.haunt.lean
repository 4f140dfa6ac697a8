/-! ===== spends, haunt ===== -/
def zpd (S : N9) (p : Nat) : Nat → Int32
  | 0 => 0
  | k + 1 => zpd S p k + (if S.2.1 k = nI p then S.2.2.1 k else 0)
theorem zsls_B {P : Pl} (hP : PW P) {hs : Nat → Int32} {lt : Nat} {T : Tn} : ∀ k, k ≤ znp P → ∀ q, znp P ≤ q → (zsls P hs lt T k).2.1 q = -1
  | 0, _, q, hq => rfl
  | k + 1, h, q, hq => by
    rw [zsls]
    split
    · exact zsls_B hP k (by omega) q hq
    · rcases zsell_or P (hs k) lt k (zsls P hs lt T k) hP.2.2.1 with e | ⟨b, pr, hb, e, h0, h1⟩
      · rw [e]; exact zsls_B hP k (by omega) q hq
      · rw [e]
        show upd _ k _ q = -1
        rw [upd_app, if_neg (by omega)]; exact zsls_B hP k (by omega) q hq
theorem zpass_B {P : Pl} (hP : PW P) {T : Tn} {fog : Nat} {q : Nat} (hq : znp P ≤ q) : (zpass P T fog).2.1 q = -1 := zsls_B hP (znp P) (Nat.le_refl _) q hq
theorem zneg1 {p : Nat} (hp : p < 2147483648) : ¬ (-1 : Int32) = nI p := fun h => by
  have : (-1 : Int32).toInt = (nI p).toInt := congrArg Int32.toInt h
  rw [nI_toInt (by omega)] at this
  have e : (-1 : Int32).toInt = -1 := by decide
  rw [e] at this
  omega
theorem zpd_np {S : N9} {n p : Nat} (h : ∀ q, n ≤ q → S.2.1 q = -1) (hp : p < 1000) : ∀ j, zpd S p (n + j) = zpd S p n
  | 0 => rfl
  | j + 1 => by
    show zpd S p (n + j) + (if S.2.1 (n + j) = nI p then S.2.2.1 (n + j) else 0) = _
    rw [zpd_np h hp j, h _ (by omega), if_neg (zneg1 (by omega))]; exact Int32.add_zero _
def zspd (P : Pl) (T : Tn) (p : Nat) : Nat → Int32
  | 0 => 0
  | k + 1 => zspd P T p k + zpd (zlast P T k) p 7
section SPENDS
variable {M : Mem} {w : Nat} {Z : Zs}
theorem zc_paid {c : Nat} {S : N9} (hS : SC9 c M S) (p : Nat) : F_X6_paidBy 52 (nI p) M = some (zpd S p 7) := by
  have key : ∀ j q f, q + j = 7 → j < f → L_X6_paidBy_4 52 (nI p) M f (zpd S p q) (nI q) = some (zpd S p 7) := by
    intro j
    induction j with
    | zero =>
      intro q f e hf
      obtain ⟨f, rfl⟩ : ∃ f', f = f' + 1 := ⟨f - 1, by omega⟩
      obtain rfl : q = 7 := by omega
      rw [L_X6_paidBy_4, if_pos (by decide)]
    | succ j ih =>
      intro q f e hf
      obtain ⟨f, rfl⟩ : ∃ f', f = f' + 1 := ⟨f - 1, by omega⟩
      have e1 := ih (q + 1) f (by omega) (by omega)
      rw [zpd] at e1
      rw [L_X6_paidBy_4, if_neg (znge 7 7 rfl (by omega) (by omega)), zat_at (by omega) (by omega), zat_at (by omega) (by omega), hS.2.1 q (by omega), hS.2.2.1 q (by omega), nI_1]
      by_cases k : S.2.1 q = nI p
      · rw [if_pos k]; rw [if_pos k] at e1; exact e1
      · rw [if_neg k]; rw [if_neg k, Int32.add_zero] at e1; exact e1
  unfold F_X6_paidBy
  exact zbs (key 7 0 FU (by omega) (by decide))
theorem zc_spends (hz : ZW Z) (hc : RC w Z M) {p n : Nat} (hn : n ≤ 40) : ∃ M1 M', F_X8_copy (0 + 48) (0 + 24 + 1) M = some M1 ∧ L_X11_spends_31 0 (nI p) (nI n) FU 0 0 M1 = some (zspd (z_P Z) (b_t (z_B Z)) p n, M') ∧ Fz w M M' := by
  have hP := hz.1
  have hw := hc.ww
  obtain ⟨hTW, hTC, h9⟩ := hz.2.1.1
  have key : ∀ j i f (M1 : Mem), i + j = n → j < f → CT (crow M1 48) (zgo (z_P Z) (b_t (z_B Z)) i) → Fz w M M1 →
      Evs (L_X11_spends_31 0 (nI p) (nI n) f (zspd (z_P Z) (b_t (z_B Z)) p i) (nI i) M1) (fun r => r.1 = zspd (z_P Z) (b_t (z_B Z)) p n ∧ Fz w M r.2) := by
    intro j
    induction j with
    | zero =>
      intro i f M1 e hf a1 a3
      obtain ⟨f, rfl⟩ : ∃ f', f = f' + 1 := ⟨f - 1, by omega⟩
      obtain rfl : i = n := by omega
      rw [L_X11_spends_31, if_pos (nI_le (by omega) (by omega))]
      exact Evs.pure ⟨rfl, a3⟩
    | succ j ih =>
      intro i f M1 e hf a1 a3
      obtain ⟨f, rfl⟩ : ∃ f', f = f' + 1 := ⟨f - 1, by omega⟩
      have hc1 := hc.keep a3
      have k := zgo_k (T := b_t (z_B Z)) hP i
      rw [L_X11_spends_31, if_neg (nI_ge (by omega) (by omega)), hc1.grd, zbs rfl, zbs rfl, a1.n, k.1, zc_fog hP hc1.P (by omega), zbs rfl, nI_1]
      refine Evs.bind (zc_pass hP hc1.P hw (c := 48) a1 (k.2.2.2.2.1 hTW (by omega)) (by omega) (fog := zfog (z_P Z) (t_n (b_t (z_B Z)) + i)) (by have := zfog_le hP (t_n (b_t (z_B Z)) + i); omega)) (fun M2 h2 => ?_)
      rw [zc_paid h2.1, zbs rfl]
      exact ih (i + 1) f M2 (by omega) (by omega) h2.1.1 (a3.tr (h2.2.z hw))
  obtain ⟨M1, e1, h1, h2, h3⟩ := zc_cp48 hc
  obtain ⟨r, e2, r1, r2⟩ := key n 0 FU M1 (by omega) (by unfold FU; omega) h1 h2
  exact ⟨M1, r.2, e1, by rw [← r1]; exact e2, r2⟩
theorem zm_spends (hz : ZW Z) (hm : RM Z M) {p n : Nat} (hp : p < 1000) (hn : n ≤ 40) : ∃ M1 M2 M3, F_X12_pack 67 (67 + 23) 60 0 M = some M1 ∧ L_X12_spends_51 67 (nI p) (nI n) FU 0 0 M1 = some (zspd (z_P Z) (b_t (z_B Z)) p n, M2) ∧ F_X12_unpack 67 (67 + 23) 60 0 M2 = some M3 ∧ Gz M M3 ∧ M3 67 2 = M 67 2 := by
  have hP := hz.1
  have h7 := hP.2.2.1
  obtain ⟨hTW, hTC, h9⟩ := hz.2.1.1
  obtain ⟨M1, e1, h1⟩ := zm_pack (M := M) (a := 90) (n := 60) (f := 0) (by omega) (by omega) (by omega)
  have c1 : ∀ b, b ≠ 90 → M1 b = M b := fun b hb => h1.cell (fun k _ => by simp [sloc]; omega)
  have P1 : MP M1 (z_P Z) := hm.P.of (fun a _ _ => c1 a (by omega))
  have T1 : MT (mrow M1) (b_t (z_B Z)) := by rw [mrow_of (M := M) (fun k _ _ => by rw [c1 _ (by omega)]) (c1 _ (by omega)) (c1 _ (by omega)) (c1 _ (by omega))]; exact hm.T
  have n35 : M1 67 35 = -1 := by rw [c1 _ (by omega)]; exact hm.2.2.2.2.2.1
  have inner : ∀ (x2 x4 x : Int32) (M2 : Mem) (S : N9), MP M2 (z_P Z) → SM9 M2 S → (∀ q, znp (z_P Z) ≤ q → S.2.1 q = -1) → L_X12_spends_64 67 (nI p) x2 x4 M2 FU x 0 = some (x + zpd S p 7) := by
    intro x2 x4 x M2 S hPm hS hB
    have key : ∀ j q f, q + j = znp (z_P Z) → j < f → L_X12_spends_64 67 (nI p) x2 x4 M2 f (x + zpd S p q) (nI q) = some (x + zpd S p (znp (z_P Z))) := by
      intro j
      induction j with
      | zero =>
        intro q f e hf
        obtain ⟨f, rfl⟩ : ∃ f', f = f' + 1 := ⟨f - 1, by omega⟩
        obtain rfl : q = znp (z_P Z) := by omega
        rw [L_X12_spends_64, hPm.1.2.2.2.1, if_pos (nI_le (by omega) (by omega))]
      | succ j ih =>
        intro q f e hf
        obtain ⟨f, rfl⟩ : ∃ f', f = f' + 1 := ⟨f - 1, by omega⟩
        have e1 := ih (q + 1) f (by omega) (by omega)
        rw [zpd, ← Int32.add_assoc] at e1
        rw [L_X12_spends_64, hPm.1.2.2.2.1, if_neg (nI_ge (by omega) (by omega)), zald (by omega) (by omega), zbs rfl, hS.2.1 q (by omega)]
        unfold J_X12_spends_j98
        rw [nI_1]
        by_cases k : S.2.1 q = nI p
        · rw [if_pos k, zald (by omega) (by omega), zbs rfl, hS.2.2.1 q (by omega)]; rw [if_pos k] at e1; exact e1
        · rw [if_neg k]; rw [if_neg k] at e1; exact e1
    have e7 : zpd S p 7 = zpd S p (znp (z_P Z)) := by
      have e : 7 = znp (z_P Z) + (7 - znp (z_P Z)) := by omega
      rw [e]; exact zpd_np hB hp _
    rw [e7]
    have := key (znp (z_P Z)) 0 FU (by omega) (by unfold FU; omega)
    rw [show zpd S p 0 = 0 from rfl, Int32.add_zero] at this
    exact this
  have key : ∀ j i f (M2 : Mem), i + j = n → j < f → MT (mrow M2) (zgo (z_P Z) (b_t (z_B Z)) i) → Gm M1 M2 →
      Evs (L_X12_spends_51 67 (nI p) (nI n) f (zspd (z_P Z) (b_t (z_B Z)) p i) (nI i) M2) (fun r => r.1 = zspd (z_P Z) (b_t (z_B Z)) p n ∧ Gm M1 r.2) := by
    intro j
    induction j with
    | zero =>
      intro i f M2 e hf a1 a2
      obtain ⟨f, rfl⟩ : ∃ f', f = f' + 1 := ⟨f - 1, by omega⟩
      obtain rfl : i = n := by omega
      rw [L_X12_spends_51, if_pos (nI_le (by omega) (by omega))]
      exact Evs.pure ⟨rfl, a2⟩
    | succ j ih =>
      intro i f M2 e hf a1 a2
      obtain ⟨f, rfl⟩ : ∃ f', f = f' + 1 := ⟨f - 1, by omega⟩
      have q := zgo_k (T := b_t (z_B Z)) hP i
      have hf9 := zfog_le hP (t_n (b_t (z_B Z)) + i)
      rw [L_X12_spends_51, if_neg (nI_ge (by omega) (by omega)), nI_1]
      refine Evs.bind (zm_night hP (P1.g a2) a1 (q.2.2.2.2.1 hTW (by omega)) (fog := zfog (z_P Z) (t_n (b_t (z_B Z)) + i)) (by rw [← q.1]; exact zm_fog hP (P1.g a2) a1 (by rw [q.1]; omega) (by rw [a2.2 35 (by omega) (by omega) (by omega) (by omega) (by omega)]; exact n35)) (by omega)) (fun M3 h3 => ?_)
      obtain ⟨s1, s2, s3⟩ := h3
      rw [inner _ _ _ M3 (zlast (z_P Z) (b_t (z_B Z)) i) (P1.g (a2.tr s3)) s1 (fun q hq => zpass_B hP hq), zbs rfl]
      exact ih (i + 1) f M3 (by omega) (by omega) s1.1 (a2.tr s3)
  obtain ⟨r, e2, r1, r2⟩ := key n 0 FU M1 (by omega) (by unfold FU; omega) T1 Gm.rf
  obtain ⟨M3, e3, h4⟩ := zm_unpack (M := r.2) (a := 90) (n := 60) (f := 0) (by omega) (by omega) (by omega)
  have c4 : ∀ k, (k < 29 ∨ 32 < k) → M3 67 k = r.2 67 k := fun k hk => h4.2 67 k (fun i hi e => by unfold mloc at e; (repeat' split at e) <;> simp at e <;> omega)
  refine ⟨M1, r.2, M3, e1, by rw [← r1]; exact e2, e3, zm_back (Or.inl rfl) h1 r2 h4, ?_⟩
  rw [c4 2 (by omega), r2.2 2 (by omega) (by omega) (by omega) (by omega) (by omega), c1 67 (by omega)]
end SPENDS
/-! who is seen in a street -/
def zcnt (P : Pl) (T : Tn) (k p s : Nat) : Nat := fb_ct (fun h => bt (zsk P T (t_w T p) k p) h && decide (t_w T p (h % p_ln P p) = s)) 6
def zhn (P : Pl) (T : Tn) (s k : Nat) : Nat := fb_sm (fun j => fb_sm (fun p => zcnt P T (j + 1) p s) (znp P)) k
theorem zsk_at {P : Pl} {T : Tn} {k p h : Nat} (hh : h < 6) (e : bt (zsk P T (t_w T p) k p) h = true) : zw P (t_n T + k - 1) h = t_w T p (h % p_ln P p) := by
  unfold zsk at e
  split at e
  · unfold zmet at e
    rw [zmk_bt _ (by omega) (by omega)] at e
    simp at e
    exact e.2
  · rw [b_0] at e; cases e
theorem zsk_6 {P : Pl} {T : Tn} {wk : Nat → Nat} {k p : Nat} : ∀ i, 6 ≤ i → i < 32 → bt (zsk P T wk k p) i = false := fun i hi h => by
  unfold zsk
  split
  · exact zmet_6 i hi h
  · exact b_0 i
theorem zcnt_and (P : Pl) (T : Tn) (k p s : Nat) : zct (zmk (fun h => zw P (t_n T + k - 1) h == s) 6 &&& zsk P T (t_w T p) k p) = zcnt P T k p s := by
  unfold zct zcnt
  have e : 32 = 6 + 26 := rfl
  rw [e, fb_ct_split]
  have z : fb_ct (fun i => bt (zmk (fun h => zw P (t_n T + k - 1) h == s) 6 &&& zsk P T (t_w T p) k p) (6 + i)) 26 = 0 := fb_ct_zero.mpr (fun i hi => by rw [b_and, zsk_6 _ (by omega) (by omega), Bool.and_false])
  rw [z, Nat.add_zero]
  refine fb_ct_cong (fun h hh => ?_)
  rw [b_and, zmk_bt _ (by omega) (by omega)]
  cases q : bt (zsk P T (t_w T p) k p) h
  · simp
  · rw [zsk_at hh q]
    by_cases z : t_w T p (h % p_ln P p) = s <;> simp [hh, z]
/-- the best, and how many -/
def zbe (v : Nat → Nat) : Nat → Int32 × Nat
  | 0 => (-1, 0)
  | k + 1 => if v k ≤ (zbe v k).2 then zbe v k else (nI k, v k)
theorem zcnt_le (P : Pl) (T : Tn) (k p s : Nat) : zcnt P T k p s ≤ 6 := fb_ct_le _ 6
theorem zhn_le {P : Pl} (hP : PW P) (T : Tn) (s k : Nat) : zhn P T s k ≤ k * 42 := by
  have h7 := hP.2.2.1
  refine fb_sm_bound (fun j _ => ?_)
  have := fb_sm_bound (f := fun p => zcnt P T (j + 1) p s) (c := 6) (n := znp P) (fun p _ => zcnt_le P T (j + 1) p s)
  omega
section HAUNT
variable {M : Mem} {w : Nat} {Z : Zs}
theorem zc_seenAt (hz : ZW Z) (hc : RC w Z M) {s n : Nat} (hs : s < 32) (hn : n ≤ 40) : F_X9_seenAt w 25 (nI s) (nI n) M = some (nI (zhn (z_P Z) (b_t (z_B Z)) s n)) := by
  have hP := hz.1
  have h7 := hP.2.2.1
  obtain ⟨hTW, hTC, h9⟩ := hz.2.1.1
  have k18 : ∀ (x4 : Int32) k, 1 ≤ k → k ≤ 40 → L_X9_seenAt_18 w 25 (nI s) (nI n) x4 (nI k) M FU 0 0 = some (zmk (fun h => zw (z_P Z) (t_n (b_t (z_B Z)) + k - 1) h == s) 6) := by
    intro x4 k hk1 hk
    have key : ∀ j h f, h + j = 6 → j < f → L_X9_seenAt_18 w 25 (nI s) (nI n) x4 (nI k) M f (zmk (fun h => zw (z_P Z) (t_n (b_t (z_B Z)) + k - 1) h == s) h) (nI h) = some (zmk (fun h => zw (z_P Z) (t_n (b_t (z_B Z)) + k - 1) h == s) 6) := by
      intro j
      induction j with
      | zero =>
        intro h f e hf
        obtain ⟨f, rfl⟩ : ∃ f', f = f' + 1 := ⟨f - 1, by omega⟩
        obtain rfl : h = 6 := by omega
        rw [L_X9_seenAt_18, if_pos (by decide)]
      | succ j ih =>
        intro h f e hf
        obtain ⟨f, rfl⟩ : ∃ f', f = f' + 1 := ⟨f - 1, by omega⟩
        have h4 := zw_lt hP (t_n (b_t (z_B Z)) + k - 1) h
        have h5 := hP.1.2
        have e1 := ih (h + 1) f (by omega) (by omega)
        rw [zmk] at e1
        rw [L_X9_seenAt_18, if_neg (znge 6 6 rfl (by omega) (by omega)), hc.T.n, nI_add, zsub1 (by omega), zc_wat hP hc.P (by omega) (by omega), zbs rfl, nI_1]
        by_cases q : zw (z_P Z) (t_n (b_t (z_B Z)) + k - 1) h = s
        · rw [if_pos (by rw [q])]
          rw [if_pos (by simp [q])] at e1
          exact e1
        · rw [if_neg (fun z => q ((nI_eq (by omega) (by omega)).mp z))]
          rw [if_neg (by simp [q]), z_or0] at e1
          exact e1
    exact key 6 0 FU (by omega) (by decide)
  have k62 : ∀ k x, 1 ≤ k → k ≤ 40 → L_X9_seenAt_62 w 25 (nI s) (nI n) (nI k) (zmk (fun h => zw (z_P Z) (t_n (b_t (z_B Z)) + k - 1) h == s) 6) M FU (nI x) 0 = some (nI (x + fb_sm (fun p => zcnt (z_P Z) (b_t (z_B Z)) k p s) (znp (z_P Z)))) := by
    intro k x hk1 hk
    have key : ∀ j p f, p + j = znp (z_P Z) → j < f → L_X9_seenAt_62 w 25 (nI s) (nI n) (nI k) (zmk (fun h => zw (z_P Z) (t_n (b_t (z_B Z)) + k - 1) h == s) 6) M f (nI (x + fb_sm (fun p => zcnt (z_P Z) (b_t (z_B Z)) k p s) p)) (nI p) = some (nI (x + fb_sm (fun p => zcnt (z_P Z) (b_t (z_B Z)) k p s) (znp (z_P Z)))) := by
      intro j
      induction j with
      | zero =>
        intro p f e hf
        obtain ⟨f, rfl⟩ : ∃ f', f = f' + 1 := ⟨f - 1, by omega⟩
        obtain rfl : p = znp (z_P Z) := by omega
        rw [L_X9_seenAt_62, hc.P.1.2.2.2.1, if_pos (nI_le (by omega) (by omega))]
      | succ j ih =>
        intro p f e hf
        obtain ⟨f, rfl⟩ : ∃ f', f = f' + 1 := ⟨f - 1, by omega⟩
        have e1 := ih (p + 1) f (by omega) (by omega)
        rw [L_X9_seenAt_62, hc.P.1.2.2.2.1, if_neg (nI_ge (by omega) (by omega)), zat_at (by omega) (by omega), zc_seen hP hc.P hc.T.n hc.T.b (by omega) (p := p) (by omega) hk1 (by omega) (fun i hi => hc.T.w (by omega) hi) (fun i => Nat.lt_of_lt_of_le (hTW.2.1 p i) hP.1.2), zbs rfl, nI_1,
          zj_bc2 (fun i hi h => by rw [b_and, zsk_6 i (by omega) h, Bool.and_false]), zcnt_and, nI_add, Nat.add_assoc]
        exact e1
    exact key (znp (z_P Z)) 0 FU (by omega) (by unfold FU; omega)
  have key : ∀ j k f, k + j = n → j < f → L_X9_seenAt_6 w 25 (nI s) (nI n) M f (nI (zhn (z_P Z) (b_t (z_B Z)) s k)) (nI (k + 1)) = some (nI (zhn (z_P Z) (b_t (z_B Z)) s n)) := by
    intro j
    induction j with
    | zero =>
      intro k f e hf
      obtain ⟨f, rfl⟩ : ∃ f', f = f' + 1 := ⟨f - 1, by omega⟩
      obtain rfl : k = n := by omega
      rw [L_X9_seenAt_6, if_pos (nI_lt (by omega) (by omega))]
    | succ j ih =>
      intro k f e hf
      obtain ⟨f, rfl⟩ : ∃ f', f = f' + 1 := ⟨f - 1, by omega⟩
      rw [L_X9_seenAt_6, if_neg (nI_nlt (by omega) (by omega)), k18 _ (k + 1) (by omega) (by omega), zbs rfl, k62 (k + 1) _ (by omega) (by omega), zbs rfl, nI_1]
      exact ih (k + 1) f (by omega) (by omega)
  unfold F_X9_seenAt
  exact zbs (key n 0 FU (by omega) (by unfold FU; omega))
theorem zc_haunt (hz : ZW Z) (hc : RC w Z M) {n : Nat} (hn : n ≤ 40) : L_X11_haunt_14 0 (nI n) M FU (-1) 0 0 = some (zbe (fun s => zhn (z_P Z) (b_t (z_B Z)) s n) (zns (z_P Z))).1 := by
  have hP := hz.1
  have h8 := hP.1.2
  have bound : ∀ k, (zbe (fun s => zhn (z_P Z) (b_t (z_B Z)) s n) k).2 ≤ 2000 := by
    intro k
    induction k with
    | zero => show 0 ≤ 2000; omega
    | succ k ih =>
      rw [zbe]
      split
      · exact ih
      · have := zhn_le hP (b_t (z_B Z)) k n
        show zhn (z_P Z) (b_t (z_B Z)) k n ≤ 2000
        omega
  have key : ∀ j s f, s + j = zns (z_P Z) → j < f → L_X11_haunt_14 0 (nI n) M f (zbe (fun s => zhn (z_P Z) (b_t (z_B Z)) s n) s).1 (nI (zbe (fun s => zhn (z_P Z) (b_t (z_B Z)) s n) s).2) (nI s) = some (zbe (fun s => zhn (z_P Z) (b_t (z_B Z)) s n) (zns (z_P Z))).1 := by
    intro j
    induction j with
    | zero =>
      intro s f e hf
      obtain ⟨f, rfl⟩ : ∃ f', f = f' + 1 := ⟨f - 1, by omega⟩
      obtain rfl : s = zns (z_P Z) := by omega
      rw [L_X11_haunt_14, hc.grd, zbs rfl, hc.P.1.1, if_pos (nI_le (by omega) (by omega))]
    | succ j ih =>
      intro s f e hf
      obtain ⟨f, rfl⟩ : ∃ f', f = f' + 1 := ⟨f - 1, by omega⟩
      have e1 := ih (s + 1) f (by omega) (by omega)
      have hb := bound s
      have hh := zhn_le hP (b_t (z_B Z)) s n
      rw [zbe] at e1
      rw [L_X11_haunt_14, hc.grd, zbs rfl, hc.P.1.1, if_neg (nI_ge (by omega) (by omega)), zbs rfl, zc_seenAt hz hc (by omega) hn, zbs rfl, nI_1]
      by_cases q : zhn (z_P Z) (b_t (z_B Z)) s n ≤ (zbe (fun s => zhn (z_P Z) (b_t (z_B Z)) s n) s).2
      · rw [if_pos (nI_le q (by omega))]; rw [if_pos q] at e1; exact e1
      · rw [if_neg (nI_ge (by omega) (by omega))]; rw [if_neg q] at e1; exact e1
  exact key (zns (z_P Z)) 0 FU (by omega) (by unfold FU; omega)
end HAUNT
