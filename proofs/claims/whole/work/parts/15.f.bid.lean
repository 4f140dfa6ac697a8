/-! ===== bids ===== -/
theorem zj_bc : ∀ v : Nat, v < 256 → F_J6_bitCount_0f7a4 (nI v) = nI (zct (nI v)) := by decide +kernel
theorem zj_bc2 {x : Int32} (h : ∀ i, 8 ≤ i → i < 32 → bt x i = false) : F_J6_bitCount_0f7a4 x = nI (zct x) := by
  obtain ⟨v, hv, rfl⟩ := z_few (n := 8) (by omega) h
  exact zj_bc v hv
theorem zbo_M {M M2 : Mem} : ∀ (f : Nat) (a x : Int32), L_X12_bitsOf_4 M f a x = L_X12_bitsOf_4 M2 f a x
  | 0, _, _ => rfl
  | f + 1, a, x => by rw [L_X12_bitsOf_4, L_X12_bitsOf_4, zbo_M f]
theorem zbo_f {M : Mem} : ∀ (f g : Nat) (a x r : Int32), f ≤ g → L_X12_bitsOf_4 M f a x = some r → L_X12_bitsOf_4 M g a x = some r
  | 0, _, _, _, _, _, h => by cases h
  | f + 1, 0, _, _, _, h, _ => by omega
  | f + 1, g + 1, a, x, r, hg, h => by
    rw [L_X12_bitsOf_4] at h ⊢
    by_cases q : x = 0
    · rw [if_pos q] at h ⊢; exact h
    · rw [if_neg q] at h ⊢; exact zbo_f f g _ _ r (by omega) h
theorem zbo : ∀ v : Nat, v < 256 → L_X12_bitsOf_4 (fun _ _ => 0) 9 0 (nI v) = some (nI (zct (nI v))) := by decide +kernel
theorem zm_bits {M : Mem} {x : Int32} (h : ∀ i, 8 ≤ i → i < 32 → bt x i = false) : F_X12_bitsOf x M = some (nI (zct x)) := by
  obtain ⟨v, hv, rfl⟩ := z_few (n := 8) (by omega) h
  unfold F_X12_bitsOf
  rw [zbo_M (M2 := fun _ _ => 0), zbs (zbo_f 9 FU _ _ _ (by decide) (zbo v hv))]
/-- the first hour of some -/
def zfb (x : Int32) : Nat := if bt x 0 then 0 else if bt x 1 then 1 else if bt x 2 then 2 else if bt x 3 then 3 else if bt x 4 then 4 else 5
theorem zfb_lt (x : Int32) : zfb x < 6 := by
  unfold zfb
  split <;> (try omega)
  split <;> (try omega)
  split <;> (try omega)
  split <;> (try omega)
  split <;> omega
theorem zfb_at {x : Int32} (h : ∀ i, 6 ≤ i → i < 32 → bt x i = false) (h0 : ¬ x = 0) : bt x (zfb x) = true ∧ ∀ i, i < zfb x → bt x i = false := by
  obtain ⟨v, hv, rfl⟩ := z_few (n := 6) (by omega) h
  have k : ∀ v : Nat, v < 64 → ¬ nI v = 0 → bt (nI v) (zfb (nI v)) = true ∧ ∀ i, i < zfb (nI v) → bt (nI v) i = false := by decide +kernel
  exact k v hv h0
theorem zj_ntzM (x : Int32) (M : Mem) : F_J6_numberOfTrailingZeros_0f7a4 x M = F_J6_numberOfTrailingZeros_0f7a4 x (fun _ _ => 0) := rfl
theorem zj_ntz {x : Int32} (M : Mem) (h : ∀ i, 6 ≤ i → i < 32 → bt x i = false) (h0 : ¬ x = 0) : F_J6_numberOfTrailingZeros_0f7a4 x M = nI (zfb x) := by
  obtain ⟨v, hv, rfl⟩ := z_few (n := 6) (by omega) h
  have k : ∀ v : Nat, v < 64 → ¬ nI v = 0 → F_J6_numberOfTrailingZeros_0f7a4 (nI v) (fun _ _ => 0) = nI (zfb (nI v)) := by decide +kernel
  rw [zj_ntzM]
  exact k v hv h0
theorem zmin_comm (x y : Int32) : imin x y = imin y x := by
  unfold imin
  by_cases h : y < x
  · rw [if_pos h, if_neg (fun q => Int32.lt_irrefl (Int32.lt_trans h q))]
  · rw [if_neg h]
    by_cases h2 : x < y
    · rw [if_pos h2]
    · rw [if_neg h2]; exact Int32.le_antisymm (Int32.not_lt.mp h) (Int32.not_lt.mp h2)
def zask (P : Pl) (T : Tn) (x : Int32) (lt : Nat) (q p : Nat) : Nat → Int32 := fun k => match k with
  | 0 => if nI q = nI p then 1 else 0
  | 1 => t_c T q
  | 2 => t_c T p
  | 3 => if bt (t_k T q) p = true then 1 else 0
  | 4 => nI (zct x)
  | 5 => nI (t_w T p (zfb x % p_ln P p))
  | 6 => nI lt
  | _ => nI (t_n T)
def zwo (P : Pl) (T : Tn) (x : Int32) (lt : Nat) (q p : Nat) : Int32 :=
  if znl P = 0 then ((if nI q = nI p then 20 else 3) + 5 * nI (zct x)) - (if bt (t_k T q) p = true then 9 else 0) else zval (p_cd P) (zask P T x lt q p) (znl P)
def zbid (P : Pl) (T : Tn) (x : Int32) (lt : Nat) (q p : Nat) : Int32 :=
  if q = p ∧ p_bi P q = true then t_c T q else imax 0 (imin (t_c T q) (zwo P T x lt q p))
/-- what a bid changes of the class's heap -/
def Fb (w : Nat) (M M' : Mem) : Prop := (∀ a, a ≠ 54 → a ≠ w + 7 → a ≠ w + 9 → M' a = M a) ∧ ∀ k, k ≠ 3 → M' (w + 7) k = M (w + 7) k
theorem Fb.rf {w : Nat} {M : Mem} : Fb w M M := ⟨fun _ _ _ _ => rfl, fun _ _ => rfl⟩
theorem Fb.tr {w : Nat} {M M1 M2 : Mem} (h : Fb w M M1) (h2 : Fb w M1 M2) : Fb w M M2 := ⟨fun a x y z => (h2.1 a x y z).trans (h.1 a x y z), fun k x => (h2.2 k x).trans (h.2 k x)⟩
theorem CP.of {M M' : Mem} {w : Nat} {P : Pl} (C : CP M w P) (h : ∀ a, w ≤ a → a ≤ w + 8 → a ≠ w + 7 → M' a = M a) (h7 : M' (w + 7) 1 = M (w + 7) 1) : CP M' w P := by
  obtain ⟨⟨a1, a2, a3, a4, a5, a6, a7⟩, b, c, d, e, f, g⟩ := C
  have q0 := h w (by omega) (by omega) (by omega)
  have q1 := h (w + 1) (by omega) (by omega) (by omega)
  have q2 := h (w + 2) (by omega) (by omega) (by omega)
  have q4 := h (w + 4) (by omega) (by omega) (by omega)
  have q6 := h (w + 6) (by omega) (by omega) (by omega)
  have q8 := h (w + 8) (by omega) (by omega) (by omega)
  unfold CP
  rw [q0, q1, q2, q4, q6, q8, h7]
  exact ⟨⟨a1, a2, a3, a4, a5, a6, a7⟩, b, c, d, e, f, g⟩
theorem zpv {t w0 w1 : Nat} {p2 p3 q1 : Int32} {M M1 M2 M3 M4 M5 M6 M7 : Mem} (h : F_X9_placeAt w0 p3 (F_J6_numberOfTrailingZeros_0f7a4 (F_X11_at (t + 1) 7 p3 M) M) M = some q1)
    (e1 : F_X11_put (t + 2) 8 0 (if p2 = p3 then (1 : Int32) else (0 : Int32)) M = M1) (e2 : F_X11_put (t + 2) 8 1 (F_X11_at (w1 + 1) 7 p2 M1) M1 = M2) (e3 : F_X11_put (t + 2) 8 2 (F_X11_at (w1 + 1) 7 p3 M2) M2 = M3)
    (e4 : F_X11_put (t + 2) 8 3 (if (bi (F_X8_doesKnow w1 p2 p3 M3)) = 0 then (0 : Int32) else (1 : Int32)) M3 = M4) (e5 : F_X11_put (t + 2) 8 4 (F_J6_bitCount_0f7a4 (F_X11_at (t + 1) 7 p3 M)) M4 = M5)
    (e6 : F_X11_put (t + 2) 8 5 (F_X11_streetIn (F_X11_at (w1 + 3) 7 p3 M5) q1) M5 = M6) (e7 : F_X11_put (t + 2) 8 6 (M6 t 4) M6 = M7) : F_X6_putValues t w0 w1 p2 p3 M = some (F_X11_put (t + 2) 8 7 (M7 w1 0) M7) := by
  subst e1; subst e2; subst e3; subst e4; subst e5; subst e6; subst e7
  unfold F_X6_putValues
  rw [zbs h]
theorem zc_dk {M : Mem} {T : Tn} {c q p : Nat} (h : M (c + 2) q = t_k T q) (hq : q < 7) (hp : p < 32) : F_X8_doesKnow c (nI q) (nI p) M = bt (t_k T q) p := by
  unfold F_X8_doesKnow
  rw [zat_at hq (by omega), h]
  by_cases e : bt (t_k T q) p = false
  · rw [if_pos ((zbit0 hp).mpr e), e]
  · rw [if_neg (fun z => e ((zbit0 hp).mp z))]; cases h : bt (t_k T q) p <;> simp_all
theorem zc_kn {M : Mem} {T : Tn} {c q p : Nat} (h : M (c + 2) q = t_k T q) (hq : q < 7) (hp : p < 32) : (if (bi (F_X8_doesKnow c (nI q) (nI p) M)) = 0 then (0 : Int32) else (1 : Int32)) = if bt (t_k T q) p = true then 1 else 0 := by
  rw [zc_dk h hq hp]; cases bt (t_k T q) p <;> rfl
theorem zc_kn9 {M : Mem} {T : Tn} {c q p : Nat} (h : M (c + 2) q = t_k T q) (hq : q < 7) (hp : p < 32) : (if (bi (F_X8_doesKnow c (nI q) (nI p) M)) = 0 then (0 : Int32) else (9 : Int32)) = if bt (t_k T q) p = true then 9 else 0 := by
  rw [zc_dk h hq hp]; cases bt (t_k T q) p <;> rfl
section BID
variable {M : Mem} {w c : Nat} {P : Pl} {T : Tn}
theorem zc_pv (hP : PW P) (C : CP M w P) (hT : CT (crow M c) T) (hc : c ≤ 48) {q p lt : Nat} {x : Int32} (hq : q < znp P) (hp : p < znp P) (hx : M 53 p = x) (h6 : ∀ i, 6 ≤ i → i < 32 → bt x i = false) (h0 : ¬ x = 0) (hl : M 52 4 = nI lt) :
    Evs (F_X6_putValues 52 w c (nI q) (nI p) M) (fun M' => (∀ j, j < 8 → M' 54 j = zask P T x lt q p j) ∧ ∀ a, a ≠ 54 → M' a = M a) := by
  have h7 := hP.2.2.1
  have hln := hP.2.2.2.2.2.2.2.1 p hp
  have hfb := zfb_lt x
  have hpl : F_X9_placeAt w (nI p) (F_J6_numberOfTrailingZeros_0f7a4 (F_X11_at (52 + 1) 7 (nI p) M) M) M = some (nI (zfb x % p_ln P p)) := by
    rw [zat_at (by omega) (by omega), hx, zj_ntz M h6 h0]
    exact zc_plc hP C hp (by omega)
  refine Evs.of (zpv (t := 52) (M1 := up M 54 0 (zask P T x lt q p 0)) (M2 := up (up M 54 0 (zask P T x lt q p 0)) 54 1 (zask P T x lt q p 1)) (M3 := up (up (up M 54 0 (zask P T x lt q p 0)) 54 1 (zask P T x lt q p 1)) 54 2 (zask P T x lt q p 2))
    (M4 := up (up (up (up M 54 0 (zask P T x lt q p 0)) 54 1 (zask P T x lt q p 1)) 54 2 (zask P T x lt q p 2)) 54 3 (zask P T x lt q p 3)) (M5 := up (up (up (up (up M 54 0 (zask P T x lt q p 0)) 54 1 (zask P T x lt q p 1)) 54 2 (zask P T x lt q p 2)) 54 3 (zask P T x lt q p 3)) 54 4 (zask P T x lt q p 4))
    (M6 := up (up (up (up (up (up M 54 0 (zask P T x lt q p 0)) 54 1 (zask P T x lt q p 1)) 54 2 (zask P T x lt q p 2)) 54 3 (zask P T x lt q p 3)) 54 4 (zask P T x lt q p 4)) 54 5 (zask P T x lt q p 5)) (M7 := up (up (up (up (up (up (up M 54 0 (zask P T x lt q p 0)) 54 1 (zask P T x lt q p 1)) 54 2 (zask P T x lt q p 2)) 54 3 (zask P T x lt q p 3)) 54 4 (zask P T x lt q p 4)) 54 5 (zask P T x lt q p 5)) 54 6 (zask P T x lt q p 6)) hpl ?_ ?_ ?_ ?_ ?_ ?_ ?_) ⟨?_, ?_⟩
  · exact zput_at (i := 0) (by omega) (by omega)
  · rw [zat_at (by omega) (by omega), up_ne (by omega), hT.c (by omega)]; exact zput_at (i := 1) (by omega) (by omega)
  · rw [zat_at (by omega) (by omega), up_ne (by omega), up_ne (by omega), hT.c (by omega)]; exact zput_at (i := 2) (by omega) (by omega)
  · rw [zc_kn (T := T) (by rw [up_ne (by omega), up_ne (by omega), up_ne (by omega), hT.k (by omega)]) (by omega) (by omega)]; exact zput_at (i := 3) (by omega) (by omega)
  · rw [zat_at (by omega) (by omega), hx, zj_bc2 (fun i hi h => h6 i (by omega) h)]; exact zput_at (i := 4) (by omega) (by omega)
  · have hm := Nat.mod_lt (zfb x) (by omega : 0 < p_ln P p)
    rw [zat_at (by omega) (by omega), up_ne (by omega), up_ne (by omega), up_ne (by omega), up_ne (by omega), up_ne (by omega), hT.w (by omega) (by omega)]; exact zput_at (i := 5) (by omega) (by omega)
  · rw [up_ne (by omega), up_ne (by omega), up_ne (by omega), up_ne (by omega), up_ne (by omega), up_ne (by omega), hl]; exact zput_at (i := 6) (by omega) (by omega)
  · intro j hj
    rw [show (7 : Int32) = nI 7 from rfl, zput_at (by omega) (by omega)]
    rw [show (up (up (up (up (up (up (up M 54 0 (zask P T x lt q p 0)) 54 1 (zask P T x lt q p 1)) 54 2 (zask P T x lt q p 2)) 54 3 (zask P T x lt q p 3)) 54 4 (zask P T x lt q p 4)) 54 5 (zask P T x lt q p 5)) 54 6 (zask P T x lt q p 6)) c 0 = zask P T x lt q p 7 by
      rw [up_ne (by omega), up_ne (by omega), up_ne (by omega), up_ne (by omega), up_ne (by omega), up_ne (by omega), up_ne (by omega), hT.n]; rfl]
    have h9 : j = 0 ∨ j = 1 ∨ j = 2 ∨ j = 3 ∨ j = 4 ∨ j = 5 ∨ j = 6 ∨ j = 7 := by omega
    rcases h9 with rfl | rfl | rfl | rfl | rfl | rfl | rfl | rfl <;> simp [up_app]
  · intro a ha
    rw [show (7 : Int32) = nI 7 from rfl, zput_at (by omega) (by omega)]
    rw [up_ne (by omega), up_ne (by omega), up_ne (by omega), up_ne (by omega), up_ne (by omega), up_ne (by omega), up_ne (by omega), up_ne (by omega)]
theorem zc_bid (hP : PW P) (C : CP M w P) (hw : w ≤ 14) (hT : CT (crow M c) T) (hc : c ≤ 48) {q p lt : Nat} {x : Int32} (hq : q < znp P) (hp : p < znp P) (hx : M 53 p = x) (h6 : ∀ i, 6 ≤ i → i < 32 → bt x i = false) (h0 : ¬ x = 0) (hl : M 52 4 = nI lt) :
    Evs (F_X6_bid 52 w c (nI q) (nI p) M) (fun r => r.1 = zbid P T x lt q p ∧ Fb w M r.2) := by
  have h7 := hP.2.2.1
  have hnl := hP.2.2.2.2.1
  have g : Evs (J_X6_bid_j30 52 w c (nI q) (nI p) (F_X11_at (c + 1) 7 (nI q) M) M) (fun r => r.1 = imax 0 (imin (t_c T q) (zwo P T x lt q p)) ∧ Fb w M r.2) := by
    unfold J_X6_bid_j30 F_X10_isTold
    rw [C.1.2.2.2.2.2.2, zat_at (by omega) (by omega), hT.c (by omega)]
    by_cases e : znl P = 0
    · rw [if_pos (show nI (znl P) ≤ 0 by rw [e]; decide), if_pos (by decide)]
      refine Evs.pure ⟨?_, Fb.rf⟩
      unfold zwo F_X6_plainWorth
      rw [if_pos e, zat_at (by omega) (by omega), hx, zj_bc2 (fun i hi h => h6 i (by omega) h), zc_kn9 (T := T) (hT.k (by omega)) (by omega) (by omega), zmin_comm]
    · rw [if_neg (nI_nle (by omega) (by omega)), if_neg (by decide)]
      refine Evs.bind (zc_pv hP C hT hc hq hp hx h6 h0 hl) (fun M1 h1 => ?_)
      have hH := hP.2.2.2.2.2.2.2.2.2 (by omega)
      refine Evs.bind (zc_of (M := M1) (t := w + 7) (a0 := 52 + 2) (n := znl P) (cd := p_cd P) (ask := zask P T x lt q p) ?_ ?_ hnl hH (by omega) (by omega) h1.1) (fun r hr => ?_)
      · rw [h1.2 _ (by omega)]; exact C.1.2.2.2.2.2.2
      · intro k hk; rw [h1.2 _ (by omega)]; exact C.2.2.2.2.2.2 k hk
      · refine Evs.pure ⟨?_, ?_, ?_⟩
        · unfold zwo
          rw [if_neg e, zmin_comm, hr.1]
        · intro a x1 x2 x3
          rw [hr.2.1 a x2 x3, h1.2 a x1]
        · intro k hk
          rw [hr.2.2 k hk, h1.2 _ (by omega)]
  unfold F_X6_bid zbid
  by_cases e : q = p
  · subst e
    rw [if_pos rfl]
    by_cases b : p_bi P q = true
    · rw [if_neg (fun z => by have h := (zbit0 (x := M w 4) (i := q) (by omega)).mp z; rw [C.2.1 q hq, b] at h; cases h), if_pos ⟨rfl, b⟩, zat_at (by omega) (by omega), hT.c (by omega)]
      exact Evs.pure ⟨rfl, Fb.rf⟩
    · rw [if_pos ((zbit0 (by omega)).mpr (by rw [C.2.1 q hq]; simpa using b)), if_neg (fun z => b z.2)]
      exact g
  · rw [if_neg (fun z => e ((nI_eq (by omega) (by omega)).mp z)), if_neg (fun z => e z.1)]
    exact g
theorem zm_fst (hP : PW P) (C : MP M P) (hT : MT (mrow M) T) {p : Nat} {x : Int32} (hp : p < znp P) (hx : M 87 p = x) (h6 : ∀ i, 6 ≤ i → i < 32 → bt x i = false) (h0 : ¬ x = 0) : F_X12_firstStreet 67 (nI p) M = some (nI (t_w T p (zfb x % p_ln P p))) := by
  have h7 := hP.2.2.1
  have hfb := zfb_lt x
  have hat := zfb_at h6 h0
  have key : ∀ j h f, h + j = zfb x → j < f → L_X12_firstStreet_2 67 (nI p) M f (nI h) = some (Sum.inr (nI (zfb x))) := by
    intro j
    induction j with
    | zero =>
      intro h f e hf
      obtain ⟨f, rfl⟩ : ∃ f', f = f' + 1 := ⟨f - 1, by omega⟩
      rw [L_X12_firstStreet_2, if_neg (znge 6 6 rfl (by omega) (by omega)), zald (by omega) (by omega), zbs rfl, hx, zis (by omega), show h = zfb x by omega, hat.1, if_neg (by decide)]
    | succ j ih =>
      intro h f e hf
      obtain ⟨f, rfl⟩ : ∃ f', f = f' + 1 := ⟨f - 1, by omega⟩
      rw [L_X12_firstStreet_2, if_neg (znge 6 6 rfl (by omega) (by omega)), zald (by omega) (by omega), zbs rfl, hx, zis (by omega), hat.2 h (by omega), if_pos (by decide), nI_1]
      exact ih (h + 1) f (by omega) (by omega)
  unfold F_X12_firstStreet
  rw [zbs (show L_X12_firstStreet_2 67 (nI p) M FU 0 = some (Sum.inr (nI (zfb x))) from key (zfb x) 0 FU (by omega) (by unfold FU; omega))]
  show Option.bind _ _ = _
  rw [zm_str hP C hT hp (by omega)]
  rfl
theorem zm_bid (hP : PW P) (C : MP M P) (hT : MT (mrow M) T) {q p lt : Nat} {x l : Int32} (hq : q < znp P) (hp : p < znp P) (hx : M 87 p = x) (h6 : ∀ i, 6 ≤ i → i < 32 → bt x i = false) (h0 : ¬ x = 0) (hl : M 67 39 = l) (hl8 : ∀ i, 8 ≤ i → i < 32 → bt l i = false) (hlt : zct l = lt) :
    Evs (F_X12_bidOf 67 (nI q) (nI p) M) (fun r => r.1 = zbid P T x lt q p ∧ ∀ a, a ≠ 85 → a ≠ 86 → r.2 a = M a) := by
  have h7 := hP.2.2.1
  have hnl := hP.2.2.2.2.1
  have h8 : ∀ i, 8 ≤ i → i < 32 → bt x i = false := fun i hi h => h6 i (by omega) h
  have g : Evs (J_X12_bidOf_j22 67 (nI q) (nI p) M) (fun r => r.1 = imax 0 (imin (t_c T q) (zwo P T x lt q p)) ∧ ∀ a, a ≠ 85 → a ≠ 86 → r.2 a = M a) := by
    unfold J_X12_bidOf_j22
    rw [zald (by omega) (by omega), zbs rfl, zald (by omega) (by omega), zbs rfl, hx, zm_bits h8, zbs rfl, C.1.2.2.2.2.2.2, hT.k (by omega), zbit (by omega)]
    by_cases e : znl P = 0
    · rw [if_pos (show nI (znl P) ≤ 0 by rw [e]; decide)]
      unfold J_X12_bidOf_j177
      rw [zald (by omega) (by omega), zbs rfl, hT.c (by omega)]
      refine Evs.pure ⟨?_, fun _ _ _ => rfl⟩
      unfold zwo
      rw [if_pos e]
      have : (9 : Int32) * (if bt (t_k T q) p = true then 1 else 0) = if bt (t_k T q) p = true then 9 else 0 := by split <;> rfl
      rw [this]
    · rw [if_neg (nI_nle (by omega) (by omega))]
      have hH := hP.2.2.2.2.2.2.2.2.2 (by omega)
      have as : ∀ (k : Nat) (Mk : Mem) (v : Int32), k < 8 → ((∀ a, a ≠ 85 → Mk a = M a) ∧ ∀ j, j < k → Mk 85 j = zask P T x lt q p j) → v = zask P T x lt q p k → Evs (ast Mk 85 8 (nI k) v) (fun M' => (∀ a, a ≠ 85 → M' a = M a) ∧ ∀ j, j < k + 1 → M' 85 j = zask P T x lt q p j) := by
        intro k Mk v hk h hv
        refine Evs.of (zast hk (by omega)) ⟨fun a ha => by rw [up_ne ha]; exact h.1 a ha, fun j hj => ?_⟩
        rw [up_app]
        by_cases e : j = k
        · rw [if_pos ⟨rfl, e⟩, hv, e]
        · rw [if_neg (fun z => e z.2)]; exact h.2 j (by omega)
      refine Evs.bind (as 0 M _ (by omega) ⟨fun _ _ => rfl, fun j hj => by omega⟩ rfl) (fun M1 h1 => ?_)
      rw [zald (by omega) (by omega), zbs rfl, h1.1 _ (by omega), hT.c (by omega)]
      refine Evs.bind (as 1 M1 _ (by omega) h1 rfl) (fun M2 h2 => ?_)
      rw [zald (by omega) (by omega), zbs rfl, h2.1 _ (by omega), hT.c (by omega)]
      refine Evs.bind (as 2 M2 _ (by omega) h2 rfl) (fun M3 h3 => ?_)
      refine Evs.bind (as 3 M3 _ (by omega) h3 rfl) (fun M4 h4 => ?_)
      rw [zald (by omega) (by omega), zbs rfl, h4.1 _ (by omega), hx, zm_bits h8, zbs rfl]
      refine Evs.bind (as 4 M4 _ (by omega) h4 rfl) (fun M5 h5 => ?_)
      have C5 : MP M5 P := by unfold MP; rw [h5.1 70 (by omega), h5.1 73 (by omega), h5.1 71 (by omega), h5.1 72 (by omega), h5.1 75 (by omega), h5.1 77 (by omega), h5.1 78 (by omega)]; exact C
      have T5 : MT (mrow M5) T := by
        have : mrow M5 = mrow M := by unfold mrow; rw [h5.1 67 (by omega), h5.1 81 (by omega), h5.1 82 (by omega), h5.1 83 (by omega)]
        rw [this]; exact hT
      rw [zm_fst hP C5 T5 hp (by rw [h5.1 _ (by omega)]; exact hx) h6 h0, zbs rfl]
      refine Evs.bind (as 5 M5 _ (by omega) h5 rfl) (fun M6 h6 => ?_)
      rw [h6.1 67 (by omega), hl, zm_bits hl8, zbs rfl, hlt]
      refine Evs.bind (as 6 M6 _ (by omega) h6 rfl) (fun M7 h7 => ?_)
      rw [h7.1 67 (by omega), hT.n]
      refine Evs.bind (as 7 M7 _ (by omega) h7 rfl) (fun M8 h8 => ?_)
      refine Evs.bind (zm_val (M := M8) (n := znl P) (cd := p_cd P) (ask := zask P T x lt q p) ?_ ?_ hnl hH h8.2) (fun r hr => ?_)
      · rw [h8.1 _ (by omega)]; exact C.1.2.2.2.2.2.2
      · intro k hk; rw [h8.1 _ (by omega)]; exact C.2.2.2.2.2.2 k hk
      · unfold J_X12_bidOf_j177
        rw [zald (by omega) (by omega), zbs rfl, hr.2 _ (by omega), h8.1 _ (by omega), hT.c (by omega)]
        refine Evs.pure ⟨?_, fun a a1 a2 => (hr.2 a a2).trans (h8.1 a a1)⟩
        unfold zwo
        rw [if_neg e, hr.1]
  unfold F_X12_bidOf zbid
  by_cases e : q = p
  · subst e
    rw [if_pos rfl, zald (by omega) (by omega), zbs rfl, C.2.1 q hq]
    by_cases b : p_bi P q = true
    · rw [if_pos b, if_pos rfl, zald (by omega) (by omega), zbs rfl, hT.c (by omega), if_pos ⟨rfl, b⟩]
      exact Evs.pure ⟨rfl, fun _ _ _ => rfl⟩
    · rw [if_neg b, if_neg (by decide), if_neg (fun z => b z.2)]
      exact g
  · rw [if_neg (fun z => e ((nI_eq (by omega) (by omega)).mp z)), if_neg (fun z => e z.1)]
    exact g
end BID
