/-! ===== a night ===== -/
abbrev N9 : Type := Tn × (Nat → Int32) × (Nat → Int32) × Int32
def zsel (bd : Nat → Int32) : Nat → Int32 × Int32 × Int32
  | 0 => (-1, 0, 0)
  | k + 1 => if bd k ≤ (zsel bd k).2.1 then ((zsel bd k).1, (zsel bd k).2.1, imax (zsel bd k).2.2 (bd k)) else (nI k, bd k, (zsel bd k).2.1)
theorem zsel_b (bd : Nat → Int32) : ∀ n, (zsel bd n).1 = -1 ∨ ∃ k, k < n ∧ (zsel bd n).1 = nI k
  | 0 => Or.inl rfl
  | n + 1 => by
    rw [zsel]
    by_cases h : bd n ≤ (zsel bd n).2.1
    · rw [if_pos h]
      rcases zsel_b bd n with e | ⟨k, hk, e⟩
      · exact Or.inl e
      · exact Or.inr ⟨k, by omega, e⟩
    · rw [if_neg h]
      exact Or.inr ⟨n, by omega, rfl⟩
/-- the lot of p is sold: r the best bidder, the most, the second; t the town -/
def zhand (p b : Nat) (pr : Int32) (S : N9) : N9 :=
  ((t_n S.1, t_d S.1, t_h S.1, t_b S.1, upd (t_c S.1) b (t_c S.1 b - pr), (if b = p then t_k S.1 else upd (t_k S.1) b (t_k S.1 b ||| ((1 : Int32) <<< (nI p &&& 31)))), t_w S.1), upd S.2.1 p (nI b), upd S.2.2.1 p pr, S.2.2.2 + 1)
def zdark (S : N9) : N9 := ((t_n S.1, t_d S.1 + 1, t_h S.1, t_b S.1, t_c S.1, t_k S.1, t_w S.1), S.2)
def zsell (P : Pl) (x : Int32) (lt p : Nat) (S : N9) : N9 :=
  if (zsel (fun q => zbid P S.1 x lt q p) (znp P)).1 = -1 then zdark S
  else if t_h S.1 ≤ (zsel (fun q => zbid P S.1 x lt q p) (znp P)).2.1 then zhand p (zsel (fun q => zbid P S.1 x lt q p) (znp P)).1.toNatClampNeg (imax (zsel (fun q => zbid P S.1 x lt q p) (znp P)).2.2 (t_h S.1)) S
  else zdark S
def zhs (P : Pl) (T : Tn) (fog p : Nat) : Int32 := if p < znp P then zseen P T fog p else 0
def zlt (P : Pl) (T : Tn) (fog : Nat) : Nat := fb_ct (fun p => !(zhs P T fog p == 0)) 7
def zsls (P : Pl) (hs : Nat → Int32) (lt : Nat) (T : Tn) : Nat → N9
  | 0 => (T, fun _ => -1, fun _ => -1, 0)
  | k + 1 => if hs k = 0 then zsls P hs lt T k else zsell P (hs k) lt k (zsls P hs lt T k)
def zfin (S : N9) : N9 := ((t_n S.1 + 1, t_d S.1, t_h S.1, 0, t_c S.1, t_k S.1, t_w S.1), S.2)
def zpass (P : Pl) (T : Tn) (fog : Nat) : N9 := zfin (zsls P (zhs P T fog) (zlt P T fog) T (znp P))
theorem zmet_6 {P : Pl} {wk : Nat → Nat} {p n : Nat} : ∀ i, 6 ≤ i → i < 32 → bt (zmet P wk p n) i = false := fun i hi h => by
  unfold zmet
  rw [zmk_bt _ h (by omega)]
  simp; omega
theorem zseen_6 {P : Pl} {T : Tn} {fog p : Nat} : ∀ i, 6 ≤ i → i < 32 → bt (zseen P T fog p) i = false := fun i hi h => by
  unfold zseen
  split
  · exact zmet_6 i hi h
  · exact b_0 i
theorem zhs_6 {P : Pl} {T : Tn} {fog p : Nat} : ∀ i, 6 ≤ i → i < 32 → bt (zhs P T fog p) i = false := fun i hi h => by
  unfold zhs
  split
  · exact zseen_6 i hi h
  · exact b_0 i
theorem zlt_ct {P : Pl} (hP : PW P) (T : Tn) (fog : Nat) : zct (zlots P T fog) = zlt P T fog := by
  have h7 := hP.2.2.1
  unfold zlots zlt
  rw [zmk_ct _ (by omega)]
  have e : 7 = znp P + (7 - znp P) := by omega
  conv => rhs; rw [e, fb_ct_split]
  have z : fb_ct (fun k => !(zhs P T fog (znp P + k) == 0)) (7 - znp P) = 0 := fb_ct_zero.mpr (fun k hk => by unfold zhs; rw [if_neg (by omega)]; rfl)
  rw [z, Nat.add_zero]
  exact fb_ct_cong (fun k hk => by unfold zhs; rw [if_pos hk])
/-! the class -/
def SC9 (c : Nat) (M : Mem) (S : N9) : Prop := CT (crow M c) S.1 ∧ (∀ p, p < 7 → M 55 p = S.2.1 p) ∧ (∀ p, p < 7 → M 56 p = S.2.2.1 p) ∧ M 52 5 = S.2.2.2
/-- what a sale changes of the class's heap -/
def Fq (c w : Nat) (M M' : Mem) : Prop := (∀ a, (a < c ∨ c + 2 < a) → a ≠ 52 → a ≠ 54 → a ≠ 55 → a ≠ 56 → a ≠ w + 7 → a ≠ w + 9 → M' a = M a) ∧ (∀ k, k ≠ 3 → M' (w + 7) k = M (w + 7) k) ∧ M' 52 4 = M 52 4
theorem Fq.rf {c w : Nat} {M : Mem} : Fq c w M M := ⟨fun _ _ _ _ _ _ _ _ => rfl, fun _ _ => rfl, rfl⟩
theorem Fq.tr {c w : Nat} {M M1 M2 : Mem} (h : Fq c w M M1) (h2 : Fq c w M1 M2) : Fq c w M M2 := ⟨fun a x1 x2 x3 x4 x5 x6 x7 => (h2.1 a x1 x2 x3 x4 x5 x6 x7).trans (h.1 a x1 x2 x3 x4 x5 x6 x7), fun k x => (h2.2.1 k x).trans (h.2.1 k x), h2.2.2.trans h.2.2⟩
theorem crow_of {M M' : Mem} {c : Nat} (h : ∀ a, c ≤ a → a ≤ c + 3 → M' a = M a) : crow M' c = crow M c := by
  unfold crow
  rw [h c (by omega) (by omega), h (c + 1) (by omega) (by omega), h (c + 2) (by omega) (by omega), h (c + 3) (by omega) (by omega)]
section CNIGHT
variable {M : Mem} {w c : Nat} {P : Pl} {T : Tn}
theorem zc_sel (hP : PW P) (C : CP M w P) (hw : w = 3 ∨ w = 14) (hT : CT (crow M c) T) (hc : c = 25 ∨ c = 48) {p lt : Nat} {x : Int32} (hp : p < znp P) (hx : M 53 p = x) (h6 : ∀ i, 6 ≤ i → i < 32 → bt x i = false) (h0 : ¬ x = 0) (hl : M 52 4 = nI lt) :
    Evs (L_X6_sell_21 52 w c (nI p) FU (-1) 0 0 0 M) (fun r => r.1 = (zsel (fun q => zbid P T x lt q p) (znp P)).1 ∧ r.2.1 = (zsel (fun q => zbid P T x lt q p) (znp P)).2.1 ∧ r.2.2.1 = (zsel (fun q => zbid P T x lt q p) (znp P)).2.2 ∧ Fb w M r.2.2.2) := by
  have h7 := hP.2.2.1
  have key : ∀ j q f (M1 : Mem), q + j = znp P → j < f → Fb w M M1 →
      Evs (L_X6_sell_21 52 w c (nI p) f (zsel (fun q => zbid P T x lt q p) q).1 (zsel (fun q => zbid P T x lt q p) q).2.1 (zsel (fun q => zbid P T x lt q p) q).2.2 (nI q) M1) (fun r => r.1 = (zsel (fun q => zbid P T x lt q p) (znp P)).1 ∧ r.2.1 = (zsel (fun q => zbid P T x lt q p) (znp P)).2.1 ∧ r.2.2.1 = (zsel (fun q => zbid P T x lt q p) (znp P)).2.2 ∧ Fb w M r.2.2.2) := by
    intro j
    induction j with
    | zero =>
      intro q f M1 e hf hF
      obtain ⟨f, rfl⟩ : ∃ f', f = f' + 1 := ⟨f - 1, by omega⟩
      obtain rfl : q = znp P := by omega
      rw [L_X6_sell_21, hF.1 w (by omega) (by omega) (by omega), C.1.2.2.2.1, if_pos (nI_le (by omega) (by omega))]
      exact Evs.pure ⟨rfl, rfl, rfl, hF⟩
    | succ j ih =>
      intro q f M1 e hf hF
      obtain ⟨f, rfl⟩ : ∃ f', f = f' + 1 := ⟨f - 1, by omega⟩
      rw [L_X6_sell_21, hF.1 w (by omega) (by omega) (by omega), C.1.2.2.2.1, if_neg (nI_ge (by omega) (by omega))]
      have C1 : CP M1 w P := C.of (fun a h1 h2 h3 => hF.1 a (by omega) h3 (by omega)) (hF.2 1 (by omega))
      have T1 : CT (crow M1 c) T := by rw [crow_of (M := M) (fun a h1 h2 => hF.1 a (by omega) (by omega) (by omega))]; exact hT
      refine Evs.bind (zc_bid hP C1 (by omega) T1 (by omega) (q := q) (by omega) hp (by rw [hF.1 53 (by omega) (by omega) (by omega)]; exact hx) h6 h0 (by rw [hF.1 52 (by omega) (by omega) (by omega)]; exact hl)) (fun r hr => ?_)
      have e1 := ih (q + 1) f r.2 (by omega) (by omega) (hF.tr hr.2)
      rw [zsel] at e1
      rw [hr.1, nI_1]
      by_cases k1 : zbid P T x lt q p ≤ (zsel (fun q => zbid P T x lt q p) q).2.1
      · rw [if_pos k1] at e1 ⊢
        by_cases k2 : zbid P T x lt q p ≤ (zsel (fun q => zbid P T x lt q p) q).2.2
        · rw [if_pos k2]
          have : imax (zsel (fun q => zbid P T x lt q p) q).2.2 (zbid P T x lt q p) = (zsel (fun q => zbid P T x lt q p) q).2.2 := by unfold imax; rw [if_neg (Int32.not_lt.mpr k2)]
          rw [this] at e1
          exact e1
        · rw [if_neg k2]
          have : imax (zsel (fun q => zbid P T x lt q p) q).2.2 (zbid P T x lt q p) = zbid P T x lt q p := by unfold imax; rw [if_pos (Int32.not_le.mp k2)]
          rw [this] at e1
          exact e1
      · rw [if_neg k1] at e1 ⊢
        exact e1
  exact key (znp P) 0 FU M (by omega) (by unfold FU; omega) Fb.rf
theorem zho {t w0 : Nat} {p1 p2 p3 : Int32} {M M1 M2 M3 M4 : Mem} (e1 : F_X11_put (t + 3) 7 p1 p2 M = M1) (e2 : F_X11_put (t + 4) 7 p1 p3 M1 = M2) (e3 : up M2 t 5 ((M2 t 5) + 1) = M3) (e4 : F_X11_put (w0 + 1) 7 p2 ((F_X11_at (w0 + 1) 7 p2 M3) - p3) M3 = M4) :
    F_X6_handOver t w0 p1 p2 p3 M = if p2 = p1 then M4 else F_X11_put (w0 + 2) 7 p2 ((F_X11_at (w0 + 2) 7 p2 M4) ||| ((1 : Int32) <<< (p1 &&& 31))) M4 := by
  subst e1; subst e2; subst e3; subst e4
  rfl
theorem zc_hand (hw : w = 3 ∨ w = 14) (hc : c = 25 ∨ c = 48) {S : N9} (hS : SC9 c M S) {p b : Nat} {pr : Int32} (hp : p < 7) (hb : b < 7) : SC9 c (F_X6_handOver 52 c (nI p) (nI b) pr M) (zhand p b pr S) ∧ Fq c w M (F_X6_handOver 52 c (nI p) (nI b) pr M) := by
  obtain ⟨hT, hB, hR, hN⟩ := hS
  have e3 : up (up (up M 55 p (nI b)) 56 p pr) 52 5 ((up (up M 55 p (nI b)) 56 p pr) 52 5 + 1) = up (up (up M 55 p (nI b)) 56 p pr) 52 5 (S.2.2.2 + 1) := by
    rw [up_ne (by omega), up_ne (by omega), hN]
  have e4 : F_X11_put (c + 1) 7 (nI b) ((F_X11_at (c + 1) 7 (nI b) (up (up (up M 55 p (nI b)) 56 p pr) 52 5 (S.2.2.2 + 1))) - pr) (up (up (up M 55 p (nI b)) 56 p pr) 52 5 (S.2.2.2 + 1)) = up (up (up (up M 55 p (nI b)) 56 p pr) 52 5 (S.2.2.2 + 1)) (c + 1) b (t_c S.1 b - pr) := by
    rw [zput_at hb (by omega), zat_at hb (by omega), up_ne (by omega), up_ne (by omega), up_ne (by omega), hT.c hb]
  have e0 := zho (t := 52) (w0 := c) (p1 := nI p) (p2 := nI b) (p3 := pr) (M := M) (zput_at hp (by omega)) (zput_at hp (by omega)) e3 e4
  rw [e0]
  have hk : F_X11_at (c + 2) 7 (nI b) (up (up (up (up M 55 p (nI b)) 56 p pr) 52 5 (S.2.2.2 + 1)) (c + 1) b (t_c S.1 b - pr)) = t_k S.1 b := by
    rw [zat_at hb (by omega), up_ne (by omega), up_ne (by omega), up_ne (by omega), up_ne (by omega), hT.k hb]
  rw [hk, zput_at hb (by omega)]
  have hbp : (nI b = nI p) ↔ b = p := nI_eq (by omega) (by omega)
  generalize hG : up (up (up (up M 55 p (nI b)) 56 p pr) 52 5 (S.2.2.2 + 1)) (c + 1) b (t_c S.1 b - pr) = G
  have g1 : ∀ a, a ≠ 52 → a ≠ 55 → a ≠ 56 → a ≠ c + 1 → G a = M a := fun a x1 x2 x3 x4 => by subst hG; rw [up_ne x4, up_ne x1, up_ne x3, up_ne x2]
  have g2 : ∀ j, G (c + 1) j = upd (M (c + 1)) b (t_c S.1 b - pr) j := fun j => by subst hG; rw [up_same, up_ne (by omega), up_ne (by omega), up_ne (by omega)]
  have g3 : ∀ j, G 55 j = upd (M 55) p (nI b) j := fun j => by subst hG; rw [up_ne (by omega), up_ne (by omega), up_ne (by omega), up_same]
  have g4 : ∀ j, G 56 j = upd (M 56) p pr j := fun j => by subst hG; rw [up_ne (by omega), up_ne (by omega), up_same, up_ne (by omega)]
  have g5 : ∀ j, G 52 j = upd (M 52) 5 (S.2.2.2 + 1) j := fun j => by subst hG; rw [up_ne (by omega), up_same, up_ne (by omega), up_ne (by omega)]
  have fq : Fq c w M G := ⟨fun a x1 x2 x3 x4 x5 x6 x7 => g1 a x2 x4 x5 (by omega), fun k _ => by rw [g1 _ (by omega) (by omega) (by omega) (by omega)], by rw [g5]; rfl⟩
  have bs : (∀ q, q < 7 → G 55 q = (zhand p b pr S).2.1 q) ∧ (∀ q, q < 7 → G 56 q = (zhand p b pr S).2.2.1 q) ∧ G 52 5 = (zhand p b pr S).2.2.2 := by
    refine ⟨fun q hq => ?_, fun q hq => ?_, ?_⟩
    · rw [g3]; show upd _ _ _ q = upd _ _ _ q
      rw [upd_app, upd_app]; split
      · rfl
      · exact hB q hq
    · rw [g4]; show upd _ _ _ q = upd _ _ _ q
      rw [upd_app, upd_app]; split
      · rfl
      · exact hR q hq
    · rw [g5]; rfl
  have cs : ∀ q, q < 7 → G (c + 1) q = t_c (zhand p b pr S).1 q := fun q hq => by
    rw [g2]; show upd _ _ _ q = upd _ _ _ q
    rw [upd_app, upd_app]; split
    · rfl
    · exact hT.c hq
  by_cases e : b = p
  · rw [if_pos (hbp.mpr e)]
    refine ⟨⟨CT.of ?_ ?_ ?_ ?_ cs ?_ ?_, bs⟩, fq⟩
    · rw [g1 _ (by omega) (by omega) (by omega) (by omega)]; exact hT.n
    · rw [g1 _ (by omega) (by omega) (by omega) (by omega)]; exact hT.d
    · rw [g1 _ (by omega) (by omega) (by omega) (by omega)]; exact hT.b
    · rw [g1 _ (by omega) (by omega) (by omega) (by omega)]; exact hT.h
    · intro q hq
      rw [g1 _ (by omega) (by omega) (by omega) (by omega)]
      show _ = (if b = p then t_k S.1 else _) q
      rw [if_pos e]; exact hT.k hq
    · intro q hq i hi
      rw [g1 _ (by omega) (by omega) (by omega) (by omega)]; exact hT.w hq hi
  · rw [if_neg (fun z => e (hbp.mp z))]
    refine ⟨⟨CT.of ?_ ?_ ?_ ?_ ?_ ?_ ?_, ?_⟩, ?_⟩
    · rw [up_ne (by omega), g1 _ (by omega) (by omega) (by omega) (by omega)]; exact hT.n
    · rw [up_ne (by omega), g1 _ (by omega) (by omega) (by omega) (by omega)]; exact hT.d
    · rw [up_ne (by omega), g1 _ (by omega) (by omega) (by omega) (by omega)]; exact hT.b
    · rw [up_ne (by omega), g1 _ (by omega) (by omega) (by omega) (by omega)]; exact hT.h
    · intro q hq; rw [up_ne (by omega)]; exact cs q hq
    · intro q hq
      rw [up_same, g1 _ (by omega) (by omega) (by omega) (by omega)]
      show _ = (if b = p then t_k S.1 else _) q
      rw [if_neg e, upd_app, upd_app]; split
      · rfl
      · exact hT.k hq
    · intro q hq i hi
      rw [up_ne (by omega), g1 _ (by omega) (by omega) (by omega) (by omega)]; exact hT.w hq hi
    · rw [up_ne (by omega), up_ne (by omega), up_ne (by omega)]; exact bs
    · exact fq.tr ⟨fun a x1 _ _ _ _ _ _ => by rw [up_ne (by omega)], fun k _ => by rw [up_ne (by omega)], by rw [up_ne (by omega)]⟩
theorem zc_sell (hP : PW P) (C : CP M w P) (hw : w = 3 ∨ w = 14) (hc : c = 25 ∨ c = 48) {S : N9} (hS : SC9 c M S) {p lt : Nat} {x : Int32} (hp : p < znp P) (hx : M 53 p = x) (h6 : ∀ i, 6 ≤ i → i < 32 → bt x i = false) (hl : M 52 4 = nI lt) :
    Evs (F_X6_sell 52 w c (nI p) M) (fun M' => SC9 c M' (if x = 0 then S else zsell P x lt p S) ∧ Fq c w M M') := by
  have h7 := hP.2.2.1
  unfold F_X6_sell F_X6_hasLot
  rw [zat_at (by omega) (by omega), hx]
  by_cases h0 : x = 0
  · rw [if_pos h0, if_pos (by decide), if_pos h0]
    exact Evs.pure ⟨hS, Fq.rf⟩
  · rw [if_neg h0, if_neg (by decide), if_neg h0]
    refine Evs.bind (zc_sel hP C hw hS.1 hc hp hx h6 h0 hl) (fun r hr => ?_)
    obtain ⟨r1, r2, r3, rF⟩ := hr
    have S1 : SC9 c r.2.2.2 S := ⟨by rw [crow_of (M := M) (fun a h1 h2 => rF.1 a (by omega) (by omega) (by omega))]; exact hS.1, by rw [rF.1 55 (by omega) (by omega) (by omega)]; exact hS.2.1, by rw [rF.1 56 (by omega) (by omega) (by omega)]; exact hS.2.2.1, by rw [rF.1 52 (by omega) (by omega) (by omega)]; exact hS.2.2.2⟩
    have F1 : Fq c w M r.2.2.2 := ⟨fun a _ _ x3 _ _ x6 x7 => rF.1 a x3 x6 x7, rF.2, by rw [rF.1 52 (by omega) (by omega) (by omega)]⟩
    have dk : Evs (J_X6_sell_j95 52 w c r.2.2.2) (fun M' => SC9 c M' (zdark S) ∧ Fq c w M M') := by
      unfold J_X6_sell_j95
      refine Evs.pure ⟨⟨CT.of ?_ ?_ ?_ ?_ ?_ ?_ ?_, ?_, ?_, ?_⟩, F1.tr ⟨fun a x1 _ _ _ _ _ _ => by rw [up_ne (by omega)], fun k _ => by rw [up_ne (by omega)], by rw [up_ne (by omega)]⟩⟩
      · rw [up_app, if_neg (by omega)]; exact S1.1.n
      · rw [up_app, if_pos ⟨rfl, rfl⟩, S1.1.d]; rfl
      · rw [up_app, if_neg (by omega)]; exact S1.1.b
      · rw [up_app, if_neg (by omega)]; exact S1.1.h
      · intro q hq; rw [up_ne (by omega)]; exact S1.1.c hq
      · intro q hq; rw [up_ne (by omega)]; exact S1.1.k hq
      · intro q hq i hi; rw [up_ne (by omega)]; exact S1.1.w hq hi
      · rw [up_ne (by omega)]; exact S1.2.1
      · rw [up_ne (by omega)]; exact S1.2.2.1
      · rw [up_ne (by omega)]; exact S1.2.2.2
    unfold zsell
    rw [r1, r2, r3]
    by_cases k1 : (zsel (fun q => zbid P S.1 x lt q p) (znp P)).1 = -1
    · rw [if_pos k1, if_pos k1]; exact dk
    · rw [if_neg k1, if_neg k1, S1.1.h]
      by_cases k2 : t_h S.1 ≤ (zsel (fun q => zbid P S.1 x lt q p) (znp P)).2.1
      · rw [if_pos k2, if_pos k2]
        rcases zsel_b (fun q => zbid P S.1 x lt q p) (znp P) with e | ⟨b, hb, e⟩
        · exact absurd e k1
        · rw [e, nI_clamp (by omega)]
          have := zc_hand (M := r.2.2.2) hw hc S1 (p := p) (b := b) (pr := imax (zsel (fun q => zbid P S.1 x lt q p) (znp P)).2.2 (t_h S.1)) (by omega) (by omega)
          exact Evs.pure ⟨this.1, F1.tr this.2⟩
      · rw [if_neg k2, if_neg k2]; exact dk
theorem zc_open (hP : PW P) (C : CP M w P) (hw : w = 3 ∨ w = 14) (hT : CT (crow M c) T) (hW : TW9 P T) (hc : c = 25 ∨ c = 48) {fog : Nat} (hfog : fog < 10) :
    Evs (F_X6_open 52 w c (nI fog) M) (fun M' => (∀ p, p < 7 → M' 53 p = zhs P T fog p) ∧ M' 52 4 = nI (zlt P T fog) ∧ M' 52 5 = 0 ∧ (∀ p, p < 7 → M' 55 p = -1) ∧ (∀ p, p < 7 → M' 56 p = -1) ∧ ∀ a, a ≠ 52 → a ≠ 53 → a ≠ 55 → a ≠ 56 → M' a = M a) := by
  have h7 := hP.2.2.1
  have key : ∀ j p f (M1 : Mem), p + j = 7 → j < f → (∀ q, q < p → M1 53 q = zhs P T fog q) → M1 52 4 = nI (fb_ct (fun p => !(zhs P T fog p == 0)) p) → M1 52 5 = 0 → (∀ q, q < p → M1 55 q = -1) → (∀ q, q < p → M1 56 q = -1) → (∀ a, a ≠ 52 → a ≠ 53 → a ≠ 55 → a ≠ 56 → M1 a = M a) →
      Evs (L_X6_open_13 52 w c (nI fog) f (nI p) M1) (fun M' => (∀ p, p < 7 → M' 53 p = zhs P T fog p) ∧ M' 52 4 = nI (zlt P T fog) ∧ M' 52 5 = 0 ∧ (∀ p, p < 7 → M' 55 p = -1) ∧ (∀ p, p < 7 → M' 56 p = -1) ∧ ∀ a, a ≠ 52 → a ≠ 53 → a ≠ 55 → a ≠ 56 → M' a = M a) := by
    intro j
    induction j with
    | zero =>
      intro p f M1 e hf a1 a2 a3 a4 a5 a6
      obtain ⟨f, rfl⟩ : ∃ f', f = f' + 1 := ⟨f - 1, by omega⟩
      obtain rfl : p = 7 := by omega
      rw [L_X6_open_13, if_pos (by decide)]
      exact Evs.pure ⟨a1, a2, a3, a4, a5, a6⟩
    | succ j ih =>
      intro p f M1 e hf a1 a2 a3 a4 a5 a6
      obtain ⟨f, rfl⟩ : ∃ f', f = f' + 1 := ⟨f - 1, by omega⟩
      have fin : ∀ y, y = zhs P T fog p → Evs (J_X6_open_j79 52 w c (L_X6_open_13 52 w c (nI fog) f) (nI fog) (nI p) y M1) (fun M' => (∀ p, p < 7 → M' 53 p = zhs P T fog p) ∧ M' 52 4 = nI (zlt P T fog) ∧ M' 52 5 = 0 ∧ (∀ p, p < 7 → M' 55 p = -1) ∧ (∀ p, p < 7 → M' 56 p = -1) ∧ ∀ a, a ≠ 52 → a ≠ 53 → a ≠ 55 → a ≠ 56 → M' a = M a) := by
        intro y hy
        unfold J_X6_open_j79
        rw [nI_1, zput_at (by omega) (by omega), zput_at (by omega) (by omega), zput_at (by omega) (by omega)]
        have e52 : (up (up (up M1 (52 + 1) p y) (52 + 3) p (-1)) (52 + 4) p (-1)) 52 4 = nI (fb_ct (fun p => !(zhs P T fog p == 0)) p) := by
          rw [up_ne (by omega), up_ne (by omega), up_ne (by omega)]; exact a2
        rw [e52]
        refine ih (p + 1) f _ (by omega) (by omega) ?_ ?_ ?_ ?_ ?_ ?_
        · intro q hq
          rw [up_ne (by omega), up_ne (by omega), up_ne (by omega), up_app]
          by_cases z : q = p
          · rw [if_pos ⟨rfl, z⟩, hy, z]
          · rw [if_neg (fun k => z k.2)]; exact a1 q (by omega)
        · rw [up_app, if_pos ⟨rfl, rfl⟩, fb_ct_succ, ← hy]
          by_cases z : y = 0
          · rw [if_pos z, z]; simp
          · rw [if_neg z]; simp only [z, beq_iff_eq, Bool.not_eq_true', beq_eq_false_iff_ne, ne_eq, not_false_eq_true, if_true]; exact nI_1 _
        · rw [up_app, if_neg (by omega), up_ne (by omega), up_ne (by omega), up_ne (by omega)]; exact a3
        · intro q hq
          rw [up_ne (by omega), up_ne (by omega), up_app]
          by_cases z : q = p
          · rw [if_pos ⟨rfl, z⟩]
          · rw [if_neg (fun k => z k.2), up_ne (by omega)]; exact a4 q (by omega)
        · intro q hq
          rw [up_ne (by omega), up_app]
          by_cases z : q = p
          · rw [if_pos ⟨rfl, z⟩]
          · rw [if_neg (fun k => z k.2), up_ne (by omega), up_ne (by omega)]; exact a5 q (by omega)
        · intro a x1 x2 x3 x4
          rw [up_ne x1, up_ne (by omega), up_ne (by omega), up_ne (by omega)]; exact a6 a x1 x2 x3 x4
      have z0 : zhs P T fog p = 0 → Evs (J_X6_open_j44 52 w c (L_X6_open_13 52 w c (nI fog) f) (nI fog) (nI p) M1) (fun M' => (∀ p, p < 7 → M' 53 p = zhs P T fog p) ∧ M' 52 4 = nI (zlt P T fog) ∧ M' 52 5 = 0 ∧ (∀ p, p < 7 → M' 55 p = -1) ∧ (∀ p, p < 7 → M' 56 p = -1) ∧ ∀ a, a ≠ 52 → a ≠ 53 → a ≠ 55 → a ≠ 56 → M' a = M a) := by
        intro z
        unfold J_X6_open_j44 J_X6_open_j49
        rw [if_neg (by decide)]
        exact fin 0 z.symm
      have C1 : CP M1 w P := C.of (fun a h1 h2 h3 => a6 a (by omega) (by omega) (by omega) (by omega)) (by rw [a6 _ (by omega) (by omega) (by omega) (by omega)])
      rw [L_X6_open_13, if_neg (znge 7 7 rfl (by omega) (by omega)), C1.1.2.2.2.1]
      by_cases k1 : znp P ≤ p
      · rw [if_pos (nI_le k1 (by omega))]
        exact z0 (by unfold zhs; rw [if_neg (by omega)])
      · rw [if_neg (nI_ge (by omega) (by omega))]
        by_cases k2 : fog < 7
        · rw [if_neg (znge 7 7 rfl k2 (by omega)), zc_brib (T := T) (by omega) (by rw [a6 _ (by omega) (by omega) (by omega) (by omega)]; exact hT.b)]
          by_cases k3 : bt (t_b T) p = true
          · rw [if_neg (by rw [k3]; decide)]
            exact z0 (by unfold zhs zseen; rw [if_pos (by omega), if_neg (by simp [k3])])
          · rw [if_pos (by rw [zbi]; simpa using k3)]
            unfold J_X6_open_j49
            rw [if_pos rfl, zat_at (by omega) (by omega), a6 _ (by omega) (by omega) (by omega) (by omega), a6 c (by omega) (by omega) (by omega) (by omega), hT.n, zc_met hP C1 (by omega) (by have := hW.1; omega) (fun i hi => hT.w (by omega) hi) (fun i => Nat.lt_of_lt_of_le (hW.2.1 p i) hP.1.2), zbs rfl]
            exact fin _ (by unfold zhs zseen; rw [if_pos (by omega), if_pos ⟨k2, by simpa using k3⟩])
        · rw [if_pos (zle 7 7 rfl (by omega) (by omega))]
          exact z0 (by unfold zhs zseen; rw [if_pos (by omega), if_neg (fun e => k2 e.1)])
  unfold F_X6_open
  refine Evs.bind (key 7 0 FU (up (up M 52 4 0) 52 5 0) (by omega) (by decide) (fun q hq => by omega) ?_ ?_ (fun q hq => by omega) (fun q hq => by omega) ?_) (fun M' h => Evs.pure h)
  · rw [up_app, if_neg (by omega), up_app, if_pos ⟨rfl, rfl⟩]; rfl
  · rw [up_app, if_pos ⟨rfl, rfl⟩]
  · intro a x1 _ _ _; rw [up_ne x1, up_ne x1]
/-- what a night changes of the class's heap -/
def Fp (c w : Nat) (M M' : Mem) : Prop := (∀ a, (a < c ∨ c + 2 < a) → (a < 52 ∨ 56 < a) → a ≠ w + 7 → a ≠ w + 9 → M' a = M a) ∧ ∀ k, k ≠ 3 → M' (w + 7) k = M (w + 7) k
theorem Fp.rf {c w : Nat} {M : Mem} : Fp c w M M := ⟨fun _ _ _ _ _ => rfl, fun _ _ => rfl⟩
theorem Fp.tr {c w : Nat} {M M1 M2 : Mem} (h : Fp c w M M1) (h2 : Fp c w M1 M2) : Fp c w M M2 := ⟨fun a x1 x2 x3 x4 => (h2.1 a x1 x2 x3 x4).trans (h.1 a x1 x2 x3 x4), fun k x => (h2.2 k x).trans (h.2 k x)⟩
theorem Fq.p {c w : Nat} {M M' : Mem} (h : Fq c w M M') : Fp c w M M' := ⟨fun a x1 x2 x3 x4 => h.1 a x1 (by omega) (by omega) (by omega) (by omega) x3 x4, h.2.1⟩
theorem CP.p {M' : Mem} (C : CP M w P) (hw : w = 3 ∨ w = 14) (hc : c = 25 ∨ c = 48) (h : Fp c w M M') : CP M' w P := C.of (fun a h1 h2 h3 => h.1 a (by omega) (by omega) h3 (by omega)) (h.2 1 (by omega))
/-- the lots up to k are sold -/
theorem zc_sells (hP : PW P) (C : CP M w P) (hw : w = 3 ∨ w = 14) (hc : c = 25 ∨ c = 48) {hs : Nat → Int32} {lt : Nat} (hS : SC9 c M (zsls P hs lt T 0)) (hx : ∀ p, p < 7 → M 53 p = hs p) (h6 : ∀ p i, 6 ≤ i → i < 32 → bt (hs p) i = false) (hl : M 52 4 = nI lt) :
    Evs (L_X6_pass_10 52 w c FU 0 M) (fun M' => SC9 c M' (zsls P hs lt T (znp P)) ∧ Fq c w M M') := by
  have h7 := hP.2.2.1
  have key : ∀ j p f (M1 : Mem), p + j = znp P → j < f → SC9 c M1 (zsls P hs lt T p) → Fq c w M M1 → Evs (L_X6_pass_10 52 w c f (nI p) M1) (fun M' => SC9 c M' (zsls P hs lt T (znp P)) ∧ Fq c w M M') := by
    intro j
    induction j with
    | zero =>
      intro p f M1 e hf hS1 hF
      obtain ⟨f, rfl⟩ : ∃ f', f = f' + 1 := ⟨f - 1, by omega⟩
      obtain rfl : p = znp P := by omega
      have C1 : CP M1 w P := C.p hw hc hF.p
      rw [L_X6_pass_10, C1.1.2.2.2.1, if_pos (nI_le (by omega) (by omega))]
      exact Evs.pure ⟨hS1, hF⟩
    | succ j ih =>
      intro p f M1 e hf hS1 hF
      obtain ⟨f, rfl⟩ : ∃ f', f = f' + 1 := ⟨f - 1, by omega⟩
      have C1 : CP M1 w P := C.p hw hc hF.p
      rw [L_X6_pass_10, C1.1.2.2.2.1, if_neg (nI_ge (by omega) (by omega)), nI_1]
      refine Evs.bind (zc_sell hP C1 hw hc hS1 (p := p) (lt := lt) (x := hs p) (by omega) (by rw [hF.1 53 (by omega) (by omega) (by omega) (by omega) (by omega) (by omega) (by omega)]; exact hx p (by omega)) (h6 p) (by rw [hF.2.2]; exact hl)) (fun M2 h2 => ?_)
      exact ih (p + 1) f M2 (by omega) (by omega) h2.1 (hF.tr h2.2)
  exact key (znp P) 0 FU M (by omega) (by unfold FU; omega) hS Fq.rf
theorem zc_pass (hP : PW P) (C : CP M w P) (hw : w = 3 ∨ w = 14) (hT : CT (crow M c) T) (hW : TW9 P T) (hc : c = 25 ∨ c = 48) {fog : Nat} (hfog : fog < 10) :
    Evs (F_X6_pass 52 w c (nI fog) M) (fun M' => SC9 c M' (zpass P T fog) ∧ Fp c w M M') := by
  unfold F_X6_pass
  refine Evs.bind (zc_open hP C hw hT hW hc hfog) (fun M1 h1 => ?_)
  obtain ⟨a1, a2, a3, a4, a5, a6⟩ := h1
  have F1 : Fp c w M M1 := ⟨fun a x1 x2 x3 x4 => a6 a (by omega) (by omega) (by omega) (by omega), fun k _ => by rw [a6 _ (by omega) (by omega) (by omega) (by omega)]⟩
  refine Evs.bind (zc_sells hP (C.p hw hc F1) hw hc (T := T) (hs := zhs P T fog) (lt := zlt P T fog) ⟨?_, a4, a5, a3⟩ a1 (fun p => zhs_6) a2) (fun M2 h2 => ?_)
  · rw [crow_of (M := M) (fun a h1 h2 => a6 a (by omega) (by omega) (by omega) (by omega))]; exact hT
  · obtain ⟨S2, F2⟩ := h2
    have e1 : (up M2 c 2 0) c 0 = nI (t_n (zsls P (zhs P T fog) (zlt P T fog) T (znp P)).1) := by rw [up_app, if_neg (by omega)]; exact S2.1.n
    rw [e1, nI_1]
    refine Evs.pure ⟨⟨CT.of ?_ ?_ ?_ ?_ ?_ ?_ ?_, ?_, ?_, ?_⟩, F1.tr (F2.p.tr ⟨fun a x1 _ _ _ => by rw [up_ne (by omega), up_ne (by omega)], fun k _ => by rw [up_ne (by omega), up_ne (by omega)]⟩)⟩
    · rw [up_app, if_pos ⟨rfl, rfl⟩]; rfl
    · rw [up_app, if_neg (by omega), up_app, if_neg (by omega)]; exact S2.1.d
    · rw [up_app, if_neg (by omega), up_app, if_pos ⟨rfl, rfl⟩]; rfl
    · rw [up_app, if_neg (by omega), up_app, if_neg (by omega)]; exact S2.1.h
    · intro q hq; rw [up_ne (by omega), up_ne (by omega)]; exact S2.1.c hq
    · intro q hq; rw [up_ne (by omega), up_ne (by omega)]; exact S2.1.k hq
    · intro q hq i hi; rw [up_ne (by omega), up_ne (by omega)]; exact S2.1.w hq hi
    · rw [up_ne (by omega), up_ne (by omega)]; exact S2.2.1
    · rw [up_ne (by omega), up_ne (by omega)]; exact S2.2.2.1
    · rw [up_ne (by omega), up_ne (by omega)]; exact S2.2.2.2
end CNIGHT
