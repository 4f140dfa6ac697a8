/-! ===== the book: acts are kept, calls refused ===== -/
def zB (Z : Zs) (B : Bk) : Zs := (z_P Z, B, z_I Z, z_n Z, z_y Z, z_f Z)
/-- an act is kept -/
def zka (B : Bk) : Nat := if b_a B < 40 then b_a B else 39
def zkp (B : Bk) : Bk := (b_t B, zka B + 1, (fun i => if i = zka B then b_t B else if b_a B < 40 then b_p B i else b_p B (i + 1)), b_m B, b_q B, b_i B, b_s B, b_u B)
def zrf (B : Bk) (k : Nat) : Bk := (b_t B, b_a B, b_p B, b_m B, b_q B, b_i B, b_s B, upd (b_u B) k (b_u B k + 1))
def zT (B : Bk) (T : Tn) : Bk := (T, b_a B, b_p B, b_m B, b_q B, b_i B, b_s B, b_u B)
theorem BW.rf {P : Pl} {B : Bk} (h : BW P B) (k : Nat) : BW P (zrf B k) := h
theorem BW.T {P : Pl} {B : Bk} {T : Tn} (h : BW P B) (hT : TSt P T) : BW P (zT B T) := ⟨hT, h.2⟩
theorem BW.kp {P : Pl} {B : Bk} (h : BW P B) : BW P (zkp B) := by
  have ha := h.2.1
  refine ⟨h.1, ?_, fun i hi => ?_, h.2.2.2⟩
  · show zka B + 1 ≤ 40
    unfold zka; split <;> omega
  · show TSt P (if i = zka B then b_t B else if b_a B < 40 then b_p B i else b_p B (i + 1))
    have hi : i < zka B + 1 := hi
    unfold zka at hi ⊢
    by_cases e : b_a B < 40
    · rw [if_pos e] at hi ⊢
      split
      · exact h.1
      · exact h.2.2.1 i (by omega)
    · rw [if_neg e] at hi ⊢
      split
      · exact h.1
      · exact h.2.2.1 (i + 1) (by omega)
theorem ZW.B {Z : Zs} (h : ZW Z) {B : Bk} (hb : BW (z_P Z) B) : ZW (zB Z B) := ⟨h.1, hb, h.2.2.1, h.2.2.2⟩
section BOOK
variable {M M' : Mem} {w : Nat} {Z : Zs} {B : Bk}
theorem RC.setB (h : RC w Z M) (e : ∀ a, a = 0 ∨ a = 1 ∨ a = 2 ∨ (w ≤ a ∧ a ≤ w + 8 ∧ a ≠ w + 7) ∨ (36 ≤ a ∧ a ≤ 47) ∨ a = 59 → M' a = M a) (e7 : M' (w + 7) 1 = M (w + 7) 1) (hb : BC M' 24 B) : RC w (zB Z B) M' := by
  have hw := h.ww
  obtain ⟨a1, a2, a3, a4, a5, a6, a7, a8⟩ := h
  have e0 := e 0 (by omega)
  have e1 := e 1 (by omega)
  have e2 := e 2 (by omega)
  refine ⟨by rw [e0, e1]; exact a1, a2.of (fun a h1 h2 h3 => e a (by omega)) e7, hb, by rw [e0]; exact a4, by rw [e1]; exact a5, by rw [e2]; exact a6, by rw [e0]; exact a7, fun B hB => ?_, by rw [e 59 (by omega)]; exact a8.2⟩
  rw [e0]
  exact ⟨(a8.1 B hB).1, (a8.1 B hB).2.of (fun a h1 h2 => e a (by omega))⟩
theorem RM.setB (h : RM Z M) (e : ∀ a, (70 ≤ a ∧ a ≤ 78) ∨ a = 80 ∨ (100 ≤ a ∧ a ≤ 105) → M' a = M a) (ef : ∀ k, k = 14 ∨ k = 23 ∨ k = 35 ∨ k = 55 ∨ k = 56 ∨ k = 57 → M' 67 k = M 67 k) (hb : BM (mrow M') (M' 67 33) (M' 84) (M' 67 34) (M' 93) (M' 94) (M' 96) (M' 79) B) : RM (zB Z B) M' := by
  obtain ⟨a1, a2, a3, a4, a5, a6, a7, a8⟩ := h
  refine ⟨a1.of (fun a _ _ => e a (by omega)), hb, by rw [ef 23 (by omega)]; exact a3, by rw [ef 14 (by omega)]; exact a4, by rw [e 80 (by omega)]; exact a5, by rw [ef 35 (by omega)]; exact a6, by rw [ef 55 (by omega)]; exact a7, ?_⟩
  rw [ef 55 (by omega), ef 56 (by omega), ef 57 (by omega), e 100 (by omega), e 101 (by omega), e 102 (by omega), e 103 (by omega), e 104 (by omega), e 105 (by omega)]
  exact a8
/-- the town alone has changed -/
theorem BC.town {b : Nat} {T : Tn} (h : BC M b B) (hT : CT (crow M' (b + 1)) T) (e : ∀ a, b + 5 ≤ a → a ≤ b + 11 → M' a = M a) : BC M' b (zT B T) := by
  refine ⟨hT, ?_⟩
  rw [e (b + 5) (by omega) (by omega), e (b + 6) (by omega) (by omega), e (b + 7) (by omega) (by omega), e (b + 8) (by omega) (by omega), e (b + 9) (by omega) (by omega), e (b + 10) (by omega) (by omega), e (b + 11) (by omega) (by omega)]
  exact h.2
theorem zc_refuse (h : BC M 24 B) {k : Nat} (hk : k < 3) : F_X0_refuse 24 (nI k) M = (-1, up M 35 k (b_u B k + 1)) ∧ BC (up M 35 k (b_u B k + 1)) 24 (zrf B k) := by
  refine ⟨?_, ?_⟩
  · unfold F_X0_refuse
    rw [zat_at (by omega) (by omega), zput_at (by omega) (by omega), h.2.2.2.2.2 k hk]
  · obtain ⟨a1, a2, a3, a4, a5, a6⟩ := h
    refine ⟨?_, ?_, ?_, ?_, ?_, fun i hi => ?_⟩
    · rw [crow_of (M := M) (fun a h1 h2 => up_ne (by omega))]; exact a1
    · rw [up_ne (by omega)]; exact a2
    · rw [up_ne (by omega)]; exact a3
    · rw [up_ne (by omega)]; exact a4
    · rw [up_ne (by omega), up_ne (by omega), up_ne (by omega)]; exact a5
    · rw [up_app]
      show _ = upd _ _ _ i
      rw [upd_app]
      by_cases e : i = k
      · rw [if_pos ⟨rfl, e⟩, if_pos e]
      · rw [if_neg (fun z => e z.2), if_neg e]; exact a6 i hi
theorem zm_refuse (h : RM Z M) {k : Nat} (hk : k < 3) : ∃ M', F_X12_refuse 67 (nI k) M = some (-1, M') ∧ RM (zB Z (zrf (z_B Z) k)) M' ∧ (∀ a, a ≠ 79 → M' a = M a) := by
  refine ⟨up M 79 k (b_u (z_B Z) k + 1), ?_, ?_, fun a ha => up_ne ha⟩
  · unfold F_X12_refuse
    rw [zald (by omega) (by omega), zbs rfl, zast (by omega) (by omega), zbs rfl, h.2.1.2.2.2.2.2 k hk]
  · obtain ⟨a1, a2, a3, a4, a5, a6⟩ := h.2.1
    refine h.setB (fun a ha => up_ne (by omega)) (fun j hj => by rw [up_ne (by omega)]) ⟨?_, ?_, ?_, ?_, ?_, fun i hi => ?_⟩
    · rw [mrow_of (M := M) (fun i _ _ => by rw [up_ne (by omega)]) (up_ne (by omega)) (up_ne (by omega)) (up_ne (by omega))]; exact a1
    · rw [up_ne (by omega)]; exact a2
    · rw [up_ne (by omega)]; exact a3
    · rw [up_ne (by omega)]; exact a4
    · rw [up_ne (by omega), up_ne (by omega), up_ne (by omega)]; exact a5
    · rw [up_app]
      show _ = upd _ _ _ i
      rw [upd_app]
      by_cases e : i = k
      · rw [if_pos ⟨rfl, e⟩, if_pos e]
      · rw [if_neg (fun z => e z.2), if_neg e]; exact a6 i hi
/-- the oldest falls out: the class -/
theorem zc_drop (hc : M 29 1 = nI 40) : ∃ M', F_X1_dropOldest 29 M = some M' ∧ M' 29 1 = nI 39 ∧ (∀ j, j < 975 → M' 30 j = M 30 (j + 25)) ∧ ∀ a, a ≠ 29 → a ≠ 30 → M' a = M a := by
  have key : ∀ j k f (M1 : Mem), k + j = 975 → j < f → (∀ i, i < k → M1 30 i = M 30 (i + 25)) → (∀ i, k ≤ i → M1 30 i = M 30 i) → (∀ a, a ≠ 30 → M1 a = M a) → Evs (L_X1_dropOldest_2 29 f (nI k) M1) (fun M' => (∀ i, i < 975 → M' 30 i = M 30 (i + 25)) ∧ ∀ a, a ≠ 30 → M' a = M a) := by
    intro j
    induction j with
    | zero =>
      intro k f M1 e hf a1 a2 a3
      obtain ⟨f, rfl⟩ : ∃ f', f = f' + 1 := ⟨f - 1, by omega⟩
      obtain rfl : k = 975 := by omega
      rw [L_X1_dropOldest_2, if_pos (by decide)]
      exact Evs.pure ⟨a1, a3⟩
    | succ j ih =>
      intro k f M1 e hf a1 a2 a3
      obtain ⟨f, rfl⟩ : ∃ f', f = f' + 1 := ⟨f - 1, by omega⟩
      have e25 : nI k + 25 = nI (k + 25) := nI_add k 25
      rw [L_X1_dropOldest_2, e25, if_neg (znge 1000 1000 rfl (by omega) (by omega)), zald (by omega) (by omega), zbs rfl, zast (by omega) (by omega), zbs rfl, nI_1]
      refine ih (k + 1) f _ (by omega) (by omega) (fun i hi => ?_) (fun i hi => ?_) (fun a ha => by rw [up_ne (by omega)]; exact a3 a ha)
      · rw [up_app]
        by_cases z : i = k
        · rw [if_pos ⟨rfl, z⟩, z]; exact a2 _ (by omega)
        · rw [if_neg (fun q => z q.2)]; exact a1 i (by omega)
      · rw [up_app, if_neg (by omega)]; exact a2 i (by omega)
  obtain ⟨M1, e1, h1, h2⟩ := key 975 0 FU M (by omega) (by decide) (fun i hi => by omega) (fun _ _ => rfl) (fun _ _ => rfl)
  refine ⟨up M1 29 1 (M1 29 1 - 1), ?_, ?_, fun j hj => ?_, fun a x1 x2 => ?_⟩
  · unfold F_X1_dropOldest
    exact zbs e1
  · rw [up_app, if_pos ⟨rfl, rfl⟩, h2 29 (by omega), hc]; decide
  · rw [up_ne (by omega)]; exact h1 j hj
  · rw [up_ne x1]; exact h2 a x2
theorem zc_keep (h : BC M 24 B) (ha : b_a B ≤ 40) : ∃ M', F_X0_keepAct 24 M = some M' ∧ BC M' 24 (zkp B) ∧ (∀ a, a ≠ 29 → a ≠ 30 → M' a = M a) := by
  obtain ⟨a1, a2, a3, a4, a5, a6⟩ := h
  have add : ∀ (M1 : Mem) (c : Nat) (pp : Nat → Tn), c < 40 → M1 29 1 = nI c → (∀ i, i < c → CT (fun k => M1 30 (25 * i + k)) (pp i)) → (∀ a, a ≠ 29 → a ≠ 30 → M1 a = M a) →
      ∃ M', J_X1_add_j13 29 25 M1 = some M' ∧ M' 29 1 = nI (c + 1) ∧ (∀ i, i < c + 1 → CT (fun k => M' 30 (25 * i + k)) (if i = c then b_t B else pp i)) ∧ ∀ a, a ≠ 29 → a ≠ 30 → M' a = M a := by
    intro M1 c pp hc e1 e2 e3
    obtain ⟨M2, q1, q2⟩ := zc_write (M := M1) (t := 25) (a := 30) (n := 1000) (f := 25 * c) (by omega) (by omega) (by omega)
    have n2 : ∀ a, a ≠ 30 → M2 a = M1 a := fun a ha => q2.cell (fun k _ => by simp [sloc]; omega)
    have e25 : nI c * 25 = nI (25 * c) := by rw [show (25 : Int32) = nI 25 from rfl, zmul, Nat.mul_comm]
    refine ⟨up M2 29 1 (nI (c + 1)), ?_, ?_, fun i hi => ?_, fun a x1 x2 => ?_⟩
    · unfold J_X1_add_j13
      rw [e1, e25, zbs (show F_X8_writeTo 25 (29 + 1) 1000 (nI (25 * c)) M1 = some M2 from q1), n2 29 (by omega), e1, nI_1]
    · rw [up_app, if_pos ⟨rfl, rfl⟩]
    · by_cases z : i = c
      · rw [if_pos z, z]
        refine (a1.cong (r' := fun k => (up M2 29 1 (nI (c + 1))) 30 (25 * c + k)) (fun k hk => ?_))
        show (up M2 29 1 (nI (c + 1))) 30 (25 * c + k) = _
        rw [up_ne (by omega)]
        have := q2.1 k hk trivial
        rw [crow_of (M := M) (fun a h1 h2 => e3 a (by omega) (by omega))] at this
        exact this
      · rw [if_neg z]
        refine ((e2 i (by omega)).cong (r' := fun k => (up M2 29 1 (nI (c + 1))) 30 (25 * i + k)) (fun k hk => ?_))
        show (up M2 29 1 (nI (c + 1))) 30 (25 * i + k) = M1 30 (25 * i + k)
        rw [up_ne (by omega)]
        refine q2.2 30 (25 * i + k) (fun j hj e => ?_)
        have := congrArg Prod.snd e
        simp only [sloc] at this
        omega
    · rw [up_ne x1, n2 a x2]; exact e3 a x1 x2
  have fin : ∀ M', M' 29 1 = nI (zka B + 1) → (∀ i, i < zka B + 1 → CT (fun k => M' 30 (25 * i + k)) (b_p (zkp B) i)) → (∀ a, a ≠ 29 → a ≠ 30 → M' a = M a) → BC M' 24 (zkp B) := by
    intro M' e1 e2 e3
    refine ⟨?_, e1, e2, ?_⟩
    · rw [crow_of (M := M) (fun a h1 h2 => e3 a (by omega) (by omega))]; exact a1
    · rw [e3 (24 + 7) (by omega) (by omega), e3 (24 + 8) (by omega) (by omega), e3 (24 + 9) (by omega) (by omega), e3 (24 + 10) (by omega) (by omega), e3 (24 + 11) (by omega) (by omega)]
      exact ⟨a4, a5, a6⟩
  unfold F_X0_keepAct F_X1_add
  rw [a2]
  by_cases c : b_a B < 40
  · obtain ⟨M', e1, e2, e3, e4⟩ := add M (b_a B) (b_p B) c a2 a3 (fun _ _ _ => rfl)
    refine ⟨M', ?_, fin M' ?_ (fun i hi => ?_) e4, e4⟩
    · rw [if_pos (show nI (b_a B) < (40 : Int32) from nI_lt (b := 40) c (by omega))]
      exact zbs e1
    · rw [e2]; unfold zka; rw [if_pos c]
    · have hz : zka B = b_a B := by unfold zka; rw [if_pos c]
      rw [hz] at hi
      show CT _ (if i = zka B then b_t B else if b_a B < 40 then b_p B i else b_p B (i + 1))
      rw [hz, if_pos c]
      exact e3 i hi
  · have c40 : b_a B = 40 := by omega
    obtain ⟨M1, d1, d2, d3, d4⟩ := zc_drop (M := M) (by rw [show (29 : Nat) = 24 + 5 from rfl, a2, c40])
    obtain ⟨M', e1, e2, e3, e4⟩ := add M1 39 (fun i => b_p B (i + 1)) (by omega) d2 (fun i hi => (a3 (i + 1) (by omega)).cong (fun k hk => by
      show M1 30 (25 * i + k) = M (24 + 6) (25 * (i + 1) + k)
      rw [d3 _ (by omega), show 25 * i + k + 25 = 25 * (i + 1) + k by omega])) d4
    refine ⟨M', ?_, fin M' ?_ (fun i hi => ?_) e4, e4⟩
    · rw [if_neg (show ¬ nI (b_a B) < (40 : Int32) from nI_nlt (b := 40) (by omega) (by omega)), zbs (show F_X1_dropOldest (24 + 5) M = some M1 from d1)]
      exact zbs e1
    · rw [e2]; unfold zka; rw [if_neg c]
    · have hz : zka B = 39 := by unfold zka; rw [if_neg c]
      rw [hz] at hi
      show CT _ (if i = zka B then b_t B else if b_a B < 40 then b_p B i else b_p B (i + 1))
      rw [hz, if_neg c]
      exact e3 i hi
theorem zm_keep (h : RM Z M) (ha : b_a (z_B Z) ≤ 40) : ∃ M', F_X12_keep 67 M = some M' ∧ RM (zB Z (zkp (z_B Z))) M' ∧ (∀ a, a ≠ 67 → a ≠ 84 → M' a = M a) ∧ (∀ k, k ≠ 33 → M' 67 k = M 67 k) := by
  obtain ⟨a1, a2, a3, a4, a5, a6⟩ := h.2.1
  have add : ∀ (M1 : Mem) (c : Nat) (pp : Nat → Tn), c < 40 → M1 67 33 = nI c → (∀ i, i < c → MT (fun k => M1 84 (60 * i + k)) (pp i)) → (∀ a, a ≠ 67 → a ≠ 84 → M1 a = M a) → (∀ k, k ≠ 33 → M1 67 k = M 67 k) →
      ∃ M', J_X12_keep_j52 67 M1 = some M' ∧ M' 67 33 = nI (c + 1) ∧ (∀ i, i < c + 1 → MT (fun k => M' 84 (60 * i + k)) (if i = c then b_t (z_B Z) else pp i)) ∧ (∀ a, a ≠ 67 → a ≠ 84 → M' a = M a) ∧ (∀ k, k ≠ 33 → M' 67 k = M 67 k) := by
    intro M1 c pp hc e1 e2 e3 e4
    obtain ⟨M2, q1, q2⟩ := zm_pack (M := M1) (a := 84) (n := 2400) (f := 60 * c) (by omega) (by omega) (by omega)
    have n2 : ∀ a, a ≠ 84 → M2 a = M1 a := fun a ha => q2.cell (fun k _ => by simp [sloc]; omega)
    have e60 : (60 : Int32) * nI c = nI (60 * c) := zmul 60 c
    refine ⟨up M2 67 33 (nI (c + 1)), ?_, ?_, fun i hi => ?_, fun a x1 x2 => ?_, fun k hk => ?_⟩
    · unfold J_X12_keep_j52
      rw [e1, e60, zbs (show F_X12_pack 67 (67 + 17) 2400 (nI (60 * c)) M1 = some M2 from q1), n2 67 (by omega), e1, nI_1]
    · rw [up_app, if_pos ⟨rfl, rfl⟩]
    · by_cases z : i = c
      · rw [if_pos z, z]
        refine (a1.cong (r' := fun k => (up M2 67 33 (nI (c + 1))) 84 (60 * c + k)) (fun k hk => ?_))
        show (up M2 67 33 (nI (c + 1))) 84 (60 * c + k) = _
        rw [up_ne (by omega)]
        have := q2.1 k hk trivial
        rw [mrow_of (M := M) (fun j _ _ => e4 j (by omega)) (e3 _ (by omega) (by omega)) (e3 _ (by omega) (by omega)) (e3 _ (by omega) (by omega))] at this
        exact this
      · rw [if_neg z]
        refine ((e2 i (by omega)).cong (r' := fun k => (up M2 67 33 (nI (c + 1))) 84 (60 * i + k)) (fun k hk => ?_))
        show (up M2 67 33 (nI (c + 1))) 84 (60 * i + k) = M1 84 (60 * i + k)
        rw [up_ne (by omega)]
        refine q2.2 84 (60 * i + k) (fun j hj e => ?_)
        have := congrArg Prod.snd e
        simp only [sloc] at this
        omega
    · rw [up_ne x1, n2 a x2]; exact e3 a x1 x2
    · rw [up_app, if_neg (fun z => hk z.2), n2 67 (by omega)]; exact e4 k hk
  have fin : ∀ M', M' 67 33 = nI (zka (z_B Z) + 1) → (∀ i, i < zka (z_B Z) + 1 → MT (fun k => M' 84 (60 * i + k)) (b_p (zkp (z_B Z)) i)) → (∀ a, a ≠ 67 → a ≠ 84 → M' a = M a) → (∀ k, k ≠ 33 → M' 67 k = M 67 k) → RM (zB Z (zkp (z_B Z))) M' := by
    intro M' e1 e2 e3 e4
    refine h.setB (fun a ha => e3 a (by omega) (by omega)) (fun k hk => e4 k (by omega)) ⟨?_, e1, e2, ?_⟩
    · rw [mrow_of (M := M) (fun j _ _ => e4 j (by omega)) (e3 _ (by omega) (by omega)) (e3 _ (by omega) (by omega)) (e3 _ (by omega) (by omega))]; exact a1
    · rw [e4 34 (by omega), e3 93 (by omega) (by omega), e3 94 (by omega) (by omega), e3 96 (by omega) (by omega), e3 79 (by omega) (by omega)]
      exact ⟨a4, a5, a6⟩
  unfold F_X12_keep
  rw [a2]
  by_cases c : b_a (z_B Z) < 40
  · obtain ⟨M', e1, e2, e3, e4, e5⟩ := add M (b_a (z_B Z)) (b_p (z_B Z)) c a2 a3 (fun _ _ _ => rfl) (fun _ _ => rfl)
    refine ⟨M', ?_, fin M' ?_ (fun i hi => ?_) e4 e5, e4, e5⟩
    · rw [if_neg (zne 40 40 rfl (by omega) (by omega) (by omega))]
      exact e1
    · rw [e2]; unfold zka; rw [if_pos c]
    · have hz : zka (z_B Z) = b_a (z_B Z) := by unfold zka; rw [if_pos c]
      rw [hz] at hi
      show MT _ (if i = zka (z_B Z) then b_t (z_B Z) else if b_a (z_B Z) < 40 then b_p (z_B Z) i else b_p (z_B Z) (i + 1))
      rw [hz, if_pos c]
      exact e3 i hi
  · have c40 : b_a (z_B Z) = 40 := by omega
    have key : ∀ j k f (M1 : Mem), k + j = 2340 → j < f → (∀ i, i < k → M1 84 i = M 84 (i + 60)) → (∀ i, k ≤ i → M1 84 i = M 84 i) → (∀ a, a ≠ 84 → M1 a = M a) → Evs (L_X12_keep_12 67 f (nI (k + 60)) M1) (fun M' => (∀ i, i < 2340 → M' 84 i = M 84 (i + 60)) ∧ ∀ a, a ≠ 84 → M' a = M a) := by
      intro j
      induction j with
      | zero =>
        intro k f M1 e hf a1 a2 a3
        obtain ⟨f, rfl⟩ : ∃ f', f = f' + 1 := ⟨f - 1, by omega⟩
        obtain rfl : k = 2340 := by omega
        rw [L_X12_keep_12, if_pos (by decide)]
        exact Evs.pure ⟨a1, a3⟩
      | succ j ih =>
        intro k f M1 e hf a1 a2 a3
        obtain ⟨f, rfl⟩ : ∃ f', f = f' + 1 := ⟨f - 1, by omega⟩
        have e60 : nI (k + 60) - 60 = nI k := by
          have := zsub (a := k + 60) (b := 60) (by omega)
          rw [Nat.add_sub_cancel] at this
          exact this
        rw [L_X12_keep_12, if_neg (znge 2400 2400 rfl (by omega) (by omega)), zald (by omega) (by omega), zbs rfl, e60, zast (by omega) (by omega), zbs rfl, nI_1]
        have := ih (k + 1) f (up M1 84 k (M1 84 (k + 60))) (by omega) (by omega) (fun i hi => ?_) (fun i hi => ?_) (fun a ha => by rw [up_ne (by omega)]; exact a3 a ha)
        · rw [show k + 1 + 60 = k + 60 + 1 by omega] at this; exact this
        · rw [up_app]
          by_cases z : i = k
          · rw [if_pos ⟨rfl, z⟩, z]; exact a2 _ (by omega)
          · rw [if_neg (fun q => z q.2)]; exact a1 i (by omega)
        · rw [up_app, if_neg (by omega)]; exact a2 i (by omega)
    obtain ⟨M1, d1, d2, d3⟩ := key 2340 0 FU M (by omega) (by decide) (fun i hi => by omega) (fun _ _ => rfl) (fun _ _ => rfl)
    have e39 : up M1 67 33 (M1 67 33 - 1) = up M1 67 33 (nI 39) := by rw [d3 67 (by omega), a2, c40]; rfl
    obtain ⟨M', e1, e2, e3, e4, e5⟩ := add (up M1 67 33 (nI 39)) 39 (fun i => b_p (z_B Z) (i + 1)) (by omega) (by rw [up_app, if_pos ⟨rfl, rfl⟩]) (fun i hi => (a3 (i + 1) (by omega)).cong (fun k hk => by
      show (up M1 67 33 (nI 39)) 84 (60 * i + k) = M 84 (60 * (i + 1) + k)
      rw [up_ne (by omega), d2 _ (by omega), show 60 * i + k + 60 = 60 * (i + 1) + k by omega])) (fun a x1 x2 => by rw [up_ne x1]; exact d3 a x2) (fun k hk => by rw [up_app, if_neg (fun z => hk z.2), d3 67 (by omega)])
    refine ⟨M', ?_, fin M' ?_ (fun i hi => ?_) e4 e5, e4, e5⟩
    · rw [if_pos (by rw [c40]; rfl), zbs (show L_X12_keep_12 67 FU 60 M = some M1 from d1), e39]
      exact e1
    · rw [e2]; unfold zka; rw [if_neg c]
    · have hz : zka (z_B Z) = 39 := by unfold zka; rw [if_neg c]
      rw [hz] at hi
      show MT _ (if i = zka (z_B Z) then b_t (z_B Z) else if b_a (z_B Z) < 40 then b_p (z_B Z) i else b_p (z_B Z) (i + 1))
      rw [hz, if_neg c]
      exact e3 i hi
end BOOK
