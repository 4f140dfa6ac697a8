/-! ===== a night of the model ===== -/
/-- what a night changes of the model's heap -/
def Gm (M M' : Mem) : Prop := (∀ a, a ≠ 67 → a ≠ 81 → a ≠ 82 → (a < 85 ∨ 89 < a) → M' a = M a) ∧ ∀ k, k ≠ 29 → k ≠ 30 → k ≠ 32 → k ≠ 39 → k ≠ 42 → M' 67 k = M 67 k
theorem Gm.rf {M : Mem} : Gm M M := ⟨fun _ _ _ _ _ => rfl, fun _ _ _ _ _ _ => rfl⟩
theorem Gm.tr {M M1 M2 : Mem} (h : Gm M M1) (h2 : Gm M1 M2) : Gm M M2 := ⟨fun a x1 x2 x3 x4 => (h2.1 a x1 x2 x3 x4).trans (h.1 a x1 x2 x3 x4), fun k x1 x2 x3 x4 x5 => (h2.2 k x1 x2 x3 x4 x5).trans (h.2 k x1 x2 x3 x4 x5)⟩
theorem MP.of {M M' : Mem} {P : Pl} (C : MP M P) (h : ∀ a, 70 ≤ a → a ≤ 78 → M' a = M a) : MP M' P := by
  unfold MP
  rw [h 70 (by omega) (by omega), h 71 (by omega) (by omega), h 72 (by omega) (by omega), h 73 (by omega) (by omega), h 75 (by omega) (by omega), h 77 (by omega) (by omega), h 78 (by omega) (by omega)]
  exact C
theorem MP.g {M M' : Mem} {P : Pl} (C : MP M P) (h : Gm M M') : MP M' P := C.of (fun a _ _ => h.1 a (by omega) (by omega) (by omega) (by omega))
theorem mrow_of {M M' : Mem} (h : ∀ k, 29 ≤ k → k ≤ 32 → M' 67 k = M 67 k) (h1 : M' 81 = M 81) (h2 : M' 82 = M 82) (h3 : M' 83 = M 83) : mrow M' = mrow M := by
  funext k
  unfold mrow
  rw [h1, h2, h3]
  by_cases e : k < 4
  · rw [if_pos e, if_pos e, h _ (by omega) (by omega)]
  · rw [if_neg e, if_neg e]
def SM9 (M : Mem) (S : N9) : Prop := MT (mrow M) S.1 ∧ (∀ p, p < 7 → M 88 p = S.2.1 p) ∧ (∀ p, p < 7 → M 89 p = S.2.2.1 p) ∧ M 67 42 = S.2.2.2
theorem SM9.g {M M' : Mem} {S : N9} (h : SM9 M S) (k : ∀ a, a ≠ 85 → a ≠ 86 → M' a = M a) : SM9 M' S := by
  refine ⟨?_, ?_, ?_, ?_⟩
  · rw [mrow_of (M := M) (fun j _ _ => by rw [k _ (by omega) (by omega)]) (k _ (by omega) (by omega)) (k _ (by omega) (by omega)) (k _ (by omega) (by omega))]; exact h.1
  · rw [k _ (by omega) (by omega)]; exact h.2.1
  · rw [k _ (by omega) (by omega)]; exact h.2.2.1
  · rw [k _ (by omega) (by omega)]; exact h.2.2.2
theorem zlots_8 {P : Pl} (hP : PW P) {T : Tn} {fog : Nat} : ∀ i, 8 ≤ i → i < 32 → bt (zlots P T fog) i = false := fun i hi h => by
  have h7 := hP.2.2.1
  unfold zlots
  rw [zmk_bt _ h (by omega)]
  simp; omega
section MNIGHT
variable {M : Mem} {P : Pl} {T : Tn}
theorem zm_tell (hP : PW P) (C : MP M P) (hT : MT (mrow M) T) (hW : TW9 P T) {fog : Nat} (hF : F_X12_fogOf 67 M = some (nI fog)) (hfog : fog < 10) :
    Evs (F_X12_tellLots 67 M) (fun M' => (∀ p, p < znp P → M' 87 p = zhs P T fog p) ∧ M' 67 39 = zlots P T fog ∧ (∀ a, a ≠ 67 → a ≠ 87 → M' a = M a) ∧ ∀ k, k ≠ 39 → M' 67 k = M 67 k) := by
  have h7 := hP.2.2.1
  have key : ∀ j p f (M1 : Mem), p + j = znp P → j < f → (∀ q, q < p → M1 87 q = zhs P T fog q) → M1 67 39 = zmk (fun p => !(zseen P T fog p == 0)) p → (∀ a, a ≠ 67 → a ≠ 87 → M1 a = M a) → (∀ k, k ≠ 39 → M1 67 k = M 67 k) →
      Evs (L_X12_tellLots_7 67 f (nI p) M1) (fun M' => (∀ p, p < znp P → M' 87 p = zhs P T fog p) ∧ M' 67 39 = zlots P T fog ∧ (∀ a, a ≠ 67 → a ≠ 87 → M' a = M a) ∧ ∀ k, k ≠ 39 → M' 67 k = M 67 k) := by
    intro j
    induction j with
    | zero =>
      intro p f M1 e hf a1 a2 a3 a4
      obtain ⟨f, rfl⟩ : ∃ f', f = f' + 1 := ⟨f - 1, by omega⟩
      obtain rfl : p = znp P := by omega
      rw [L_X12_tellLots_7, a3 70 (by omega) (by omega), C.1.2.2.2.1, if_pos (nI_le (by omega) (by omega))]
      exact Evs.pure ⟨a1, a2, a3, a4⟩
    | succ j ih =>
      intro p f M1 e hf a1 a2 a3 a4
      obtain ⟨f, rfl⟩ : ∃ f', f = f' + 1 := ⟨f - 1, by omega⟩
      have C1 : MP M1 P := C.of (fun a _ _ => a3 a (by omega) (by omega))
      have T1 : MT (mrow M1) T := by rw [mrow_of (M := M) (fun k _ _ => a4 k (by omega)) (a3 _ (by omega) (by omega)) (a3 _ (by omega) (by omega)) (a3 _ (by omega) (by omega))]; exact hT
      have F1 : F_X12_fogOf 67 M1 = some (nI fog) := by
        rw [← hF]; unfold F_X12_fogOf
        rw [a4 35 (by omega), a4 29 (by omega), a3 (67 + 3) (by omega) (by omega)]
        unfold ald
        rw [a3 (67 + 10) (by omega) (by omega)]
      rw [L_X12_tellLots_7, a3 70 (by omega) (by omega), C.1.2.2.2.1, if_neg (nI_ge (by omega) (by omega)), zm_seen hP C1 T1 hW F1 hfog (by omega), zbs rfl, zast (by omega) (by omega), zbs rfl, zald (by omega) (by omega), zbs rfl, nI_1]
      have hz : zhs P T fog p = zseen P T fog p := by unfold zhs; rw [if_pos (by omega)]
      have e39 : (up M1 (67 + 20) p (zseen P T fog p)) 67 39 = zmk (fun p => !(zseen P T fog p == 0)) p := by rw [up_ne (by omega)]; exact a2
      have e87 : (up M1 (67 + 20) p (zseen P T fog p)) (67 + 20) p = zseen P T fog p := by rw [up_app, if_pos ⟨rfl, rfl⟩]
      rw [e39, e87]
      refine ih (p + 1) f _ (by omega) (by omega) ?_ ?_ ?_ ?_
      · intro q hq
        rw [up_ne (by omega), up_app]
        by_cases z : q = p
        · rw [if_pos ⟨rfl, z⟩, z, hz]
        · rw [if_neg (fun k => z k.2)]; exact a1 q (by omega)
      · rw [up_app, if_pos ⟨rfl, rfl⟩, zmk]
        by_cases z : zseen P T fog p = 0
        · rw [if_pos z, if_neg (by simp [z])]
        · rw [if_neg z, if_pos (by simp [z])]
      · intro a x1 x2; rw [up_ne x1, up_ne (by omega)]; exact a3 a x1 x2
      · intro k x1; rw [up_app, if_neg (by omega), up_ne (by omega)]; exact a4 k x1
  unfold F_X12_tellLots
  refine Evs.bind (key (znp P) 0 FU (up M 67 39 0) (by omega) (by unfold FU; omega) (fun q hq => by omega) ?_ ?_ ?_) (fun M' h => Evs.pure h)
  · rw [up_app, if_pos ⟨rfl, rfl⟩]; rfl
  · intro a x1 _; rw [up_ne x1]
  · intro k x1; rw [up_app, if_neg (by omega)]
theorem zm_sel (hP : PW P) (C : MP M P) (hT : MT (mrow M) T) {p lt : Nat} {x l : Int32} (hp : p < znp P) (hx : M 87 p = x) (h6 : ∀ i, 6 ≤ i → i < 32 → bt x i = false) (h0 : ¬ x = 0) (hl : M 67 39 = l) (hl8 : ∀ i, 8 ≤ i → i < 32 → bt l i = false) (hlt : zct l = lt) :
    Evs (L_X12_sell_10 67 (nI p) FU (-1) 0 0 0 M) (fun r => r.1 = (zsel (fun q => zbid P T x lt q p) (znp P)).1 ∧ r.2.1 = (zsel (fun q => zbid P T x lt q p) (znp P)).2.1 ∧ r.2.2.1 = (zsel (fun q => zbid P T x lt q p) (znp P)).2.2 ∧ ∀ a, a ≠ 85 → a ≠ 86 → r.2.2.2 a = M a) := by
  have h7 := hP.2.2.1
  have key : ∀ j q f (M1 : Mem), q + j = znp P → j < f → (∀ a, a ≠ 85 → a ≠ 86 → M1 a = M a) →
      Evs (L_X12_sell_10 67 (nI p) f (zsel (fun q => zbid P T x lt q p) q).1 (zsel (fun q => zbid P T x lt q p) q).2.1 (zsel (fun q => zbid P T x lt q p) q).2.2 (nI q) M1) (fun r => r.1 = (zsel (fun q => zbid P T x lt q p) (znp P)).1 ∧ r.2.1 = (zsel (fun q => zbid P T x lt q p) (znp P)).2.1 ∧ r.2.2.1 = (zsel (fun q => zbid P T x lt q p) (znp P)).2.2 ∧ ∀ a, a ≠ 85 → a ≠ 86 → r.2.2.2 a = M a) := by
    intro j
    induction j with
    | zero =>
      intro q f M1 e hf hF
      obtain ⟨f, rfl⟩ : ∃ f', f = f' + 1 := ⟨f - 1, by omega⟩
      obtain rfl : q = znp P := by omega
      rw [L_X12_sell_10, hF 70 (by omega) (by omega), C.1.2.2.2.1, if_pos (nI_le (by omega) (by omega))]
      exact Evs.pure ⟨rfl, rfl, rfl, hF⟩
    | succ j ih =>
      intro q f M1 e hf hF
      obtain ⟨f, rfl⟩ : ∃ f', f = f' + 1 := ⟨f - 1, by omega⟩
      rw [L_X12_sell_10, hF 70 (by omega) (by omega), C.1.2.2.2.1, if_neg (nI_ge (by omega) (by omega))]
      have C1 : MP M1 P := C.of (fun a _ _ => hF a (by omega) (by omega))
      have T1 : MT (mrow M1) T := by rw [mrow_of (M := M) (fun k _ _ => by rw [hF _ (by omega) (by omega)]) (hF _ (by omega) (by omega)) (hF _ (by omega) (by omega)) (hF _ (by omega) (by omega))]; exact hT
      refine Evs.bind (zm_bid hP C1 T1 (q := q) (by omega) hp (by rw [hF _ (by omega) (by omega)]; exact hx) h6 h0 (by rw [hF _ (by omega) (by omega)]; exact hl) hl8 hlt) (fun r hr => ?_)
      have e1 := ih (q + 1) f r.2 (by omega) (by omega) (fun a x1 x2 => (hr.2 a x1 x2).trans (hF a x1 x2))
      rw [zsel] at e1
      rw [hr.1, nI_1]
      by_cases k1 : zbid P T x lt q p ≤ (zsel (fun q => zbid P T x lt q p) q).2.1
      · rw [if_pos k1] at e1 ⊢
        exact e1
      · rw [if_neg k1] at e1 ⊢
        exact e1
  exact key (znp P) 0 FU M (by omega) (by unfold FU; omega) (fun _ _ _ => rfl)
theorem zm_sell (hP : PW P) (C : MP M P) {S : N9} (hS : SM9 M S) {p lt : Nat} {x l : Int32} (hp : p < znp P) (hx : M 87 p = x) (h6 : ∀ i, 6 ≤ i → i < 32 → bt x i = false) (h0 : ¬ x = 0) (hl : M 67 39 = l) (hl8 : ∀ i, 8 ≤ i → i < 32 → bt l i = false) (hlt : zct l = lt) :
    Evs (F_X12_sell 67 (nI p) M) (fun M' => SM9 M' (zsell P x lt p S) ∧ Gm M M' ∧ M' 87 = M 87 ∧ M' 67 39 = M 67 39) := by
  have h7 := hP.2.2.1
  unfold F_X12_sell
  refine Evs.bind (zm_sel hP C hS.1 hp hx h6 h0 hl hl8 hlt) (fun r hr => ?_)
  obtain ⟨r1, r2, r3, rF⟩ := hr
  have S1 : SM9 r.2.2.2 S := hS.g rF
  have G1 : Gm M r.2.2.2 := ⟨fun a _ _ _ _ => rF a (by omega) (by omega), fun k _ _ _ _ _ => by rw [rF _ (by omega) (by omega)]⟩
  have x87 : r.2.2.2 87 = M 87 := rF _ (by omega) (by omega)
  have x39 : r.2.2.2 67 39 = M 67 39 := by rw [rF _ (by omega) (by omega)]
  have dk : Evs (J_X12_sell_j76 67 r.2.2.2) (fun M' => SM9 M' (zdark S) ∧ Gm M M' ∧ M' 87 = M 87 ∧ M' 67 39 = M 67 39) := by
    unfold J_X12_sell_j76
    refine Evs.pure ⟨⟨MT.of ?_ ?_ ?_ ?_ ?_ ?_ ?_, ?_, ?_, ?_⟩, G1.tr ⟨fun a x1 _ _ _ => by rw [up_ne x1], fun k _ x2 _ _ _ => by rw [up_app, if_neg (by omega)]⟩, by rw [up_ne (by omega)]; exact x87, by rw [up_app, if_neg (by omega)]; exact x39⟩
    · rw [up_app, if_neg (by omega)]; exact S1.1.n
    · rw [up_app, if_pos ⟨rfl, rfl⟩, S1.1.d]; rfl
    · rw [up_app, if_neg (by omega)]; exact S1.1.h
    · rw [up_app, if_neg (by omega)]; exact S1.1.b
    · intro q hq; rw [up_ne (by omega)]; exact S1.1.c hq
    · intro q hq; rw [up_ne (by omega)]; exact S1.1.k hq
    · intro q hq i hi; rw [up_ne (by omega)]; exact S1.1.w hq hi
    · rw [up_ne (by omega)]; exact S1.2.1
    · rw [up_ne (by omega)]; exact S1.2.2.1
    · rw [up_app, if_neg (by omega)]; exact S1.2.2.2
  unfold zsell
  rw [r1, r2, r3]
  by_cases k1 : (zsel (fun q => zbid P S.1 x lt q p) (znp P)).1 = -1
  · rw [if_pos k1, if_pos k1]; exact dk
  · rw [if_neg k1, if_neg k1, S1.1.h]
    by_cases k2 : t_h S.1 ≤ (zsel (fun q => zbid P S.1 x lt q p) (znp P)).2.1
    · rw [if_pos k2, if_pos k2]
      rcases zsel_b (fun q => zbid P S.1 x lt q p) (znp P) with e | ⟨b, hb, e⟩
      · exact absurd e k1
      · rw [e, nI_clamp (by omega)]
        generalize hG : r.2.2.2 = G at *
        have eh : (up G (67 + 21) p (nI b)) 67 31 = t_h S.1 := by rw [up_ne (by omega)]; exact S1.1.h
        rw [zast (by omega) (by omega), zbs rfl, zast (by omega) (by omega), zbs rfl, eh, zald (by omega) (by omega), zbs rfl, zald (by omega) (by omega), zbs rfl, zast (by omega) (by omega), zbs rfl]
        generalize hpr : imax (zsel (fun q => zbid P S.1 x lt q p) (znp P)).2.2 (t_h S.1) = pr
        have ec : (up (up G (67 + 21) p (nI b)) (67 + 22) p pr) (67 + 14) b = t_c S.1 b := by rw [up_ne (by omega), up_ne (by omega)]; exact S1.1.c (by omega)
        have ep : (up (up G (67 + 21) p (nI b)) (67 + 22) p pr) (67 + 22) p = pr := by rw [up_app, if_pos ⟨rfl, rfl⟩]
        have ek : (up (up (up (up G (67 + 21) p (nI b)) (67 + 22) p pr) (67 + 14) b (t_c S.1 b - pr)) 67 42 (S.2.2.2 + 1)) (67 + 15) b = t_k S.1 b := by rw [up_ne (by omega), up_ne (by omega), up_ne (by omega), up_ne (by omega)]; exact S1.1.k (by omega)
        have e42 : (up (up (up G (67 + 21) p (nI b)) (67 + 22) p pr) (67 + 14) b (t_c S.1 b - pr)) 67 42 = S.2.2.2 := by rw [up_ne (by omega), up_ne (by omega), up_ne (by omega)]; exact S1.2.2.2
        rw [ec, ep, e42, zald (by omega) (by omega), zbs rfl, zast (by omega) (by omega), zbs rfl, ek]
        have hbp : (nI b = nI p) ↔ b = p := nI_eq (by omega) (by omega)
        generalize hH : up (up (up (up G (67 + 21) p (nI b)) (67 + 22) p pr) (67 + 14) b (t_c S.1 b - pr)) 67 42 (S.2.2.2 + 1) = H
        have g1 : ∀ a, a ≠ 67 → a ≠ 81 → a ≠ 88 → a ≠ 89 → H a = G a := fun a x1 x2 x3 x4 => by subst hH; rw [up_ne x1, up_ne (by omega), up_ne (by omega), up_ne (by omega)]
        have g2 : ∀ j, H 81 j = upd (G 81) b (t_c S.1 b - pr) j := fun j => by subst hH; rw [up_ne (by omega), up_same, up_ne (by omega), up_ne (by omega)]
        have g3 : ∀ j, H 88 j = upd (G 88) p (nI b) j := fun j => by subst hH; rw [up_ne (by omega), up_ne (by omega), up_ne (by omega), up_same]
        have g4 : ∀ j, H 89 j = upd (G 89) p pr j := fun j => by subst hH; rw [up_ne (by omega), up_ne (by omega), up_same, up_ne (by omega)]
        have g5 : ∀ j, H 67 j = upd (G 67) 42 (S.2.2.2 + 1) j := fun j => by subst hH; rw [up_same, up_ne (by omega), up_ne (by omega), up_ne (by omega)]
        have g6 : ∀ j, j ≠ 42 → H 67 j = G 67 j := fun j hj => by rw [g5, upd_app, if_neg hj]
        have GH : Gm M H := G1.tr ⟨fun a x1 x2 x3 x4 => g1 a x1 x2 (by omega) (by omega), fun k _ _ _ _ x5 => g6 k x5⟩
        have bs : (∀ q, q < 7 → H 88 q = (zhand p b pr S).2.1 q) ∧ (∀ q, q < 7 → H 89 q = (zhand p b pr S).2.2.1 q) ∧ H 67 42 = (zhand p b pr S).2.2.2 := by
          refine ⟨fun q hq => ?_, fun q hq => ?_, ?_⟩
          · rw [g3]; show upd _ _ _ q = upd _ _ _ q
            rw [upd_app, upd_app]; split
            · rfl
            · exact S1.2.1 q hq
          · rw [g4]; show upd _ _ _ q = upd _ _ _ q
            rw [upd_app, upd_app]; split
            · rfl
            · exact S1.2.2.1 q hq
          · rw [g5]; rfl
        have cs : ∀ q, q < 7 → H 81 q = t_c (zhand p b pr S).1 q := fun q hq => by
          rw [g2]; show upd _ _ _ q = upd _ _ _ q
          rw [upd_app, upd_app]; split
          · rfl
          · exact S1.1.c hq
        have y87 : H 87 = M 87 := by rw [g1 _ (by omega) (by omega) (by omega) (by omega)]; exact x87
        have y39 : H 67 39 = M 67 39 := by rw [g6 _ (by omega)]; exact x39
        by_cases e : b = p
        · rw [if_pos (hbp.mpr e)]
          refine Evs.pure ⟨⟨MT.of ?_ ?_ ?_ ?_ cs ?_ ?_, bs⟩, GH, y87, y39⟩
          · rw [g6 _ (by omega)]; exact S1.1.n
          · rw [g6 _ (by omega)]; exact S1.1.d
          · rw [g6 _ (by omega)]; exact S1.1.h
          · rw [g6 _ (by omega)]; exact S1.1.b
          · intro q hq
            rw [g1 _ (by omega) (by omega) (by omega) (by omega)]
            show _ = (if b = p then t_k S.1 else _) q
            rw [if_pos e]; exact S1.1.k hq
          · intro q hq i hi
            rw [g1 _ (by omega) (by omega) (by omega) (by omega)]; exact S1.1.w hq hi
        · rw [if_neg (fun z => e (hbp.mp z))]
          refine Evs.pure ⟨⟨MT.of ?_ ?_ ?_ ?_ ?_ ?_ ?_, ?_⟩, GH.tr ⟨fun a _ _ x3 _ => by rw [up_ne (by omega)], fun k _ _ _ _ _ => by rw [up_ne (by omega)]⟩, by rw [up_ne (by omega)]; exact y87, by rw [up_ne (by omega)]; exact y39⟩
          · rw [up_ne (by omega), g6 _ (by omega)]; exact S1.1.n
          · rw [up_ne (by omega), g6 _ (by omega)]; exact S1.1.d
          · rw [up_ne (by omega), g6 _ (by omega)]; exact S1.1.h
          · rw [up_ne (by omega), g6 _ (by omega)]; exact S1.1.b
          · intro q hq; rw [up_ne (by omega)]; exact cs q hq
          · intro q hq
            rw [up_same, g1 _ (by omega) (by omega) (by omega) (by omega)]
            show _ = (if b = p then t_k S.1 else _) q
            rw [if_neg e, upd_app, upd_app]; split
            · rfl
            · exact S1.1.k hq
          · intro q hq i hi
            rw [up_ne (by omega), g1 _ (by omega) (by omega) (by omega) (by omega)]; exact S1.1.w hq hi
          · rw [up_ne (by omega), up_ne (by omega), up_ne (by omega)]; exact bs
    · rw [if_neg k2, if_neg k2]; exact dk
theorem zm_night (hP : PW P) (C : MP M P) (hT : MT (mrow M) T) (hW : TW9 P T) {fog : Nat} (hF : F_X12_fogOf 67 M = some (nI fog)) (hfog : fog < 10) :
    Evs (F_X12_aNight 67 M) (fun M' => SM9 M' (zpass P T fog) ∧ M' 67 39 = zlots P T fog ∧ Gm M M') := by
  have h7 := hP.2.2.1
  unfold F_X12_aNight
  refine Evs.bind (zm_tell hP C hT hW hF hfog) (fun M1 h1 => ?_)
  obtain ⟨a1, a2, a3, a4⟩ := h1
  have keyA : ∀ j p f (M2 : Mem), p + j = 7 → j < f → (∀ q, q < p → M2 88 q = -1) → (∀ q, q < p → M2 89 q = -1) → (∀ a, a ≠ 88 → a ≠ 89 → M2 a = (up M1 67 42 0) a) →
      Evs (L_X12_aNight_11 67 f (nI p) M2) (fun M' => (∀ q, q < 7 → M' 88 q = -1) ∧ (∀ q, q < 7 → M' 89 q = -1) ∧ ∀ a, a ≠ 88 → a ≠ 89 → M' a = (up M1 67 42 0) a) := by
    intro j
    induction j with
    | zero =>
      intro p f M2 e hf b1 b2 b3
      obtain ⟨f, rfl⟩ : ∃ f', f = f' + 1 := ⟨f - 1, by omega⟩
      obtain rfl : p = 7 := by omega
      rw [L_X12_aNight_11, if_pos (by decide)]
      exact Evs.pure ⟨b1, b2, b3⟩
    | succ j ih =>
      intro p f M2 e hf b1 b2 b3
      obtain ⟨f, rfl⟩ : ∃ f', f = f' + 1 := ⟨f - 1, by omega⟩
      rw [L_X12_aNight_11, if_neg (znge 7 7 rfl (by omega) (by omega)), zast (by omega) (by omega), zbs rfl, zast (by omega) (by omega), zbs rfl, nI_1]
      refine ih (p + 1) f _ (by omega) (by omega) ?_ ?_ ?_
      · intro q hq
        rw [up_ne (by omega), up_app]
        by_cases z : q = p
        · rw [if_pos ⟨rfl, z⟩]
        · rw [if_neg (fun k => z k.2)]; exact b1 q (by omega)
      · intro q hq
        rw [up_app]
        by_cases z : q = p
        · rw [if_pos ⟨rfl, z⟩]
        · rw [if_neg (fun k => z k.2), up_ne (by omega)]; exact b2 q (by omega)
      · intro a x1 x2; rw [up_ne (by omega), up_ne (by omega)]; exact b3 a x1 x2
  refine Evs.bind (keyA 7 0 FU (up M1 67 42 0) (by omega) (by decide) (fun q hq => by omega) (fun q hq => by omega) (fun _ _ _ => rfl)) (fun M2 h2 => ?_)
  obtain ⟨b1, b2, b3⟩ := h2
  have c67 : ∀ k, k ≠ 39 → k ≠ 42 → M2 67 k = M 67 k := fun k x1 x2 => by rw [b3 67 (by omega) (by omega), up_app, if_neg (by omega)]; exact a4 k x1
  have c39 : M2 67 39 = zlots P T fog := by rw [b3 67 (by omega) (by omega), up_app, if_neg (by omega)]; exact a2
  have ca : ∀ a, a ≠ 67 → a ≠ 87 → a ≠ 88 → a ≠ 89 → M2 a = M a := fun a x1 x2 x3 x4 => by rw [b3 a x3 x4, up_ne x1]; exact a3 a x1 x2
  have c87 : ∀ q, q < znp P → M2 87 q = zhs P T fog q := fun q hq => by rw [b3 87 (by omega) (by omega), up_ne (by omega)]; exact a1 q hq
  have G2 : Gm M M2 := ⟨fun a x1 x2 x3 x4 => ca a x1 (by omega) (by omega) (by omega), fun k _ _ _ x4 x5 => c67 k x4 x5⟩
  have S2 : SM9 M2 (zsls P (zhs P T fog) (zlt P T fog) T 0) := by
    refine ⟨?_, b1, b2, ?_⟩
    · rw [mrow_of (M := M) (fun k _ _ => c67 k (by omega) (by omega)) (ca _ (by omega) (by omega) (by omega) (by omega)) (ca _ (by omega) (by omega) (by omega) (by omega)) (ca _ (by omega) (by omega) (by omega) (by omega))]; exact hT
    · rw [b3 67 (by omega) (by omega), up_app, if_pos ⟨rfl, rfl⟩]; rfl
  have key : ∀ j p f (M3 : Mem), p + j = znp P → j < f → SM9 M3 (zsls P (zhs P T fog) (zlt P T fog) T p) → Gm M M3 → M3 87 = M2 87 → M3 67 39 = zlots P T fog →
      Evs (L_X12_aNight_39 67 f (nI p) M3) (fun M' => SM9 M' (zsls P (zhs P T fog) (zlt P T fog) T (znp P)) ∧ Gm M M' ∧ M' 67 39 = zlots P T fog) := by
    intro j
    induction j with
    | zero =>
      intro p f M3 e hf hS1 hG h87 h39
      obtain ⟨f, rfl⟩ : ∃ f', f = f' + 1 := ⟨f - 1, by omega⟩
      obtain rfl : p = znp P := by omega
      have C1 : MP M3 P := C.g hG
      rw [L_X12_aNight_39, C1.1.2.2.2.1, if_pos (nI_le (by omega) (by omega))]
      exact Evs.pure ⟨hS1, hG, h39⟩
    | succ j ih =>
      intro p f M3 e hf hS1 hG h87 h39
      obtain ⟨f, rfl⟩ : ∃ f', f = f' + 1 := ⟨f - 1, by omega⟩
      have C1 : MP M3 P := C.g hG
      have eb : bt (zlots P T fog) p = !(zseen P T fog p == 0) := by
        unfold zlots; rw [zmk_bt _ (by omega) (by omega)]; simp; intro _; omega
      have hz : zhs P T fog p = zseen P T fog p := by unfold zhs; rw [if_pos (by omega)]
      rw [L_X12_aNight_39, C1.1.2.2.2.1, if_neg (nI_ge (by omega) (by omega)), nI_1, h39, zis (by omega), eb]
      by_cases z : zseen P T fog p = 0
      · rw [if_pos (by rw [z]; rfl)]
        refine ih (p + 1) f M3 (by omega) (by omega) ?_ hG h87 h39
        rw [zsls, hz, if_pos z]; exact hS1
      · rw [if_neg (by simp [z, bi])]
        refine Evs.bind (zm_sell hP C1 hS1 (p := p) (lt := zlt P T fog) (x := zhs P T fog p) (l := zlots P T fog) (by omega) (by rw [h87]; exact c87 p (by omega)) zhs_6 (by rw [hz]; exact z) h39 (zlots_8 hP) (zlt_ct hP T fog)) (fun M4 h4 => ?_)
        refine ih (p + 1) f M4 (by omega) (by omega) ?_ (hG.tr h4.2.1) (h4.2.2.1.trans h87) (h4.2.2.2.trans h39)
        rw [zsls, if_neg (by rw [hz]; exact z)]; exact h4.1
  refine Evs.bind (key (znp P) 0 FU M2 (by omega) (by unfold FU; omega) S2 G2 rfl c39) (fun M3 h3 => ?_)
  obtain ⟨S3, G3, h39⟩ := h3
  have e1 : (up M3 67 32 0) 67 29 = nI (t_n (zsls P (zhs P T fog) (zlt P T fog) T (znp P)).1) := by rw [up_app, if_neg (by omega)]; exact S3.1.n
  rw [e1, nI_1]
  refine Evs.pure ⟨⟨MT.of ?_ ?_ ?_ ?_ ?_ ?_ ?_, ?_, ?_, ?_⟩, ?_, G3.tr ⟨fun a x1 _ _ _ => by rw [up_ne x1, up_ne x1], fun k x1 _ x3 _ _ => by rw [up_app, if_neg (by omega), up_app, if_neg (by omega)]⟩⟩
  · rw [up_app, if_pos ⟨rfl, rfl⟩]; rfl
  · rw [up_app, if_neg (by omega), up_app, if_neg (by omega)]; exact S3.1.d
  · rw [up_app, if_neg (by omega), up_app, if_neg (by omega)]; exact S3.1.h
  · rw [up_app, if_neg (by omega), up_app, if_pos ⟨rfl, rfl⟩]; rfl
  · intro q hq; rw [up_ne (by omega), up_ne (by omega)]; exact S3.1.c hq
  · intro q hq; rw [up_ne (by omega), up_ne (by omega)]; exact S3.1.k hq
  · intro q hq i hi; rw [up_ne (by omega), up_ne (by omega)]; exact S3.1.w hq hi
  · rw [up_ne (by omega), up_ne (by omega)]; exact S3.2.1
  · rw [up_ne (by omega), up_ne (by omega)]; exact S3.2.2.1
  · rw [up_app, if_neg (by omega), up_app, if_neg (by omega)]; exact S3.2.2.2
  · rw [up_app, if_neg (by omega), up_app, if_neg (by omega)]; exact h39
end MNIGHT
