/-! ===== the rule WORTH, reckoned ===== -/
def zrk (sg a b : Int32) : Int32 :=
  if sg = -20 then a + b
  else if sg = -21 then a - b
  else if sg = -22 then a * b
  else if sg = -23 then (if b = 0 then 0 else a / b)
  else if sg = -24 then (if b ≤ a then 0 else 1)
  else if sg = -25 then (if a = b then 1 else 0)
  else if sg = -26 then (if a = 0 then 0 else if b = 0 then 0 else 1)
  else (if a = 0 then (if b = 0 then 0 else 1) else 1)
def zstp (sg : Int32) (ask : Nat → Int32) (q : (Nat → Int32) × Nat) : (Nat → Int32) × Nat :=
  if -20 < sg then (upd q.1 q.2 (if sg < 0 then ask ((-1) - sg).toNatClampNeg else sg), q.2 + 1)
  else if sg = -28 then (upd q.1 (q.2 - 1) (if q.1 (q.2 - 1) = 0 then 1 else 0), q.2)
  else (upd q.1 (q.2 - 2) (zrk sg (q.1 (q.2 - 2)) (q.1 (q.2 - 1))), q.2 - 1)
def zrun (cd ask : Nat → Int32) : Nat → (Nat → Int32) × Nat
  | 0 => (fun _ => 0, 0)
  | k + 1 => zstp (cd k) ask (zrun cd ask k)
def zval (cd ask : Nat → Int32) (n : Nat) : Int32 := (zrun cd ask n).1 0
theorem zsg8 {sg : Int32} (h1 : ¬ -20 < sg) (h2 : -28 < sg) : sg = -20 ∨ sg = -21 ∨ sg = -22 ∨ sg = -23 ∨ sg = -24 ∨ sg = -25 ∨ sg = -26 ∨ sg = -27 := by
  rw [Int32.lt_iff_toInt_lt] at h1 h2
  have e1 : (-20 : Int32).toInt = -20 := by decide
  have e2 : (-28 : Int32).toInt = -28 := by decide
  rw [e1] at h1
  rw [e2] at h2
  have k : ∀ n : Int32, ∀ z : Int, n.toInt = z → sg.toInt = z → sg = n := fun n z h q => Int32.toInt_inj.mp (by rw [h, q])
  have h3 : sg.toInt = -20 ∨ sg.toInt = -21 ∨ sg.toInt = -22 ∨ sg.toInt = -23 ∨ sg.toInt = -24 ∨ sg.toInt = -25 ∨ sg.toInt = -26 ∨ sg.toInt = -27 := by omega
  rcases h3 with h | h | h | h | h | h | h | h
  · exact Or.inl (k _ _ (by decide) h)
  · exact Or.inr (Or.inl (k _ _ (by decide) h))
  · exact Or.inr (Or.inr (Or.inl (k _ _ (by decide) h)))
  · exact Or.inr (Or.inr (Or.inr (Or.inl (k _ _ (by decide) h))))
  · exact Or.inr (Or.inr (Or.inr (Or.inr (Or.inl (k _ _ (by decide) h)))))
  · exact Or.inr (Or.inr (Or.inr (Or.inr (Or.inr (Or.inl (k _ _ (by decide) h))))))
  · exact Or.inr (Or.inr (Or.inr (Or.inr (Or.inr (Or.inr (Or.inl (k _ _ (by decide) h)))))))
  · exact Or.inr (Or.inr (Or.inr (Or.inr (Or.inr (Or.inr (Or.inr (k _ _ (by decide) h)))))))
theorem zsgv {sg : Int32} (h1 : -8 ≤ sg) (h2 : sg < 0) : ∃ j, j < 8 ∧ (-1) - sg = nI j := by
  rw [Int32.lt_iff_toInt_lt] at h2
  rw [Int32.le_iff_toInt_le] at h1
  have e1 : (-8 : Int32).toInt = -8 := by decide
  have e2 : (0 : Int32).toInt = 0 := by decide
  rw [e1] at h1
  rw [e2] at h2
  have k : ∀ n : Int32, ∀ z : Int, n.toInt = z → sg.toInt = z → sg = n := fun n z h q => Int32.toInt_inj.mp (by rw [h, q])
  have h3 : sg.toInt = -1 ∨ sg.toInt = -2 ∨ sg.toInt = -3 ∨ sg.toInt = -4 ∨ sg.toInt = -5 ∨ sg.toInt = -6 ∨ sg.toInt = -7 ∨ sg.toInt = -8 := by omega
  rcases h3 with h | h | h | h | h | h | h | h
  · exact ⟨0, by decide, by rw [k (-1) _ (by decide) h]; decide⟩
  · exact ⟨1, by decide, by rw [k (-2) _ (by decide) h]; decide⟩
  · exact ⟨2, by decide, by rw [k (-3) _ (by decide) h]; decide⟩
  · exact ⟨3, by decide, by rw [k (-4) _ (by decide) h]; decide⟩
  · exact ⟨4, by decide, by rw [k (-5) _ (by decide) h]; decide⟩
  · exact ⟨5, by decide, by rw [k (-6) _ (by decide) h]; decide⟩
  · exact ⟨6, by decide, by rw [k (-7) _ (by decide) h]; decide⟩
  · exact ⟨7, by decide, by rw [k (-8) _ (by decide) h]; decide⟩
theorem zrk_m {sg a b : Int32} (h1 : ¬ -20 < sg) (h2 : -28 < sg) : F_X12_reckon sg a b = some (zrk sg a b) := by
  rcases zsg8 h1 h2 with rfl | rfl | rfl | rfl | rfl | rfl | rfl | rfl
  · rfl
  · rfl
  · rfl
  · unfold F_X12_reckon zrk idv
    by_cases h : b = 0
    · simp [h]
    · simp [h]
  · rfl
  · rfl
  · unfold F_X12_reckon zrk
    by_cases h : a = 0 <;> by_cases h' : b = 0 <;> simp [h, h']
  · unfold F_X12_reckon zrk
    by_cases h : a = 0 <;> by_cases h' : b = 0 <;> simp [h, h']
theorem zrk_c {sg a b : Int32} (h1 : ¬ -20 < sg) (h2 : -28 < sg) : F_X10_joined (zcv sg) a b = some (zrk sg a b) ∧ zcv sg < 0 ∧ zcv sg < -8 ∧ ¬ zcv sg = -11 := by
  rcases zsg8 h1 h2 with rfl | rfl | rfl | rfl | rfl | rfl | rfl | rfl
  · exact ⟨rfl, by decide, by decide, by decide⟩
  · exact ⟨rfl, by decide, by decide, by decide⟩
  · exact ⟨rfl, by decide, by decide, by decide⟩
  · refine ⟨?_, by decide, by decide, by decide⟩
    have e : zcv (-23) = -19 := by decide
    rw [e]
    unfold F_X10_joined zrk idv
    by_cases h : b = 0
    · simp [h]
    · simp [h]
  · exact ⟨rfl, by decide, by decide, by decide⟩
  · exact ⟨rfl, by decide, by decide, by decide⟩
  · refine ⟨?_, by decide, by decide, by decide⟩
    have e : zcv (-26) = -13 := by decide
    rw [e]
    unfold F_X10_joined zrk
    by_cases h : a = 0 <;> by_cases h' : b = 0 <;> simp [h, h']
  · refine ⟨?_, by decide, by decide, by decide⟩
    have e : zcv (-27) = -12 := by decide
    rw [e]
    unfold F_X10_joined zrk
    by_cases h : a = 0 <;> by_cases h' : b = 0 <;> simp [h, h']
theorem zH_prev {cd : Nat → Int32} {k h : Nat} (e : zH cd (k + 1) = some h) : ∃ h0, zH cd k = some h0 ∧ zht (cd k) h0 = some h := Option.bind_eq_some_iff.mp e
theorem zH_down {cd : Nat → Int32} : ∀ {n h : Nat}, zH cd n = some h → ∀ k, k ≤ n → ∃ h0, zH cd k = some h0
  | 0, h, e, k, hk => ⟨h, by rw [show k = 0 by omega]; exact e⟩
  | n + 1, h, e, k, hk => by
    by_cases q : k = n + 1
    · exact ⟨h, by rw [q]; exact e⟩
    · obtain ⟨h0, e0, -⟩ := zH_prev e
      exact zH_down e0 k (by omega)
theorem zht_le {sg : Int32} {h0 h : Nat} (e : zht sg h0 = some h) (h2 : h0 ≤ 40) : h ≤ 40 := by
  unfold zht at e
  split at e
  · split at e
    · cases e; omega
    · cases e
  · split at e
    · split at e
      · cases e; omega
      · cases e
    · split at e
      · cases e; omega
      · cases e
theorem zH_le {cd : Nat → Int32} : ∀ {k h : Nat}, zH cd k = some h → h ≤ 40
  | 0, h, e => by cases e; omega
  | k + 1, h, e => by
    obtain ⟨h0, e0, e1⟩ := zH_prev e
    exact zht_le e1 (zH_le e0)
theorem zpush {M : Mem} {t h : Nat} {v : Int32} (e : M t 3 = nI h) (hh : h < 40) : F_X10_push t v M = up (up M (t + 2) h v) t 3 (nI (h + 1)) := by
  unfold F_X10_push
  rw [e, zput_at hh (by omega), up_app (a := t), if_neg (by omega), e, nI_1]
theorem zpop {M : Mem} {t h : Nat} (e : M t 3 = nI (h + 1)) (hh : h < 40) : F_X10_pop t M = (M (t + 2) h, up M t 3 (nI h)) := by
  unfold F_X10_pop
  rw [e, nI_pred, up_app (a := t), if_pos ⟨rfl, rfl⟩, zat_at hh (by omega), up_app, if_neg (by omega)]
/-- what a reckoning changes of the class's heap: t the rule -/
def Fw (t : Nat) (M M' : Mem) : Prop := (∀ a, a ≠ t → a ≠ t + 2 → M' a = M a) ∧ ∀ k, k ≠ 3 → M' t k = M t k
theorem Fw.rf {t : Nat} {M : Mem} : Fw t M M := ⟨fun _ _ _ => rfl, fun _ _ => rfl⟩
theorem Fw.tr {t : Nat} {M M1 M2 : Mem} (h : Fw t M M1) (h2 : Fw t M1 M2) : Fw t M M2 := ⟨fun a x y => (h2.1 a x y).trans (h.1 a x y), fun k x => (h2.2 k x).trans (h.2 k x)⟩
theorem Fw.h3 {t : Nat} {M : Mem} {v : Int32} : Fw t M (up M t 3 v) := ⟨fun a x _ => by rw [up_ne x], fun k x => by rw [up_app, if_neg (fun q => x q.2)]⟩
theorem Fw.st {t j : Nat} {M : Mem} {v : Int32} : Fw t M (up M (t + 2) j v) := ⟨fun a _ x => by rw [up_ne x], fun k _ => by rw [up_app, if_neg (by omega)]⟩
theorem upd_app {f : Nat → Int32} {k j : Nat} {v : Int32} : upd f k v j = if j = k then v else f j := rfl
theorem zc_of {M : Mem} {t a0 n : Nat} {cd ask : Nat → Int32} (h1 : M t 1 = nI n) (hcd : ∀ k, k < n → M (t + 1) k = zcv (cd k)) (hn : n ≤ 700) (hH : zH cd n = some 1) (ha : a0 ≠ t) (ha2 : a0 ≠ t + 2) (hask : ∀ j, j < 8 → M a0 j = ask j) :
    Evs (F_X10_of t a0 8 M) (fun r => r.1 = zval cd ask n ∧ Fw t M r.2) := by
  have key : ∀ j i f (M1 : Mem) h, i + j = n → j < f → zH cd i = some h → (zrun cd ask i).2 = h → Fw t M M1 → M1 t 3 = nI h → (∀ l, l < h → M1 (t + 2) l = (zrun cd ask i).1 l) →
      Evs (L_X10_of_7 t a0 8 f (nI i) M1) (fun M2 => M2 t 3 = nI 1 ∧ M2 (t + 2) 0 = zval cd ask n ∧ Fw t M M2) := by
    intro j
    induction j with
    | zero =>
      intro i f M1 h e hf eH eh hF h3 hs
      obtain ⟨f, rfl⟩ : ∃ f', f = f' + 1 := ⟨f - 1, by omega⟩
      obtain rfl : i = n := by omega
      obtain rfl : h = 1 := by rw [hH] at eH; exact (Option.some.inj eH).symm
      rw [L_X10_of_7, hF.2 1 (by omega), h1, if_pos (nI_le (by omega) (by omega))]
      exact Evs.pure ⟨h3, hs 0 (by omega), hF⟩
    | succ j ih =>
      intro i f M1 h e hf eH eh hF h3 hs
      obtain ⟨f, rfl⟩ : ∃ f', f = f' + 1 := ⟨f - 1, by omega⟩
      have hle := zH_le eH
      obtain ⟨h', eH'⟩ := zH_down hH (i + 1) (by omega)
      obtain ⟨h0, e0, e1⟩ := zH_prev eH'
      obtain rfl : h0 = h := by rw [e0] at eH; exact Option.some.inj eH
      rw [L_X10_of_7, hF.2 1 (by omega), h1, if_neg (nI_ge (by omega) (by omega)), if_neg (znge 700 700 rfl (by omega) (by omega)), zald (by omega) (by omega), zbs rfl, hF.1 (t + 1) (by omega) (by omega), hcd i (by omega)]
      have go : ∀ (M3 : Mem), Fw t M1 M3 → M3 t 3 = nI h' → (zrun cd ask (i + 1)).2 = h' → (∀ l, l < h' → M3 (t + 2) l = (zrun cd ask (i + 1)).1 l) → Evs (L_X10_of_7 t a0 8 f (nI i + 1) M3) (fun M2 => M2 t 3 = nI 1 ∧ M2 (t + 2) 0 = zval cd ask n ∧ Fw t M M2) := by
        intro M3 q1 q2 q3 q4
        rw [nI_1]
        exact ih (i + 1) f M3 h' (by omega) (by omega) eH' q3 (hF.tr q1) q2 q4
      have er : zrun cd ask (i + 1) = zstp (cd i) ask (zrun cd ask i) := rfl
      unfold zstp at er
      unfold zht at e1
      by_cases c1 : -20 < cd i
      · rw [if_pos c1] at e1 er
        have ec : zcv (cd i) = cd i := by unfold zcv; rw [if_pos c1]
        by_cases c2 : -8 ≤ cd i ∧ h0 < 40
        · rw [if_pos c2] at e1
          obtain rfl : h0 + 1 = h' := Option.some.inj e1
          have done : ∀ v, v = (if cd i < 0 then ask ((-1) - cd i).toNatClampNeg else cd i) → Evs (L_X10_of_7 t a0 8 f (nI i + 1) (F_X10_push t v M1)) (fun M2 => M2 t 3 = nI 1 ∧ M2 (t + 2) 0 = zval cd ask n ∧ Fw t M M2) := by
            intro v hv
            rw [zpush h3 c2.2]
            refine go _ (Fw.st.tr Fw.h3) ?_ ?_ ?_
            · rw [up_app, if_pos ⟨rfl, rfl⟩]
            · rw [er]; show (zrun cd ask i).2 + 1 = _; rw [eh]
            · intro l hl
              rw [er, up_app, if_neg (by omega), up_app, eh]
              show _ = upd _ _ _ l
              rw [upd_app]
              by_cases q : l = h0
              · subst q; rw [if_pos ⟨rfl, rfl⟩, if_pos rfl, hv]
              · rw [if_neg (by omega), if_neg q, hs l (by omega)]
          rw [ec]
          by_cases c3 : cd i < 0
          · rw [if_pos c3, if_neg (Int32.not_lt.mpr c2.1)]
            refine done _ ?_
            rw [if_pos c3]
            obtain ⟨j, hj, ej⟩ := zsgv c2.1 c3
            rw [ej, zat_at hj (by omega), hF.1 a0 ha ha2, hask j hj, nI_clamp (by omega)]
          · rw [if_neg c3]
            exact done _ (by rw [if_neg c3])
        · rw [if_neg c2] at e1; cases e1
      · rw [if_neg c1] at e1 er
        by_cases c2 : cd i = -28
        · rw [if_pos c2] at e1 er
          by_cases c3 : 1 ≤ h0
          · rw [if_pos c3] at e1
            obtain rfl : h0 = h' := Option.some.inj e1
            have ec : zcv (cd i) = -11 := by rw [c2]; decide
            obtain ⟨m, rfl⟩ : ∃ m, h0 = m + 1 := ⟨h0 - 1, by omega⟩
            rw [ec, if_pos (by decide), if_pos (by decide), if_pos rfl, zpop h3 (by omega)]
            dsimp only
            rw [zpush (h := m) (by rw [up_app, if_pos ⟨rfl, rfl⟩]) (by omega)]
            refine go _ (Fw.h3.tr (Fw.st.tr Fw.h3)) ?_ ?_ ?_
            · rw [up_app, if_pos ⟨rfl, rfl⟩]
            · rw [er]; exact eh
            · intro l hl
              rw [er, up_app, if_neg (by omega), up_app, eh]
              show _ = upd _ _ _ l
              rw [upd_app]
              by_cases q : l = m
              · subst q; rw [if_pos ⟨rfl, rfl⟩, hs l (by omega), if_pos (show l = l + 1 - 1 by omega)]; rfl
              · rw [if_neg (by omega), if_neg (by omega), up_app, if_neg (by omega), hs l (by omega)]
          · rw [if_neg c3] at e1; cases e1
        · rw [if_neg c2] at e1 er
          by_cases c3 : -28 < cd i ∧ 2 ≤ h0
          · rw [if_pos c3] at e1
            obtain rfl : h0 - 1 = h' := Option.some.inj e1
            obtain ⟨m, rfl⟩ : ∃ m, h0 = m + 2 := ⟨h0 - 2, by omega⟩
            have k0 := zrk_c (a := M1 (t + 2) m) (b := M1 (t + 2) (m + 1)) c1 c3.1
            rw [if_pos k0.2.1, if_pos k0.2.2.1, if_neg k0.2.2.2, zpop h3 (by omega)]
            dsimp only
            rw [zpop (M := up M1 t 3 (nI (m + 1))) (h := m) (by rw [up_app, if_pos ⟨rfl, rfl⟩]) (by omega)]
            dsimp only
            rw [show (up M1 t 3 (nI (m + 1))) (t + 2) m = M1 (t + 2) m by rw [up_app, if_neg (by omega)], k0.1, zbs rfl, zpush (h := m) (by rw [up_app, if_pos ⟨rfl, rfl⟩]) (by omega)]
            refine go _ (Fw.h3.tr (Fw.h3.tr (Fw.st.tr Fw.h3))) ?_ ?_ ?_
            · rw [up_app, if_pos ⟨rfl, rfl⟩]; rfl
            · rw [er]; show (zrun cd ask i).2 - 1 = _; rw [eh]
            · intro l hl
              rw [er, up_app, if_neg (by omega), up_app, eh]
              show _ = upd _ _ _ l
              rw [upd_app]
              by_cases q : l = m
              · subst q; rw [if_pos ⟨rfl, rfl⟩, if_pos (by omega), hs l (by omega), hs (l + 1) (by omega)]; rfl
              · rw [if_neg (by omega), if_neg (by omega), up_app, if_neg (by omega), up_app, if_neg (by omega), hs l (by omega)]
          · rw [if_neg c3] at e1; cases e1
  unfold F_X10_of
  refine Evs.bind (key n 0 FU (up M t 3 0) 0 (by omega) (by unfold FU; omega) rfl rfl Fw.h3 (by rw [up_app, if_pos ⟨rfl, rfl⟩]; rfl) (fun l hl => by omega)) ?_
  intro M2 h
  unfold J_X10_of_j114
  rw [zpop (h := 0) h.1 (by omega)]
  exact Evs.pure ⟨h.2.1, h.2.2.tr Fw.h3⟩
theorem zm_val {M : Mem} {n : Nat} {cd ask : Nat → Int32} (h1 : M 70 6 = nI n) (hcd : ∀ k, k < n → M 78 k = cd k) (hn : n ≤ 700) (hH : zH cd n = some 1) (hask : ∀ j, j < 8 → M 85 j = ask j) :
    Evs (F_X12_valueNow 67 M) (fun r => r.1 = zval cd ask n ∧ ∀ a, a ≠ 86 → r.2 a = M a) := by
  have key : ∀ j i f (M1 : Mem) h, i + j = n → j < f → zH cd i = some h → (zrun cd ask i).2 = h → (∀ a, a ≠ 86 → M1 a = M a) → (∀ l, l < h → M1 86 l = (zrun cd ask i).1 l) →
      Evs (L_X12_valueNow_4 67 f (nI h) (nI i) M1) (fun M2 => M2 86 0 = zval cd ask n ∧ ∀ a, a ≠ 86 → M2 a = M a) := by
    intro j
    induction j with
    | zero =>
      intro i f M1 h e hf eH eh hF hs
      obtain ⟨f, rfl⟩ : ∃ f', f = f' + 1 := ⟨f - 1, by omega⟩
      obtain rfl : i = n := by omega
      obtain rfl : h = 1 := by rw [hH] at eH; exact (Option.some.inj eH).symm
      rw [L_X12_valueNow_4, hF 70 (by omega), h1, if_pos (nI_le (by omega) (by omega))]
      exact Evs.pure ⟨hs 0 (by omega), hF⟩
    | succ j ih =>
      intro i f M1 h e hf eH eh hF hs
      obtain ⟨f, rfl⟩ : ∃ f', f = f' + 1 := ⟨f - 1, by omega⟩
      have hle := zH_le eH
      obtain ⟨h', eH'⟩ := zH_down hH (i + 1) (by omega)
      obtain ⟨h0, e0, e1⟩ := zH_prev eH'
      obtain rfl : h0 = h := by rw [e0] at eH; exact Option.some.inj eH
      rw [L_X12_valueNow_4, hF 70 (by omega), h1, if_neg (nI_ge (by omega) (by omega)), zald (by omega) (by omega), zbs rfl, hF 78 (by omega), hcd i (by omega)]
      have go : ∀ (M3 : Mem), (∀ a, a ≠ 86 → M3 a = M1 a) → (zrun cd ask (i + 1)).2 = h' → (∀ l, l < h' → M3 86 l = (zrun cd ask (i + 1)).1 l) → Evs (L_X12_valueNow_4 67 f (nI h') (nI i + 1) M3) (fun M2 => M2 86 0 = zval cd ask n ∧ ∀ a, a ≠ 86 → M2 a = M a) := by
        intro M3 q1 q3 q4
        rw [nI_1]
        exact ih (i + 1) f M3 h' (by omega) (by omega) eH' q3 (fun a x => (q1 a x).trans (hF a x)) q4
      have er : zrun cd ask (i + 1) = zstp (cd i) ask (zrun cd ask i) := rfl
      unfold zstp at er
      unfold zht at e1
      by_cases c1 : -20 < cd i
      · rw [if_pos c1] at e1 er
        rw [if_neg (Int32.not_le.mpr c1)]
        by_cases c2 : -8 ≤ cd i ∧ h0 < 40
        · rw [if_pos c2] at e1
          obtain rfl : h0 + 1 = h' := Option.some.inj e1
          have done : ∀ v, v = (if cd i < 0 then ask ((-1) - cd i).toNatClampNeg else cd i) → Evs (J_X12_valueNow_j49 67 (L_X12_valueNow_4 67 f) (nI h0) (nI i) (nI h0) v M1) (fun M2 => M2 86 0 = zval cd ask n ∧ ∀ a, a ≠ 86 → M2 a = M a) := by
            intro v hv
            unfold J_X12_valueNow_j49
            rw [zast (by omega) (by omega), zbs rfl, nI_1]
            refine go _ (fun a x => by rw [up_ne x]) ?_ ?_
            · rw [er]; show (zrun cd ask i).2 + 1 = _; rw [eh]
            · intro l hl
              rw [er, up_app, eh]
              show _ = upd _ _ _ l
              rw [upd_app]
              by_cases q : l = h0
              · subst q; rw [if_pos ⟨rfl, rfl⟩, if_pos rfl, hv]
              · rw [if_neg (by omega), if_neg q, hs l (by omega)]
          by_cases c3 : cd i < 0
          · rw [if_pos c3]
            obtain ⟨j, hj, ej⟩ := zsgv c2.1 c3
            rw [ej, zald hj (by omega), zbs rfl]
            refine done _ ?_
            rw [if_pos c3, ej, nI_clamp (by omega), hF 85 (by omega), hask j hj]
          · rw [if_neg c3]
            exact done _ (by rw [if_neg c3])
        · rw [if_neg c2] at e1; cases e1
      · rw [if_neg c1] at e1 er
        rw [if_pos (Int32.not_lt.mp c1)]
        by_cases c2 : cd i = -28
        · rw [if_pos c2] at e1 er
          rw [if_pos c2]
          by_cases c3 : 1 ≤ h0
          · rw [if_pos c3] at e1
            obtain rfl : h0 = h' := Option.some.inj e1
            obtain ⟨m, rfl⟩ : ∃ m, h0 = m + 1 := ⟨h0 - 1, by omega⟩
            rw [nI_pred, zald (by omega) (by omega), zbs rfl, zast (by omega) (by omega), zbs rfl]
            refine go _ (fun a x => by rw [up_ne x]) ?_ ?_
            · rw [er]; exact eh
            · intro l hl
              rw [er, up_app, eh]
              show _ = upd _ _ _ l
              rw [upd_app]
              by_cases q : l = m
              · subst q; rw [if_pos ⟨rfl, rfl⟩, hs l (by omega), if_pos (show l = l + 1 - 1 by omega)]; rfl
              · rw [if_neg (by omega), if_neg (by omega), hs l (by omega)]
          · rw [if_neg c3] at e1; cases e1
        · rw [if_neg c2] at e1 er
          rw [if_neg c2]
          by_cases c3 : -28 < cd i ∧ 2 ≤ h0
          · rw [if_pos c3] at e1
            obtain rfl : h0 - 1 = h' := Option.some.inj e1
            obtain ⟨m, rfl⟩ : ∃ m, h0 = m + 2 := ⟨h0 - 2, by omega⟩
            have em : nI (m + 2) + (-1) = nI (m + 1) := by rw [← Int32.sub_eq_add_neg]; exact nI_pred (m + 1)
            rw [em, nI_pred, zald (by omega) (by omega), zbs rfl, zald (by omega) (by omega), zbs rfl, zrk_m c1 c3.1, zbs rfl, zast (by omega) (by omega), zbs rfl]
            refine go _ (fun a x => by rw [up_ne x]) ?_ ?_
            · rw [er]; show (zrun cd ask i).2 - 1 = _; rw [eh]
            · intro l hl
              rw [er, up_app, eh]
              show _ = upd _ _ _ l
              rw [upd_app]
              by_cases q : l = m
              · subst q; rw [if_pos ⟨rfl, rfl⟩, if_pos (by omega)]; show zrk _ (M1 86 l) (M1 86 (l + 1)) = _; rw [hs l (by omega), hs (l + 1) (by omega)]; rfl
              · rw [if_neg (by omega), if_neg (by omega), hs l (by omega)]
          · rw [if_neg c3] at e1; cases e1
  unfold F_X12_valueNow
  refine Evs.bind (key n 0 FU M 0 (by omega) (by unfold FU; omega) rfl rfl (fun _ _ => rfl) (fun l hl => by omega)) ?_
  intro M2 h
  exact Evs.pure ⟨h.1, h.2⟩
