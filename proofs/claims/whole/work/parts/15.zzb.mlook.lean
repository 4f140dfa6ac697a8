/-! ===== look, the model's ===== -/
section MLOOK
variable {M : Mem} {w : Nat} {Z : Zs}
/-- but for the working town, its walks and what is noted all stands -/
def Gv (M M' : Mem) : Prop := (∀ a, a ≠ 67 → a ≠ 81 → a ≠ 82 → a ≠ 83 → (a < 85 ∨ 89 < a) → a ≠ 98 → M' a = M a) ∧ ∀ k, k ≠ 29 → k ≠ 30 → k ≠ 31 → k ≠ 32 → k ≠ 39 → k ≠ 42 → M' 67 k = M 67 k
theorem Gv.rf : Gv M M := ⟨fun _ _ _ _ _ _ _ => rfl, fun _ _ _ _ _ _ _ => rfl⟩
theorem Gv.tr {M1 M2 : Mem} (h : Gv M M1) (h2 : Gv M1 M2) : Gv M M2 := ⟨fun a x1 x2 x3 x4 x5 x6 => (h2.1 a x1 x2 x3 x4 x5 x6).trans (h.1 a x1 x2 x3 x4 x5 x6), fun k x1 x2 x3 x4 x5 x6 => (h2.2 k x1 x2 x3 x4 x5 x6).trans (h.2 k x1 x2 x3 x4 x5 x6)⟩
theorem Gm.v {M' : Mem} (h : Gm M M') : Gv M M' := ⟨fun a x1 x2 x3 _ x5 _ => h.1 a x1 x2 x3 x5, fun k x1 x2 _ x4 x5 x6 => h.2 k x1 x2 x4 x5 x6⟩
theorem Gv.cell {a j : Nat} {v : Int32} (ha : a = 83 ∨ a = 98) : Gv M (up M a j v) := ⟨fun b x1 x2 x3 x4 x5 x6 => up_ne (by omega), fun k _ _ _ _ _ _ => by rw [up_ne (by omega)]⟩
theorem Gv.un {M' : Mem} {r : Nat → Int32} (h : Al mloc 60 r M (fun _ => True) M') : Gv M M' := ⟨fun b x1 x2 x3 x4 _ _ => h.cell (fun k _ => by have := mloc_cell k; omega), fun k x1 x2 x3 x4 _ _ => h.2 67 k (fun i hi e => by unfold mloc at e; (repeat' split at e) <;> simp at e <;> omega)⟩
theorem ydec : ∀ p, p < 7 → ∀ i, i < 6 → ∀ s, s < 8 → nI (yc (p, i, s)) / 100 = nI p ∧ irem (nI (yc (p, i, s)) / 10) 10 = nI i ∧ irem (nI (yc (p, i, s))) 10 = nI s := by decide +kernel
/-- what is noted of the first n fits, and of the first k nights of the next -/
def NT (P : Pl) (T : Tn) (L : List (Nat × Nat × Nat)) (M : Mem) (n : Nat) : Prop := ∀ j, j < n → ∀ k, k < 12 → M 98 (12 * j + k) = nI (yg P T L k j)
theorem zm_look84 (hP : PW (z_P Z)) {T : Tn} (hW : TW9 (z_P Z) T) (h9 : t_n T ≤ 999) (C : MP M (z_P Z)) (hT : MT (mrow M) T) (h35 : M 67 35 = -1) {p0 : Int32} {n : Nat} (hn : n < 336) : Evs (L_X12_look_84 67 p0 (nI n) FU 0 M) (fun M' => Gv M M' ∧ (∀ k, k < 12 → M' 98 (12 * n + k) = nI (yl (z_P Z) T k)) ∧ ∀ i, i < 12 * n → M' 98 i = M 98 i) := by
  have h7 := hP.2.2.1
  have key : ∀ j k f (N : Mem), k + j = 12 → j < f → MT (mrow N) (zgo (z_P Z) T k) → Gv M N → (∀ i, i < k → N 98 (12 * n + i) = nI (yl (z_P Z) T i)) → (∀ i, i < 12 * n → N 98 i = M 98 i) → Evs (L_X12_look_84 67 p0 (nI n) f (nI k) N) (fun M' => Gv M M' ∧ (∀ k, k < 12 → M' 98 (12 * n + k) = nI (yl (z_P Z) T k)) ∧ ∀ i, i < 12 * n → M' 98 i = M 98 i) := by
    intro j
    induction j with
    | zero =>
      intro k f N e hf a1 a2 a3 a4
      obtain ⟨f, rfl⟩ : ∃ f', f = f' + 1 := ⟨f - 1, by omega⟩
      obtain rfl : k = 12 := by omega
      rw [L_X12_look_84, if_pos (by decide)]
      exact Evs.pure ⟨a2, a3, a4⟩
    | succ j ih =>
      intro k f N e hf a1 a2 a3 a4
      obtain ⟨f, rfl⟩ : ∃ f', f = f' + 1 := ⟨f - 1, by omega⟩
      have kk := zgo_k (T := T) hP k
      rw [L_X12_look_84, if_neg (znge 12 12 rfl (by omega) (by omega))]
      have hf9 := zfog_le hP (t_n T + k)
      have CN : MP N (z_P Z) := C.of (fun a _ _ => a2.1 a (by omega) (by omega) (by omega) (by omega) (by omega) (by omega))
      refine Evs.bind (zm_night hP CN a1 (kk.2.2.2.2.1 hW (by omega)) (fog := zfog (z_P Z) (t_n T + k)) (by rw [← kk.1]; exact zm_fog hP CN a1 (by rw [kk.1]; omega) (by rw [a2.2 35 (by omega) (by omega) (by omega) (by omega) (by omega) (by omega)]; exact h35)) (by omega)) (fun N2 h2 => ?_)
      rw [show (12 : Int32) * nI n + nI k = nI (12 * n + k) from by rw [show (12 : Int32) = nI 12 from rfl, zmul, nI_add], show ast N2 (67 + 31) 4032 (nI (12 * n + k)) (N2 67 39) = some (up N2 98 (12 * n + k) (N2 67 39)) from zast (by omega) (by omega), zbs rfl, nI_1]
      have e98 : N2 98 = N 98 := h2.2.2.1 98 (by omega) (by omega) (by omega) (by omega)
      refine ih (k + 1) f _ (by omega) (by omega) ?_ ((a2.tr h2.2.2.v).tr (Gv.cell (by omega))) (fun i hi => ?_) (fun i hi => ?_)
      · rw [mrow_of (M := N2) (fun k _ _ => by rw [up_ne (by omega)]) (up_ne (by omega)) (up_ne (by omega)) (up_ne (by omega))]
        exact h2.1.1
      · rw [up_app]
        by_cases q : i = k
        · rw [if_pos ⟨rfl, by omega⟩, h2.2.1, zlots_go hP k, q]
          exact ymk_z _ _ (by omega)
        · rw [if_neg (by omega), e98]; exact a3 i (by omega)
      · rw [up_app, if_neg (by omega), e98]; exact a4 i hi
  exact key 12 0 FU M (by omega) (by decide) hT Gv.rf (fun i hi => by omega) (fun i _ => rfl)
theorem zm_look35 (hz : ZW Z) {r : Nat → Int32} (hr : MT r (b_t (z_B Z))) {L : List (Nat × Nat × Nat)} (hL : L.length ≤ 336) (hM : ∀ e, e ∈ L → e.1 < 7 ∧ e.2.1 < 6 ∧ e.2.2 < zns (z_P Z)) (C : MP M (z_P Z)) (h35 : M 67 35 = -1) (hTL : TL M L) (h90 : ∀ k, k < 60 → M 90 k = r k) (h0 : ∀ k, k < 60 → mrow M k = r k) {p0 : Int32} : Evs (L_X12_look_35 67 p0 FU 0 M) (fun M' => Gv M M' ∧ (∀ k, k < 60 → mrow M' k = r k) ∧ NT (z_P Z) (b_t (z_B Z)) L M' L.length) := by
  have hP := hz.1
  have h8 := hP.1.2
  obtain ⟨hTW, hTC, h9⟩ := hz.2.1.1
  have key : ∀ j n f (N : Mem), n + j = L.length → j < f → Gv M N → (∀ k, k < 60 → mrow N k = r k) → NT (z_P Z) (b_t (z_B Z)) L N n → Evs (L_X12_look_35 67 p0 f (nI n) N) (fun M' => Gv M M' ∧ (∀ k, k < 60 → mrow M' k = r k) ∧ NT (z_P Z) (b_t (z_B Z)) L M' L.length) := by
    intro j
    induction j with
    | zero =>
      intro n f N e hf a1 a2 a3
      obtain ⟨f, rfl⟩ : ∃ f', f = f' + 1 := ⟨f - 1, by omega⟩
      obtain rfl : n = L.length := by omega
      rw [L_X12_look_35, show N 67 52 = _ from (a1.2 52 (by omega) (by omega) (by omega) (by omega) (by omega) (by omega)).trans hTL.1, if_pos (nI_le (by omega) (by omega))]
      exact Evs.pure ⟨a1, a2, a3⟩
    | succ j ih =>
      intro n f N e hf a1 a2 a3
      obtain ⟨f, rfl⟩ : ∃ f', f = f' + 1 := ⟨f - 1, by omega⟩
      have hn : n < L.length := by omega
      have hLn : L[n]? = some L[n] := List.getElem?_eq_getElem hn
      have hmem := hM L[n] (List.getElem_mem hn)
      have hgn : ∀ k, yg (z_P Z) (b_t (z_B Z)) L k n = yl (z_P Z) (yT (b_t (z_B Z)) L[n]) k := fun k => yg_at hLn
      have h97 : N 97 n = nI (yc L[n]) := by rw [a1.1 97 (by omega) (by omega) (by omega) (by omega) (by omega) (by omega)]; exact hTL.2 n _ hLn
      revert hmem hgn h97
      generalize L[n] = e0
      obtain ⟨p, i, s⟩ := e0
      intro hmem hgn h97
      obtain ⟨hp, hi, hs⟩ := hmem
      have hp' : p < 7 := hp
      have hi' : i < 6 := hi
      have hs' : s < zns (z_P Z) := hs
      have hd := ydec p hp' i hi' s (by omega)
      rw [L_X12_look_35, show N 67 52 = _ from (a1.2 52 (by omega) (by omega) (by omega) (by omega) (by omega) (by omega)).trans hTL.1, if_neg (nI_ge (by omega) (by omega))]
      rw [show ald N (67 + 30) 336 (nI n) = some (nI (yc (p, i, s))) from (zald (by omega) (by omega)).trans (congrArg some h97)]
      rw [zbs rfl, zbs rfl, zbs rfl, hd.1, hd.2.1, hd.2.2, z6, nI_add, show ast N (67 + 16) 42 (nI (6 * p + i)) (nI s) = some (up N 83 (6 * p + i) (nI s)) from zast (by omega) (by omega), zbs rfl]
      have hTN : MT (mrow N) (b_t (z_B Z)) := hr.cong a2
      have hT1 : MT (mrow (up N 83 (6 * p + i) (nI s))) (yT (b_t (z_B Z)) (p, i, s)) := hTN.tw hp' hi'
      have b1 : Gv M (up N 83 (6 * p + i) (nI s)) := a1.tr (Gv.cell (by omega))
      have e98 : (up N 83 (6 * p + i) (nI s)) 98 = N 98 := up_ne (by omega)
      generalize up N 83 (6 * p + i) (nI s) = N1 at hT1 b1 e98 ⊢
      refine Evs.bind (zm_look84 (Z := Z) hP (zTw_W hTW hs') (by exact h9) (C.of (fun a _ _ => b1.1 a (by omega) (by omega) (by omega) (by omega) (by omega) (by omega))) hT1 (by rw [b1.2 35 (by omega) (by omega) (by omega) (by omega) (by omega) (by omega)]; exact h35) (by omega)) (fun N2 h2 => ?_)
      obtain ⟨c1, c2, c3⟩ := h2
      obtain ⟨N3, e3, h3⟩ := zm_unpack (M := N2) (a := 90) (n := 60) (f := 0) (by omega) (by omega) (by omega)
      rw [zbs (show F_X12_unpack 67 (67 + 23) 60 0 N2 = some N3 from e3), nI_1]
      have d1 := (b1.tr c1).tr (Gv.un h3)
      refine ih (n + 1) f N3 (by omega) (by omega) d1 (fun k hk => ?_) (fun j hj k hk => ?_)
      · have m := h3.1 k hk trivial
        have m2 : N3 (mloc k).1 (mloc k).2 = mrow N3 k := by
          unfold mloc mrow
          repeat' split
          all_goals rfl
        rw [← m2, m]
        show N2 90 (0 + k) = r k
        rw [Nat.zero_add, (b1.tr c1).1 90 (by omega) (by omega) (by omega) (by omega) (by omega) (by omega)]
        exact h90 k hk
      · have e3 : N3 98 = N2 98 := h3.cell (fun k _ => by have := mloc_cell k; omega)
        rw [e3]
        by_cases q : j = n
        · subst q; rw [hgn k]; exact c2 k hk
        · rw [c3 _ (by omega), e98]; exact a3 j (by omega) k hk
  exact key L.length 0 FU M (by omega) (by unfold FU; omega) Gv.rf h0 (fun j hj => by omega)
theorem zm_unlike {L : List (Nat × Nat × Nat)} (h7 : znp (z_P Z) ≤ 7) (hL : L.length ≤ 336) (h52 : M 67 52 = nI L.length) (hN : NT (z_P Z) (b_t (z_B Z)) L M L.length) {k : Nat} (hk : k < 12) : F_X12_unlike 67 (nI k) M = some (nI (yU (z_P Z) (b_t (z_B Z)) L k)) := by
  rw [yU_di h7]
  have hlt : ∀ j, yg (z_P Z) (b_t (z_B Z)) L k j < 128 := yg_lt h7
  have hN' : ∀ j, j < L.length → M 98 (12 * j + k) = nI (yg (z_P Z) (b_t (z_B Z)) L k j) := fun j hj => hN j hj k hk
  generalize yg (z_P Z) (b_t (z_B Z)) L k = g at hlt hN' ⊢
  have hal : ∀ j, j < L.length → ald M (67 + 31) 4032 ((12 : Int32) * nI j + nI k) = some (nI (g j)) := fun j hj => by
    rw [show (12 : Int32) * nI j + nI k = nI (12 * j + k) from by rw [show (12 : Int32) = nI 12 from rfl, zmul, nI_add]]
    exact (zald (by omega) (by omega)).trans (congrArg some (hN' j hj))
  have k18 : ∀ (x2 : Int32) n, n < L.length → ∀ j i f, i + j = n → j < f → L_X12_unlike_18 67 (nI k) x2 (nI n) M f (if yany g i (g n) = true then 0 else 1) (nI i) = some (if yany g n (g n) = true then 0 else 1) := by
    intro x2 n hn j
    induction j with
    | zero =>
      intro i f e hf
      obtain ⟨f, rfl⟩ : ∃ f', f = f' + 1 := ⟨f - 1, by omega⟩
      obtain rfl : i = n := by omega
      rw [L_X12_unlike_18, if_pos (nI_le (by omega) (by omega))]
    | succ j ih =>
      intro i f e hf
      obtain ⟨f, rfl⟩ : ∃ f', f = f' + 1 := ⟨f - 1, by omega⟩
      have ih' := ih (i + 1) f (by omega) (by omega)
      rw [yany] at ih'
      rw [L_X12_unlike_18, if_neg (nI_ge (by omega) (by omega))]
      by_cases q : yany g i (g n) = true
      · rw [if_pos q, if_pos rfl, if_pos (yany_mono q (by omega))]
      · rw [if_neg q, if_neg (by decide), hal i (by omega), zbs rfl, hal n hn, zbs rfl, nI_1]
        have q' : yany g i (g n) = false := by simpa using q
        rw [q', Bool.false_or] at ih'
        by_cases e : g i = g n
        · rw [if_pos (by rw [e])]
          rw [if_pos (decide_eq_true e)] at ih'
          exact ih'
        · rw [if_neg (fun z => e ((nI_eq (by have := hlt i; omega) (by have := hlt n; omega)).mp z))]
          rw [if_neg (by simpa using e)] at ih'
          exact ih'
  have key : ∀ j n f, n + j = L.length → j < f → L_X12_unlike_4 67 (nI k) M f (nI (ydi g n)) (nI n) = some (nI (ydi g L.length)) := by
    intro j
    induction j with
    | zero =>
      intro n f e hf
      obtain ⟨f, rfl⟩ : ∃ f', f = f' + 1 := ⟨f - 1, by omega⟩
      obtain rfl : n = L.length := by omega
      rw [L_X12_unlike_4, h52, if_pos (nI_le (by omega) (by omega))]
    | succ j ih =>
      intro n f e hf
      obtain ⟨f, rfl⟩ : ∃ f', f = f' + 1 := ⟨f - 1, by omega⟩
      have ih' := ih (n + 1) f (by omega) (by omega)
      rw [ydi] at ih'
      rw [L_X12_unlike_4, h52, if_neg (nI_ge (by omega) (by omega)), show L_X12_unlike_18 67 (nI k) (nI (ydi g n)) (nI n) M FU 1 0 = some (if yany g n (g n) = true then 0 else 1) from k18 _ n (by omega) n 0 FU (by omega) (by unfold FU; omega), zbs rfl]
      unfold J_X12_unlike_j68
      rw [nI_1, ← ih']
      congr 1
      by_cases q : yany g n (g n) = true
      · rw [if_pos q, if_pos rfl, if_pos q]; exact Int32.add_zero _
      · rw [if_neg q, if_neg (by decide), if_neg q, nI_1]
  unfold F_X12_unlike
  rw [show L_X12_unlike_4 67 (nI k) M FU 0 0 = some (nI (ydi g L.length)) from key L.length 0 FU (by omega) (by unfold FU; omega), zbs rfl]
theorem zm_look137 {L : List (Nat × Nat × Nat)} (h7 : znp (z_P Z) ≤ 7) (hL : L.length ≤ 336) (h52 : M 67 52 = nI L.length) (hN : NT (z_P Z) (b_t (z_B Z)) L M L.length) {p0 : Int32} : L_X12_look_137 67 p0 M FU (-1) 0 0 = some (yat (yU (z_P Z) (b_t (z_B Z)) L) 12, nI (ymx (yU (z_P Z) (b_t (z_B Z)) L) 12)) := by
  have key : ∀ j k f, k + j = 12 → j < f → L_X12_look_137 67 p0 M f (yat (yU (z_P Z) (b_t (z_B Z)) L) k) (nI (ymx (yU (z_P Z) (b_t (z_B Z)) L) k)) (nI k) = some (yat (yU (z_P Z) (b_t (z_B Z)) L) 12, nI (ymx (yU (z_P Z) (b_t (z_B Z)) L) 12)) := by
    intro j
    induction j with
    | zero =>
      intro k f e hf
      obtain ⟨f, rfl⟩ : ∃ f', f = f' + 1 := ⟨f - 1, by omega⟩
      obtain rfl : k = 12 := by omega
      rw [L_X12_look_137, if_pos (by decide)]
    | succ j ih =>
      intro k f e hf
      obtain ⟨f, rfl⟩ : ∃ f', f = f' + 1 := ⟨f - 1, by omega⟩
      have l1 := ymx_le (yU_le (z_P Z) (b_t (z_B Z)) L) k
      have l2 := yU_le (z_P Z) (b_t (z_B Z)) L k
      have ih' := ih (k + 1) f (by omega) (by omega)
      rw [ymx, yat] at ih'
      rw [L_X12_look_137, if_neg (znge 12 12 rfl (by omega) (by omega)), zm_unlike h7 hL h52 hN (by omega), zbs rfl, nI_1]
      by_cases q : ymx (yU (z_P Z) (b_t (z_B Z)) L) k < yU (z_P Z) (b_t (z_B Z)) L k
      · rw [if_pos (nI_lt q (by omega))]
        rw [if_pos q, if_pos q] at ih'; exact ih'
      · rw [if_neg (nI_nlt (by omega) (by omega))]
        rw [if_neg q, if_neg q] at ih'; exact ih'
  exact key 12 0 FU (by omega) (by decide)
/-- the model's two answers -/
theorem zm_look (hz : ZW Z) (hm : RM Z M) {p0 : Int32} : Evs (F_X12_tellFits 67 M) (fun q3 => Evs (F_X12_pack 67 (67 + 23) 60 0 q3) (fun q4 => Evs (L_X12_look_35 67 p0 FU 0 q4) (fun s17 => L_X12_look_137 67 p0 s17 FU (-1) 0 0 = some (yat (yU (z_P Z) (b_t (z_B Z)) (yL (z_P Z) (b_t (z_B Z)) (z_B Z) (znp (z_P Z)))) 12, nI (ymx (yU (z_P Z) (b_t (z_B Z)) (yL (z_P Z) (b_t (z_B Z)) (z_B Z) (znp (z_P Z)))) 12)) ∧ Gz M s17 ∧ s17 67 2 = M 67 2))) := by
  have hP := hz.1
  have h7 := hP.2.2.1
  have hL := yL_len (T := b_t (z_B Z)) (B := z_B Z) hP.1.2 (fun q h => (hP.2.2.2.2.2.2.2.1 q h).2) (znp (z_P Z)) (Nat.le_refl _)
  refine (zm_fits hz hm).mono (fun M1 h1 => ?_)
  obtain ⟨t1, t2, t3⟩ := h1
  have hm1 := hm.keep t2
  obtain ⟨M2, e2, h2⟩ := zm_pack (M := M1) (a := 90) (n := 60) (f := 0) (by omega) (by omega) (by omega)
  refine Evs.of e2 ?_
  have c1 : ∀ b, b ≠ 90 → M2 b = M1 b := fun b hb => h2.cell (fun k _ => by simp [sloc]; omega)
  have e0 : ∀ k, k < 60 → mrow M2 k = mrow M1 k := fun k _ => by rw [mrow_of (M := M1) (fun k _ _ => by rw [c1 67 (by omega)]) (c1 _ (by omega)) (c1 _ (by omega)) (c1 _ (by omega))]
  refine (zm_look35 hz hm1.T (by omega) (fun e he => ?_) (hm1.P.of (fun a _ _ => c1 a (by omega))) (by rw [c1 67 (by omega)]; exact hm1.2.2.2.2.2.1) (t1.of (by rw [c1 67 (by omega)]) (c1 97 (by omega))) (fun k hk => ?_) e0).mono (fun M3 h3 => ?_)
  · have := yL_mem he
    have := (hP.2.2.2.2.2.2.2.1 e.1 (by omega)).2
    omega
  · have := h2.1 k hk trivial
    simp only [sloc, Nat.zero_add] at this
    exact this
  · obtain ⟨d1, d2, d3⟩ := h3
    refine ⟨zm_look137 h7 (by omega) ?_ d3, t2.tr ⟨fun a x1 x2 x3 x4 x5 x6 x7 x8 x9 => ?_, fun k hk => ?_, fun k hk => d2 k hk⟩, ?_⟩
    · rw [d1.2 52 (by omega) (by omega) (by omega) (by omega) (by omega) (by omega), c1 67 (by omega)]; exact t1.1
    · rw [d1.1 a x1 x2 x3 x4 (by omega) x8, c1 a (by omega)]
    · rw [d1.2 k (by omega) (by omega) (by omega) (by omega) (by omega) (by omega), c1 67 (by omega)]
    · rw [d1.2 2 (by omega) (by omega) (by omega) (by omega) (by omega) (by omega), c1 67 (by omega)]; exact t3
end MLOOK
theorem agr_look (p : Int32) : Agr (F_L_look 0 106 p) (F_X12_look 67 p) := by
  refine agr_read (fun w Z M hz hc => ?_)
  have hw := hc.ww
  rcases znum p 2 (by omega) with ⟨i, hi, rfl⟩ | hx
  · obtain ⟨M', e0, c1, c2, c3⟩ := zc_scan hz hc
    have F : Fz w M M' := ⟨fun a x => c3 a (by omega) (by omega) (by omega), by rw [c3 _ (by omega) (by omega) (by omega)]⟩
    refine ⟨.inr (if i = 0 then yat (yU (z_P Z) (b_t (z_B Z)) (yL (z_P Z) (b_t (z_B Z)) (z_B Z) (znp (z_P Z)))) 12 else nI (ymx (yU (z_P Z) (b_t (z_B Z)) (yL (z_P Z) (b_t (z_B Z)) (z_B Z) (znp (z_P Z)))) 12)), CL.val (M' := M') ?_ F, fun M1 hm => ?_⟩
    · have e : F_X11_look 0 (nI i) M = some (Sum.inr ((if i = 0 then yat (yU (z_P Z) (b_t (z_B Z)) (yL (z_P Z) (b_t (z_B Z)) (z_B Z) (znp (z_P Z)))) 12 else nI (ymx (yU (z_P Z) (b_t (z_B Z)) (yL (z_P Z) (b_t (z_B Z)) (z_B Z) (znp (z_P Z)))) 12)), M')) := by
        unfold F_X11_look
        rw [show F_X11_needWhat (nI i) 2 M = Sum.inr () from zwhat1 (n := 2) hi (by omega)]
        simp only [Sum.elim_inr]
        rw [hc.grd, zbs rfl, zbs (show F_X4_scan (0 + 61) w ((0 + 24) + 1) ((0 + 24) + 7) M = some M' from e0)]
        obtain rfl | rfl : i = 0 ∨ i = 1 := by omega
        · rw [if_pos (by decide), zbs (show F_X4_nightToLook (0 + 61) M' = _ from zc_look c1), if_pos rfl]
        · rw [if_neg (by decide), zbs (show F_X4_mostUnlike (0 + 61) M' = _ from zc_mostU c1), if_neg (by omega)]
      unfold F_L_look
      rw [zbs e]; rfl
    · obtain ⟨hm0, G0, c0⟩ := zm_0 hm
      unfold F_X12_look
      generalize up M1 67 2 0 = M0 at hm0 G0 c0 ⊢
      rw [if_neg (nI_pos (by omega)), if_pos (zlel 1 1 rfl (by omega) (by omega))]
      refine Evs.bind (zm_look hz hm0) (fun q3 h3 => Evs.bind h3 (fun q4 h4 => Evs.bind h4 (fun s17 h5 => ?_)))
      obtain ⟨g1, g2, g3⟩ := h5
      rw [zbs g1]
      obtain rfl | rfl : i = 0 ∨ i = 1 := by omega
      · rw [if_pos (show nI 0 = 0 by decide), if_pos (show (0 : Nat) = 0 from rfl)]
        exact Evs.pure (ML.val rfl (g3.trans c0) (G0.tr g2))
      · rw [if_neg (show ¬ nI 1 = 0 by decide), if_neg (show ¬ (1 : Nat) = 0 by omega)]
        exact Evs.pure (ML.val rfl (g3.trans c0) (G0.tr g2))
  · refine ⟨.inl 1, CL.thr (by omega) ?_, fun M1 hm => ?_⟩
    · have e : F_X11_look 0 p M = some (Sum.inl 1) := by
        unfold F_X11_look
        rw [show F_X11_needWhat p 2 M = Sum.inl 1 from zwhat0 (n := 2) hx]; rfl
      unfold F_L_look
      rw [zbs e]; rfl
    · obtain ⟨hm0, G0, c0⟩ := zm_0 hm
      unfold F_X12_look
      generalize up M1 67 2 0 = M0 at hm0 G0 c0 ⊢
      rcases hx with hx | hx
      · rw [if_pos hx]
        exact Evs.pure (zm_fail (k := 1) G0)
      · rw [if_neg hx.1, if_neg (fun z => hx.2 (Int32.lt_of_le_of_lt z (show (1 : Int32) < nI 2 by decide)))]
        exact Evs.pure (zm_fail (k := 1) G0)
