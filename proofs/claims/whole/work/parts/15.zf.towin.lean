/-! ===== by how much one would win ===== -/
def zTc (T : Tn) (p : Nat) (v : Int32) : Tn := (t_n T, t_d T, t_h T, t_b T, upd (t_c T) p v, t_k T, t_w T)
def zwb (P : Pl) (T : Tn) (p o v : Nat) : Bool := (zpass P (zTc T p (nI v)) (zfog P (t_n T))).2.1 o == nI p
def zfw (P : Pl) (T : Tn) (p o : Nat) : Nat → Nat → Int32
  | 0, _ => -1
  | j + 1, v => if zwb P T p o v = true then nI v else zfw P T p o j (v + 1)
theorem zsls_at {P : Pl} (hP : PW P) {hs : Nat → Int32} {lt : Nat} {T : Tn} {o : Nat} : ∀ j, (zsls P hs lt T (o + 1 + j)).2.1 o = (zsls P hs lt T (o + 1)).2.1 o
  | 0 => rfl
  | j + 1 => by
    show (if hs (o + 1 + j) = 0 then zsls P hs lt T (o + 1 + j) else zsell P (hs (o + 1 + j)) lt (o + 1 + j) (zsls P hs lt T (o + 1 + j))).2.1 o = _
    by_cases h0 : hs (o + 1 + j) = 0
    · rw [if_pos h0]; exact zsls_at hP j
    · rw [if_neg h0]
      rcases zsell_or P (hs (o + 1 + j)) lt (o + 1 + j) (zsls P hs lt T (o + 1 + j)) hP.2.2.1 with e | ⟨b, pr, hb, e, h0, h1⟩
      · rw [e]; exact zsls_at hP j
      · rw [e]
        show upd _ (o + 1 + j) _ o = _
        rw [upd_app, if_neg (by omega)]; exact zsls_at hP j
section TOWIN
variable {M : Mem} {w : Nat} {Z : Zs}
theorem zTc_W {P : Pl} {T : Tn} (h : TW9 P T) {p : Nat} (hp : p < znp P) (v : Int32) : TW9 P (zTc T p v) := by
  refine ⟨h.1, h.2.1, fun q hq => ?_, h.2.2.2⟩
  show upd _ p _ q = 0
  rw [upd_app, if_neg (by omega)]; exact h.2.2.1 q hq
theorem zc_would (hz : ZW Z) (hc : RC w Z M) {p o v : Nat} (hp : p < znp (z_P Z)) (ho : o < znp (z_P Z)) : Evs (F_X11_wouldBuy 0 (nI p) (nI o) (nI v) M) (fun r => r.1 = zwb (z_P Z) (b_t (z_B Z)) p o v ∧ Fz w M r.2) := by
  have hP := hz.1
  have h7 := hP.2.2.1
  have hw := hc.ww
  obtain ⟨hTW, hTC, h9⟩ := hz.2.1.1
  have hf9 := zfog_le hP (t_n (b_t (z_B Z)))
  obtain ⟨M1, e1, h1, h2, h3⟩ := zc_cp48 hc
  have ep : F_X11_put (0 + 48 + 1) 7 (nI p) (nI v) M1 = up M1 49 p (nI v) := zput_at (by omega) (by omega)
  unfold F_X11_wouldBuy
  rw [zbs (show F_X8_copy (0 + 48) (0 + 24 + 1) M = some M1 from e1), ep]
  have F2 : Fz w M (up M1 49 p (nI v)) := h2.tr ⟨fun a x => by rw [up_ne (by omega)], by rw [up_ne (by omega)]⟩
  have hc2 := hc.keep F2
  have T2 : CT (crow (up M1 49 p (nI v)) 48) (zTc (b_t (z_B Z)) p (nI v)) := by
    refine CT.of ?_ ?_ ?_ ?_ ?_ ?_ ?_
    · rw [up_ne (by omega)]; exact h1.n
    · rw [up_ne (by omega)]; exact h1.d
    · rw [up_ne (by omega)]; exact h1.b
    · rw [up_ne (by omega)]; exact h1.h
    · intro q hq
      rw [up_app]
      show _ = upd _ p _ q
      rw [upd_app]
      by_cases e : q = p
      · rw [if_pos ⟨rfl, e⟩, if_pos e]
      · rw [if_neg (fun z => e z.2), if_neg e]; exact h1.c hq
    · intro q hq; rw [up_ne (by omega)]; exact h1.k hq
    · intro q hq i hi; rw [up_ne (by omega)]; exact h1.w hq hi
  have hW2 := zTc_W hTW hp (nI v)
  generalize up M1 49 p (nI v) = M2 at F2 hc2 T2
  rw [hc2.grd, zbs rfl, zbs rfl, show M2 (0 + 48) 0 = nI (t_n (b_t (z_B Z))) from T2.n, zc_fog hP hc2.P (by omega), zbs rfl]
  refine Evs.bind (zc_open hP hc2.P hw T2 hW2 (c := 48) (by omega) (fog := zfog (z_P Z) (t_n (b_t (z_B Z)))) (by omega)) (fun M3 h3 => ?_)
  obtain ⟨a1, a2, a3, a4, a5, a6⟩ := h3
  have F3 : Fp 48 w M2 M3 := ⟨fun a x1 x2 x3 x4 => a6 a (by omega) (by omega) (by omega) (by omega), fun k _ => by rw [a6 _ (by omega) (by omega) (by omega) (by omega)]⟩
  have grd3 : ∀ N, Fq 48 w M3 N → grd (N 0 1) = some w := fun N F => by rw [F.1 0 (by omega) (by omega) (by omega) (by omega) (by omega) (by omega) (by omega), a6 0 (by omega) (by omega) (by omega) (by omega)]; exact hc2.grd
  have S3 : SC9 48 M3 (zsls (z_P Z) (zhs (z_P Z) (zTc (b_t (z_B Z)) p (nI v)) (zfog (z_P Z) (t_n (b_t (z_B Z))))) (zlt (z_P Z) (zTc (b_t (z_B Z)) p (nI v)) (zfog (z_P Z) (t_n (b_t (z_B Z))))) (zTc (b_t (z_B Z)) p (nI v)) 0) := by
    refine ⟨?_, a4, a5, a3⟩
    rw [crow_of (M := M2) (fun a h1 h2 => a6 a (by omega) (by omega) (by omega) (by omega))]; exact T2
  generalize hhs : zhs (z_P Z) (zTc (b_t (z_B Z)) p (nI v)) (zfog (z_P Z) (t_n (b_t (z_B Z)))) = hs at S3 a1
  generalize hlt : zlt (z_P Z) (zTc (b_t (z_B Z)) p (nI v)) (zfog (z_P Z) (t_n (b_t (z_B Z)))) = lt at S3 a2
  have h6 : ∀ q i, 6 ≤ i → i < 32 → bt (hs q) i = false := fun q i hi h => by rw [← hhs]; exact zhs_6 i hi h
  have key : ∀ j k f (N : Mem), k + j = o + 1 → j < f → SC9 48 N (zsls (z_P Z) hs lt (zTc (b_t (z_B Z)) p (nI v)) k) → Fq 48 w M3 N → Evs (L_X11_wouldBuy_58 0 (nI p) (nI o) f (nI k) N) (fun N => SC9 48 N (zsls (z_P Z) hs lt (zTc (b_t (z_B Z)) p (nI v)) (o + 1)) ∧ Fq 48 w M3 N) := by
    intro j
    induction j with
    | zero =>
      intro k f N e hf s1 s2
      obtain ⟨f, rfl⟩ : ∃ f', f = f' + 1 := ⟨f - 1, by omega⟩
      obtain rfl : k = o + 1 := by omega
      rw [L_X11_wouldBuy_58, if_pos (nI_lt (by omega) (by omega))]
      exact Evs.pure ⟨s1, s2⟩
    | succ j ih =>
      intro k f N e hf s1 s2
      obtain ⟨f, rfl⟩ : ∃ f', f = f' + 1 := ⟨f - 1, by omega⟩
      have C1 : CP N w (z_P Z) := (hc2.P.p hw (Or.inr rfl) F3).p hw (Or.inr rfl) s2.p
      rw [L_X11_wouldBuy_58, if_neg (nI_nlt (by omega) (by omega)), grd3 N s2, zbs rfl, nI_1]
      refine Evs.bind (zc_sell hP C1 hw (Or.inr rfl) s1 (p := k) (lt := lt) (x := hs k) (by omega) (by rw [s2.1 53 (by omega) (by omega) (by omega) (by omega) (by omega) (by omega) (by omega)]; exact a1 k (by omega)) (h6 k) (by rw [s2.2.2]; exact a2)) (fun N2 h2 => ?_)
      exact ih (k + 1) f N2 (by omega) (by omega) h2.1 (s2.tr h2.2)
  refine Evs.bind (key (o + 1) 0 FU M3 (by omega) (by unfold FU; omega) S3 Fq.rf) (fun N hN => ?_)
  obtain ⟨SN, FN⟩ := hN
  have eB : N 55 o = (zpass (z_P Z) (zTc (b_t (z_B Z)) p (nI v)) (zfog (z_P Z) (t_n (b_t (z_B Z))))).2.1 o := by
    rw [SN.2.1 o (by omega)]
    show _ = (zsls (z_P Z) (zhs (z_P Z) (zTc (b_t (z_B Z)) p (nI v)) (zfog (z_P Z) (t_n (b_t (z_B Z))))) (zlt (z_P Z) (zTc (b_t (z_B Z)) p (nI v)) (zfog (z_P Z) (t_n (b_t (z_B Z))))) (zTc (b_t (z_B Z)) p (nI v)) (znp (z_P Z))).2.1 o
    rw [hhs, hlt]
    have e : znp (z_P Z) = o + 1 + (znp (z_P Z) - (o + 1)) := by omega
    rw [e]; exact (zsls_at hP _).symm
  have FF : Fz w M N := F2.tr ((F3.tr FN.p).z hw)
  rw [zat_at (by omega) (by omega), show N (0 + 52 + 3) o = _ from eB]
  unfold zwb
  by_cases q : (zpass (z_P Z) (zTc (b_t (z_B Z)) p (nI v)) (zfog (z_P Z) (t_n (b_t (z_B Z))))).2.1 o = nI p
  · rw [if_pos q]; exact Evs.pure ⟨by simp [q], FF⟩
  · rw [if_neg q]; exact Evs.pure ⟨by simp [q], FF⟩
theorem zc_win (hz : ZW Z) (hc : RC w Z M) {p o : Nat} (hp : p < znp (z_P Z)) (ho : o < znp (z_P Z)) : ∃ q M', L_X11_toWin_47 0 (nI p) (nI o) FU 0 M = some q ∧ Sum.elim (fun v => some (Sum.inr v)) (fun s => some (Sum.inr ((-1), s))) q = (some (Sum.inr (zfw (z_P Z) (b_t (z_B Z)) p o 1000 0, M')) : Option (Sum Nat (Int32 × Mem))) ∧ Fz w M M' := by
  have key : ∀ j v f (M1 : Mem), v + j = 1000 → j < f → Fz w M M1 → ∃ q M', L_X11_toWin_47 0 (nI p) (nI o) f (nI v) M1 = some q ∧ Sum.elim (fun v => some (Sum.inr v)) (fun s => some (Sum.inr ((-1), s))) q = (some (Sum.inr (zfw (z_P Z) (b_t (z_B Z)) p o j v, M')) : Option (Sum Nat (Int32 × Mem))) ∧ Fz w M M' := by
    intro j
    induction j with
    | zero =>
      intro v f M1 e hf F
      obtain ⟨f, rfl⟩ : ∃ f', f = f' + 1 := ⟨f - 1, by omega⟩
      obtain rfl : v = 1000 := by omega
      rw [L_X11_toWin_47, if_pos (by decide)]
      exact ⟨_, _, rfl, rfl, F⟩
    | succ j ih =>
      intro v f M1 e hf F
      obtain ⟨f, rfl⟩ : ∃ f', f = f' + 1 := ⟨f - 1, by omega⟩
      rw [L_X11_toWin_47, if_neg (zngl 999 999 rfl (by omega) (by omega)), zfw]
      obtain ⟨r, e1, r1, r2⟩ := zc_would hz (hc.keep F) (v := v) hp ho
      rw [e1, zbs rfl, r1]
      by_cases q : zwb (z_P Z) (b_t (z_B Z)) p o v = true
      · rw [if_neg (by rw [q]; decide), if_pos q]
        exact ⟨_, _, rfl, rfl, F.tr r2⟩
      · rw [if_pos (zbi.mpr (by simpa using q)), if_neg q, nI_1]
        exact ih (v + 1) f _ (by omega) (by omega) (F.tr r2)
  exact key 1000 0 FU M (by omega) (by decide) Fz.rf
theorem zm_win (hz : ZW Z) (hm : RM Z M) {p o : Nat} (hp : p < znp (z_P Z)) (ho : o < znp (z_P Z)) : Evs ((F_X12_pack 67 (67 + 23) 60 0 M).bind fun q3 => (L_X12_toWin_41 67 (nI p) (nI o) FU (-1) 0 q3).bind fun s14 => some (s14.1, s14.2)) (fun r => r.1 = (if zseen (z_P Z) (b_t (z_B Z)) (zfog (z_P Z) (t_n (b_t (z_B Z)))) o = 0 then -1 else zfw (z_P Z) (b_t (z_B Z)) p o 1000 0) ∧ Gz M r.2 ∧ r.2 67 2 = M 67 2) := by
  have hP := hz.1
  have h7 := hP.2.2.1
  obtain ⟨hTW, hTC, h9⟩ := hz.2.1.1
  have hf9 := zfog_le hP (t_n (b_t (z_B Z)))
  obtain ⟨M1, e1, h1⟩ := zm_pack (M := M) (a := 90) (n := 60) (f := 0) (by omega) (by omega) (by omega)
  rw [zbs (show F_X12_pack 67 (67 + 23) 60 0 M = some M1 from e1)]
  have c1 : ∀ b, b ≠ 90 → M1 b = M b := fun b hb => h1.cell (fun k _ => by simp [sloc]; omega)
  have row : ∀ k, k < 60 → M1 90 k = mrow M k := fun k hk => by have := h1.1 k hk trivial; simpa [sloc] using this
  have G1 : Gz M M1 := ⟨fun b x1 x2 x3 x4 x5 x6 x7 x8 x9 => c1 b (by omega), fun k _ => by rw [c1 67 (by omega)], fun k _ => by rw [mrow_of (M := M) (fun k _ _ => by rw [c1 _ (by omega)]) (c1 _ (by omega)) (c1 _ (by omega)) (c1 _ (by omega))]⟩
  have eb : bt (zlots (z_P Z) (b_t (z_B Z)) (zfog (z_P Z) (t_n (b_t (z_B Z))))) o = !(zseen (z_P Z) (b_t (z_B Z)) (zfog (z_P Z) (t_n (b_t (z_B Z)))) o == 0) := by
    unfold zlots; rw [zmk_bt _ (by omega) (by omega)]; simp; intro _; exact ho
  have nn : ∀ j, j < 1001 → ¬ nI j = -1 := by decide +kernel
  have key : ∀ j v f (M2 : Mem), v + j = 1000 → j + 1 < f → Gz M M2 → M2 90 = M1 90 → M2 67 2 = M 67 2 →
      Evs (L_X12_toWin_41 67 (nI p) (nI o) f (-1) (nI v) M2) (fun r => r.1 = (if zseen (z_P Z) (b_t (z_B Z)) (zfog (z_P Z) (t_n (b_t (z_B Z)))) o = 0 then -1 else zfw (z_P Z) (b_t (z_B Z)) p o j v) ∧ Gz M r.2 ∧ r.2 67 2 = M 67 2) := by
    intro j
    induction j with
    | zero =>
      intro v f M2 e hf G e90 e2
      obtain ⟨f, rfl⟩ : ∃ f', f = f' + 1 := ⟨f - 1, by omega⟩
      obtain rfl : v = 1000 := by omega
      rw [L_X12_toWin_41, if_pos (by decide)]
      refine Evs.pure ⟨?_, G, e2⟩
      show (-1 : Int32) = _
      split <;> rfl
    | succ j ih =>
      intro v f M2 e hf G e90 e2
      obtain ⟨f, rfl⟩ : ∃ f', f = f' + 1 := ⟨f - 1, by omega⟩
      have hm2 := hm.keep G
      rw [L_X12_toWin_41, if_neg (zngl 999 999 rfl (by omega) (by omega)), if_pos rfl, zm_lots hP hm2.P hm2.T hTW (hm2.fog hz) (by omega), zbs rfl, zis (by omega), eb]
      by_cases s0 : zseen (z_P Z) (b_t (z_B Z)) (zfog (z_P Z) (t_n (b_t (z_B Z)))) o = 0
      · rw [if_pos (by rw [s0]; rfl), if_pos s0]
        exact Evs.pure ⟨rfl, G, e2⟩
      · rw [if_neg (by simp [s0, bi]), if_neg s0, zast (by omega) (by omega), zbs rfl]
        have T3 : MT (mrow (up M2 (67 + 14) p (nI v))) (zTc (b_t (z_B Z)) p (nI v)) := by
          refine MT.of ?_ ?_ ?_ ?_ ?_ ?_ ?_
          · rw [up_ne (by omega)]; exact hm2.T.n
          · rw [up_ne (by omega)]; exact hm2.T.d
          · rw [up_ne (by omega)]; exact hm2.T.h
          · rw [up_ne (by omega)]; exact hm2.T.b
          · intro q hq
            rw [up_app]
            show _ = upd _ p _ q
            rw [upd_app]
            by_cases e : q = p
            · rw [if_pos ⟨rfl, e⟩, if_pos e]
            · rw [if_neg (fun z => e z.2), if_neg e]; exact hm2.T.c hq
          · intro q hq; rw [up_ne (by omega)]; exact hm2.T.k hq
          · intro q hq i hi; rw [up_ne (by omega)]; exact hm2.T.w hq hi
        have P3 : MP (up M2 (67 + 14) p (nI v)) (z_P Z) := hm2.P.of (fun a _ _ => up_ne (by omega))
        have a3 : ∀ a, a ≠ 81 → (up M2 (67 + 14) p (nI v)) a = M2 a := fun a ha => up_ne (by omega)
        generalize up M2 (67 + 14) p (nI v) = M3 at T3 P3 a3
        refine Evs.bind (zm_night hP P3 T3 (zTc_W hTW hp _) (fog := zfog (z_P Z) (t_n (b_t (z_B Z)))) (by
          have := zm_fog hP P3 T3 (by show t_n (b_t (z_B Z)) ≤ 3000; omega) (by rw [a3 67 (by omega)]; exact hm2.2.2.2.2.2.1)
          exact this) (by omega)) (fun M4 h4 => ?_)
        obtain ⟨S4, l4, G4⟩ := h4
        rw [zald (by omega) (by omega), zbs rfl, show M4 (67 + 21) o = _ from S4.2.1 o (by omega)]
        obtain ⟨M5, e5, h5⟩ := zm_unpack (M := M4) (a := 90) (n := 60) (f := 0) (by omega) (by omega) (by omega)
        have c5 : ∀ b, b ≠ 67 → b ≠ 81 → b ≠ 82 → b ≠ 83 → M5 b = M4 b := fun b x1 x2 x3 x4 => h5.cell (fun k _ => by have := mloc_cell k; omega)
        have f5 : ∀ k, (k < 29 ∨ 32 < k) → M5 67 k = M4 67 k := fun k hk => h5.2 67 k (fun i hi e => by unfold mloc at e; (repeat' split at e) <;> simp at e <;> omega)
        have e490 : M4 90 = M1 90 := by rw [G4.1 90 (by omega) (by omega) (by omega) (by omega), a3 90 (by omega), e90]
        have G5 : Gz M M5 := by
          refine ⟨fun b x1 x2 x3 x4 x5 x6 x7 x8 x9 => ?_, fun k hk => ?_, fun k hk => ?_⟩
          · rw [c5 b x1 x2 x3 x4, G4.1 b x1 x2 x3 (by omega), a3 b x2]; exact G.1 b x1 x2 x3 x4 x5 x6 x7 x8 x9
          · rw [f5 k (by omega), G4.2 k (by omega) (by omega) (by omega) (by omega) (by omega), a3 67 (by omega)]; exact G.2.1 k hk
          · rw [← mloc_row M5 k, h5.1 k hk trivial]
            show M4 90 (0 + k) = _
            rw [e490, Nat.zero_add]; exact row k hk
        have e590 : M5 90 = M1 90 := by rw [c5 90 (by omega) (by omega) (by omega) (by omega), e490]
        have e52 : M5 67 2 = M 67 2 := by rw [f5 2 (by omega), G4.2 2 (by omega) (by omega) (by omega) (by omega) (by omega), a3 67 (by omega)]; exact e2
        unfold J_X12_toWin_j90
        rw [zbs (show F_X12_unpack 67 (67 + 23) 60 0 M4 = some M5 from e5), zbs (show F_X12_unpack 67 (67 + 23) 60 0 M4 = some M5 from e5), zfw]
        unfold zwb
        by_cases q : (zpass (z_P Z) (zTc (b_t (z_B Z)) p (nI v)) (zfog (z_P Z) (t_n (b_t (z_B Z))))).2.1 o = nI p
        · rw [if_pos q, if_pos (by simp [q])]
          obtain ⟨f, rfl⟩ : ∃ f', f = f' + 1 := ⟨f - 1, by omega⟩
          rw [L_X12_toWin_41, nI_1]
          by_cases z : (999 : Int32) < nI (v + 1)
          · rw [if_pos z]; exact Evs.pure ⟨rfl, G5, e52⟩
          · rw [if_neg z, if_neg (nn v (by omega))]; exact Evs.pure ⟨rfl, G5, e52⟩
        · rw [if_neg q, if_neg (by simp [q]), nI_1]
          have := ih (v + 1) f M5 (by omega) (by omega) G5 e590 e52
          rw [if_neg s0] at this
          exact this
  refine (Evs.bind (key 1000 0 FU M1 (by omega) (by decide) G1 rfl (by rw [c1 67 (by omega)])) (fun r hr => Evs.pure hr))
end TOWIN
