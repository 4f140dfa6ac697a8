/-! ===== given ===== -/
def CL2 (FL : Mem → Option (Int32 × Mem)) (w : Nat) (Z : Zs) (M : Mem) (a : Sum Nat Int32) : Prop := (∀ k, a = Sum.inl k → (k = 1 ∨ k = 2) ∧ FL M = some (nI k, M)) ∧ ∀ v, a = Sum.inr v → ∃ M', FL M = some (0, up M' 106 0 v) ∧ RC w Z M' ∧ ∀ a, 67 ≤ a → M' a = M a
theorem CL2.thr {FL : Mem → Option (Int32 × Mem)} {w k : Nat} {Z : Zs} {M : Mem} (hk : k = 1 ∨ k = 2) (e : FL M = some (nI k, M)) : CL2 FL w Z M (Sum.inl k) := ⟨fun j h => by cases h; exact ⟨hk, e⟩, fun v h => (by cases h)⟩
theorem CL2.val {FL : Mem → Option (Int32 × Mem)} {w : Nat} {Z : Zs} {M M' : Mem} {v : Int32} (e : FL M = some (0, up M' 106 0 v)) (h1 : RC w Z M') (h2 : ∀ a, 67 ≤ a → M' a = M a) : CL2 FL w Z M (Sum.inr v) := ⟨fun j h => (by cases h), fun u h => by cases h; exact ⟨M', e, h1, h2⟩⟩
theorem agr_read2 {FL FM : Mem → Option (Int32 × Mem)} (h : ∀ w Z M, ZW Z → RC w Z M → ∃ a : Sum Nat Int32, CL2 FL w Z M a ∧ ∀ M1, RM Z M1 → Evs (FM M1) (ML M1 a)) : Agr FL FM := by
  intro M ⟨w, Z, hz, hc, hm⟩
  obtain ⟨a, c, m⟩ := h w Z M hz hc
  cases a with
  | inl k =>
    obtain ⟨hk, e⟩ := c.1 k rfl
    obtain ⟨r, e2, r1, -, G⟩ := m M hm
    refine ⟨nI k, r.1, M, r.2, e, e2, r1 k rfl, fun z => ?_, w, Z, hz, hc.of (fun a h => G.fr (Or.inl h)), hm.keep G⟩
    exact absurd z (nI_ne0 (by omega) (by omega))
  | inr v =>
    obtain ⟨M', e, F, F2⟩ := c.2 v rfl
    have hc1 : RC w Z (up M' 106 0 v) := F.of (fun a h => up_ne (by omega))
    have hm1 : RM Z (up M' 106 0 v) := hm.of (fun a h1 h2 => by rw [up_ne (by omega)]; exact F2 a (by omega))
    obtain ⟨r, e2, -, r1, G⟩ := m _ hm1
    refine ⟨0, r.1, _, r.2, e, e2, (r1 v rfl).2, fun _ => ?_, w, Z, hz, hc1.of (fun a h => G.fr (Or.inl h)), hm1.keep G⟩
    rw [G.fr (Or.inr rfl), up_app, if_pos ⟨rfl, rfl⟩]; exact (r1 v rfl).1.symm
section GIVEN
variable {M : Mem} {w : Nat} {Z : Zs}
/-- the table of the best alone has changed, but not its last row -/
theorem RC.best {M' : Mem} (h : RC w Z M) (e : ∀ a, a < 67 → a ≠ 59 → M' a = M a) (e9 : ∀ t, t < 128 → M' 59 (896 + t) = 0) : RC w Z M' := by
  have hw := h.ww
  obtain ⟨a1, a2, a3, a4, a5, a6, a7, a8⟩ := h
  have e0 := e 0 (by omega) (by omega)
  have e1 := e 1 (by omega) (by omega)
  have e2 := e 2 (by omega) (by omega)
  refine ⟨by rw [e0, e1]; exact a1, a2.of (fun a h1 h2 h3 => e a (by omega) (by omega)) (by rw [e _ (by omega) (by omega)]), a3.of (fun a h1 h2 => e a (by omega) (by omega)), by rw [e0]; exact a4, by rw [e1]; exact a5, by rw [e2]; exact a6, by rw [e0]; exact a7, fun B hB => ?_, e9⟩
  rw [e0]
  exact ⟨(a8.1 B hB).1, (a8.1 B hB).2.of (fun a h1 h2 => e a (by omega) (by omega))⟩
/-- the class's giving out, as a whole -/
theorem zc_give (hz : ZW Z) (hc : RC w Z M) : ∃ M', (∀ x : Int32, J_X11_given_j10 0 x M = some (Sum.inr (if x = -1 then M' 59 0 else F_X11_at 60 7 x M', M'))) ∧ M' 59 0 = nI (gD (gb (z_P Z) (b_t (z_B Z)) (zfog (z_P Z) (t_n (b_t (z_B Z))))) 7 0) ∧ (∀ l, l < 7 → M' 60 l = gI (gK (gb (z_P Z) (b_t (z_B Z)) (zfog (z_P Z) (t_n (b_t (z_B Z))))) l (gM (gb (z_P Z) (b_t (z_B Z)) (zfog (z_P Z) (t_n (b_t (z_B Z))))) l))) ∧ RC w Z M' ∧ ∀ a, 67 ≤ a → M' a = M a := by
  have hP := hz.1
  have h7 := hP.2.2.1
  have hw := hc.ww
  obtain ⟨hTW, hTC, h9⟩ := hz.2.1.1
  have hf9 := zfog_le hP (t_n (b_t (z_B Z)))
  obtain ⟨M1, e1, h1, h2, h3⟩ := zc_cp48 hc
  have hc1 := hc.keep h2
  obtain ⟨M2, e2, a1, a2, a3, a4, a5, a6⟩ := zc_open hP hc1.P hw h1 hTW (c := 48) (by omega) (fog := zfog (z_P Z) (t_n (b_t (z_B Z)))) (by omega)
  have F2 : Fz w M1 M2 := ⟨fun a x => a6 a (by omega) (by omega) (by omega) (by omega), by rw [a6 _ (by omega) (by omega) (by omega) (by omega)]⟩
  have hc2 := hc1.keep F2
  have T2 : CT (crow M2 48) (b_t (z_B Z)) := by
    rw [crow_of (M := M1) (fun a h1 h2 => a6 a (by omega) (by omega) (by omega) (by omega))]; exact h1
  have hb := gb_le (P := z_P Z) hTC (zfog (z_P Z) (t_n (b_t (z_B Z))))
  obtain ⟨M3, e3, b1, b2⟩ := gc_bids hP hc2.P hw T2 hTC a1 a2
  have F3 : Fz w M2 M3 := ⟨fun a x => b2.1 a (by omega) (by omega) (by omega) (by omega), b2.2 1 (by omega)⟩
  have hc3 := hc2.keep F3
  generalize hg : gb (z_P Z) (b_t (z_B Z)) (zfog (z_P Z) (t_n (b_t (z_B Z)))) = b at b1 hb ⊢
  obtain ⟨M4, e4, c1, c2⟩ := gc_rows (w := w) b1 hb (fun i t hi ht => by
    obtain rfl : i = 0 := by omega
    exact hc3.2.2.2.2.2.2.2.2 t ht)
  have hc4 : RC w Z M4 := hc3.best (fun a _ h => c2 a h) (fun t ht => c1 0 t (by omega) ht)
  obtain ⟨M5, e5, d1, d2⟩ := gc_choose (b := b) (fun l q x y => by rw [c2 58 (by omega)]; exact b1 l q x y) hb c1
  have hc5 : RC w Z M5 := hc4.keep ⟨fun a x => d2 a (by omega), by rw [d2 _ (by omega)]⟩
  have eG : F_X3_giveOut 57 w 48 52 M2 = some M5 := by
    unfold F_X3_giveOut
    rw [zbs e3, zbs e4, zbs e5]
  refine ⟨M5, fun x => ?_, ?_, d1, hc5, fun a ha => ?_⟩
  · unfold J_X11_given_j10
    rw [zbs (show F_X8_copy (0 + 48) (0 + 24 + 1) M = some M1 from e1), hc1.grd, zbs rfl, zbs rfl, show M1 (0 + 48) 0 = nI (t_n (b_t (z_B Z))) from h1.n, zc_fog hP hc1.P (by omega), zbs rfl, zbs (show F_X6_open (0 + 52) w (0 + 48) (nI (zfog (z_P Z) (t_n (b_t (z_B Z))))) M1 = some M2 from e2), hc2.grd, zbs rfl, zbs (show F_X3_giveOut (0 + 57) w (0 + 48) (0 + 52) M2 = some M5 from eG)]
    by_cases q : x = -1
    · rw [if_pos q, if_pos q]
      unfold F_X3_allTogether
      rw [show (0 : Int32) = nI 0 from rfl, zat_at (by omega) (by omega)]
    · rw [if_neg q, if_neg q]
  · rw [d2 59 (by omega)]; exact c1 7 0 (by omega) (by omega)
  · rw [d2 a (by omega), c2 a (by omega), F3.1 a (by omega), F2.1 a (by omega), h2.1 a (by omega)]
/-- the model's ready to choose -/
theorem zm_give (hz : ZW Z) (hm : RM Z M) : Evs (F_X12_tellLots 67 M) (fun M1 => Evs (F_X12_tellMost 67 M1) (fun M2 => HG (z_P Z) (b_t (z_B Z)) (zfog (z_P Z) (t_n (b_t (z_B Z)))) M2 ∧ MD (z_P Z) (b_t (z_B Z)) (zfog (z_P Z) (t_n (b_t (z_B Z)))) 0 M2 ∧ Gz M M2 ∧ M2 67 2 = M 67 2)) := by
  have hP := hz.1
  obtain ⟨hTW, hTC, h9⟩ := hz.2.1.1
  have hf9 := zfog_le hP (t_n (b_t (z_B Z)))
  refine (zm_tell hP hm.P hm.T hTW (hm.fog hz) (by omega)).mono (fun M1 h1 => ?_)
  obtain ⟨a1, a2, a3, a4⟩ := h1
  have H : HG (z_P Z) (b_t (z_B Z)) (zfog (z_P Z) (t_n (b_t (z_B Z)))) M1 := by
    refine ⟨hm.P.of (fun a _ _ => a3 a (by omega) (by omega)), ?_, a1, a2⟩
    rw [mrow_of (M := M) (fun k _ _ => a4 _ (by omega)) (a3 _ (by omega) (by omega)) (a3 _ (by omega) (by omega)) (a3 _ (by omega) (by omega))]
    exact hm.T
  refine (gm_most hP hTC H).mono (fun M2 h2 => ⟨H.of h2.2, h2.1, ?_, ?_⟩)
  · refine ⟨fun a x1 x2 x3 x4 x5 x6 x7 x8 x9 => ?_, fun k hk => ?_, fun k hk => ?_⟩
    · rw [h2.2 a (by omega) (by omega) (by omega)]; exact a3 a (by omega) (by omega)
    · rw [h2.2 67 (by omega) (by omega) (by omega)]; exact a4 k (by omega)
    · rw [mrow_of (M := M) (fun k _ _ => by rw [h2.2 67 (by omega) (by omega) (by omega)]; exact a4 _ (by omega)) (by rw [h2.2 _ (by omega) (by omega) (by omega)]; exact a3 _ (by omega) (by omega)) (by rw [h2.2 _ (by omega) (by omega) (by omega)]; exact a3 _ (by omega) (by omega)) (by rw [h2.2 _ (by omega) (by omega) (by omega)]; exact a3 _ (by omega) (by omega))]
  · rw [h2.2 67 (by omega) (by omega) (by omega)]; exact a4 2 (by omega)
theorem Fy.gz {M' : Mem} (F : Fy M M') : Gz M M' := ⟨fun a _ _ _ _ x5 _ _ _ _ => F a (by omega) (by omega) (by omega), fun k _ => by rw [F 67 (by omega) (by omega) (by omega)], fun k _ => by rw [mrow_of (M := M) (fun k _ _ => by rw [F 67 (by omega) (by omega) (by omega)]) (F _ (by omega) (by omega) (by omega)) (F _ (by omega) (by omega) (by omega)) (F _ (by omega) (by omega) (by omega))]⟩
end GIVEN
theorem agr_given (p : Int32) : Agr (F_L_given 0 106 p) (F_X12_given 67 p) := by
  refine agr_read2 (fun w Z M hz hc => ?_)
  have hP := hz.1
  have h7 := hP.2.2.1
  obtain ⟨hTW, hTC, h9⟩ := hz.2.1.1
  obtain ⟨M', e0, e1, e2, e3, e4⟩ := zc_give hz hc
  have hd : ∀ n, n < 8 → (-1 : Int32) ≤ (if n = 0 then -1 else nI (n - 1)) := by decide +kernel
  have hin : ∀ {M1 : Mem}, RM Z M1 → F_X12_isIn p.toInt64 (-1) ((M1 (67 + 3) 3 - 1).toInt64) = if p < -1 then false else if p ≤ nI (znp (z_P Z)) - 1 then true else false := fun {M1} hm => by
    rw [show M1 (67 + 3) 3 = _ from hm.P.1.2.2.2.1]
    exact zisin p (-1) (nI (znp (z_P Z)) - 1) _ _ (by decide) rfl
  by_cases q : p = -1
  · subst q
    refine ⟨.inr (nI (gD (gb (z_P Z) (b_t (z_B Z)) (zfog (z_P Z) (t_n (b_t (z_B Z))))) 7 0)), CL2.val (M' := M') ?_ e3 e4, fun M1 hm => ?_⟩
    · unfold F_L_given F_X11_given
      rw [if_pos rfl, zbs (e0 (-1)), if_pos rfl, e1]
      rfl
    · obtain ⟨hm0, G0, c0⟩ := zm_0 hm
      unfold F_X12_given
      generalize up M1 67 2 0 = M0 at hm0 G0 c0 ⊢
      have ht : (if (-1 : Int32) < -1 then false else if (-1 : Int32) ≤ nI (znp (z_P Z)) - 1 then true else false) = true := by
        rw [if_neg (show ¬ (-1 : Int32) < -1 by decide), if_pos (show (-1 : Int32) ≤ nI (znp (z_P Z)) - 1 from by rw [zdn1 _ (by omega)]; exact hd _ (by omega))]
      rw [hin hm0, ht, if_neg (by decide)]
      refine Evs.bind (zm_give hz hm0) (fun M2 h2 => Evs.bind h2 (fun M3 h3 => ?_))
      rw [if_pos rfl]
      refine Evs.pure (ML.val ?_ (h3.2.2.2.trans c0) (G0.tr h3.2.2.1))
      have := h3.2.1 0 0 (by omega) (by omega) (Nat.two_pow_pos _)
      exact this
  · rcases znum p (znp (z_P Z)) (by omega) with ⟨i, hi, rfl⟩ | hx
    · refine ⟨.inr (gI (gK (gb (z_P Z) (b_t (z_B Z)) (zfog (z_P Z) (t_n (b_t (z_B Z))))) i (gM (gb (z_P Z) (b_t (z_B Z)) (zfog (z_P Z) (t_n (b_t (z_B Z))))) i))), CL2.val (M' := M') ?_ e3 e4, fun M1 hm => ?_⟩
      · unfold F_L_given F_X11_given
        rw [if_neg q, zc_np hc hi h7, zbs rfl]
        simp only [Sum.elim_inr]
        rw [zbs (e0 (nI i)), if_neg q, zat_at (by omega) (by omega), e2 i (by omega)]
        rfl
      · obtain ⟨hm0, G0, c0⟩ := zm_0 hm
        unfold F_X12_given
        generalize up M1 67 2 0 = M0 at hm0 G0 c0 ⊢
        have ht : (if nI i < -1 then false else if nI i ≤ nI (znp (z_P Z)) - 1 then true else false) = true := by
          rw [if_neg (show ¬ nI i < -1 from fun z => nI_pos (n := i) (by omega) (Int32.lt_trans z (by decide))), if_pos (show nI i ≤ nI (znp (z_P Z)) - 1 from by rw [zsub1 (by omega)]; exact nI_le (by omega) (by omega))]
        rw [hin hm0, ht, if_neg (by decide)]
        refine Evs.bind (zm_give hz hm0) (fun M2 h2 => Evs.bind h2 (fun M3 h3 => ?_))
        rw [if_neg q]
        refine Evs.bind (gm_choose hP hTC h3.1 hi h3.2.1) (fun r hr => ?_)
        refine Evs.pure (ML.val hr.1 ?_ (G0.tr (h3.2.2.1.tr hr.2.gz)))
        show r.2 67 2 = 0
        rw [hr.2 67 (by omega) (by omega) (by omega), h3.2.2.2]; exact c0
    · refine ⟨.inl 1, CL2.thr (by omega) ?_, fun M1 hm => ?_⟩
      · unfold F_L_given F_X11_given
        rw [if_neg q, zc_npx hc hx]; rfl
      · obtain ⟨hm0, G0, c0⟩ := zm_0 hm
        unfold F_X12_given
        generalize up M1 67 2 0 = M0 at hm0 G0 c0 ⊢
        have : (if p < -1 then false else if p ≤ nI (znp (z_P Z)) - 1 then true else false) = false := by
          rcases hx with h | ⟨h, h2⟩
          · rw [if_pos]
            rw [Int32.lt_iff_toInt_lt] at h ⊢
            have e : (-1 : Int32).toInt = -1 := by decide
            have e' : (0 : Int32).toInt = 0 := by decide
            have : p.toInt ≠ -1 := fun z => q (Int32.toInt_inj.mp (z.trans e.symm))
            omega
          · rw [if_neg (fun z => h (Int32.lt_trans z (by decide))), if_neg]
            intro z
            have h3 := Int32.not_lt.mp h2
            have h4 := Int32.le_trans h3 z
            rw [zdn1 _ (by omega)] at h4
            split at h4
            · rename_i y; rw [y] at h4; exact absurd h4 (by decide)
            · exact nI_ge (by omega) (by omega) h4
        rw [hin hm0, this, if_pos (by decide)]
        exact Evs.pure (zm_fail (k := 1) G0)
