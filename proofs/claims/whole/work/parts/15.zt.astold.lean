/-! ===== the nights one is seen on, and what was told ===== -/
section ASTOLD
variable {M : Mem} {w : Nat} {Z : Zs}
/-- the nights of a walk: bit k for the night after k others -/
def ynt (P : Pl) (T : Tn) (wk : Nat → Nat) (p : Nat) : Int32 := zmk (fun k => !(zsk P T wk (k + 1) p == 0)) 12
theorem zc_nights {T : Tn} (hz : ZW Z) (hc : RC w Z M) (hT : M 25 0 = nI (t_n T) ∧ M 25 2 = t_b T) (hn : t_n T ≤ 2000) {p : Nat} {x : Int32} {wk : Nat → Nat} (hp : p < znp (z_P Z)) (hx : ∀ i, i < 6 → F_X11_streetIn x (nI i) = nI (wk i)) (hwk : ∀ i, wk i < 8) : F_X4_nightsOf w 25 (nI p) x M = some (ynt (z_P Z) T wk p) := by
  have hP := hz.1
  have key : ∀ j k f, k + j = 12 → j < f → L_X4_nightsOf_6 w 25 (nI p) x M f (zmk (fun k => !(zsk (z_P Z) T wk (k + 1) p == 0)) k) (nI (k + 1)) = some (ynt (z_P Z) T wk p) := by
    intro j
    induction j with
    | zero =>
      intro k f e hf
      obtain ⟨f, rfl⟩ : ∃ f', f = f' + 1 := ⟨f - 1, by omega⟩
      obtain rfl : k = 12 := by omega
      rw [L_X4_nightsOf_6, if_pos (by decide)]
      rfl
    | succ j ih =>
      intro k f e hf
      obtain ⟨f, rfl⟩ : ∃ f', f = f' + 1 := ⟨f - 1, by omega⟩
      have ih' := ih (k + 1) f (by omega) (by omega)
      rw [zmk] at ih'
      rw [L_X4_nightsOf_6, if_neg (zngl 12 12 rfl (by omega) (by omega)), zc_seen hP hc.P hT.1 hT.2 hn hp (by omega) (by omega) hx hwk, zbs rfl, zsub1 (by omega), Nat.add_sub_cancel, nI_1]
      by_cases q : zsk (z_P Z) T wk (k + 1) p = 0
      · rw [if_pos q]
        rw [if_neg (by simp [q]), Int32.or_zero] at ih'
        exact ih'
      · rw [if_neg q]
        rw [if_pos (by simp [q])] at ih'
        exact ih'
  unfold F_X4_nightsOf
  rw [show L_X4_nightsOf_6 w 25 (nI p) x M FU 0 1 = some (ynt (z_P Z) T wk p) from key 12 0 FU (by omega) (by decide), zbs rfl]
theorem ynt_bt {P : Pl} {T : Tn} {wk : Nat → Nat} {p i : Nat} (h1 : 1 ≤ i) (h2 : i ≤ 12) : bt (ynt P T wk p) (i - 1) = !(zsk P T wk i p == 0) := by
  unfold ynt
  rw [zmk_bt _ (by omega) (by omega), show i - 1 + 1 = i by omega]
  simp; intro _; omega
theorem zm_as (hz : ZW Z) (hm : RM Z M) : Evs (F_X12_isAsTold 67 M) (fun r => r.1 = yha (z_P Z) (b_t (z_B Z)) (z_B Z) ∧ Gz M r.2 ∧ r.2 67 2 = M 67 2 ∧ r.2 67 52 = M 67 52 ∧ r.2 97 = M 97 ∧ r.2 98 = M 98) := by
  have hP := hz.1
  have h7 := hP.2.2.1
  obtain ⟨⟨hTW, hTC, h9⟩, -, -, hm8, hq⟩ := hz.2.1
  obtain ⟨-, -, -, b4, b5, -⟩ := hm.2.1
  obtain ⟨M1, e1, h1⟩ := zm_pack (M := M) (a := 95) (n := 60) (f := 0) (by omega) (by omega) (by omega)
  have c1 : ∀ b, b ≠ 95 → M1 b = M b := fun b hb => h1.cell (fun k _ => by simp [sloc]; omega)
  have P1 : MP M1 (z_P Z) := hm.P.of (fun a _ _ => c1 a (by omega))
  have T1 : MT (mrow M1) (b_t (z_B Z)) := by
    rw [mrow_of (M := M) (fun k _ _ => by rw [c1 67 (by omega)]) (c1 _ (by omega)) (c1 _ (by omega)) (c1 _ (by omega))]; exact hm.T
  have h35 : M1 67 35 = -1 := by rw [c1 67 (by omega)]; exact hm.2.2.2.2.2.1
  have key : ∀ j k f (N : Mem), k + j = 12 → j < f → MT (mrow N) (zgo (z_P Z) (b_t (z_B Z)) k) → Gm M1 N → Evs (L_X12_isAsTold_13 67 f (bi (yhn (z_P Z) (b_t (z_B Z)) (z_B Z) k)) (nI (k + 1)) N) (fun r => r.1 = bi (yhn (z_P Z) (b_t (z_B Z)) (z_B Z) 12) ∧ Gm M1 r.2) := by
    intro j
    induction j with
    | zero =>
      intro k f N e hf a1 a2
      obtain ⟨f, rfl⟩ : ∃ f', f = f' + 1 := ⟨f - 1, by omega⟩
      obtain rfl : k = 12 := by omega
      rw [L_X12_isAsTold_13, if_pos (by decide)]
      exact Evs.pure ⟨rfl, a2⟩
    | succ j ih =>
      intro k f N e hf a1 a2
      obtain ⟨f, rfl⟩ : ∃ f', f = f' + 1 := ⟨f - 1, by omega⟩
      have kk := zgo_k (T := b_t (z_B Z)) hP k
      rw [L_X12_isAsTold_13, if_neg (zngl 12 12 rfl (by omega) (by omega))]
      by_cases r : yhn (z_P Z) (b_t (z_B Z)) (z_B Z) k = true
      · rw [if_neg (by rw [r]; decide)]
        have hf9 := zfog_le hP (t_n (b_t (z_B Z)) + k)
        refine Evs.bind (zm_night hP (P1.g a2) a1 (kk.2.2.2.2.1 hTW (by omega)) (fog := zfog (z_P Z) (t_n (b_t (z_B Z)) + k)) (by rw [← kk.1]; exact zm_fog hP (P1.g a2) a1 (by rw [kk.1]; omega) (by rw [a2.2 35 (by omega) (by omega) (by omega) (by omega) (by omega)]; exact h35)) (by omega)) (fun N2 h2 => ?_)
        have a3 := a2.tr h2.2.2
        have one := zm_one (M := N2) (k := k + 1) (B := z_B Z) hP (T := b_t (z_B Z)) (by rw [a3.2 34 (by omega) (by omega) (by omega) (by omega) (by omega), c1 67 (by omega)]; exact b4) (by rw [a3.1 93 (by omega) (by omega) (by omega) (by omega), a3.1 94 (by omega) (by omega) (by omega) (by omega), a3.1 96 (by omega) (by omega) (by omega) (by omega), c1 93 (by omega), c1 94 (by omega), c1 96 (by omega)]; exact b5) hm8 hq (by rw [h2.2.1]; exact zlots_go hP k) (by omega)
        rw [r, show bi true = (1 : Int32) from rfl, one, zbs rfl, nI_1]
        have ih' := ih (k + 1) f N2 (by omega) (by omega) h2.1.1 a3
        rw [yhn, r, Bool.true_and] at ih'
        exact ih'
      · rw [if_pos (by rw [zbi]; simpa using r)]
        have r' : yhn (z_P Z) (b_t (z_B Z)) (z_B Z) k = false := by simpa using r
        have := yhn_mono r' (12 - k)
        rw [show k + (12 - k) = 12 by omega] at this
        refine Evs.pure ⟨?_, a2⟩
        show bi _ = _
        rw [this, r']
  unfold F_X12_isAsTold
  rw [zbs (show F_X12_pack 67 (67 + 28) 60 0 M = some M1 from e1)]
  refine Evs.bind (key 12 0 FU M1 (by omega) (by decide) T1 Gm.rf) (fun r hr => ?_)
  obtain ⟨M3, e3, h3⟩ := zm_unpack (M := r.2) (a := 95) (n := 60) (f := 0) (by omega) (by omega) (by omega)
  have c3 : ∀ b, b ≠ 67 → b ≠ 81 → b ≠ 82 → b ≠ 83 → M3 b = r.2 b := fun b x1 x2 x3 x4 => h3.cell (fun k _ => by have := mloc_cell k; omega)
  have f3 : ∀ k, (k < 29 ∨ 32 < k) → M3 67 k = r.2 67 k := fun k hk => h3.2 67 k (fun i hi e => by unfold mloc at e; (repeat' split at e) <;> simp at e <;> omega)
  unfold J_X12_isAsTold_j91
  rw [zbs (show F_X12_unpack 67 (67 + 28) 60 0 r.2 = some M3 from e3), hr.1, zbs (show bgd (bi (yhn (z_P Z) (b_t (z_B Z)) (z_B Z) 12)) = some (yhn (z_P Z) (b_t (z_B Z)) (z_B Z) 12) by cases yhn (z_P Z) (b_t (z_B Z)) (z_B Z) 12 <;> rfl)]
  refine Evs.pure ⟨yhn_12 (fun i hi => (hq i hi).2), zm_back (by omega) h1 hr.2 h3, ?_, ?_, ?_, ?_⟩
  · show M3 67 2 = _
    rw [f3 2 (by omega), hr.2.2 2 (by omega) (by omega) (by omega) (by omega) (by omega), c1 67 (by omega)]
  · show M3 67 52 = _
    rw [f3 52 (by omega), hr.2.2 52 (by omega) (by omega) (by omega) (by omega) (by omega), c1 67 (by omega)]
  · show M3 97 = _
    rw [c3 97 (by omega) (by omega) (by omega) (by omega), hr.2.1 97 (by omega) (by omega) (by omega) (by omega), c1 97 (by omega)]
  · show M3 98 = _
    rw [c3 98 (by omega) (by omega) (by omega) (by omega), hr.2.1 98 (by omega) (by omega) (by omega) (by omega), c1 98 (by omega)]
end ASTOLD
