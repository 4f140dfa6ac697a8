/-! ===== haunt, by the model ===== -/
theorem zseen_go {P : Pl} {T : Tn} (hP : PW P) (k p : Nat) : zseen P (zgo P T k) (zfog P (t_n T + k)) p = zsk P T (t_w T p) (k + 1) p := by
  obtain ⟨a1, -, a3, a4, -, -⟩ := zgo_k (P := P) (T := T) hP k
  unfold zseen zsk
  rw [a1, a3, a4, show t_n T + (k + 1) - 1 = t_n T + k by omega]
  by_cases h : k = 0
  · subst h; simp
  · rw [if_neg h]; simp [h, b_0]
/-- as Gm, and a row more -/
def Gh (b : Nat) (M M' : Mem) : Prop := (∀ a, a ≠ 67 → a ≠ 81 → a ≠ 82 → (a < 85 ∨ 89 < a) → a ≠ b → M' a = M a) ∧ ∀ k, k ≠ 29 → k ≠ 30 → k ≠ 32 → k ≠ 39 → k ≠ 42 → M' 67 k = M 67 k
theorem Gh.rf {b : Nat} {M : Mem} : Gh b M M := ⟨fun _ _ _ _ _ _ => rfl, fun _ _ _ _ _ _ => rfl⟩
theorem Gh.tr {b : Nat} {M M1 M2 : Mem} (h : Gh b M M1) (h2 : Gh b M1 M2) : Gh b M M2 := ⟨fun a x1 x2 x3 x4 x5 => (h2.1 a x1 x2 x3 x4 x5).trans (h.1 a x1 x2 x3 x4 x5), fun k x1 x2 x3 x4 x5 => (h2.2 k x1 x2 x3 x4 x5).trans (h.2 k x1 x2 x3 x4 x5)⟩
theorem Gm.h {b : Nat} {M M' : Mem} (h : Gm M M') : Gh b M M' := ⟨fun a x1 x2 x3 x4 _ => h.1 a x1 x2 x3 x4, h.2⟩
theorem Gh.one {b j : Nat} {M : Mem} {v : Int32} (hb : b ≠ 67) : Gh b M (up M b j v) := ⟨fun a _ _ _ _ x5 => by rw [up_ne x5], fun k _ _ _ _ _ => by rw [up_ne (by omega)]⟩
theorem MP.h {b : Nat} {M M' : Mem} {P : Pl} (C : MP M P) (hb : 90 ≤ b) (h : Gh b M M') : MP M' P := C.of (fun a _ _ => h.1 a (by omega) (by omega) (by omega) (by omega) (by omega))
theorem zm_backh {M : Mem} {a b : Nat} {M1 M2 M3 : Mem} (ha : a = 90 ∨ a = 95) (hb : b = 91 ∨ b = 92 ∨ b = 97 ∨ b = 98 ∨ b = 99) (h1 : Al (sloc a 0) 60 (mrow M) M (fun _ => True) M1) (h2 : Gh b M1 M2) (h3 : Al mloc 60 (fun k => M2 a (0 + k)) M2 (fun _ => True) M3) : Gz M M3 := by
  have c1 : ∀ b, b ≠ a → M1 b = M b := fun b hb => h1.cell (fun k _ => by simp [sloc]; omega)
  have c3 : ∀ b, b ≠ 67 → b ≠ 81 → b ≠ 82 → b ≠ 83 → M3 b = M2 b := fun b x1 x2 x3 x4 => h3.cell (fun k _ => by have := mloc_cell k; omega)
  refine ⟨fun b x1 x2 x3 x4 x5 x6 x7 x8 x9 => ?_, fun k hk => ?_, fun k hk => ?_⟩
  · rw [c3 b x1 x2 x3 x4, h2.1 b x1 x2 x3 (by omega) (by omega), c1 b (by omega)]
  · have : M3 67 k = M2 67 k := h3.2 67 k (fun i hi e => by unfold mloc at e; (repeat' split at e) <;> simp at e <;> omega)
    rw [this, h2.2 k (by omega) (by omega) (by omega) (by omega) (by omega), c1 67 (by omega)]
  · have e := h3.1 k hk trivial
    rw [mloc_row M3 k] at e
    rw [e]
    show M2 a (0 + k) = _
    rw [h2.1 a (by omega) (by omega) (by omega) (by omega) (by omega)]
    exact h1.1 k hk trivial
theorem zbe_inv (v : Nat → Nat) : ∀ n, n < 1000 → ((zbe v n).1 = -1 ∧ (zbe v n).2 = 0) ∨ ∃ b, b < n ∧ (zbe v n).1 = nI b ∧ (zbe v n).2 = v b
  | 0, _ => Or.inl ⟨rfl, rfl⟩
  | n + 1, h => by
    rw [zbe]
    split
    · rcases zbe_inv v n (by omega) with e | ⟨b, hb, e⟩
      · exact Or.inl e
      · exact Or.inr ⟨b, by omega, e⟩
    · exact Or.inr ⟨n, by omega, rfl, rfl⟩
section MHAUNT
variable {M : Mem} {Z : Zs}
theorem zm_hbest {P : Pl} (hP : PW P) (C : MP M P) {v : Nat → Nat} (hv : ∀ s, s < 8 → M 91 s = nI (v s)) (hb : ∀ s, v s ≤ 5000) : L_X12_haunt_151 67 M FU (-1) 0 = some (zbe v (zns P)).1 := by
  have h8 := hP.1.2
  have key : ∀ j s f, s + j = zns P → j < f → L_X12_haunt_151 67 M f (zbe v s).1 (nI s) = some (zbe v (zns P)).1 := by
    intro j
    induction j with
    | zero =>
      intro s f e hf
      obtain ⟨f, rfl⟩ : ∃ f', f = f' + 1 := ⟨f - 1, by omega⟩
      obtain rfl : s = zns P := by omega
      rw [L_X12_haunt_151, C.1.1, if_pos (nI_le (by omega) (by omega))]
    | succ j ih =>
      intro s f e hf
      obtain ⟨f, rfl⟩ : ∃ f', f = f' + 1 := ⟨f - 1, by omega⟩
      have e1 := ih (s + 1) f (by omega) (by omega)
      have hbs := hb s
      rw [zbe] at e1
      rw [L_X12_haunt_151, C.1.1, if_neg (nI_ge (by omega) (by omega)), zald (by omega) (by omega), zbs rfl, hv s (by omega), nI_1]
      by_cases k0 : v s = 0
      · rw [if_pos (by rw [k0]; decide)]; rw [if_pos (by omega)] at e1; exact e1
      · rw [if_neg (nI_nle (by omega) (by omega))]
        rcases zbe_inv v s (by omega) with ⟨i1, i2⟩ | ⟨b, hb2, i1, i2⟩
        · rw [if_pos i1]; rw [if_neg (by omega)] at e1; exact e1
        · have hbb := hb b
          rw [i1, if_neg (fun z => zneg1 (p := b) (by omega) z.symm), zbs rfl, zald (by omega) (by omega), zbs rfl, hv b (by omega)]
          by_cases q : v s ≤ v b
          · rw [if_pos (nI_le q (by omega))]; rw [if_pos (by omega), i1] at e1; exact e1
          · rw [if_neg (nI_ge (by omega) (by omega))]; rw [if_neg (by omega)] at e1; exact e1
  exact key (zns P) 0 FU (by omega) (by unfold FU; omega)
/-- the hours of one -/
theorem zm_h79 {P : Pl} {T : Tn} (hP : PW P) (C : MP M P) (hT : MT (mrow M) T) (hW : TW9 P T) {p : Nat} (hp : p < znp P) {x : Int32} (hx : M 87 p = x) {base : Nat → Nat} (hv : ∀ s, s < 8 → M 91 s = nI (base s)) (x1 x2 : Int32) :
    Evs (L_X12_haunt_79 67 x1 x2 (nI p) FU 0 M) (fun M' => (∀ s, s < 8 → M' 91 s = nI (base s + fb_ct (fun h => bt x h && decide (t_w T p (h % p_ln P p) = s)) 6)) ∧ ∀ a, a ≠ 91 → M' a = M a) := by
  have h7 := hP.2.2.1
  have h8 := hP.1.2
  have key : ∀ j h f (M1 : Mem), h + j = 6 → j < f → (∀ s, s < 8 → M1 91 s = nI (base s + fb_ct (fun h => bt x h && decide (t_w T p (h % p_ln P p) = s)) h)) → (∀ a, a ≠ 91 → M1 a = M a) →
      Evs (L_X12_haunt_79 67 x1 x2 (nI p) f (nI h) M1) (fun M' => (∀ s, s < 8 → M' 91 s = nI (base s + fb_ct (fun h => bt x h && decide (t_w T p (h % p_ln P p) = s)) 6)) ∧ ∀ a, a ≠ 91 → M' a = M a) := by
    intro j
    induction j with
    | zero =>
      intro h f M1 e hf a1 a2
      obtain ⟨f, rfl⟩ : ∃ f', f = f' + 1 := ⟨f - 1, by omega⟩
      obtain rfl : h = 6 := by omega
      rw [L_X12_haunt_79, if_pos (by decide)]
      exact Evs.pure ⟨a1, a2⟩
    | succ j ih =>
      intro h f M1 e hf a1 a2
      obtain ⟨f, rfl⟩ : ∃ f', f = f' + 1 := ⟨f - 1, by omega⟩
      rw [L_X12_haunt_79, if_neg (znge 6 6 rfl (by omega) (by omega)), zald (by omega) (by omega), zbs rfl, a2 _ (by omega), hx, zis (by omega), nI_1]
      by_cases q : bt x h = false
      · rw [if_pos (zbi.mpr q)]
        refine ih (h + 1) f M1 (by omega) (by omega) (fun s hs => ?_) a2
        rw [a1 s hs, fb_ct_succ]; simp [q]
      · have hw := hW.2.1 p (h % p_ln P p)
        have C1 : MP M1 P := C.of (fun a _ _ => a2 a (by omega))
        have T1 : MT (mrow M1) T := by rw [mrow_of (M := M) (fun k _ _ => by rw [a2 _ (by omega)]) (a2 _ (by omega)) (a2 _ (by omega)) (a2 _ (by omega))]; exact hT
        rw [if_neg (fun z => q (zbi.mp z)), zm_str hP C1 T1 hp (by omega), zbs rfl, zald (by omega) (by omega), zbs rfl, zast (by omega) (by omega), zbs rfl]
        refine ih (h + 1) f _ (by omega) (by omega) (fun s hs => ?_) (fun a ha => by rw [up_ne ha]; exact a2 a ha)
        rw [up_app, fb_ct_succ]
        by_cases z : s = t_w T p (h % p_ln P p)
        · subst z
          rw [if_pos ⟨rfl, rfl⟩, a1 _ (by omega), nI_1]
          simp [q]; rfl
        · rw [if_neg (fun k => z k.2), a1 s hs]
          have z2 : ¬ t_w T p (h % p_ln P p) = s := fun k => z k.symm
          simp [z2]
  exact key 6 0 FU M (by omega) (by decide) hv (fun _ _ => rfl)
theorem zm_haunt (hz : ZW Z) (hm : RM Z M) {n : Nat} (hn : n ≤ 40) : Evs ((L_X12_haunt_25 67 (nI n) FU 0 M).bind fun s5 => (F_X12_pack 67 (67 + 23) 60 0 s5).bind fun q6 => (L_X12_haunt_55 67 (nI n) FU 0 q6).bind fun s22 => (F_X12_unpack 67 (67 + 23) 60 0 s22).bind fun q23 => (L_X12_haunt_151 67 q23 FU (-1) 0).bind fun s32 => some (s32, q23)) (fun r => r.1 = (zbe (fun s => zhn (z_P Z) (b_t (z_B Z)) s n) (zns (z_P Z))).1 ∧ Gz M r.2 ∧ r.2 67 2 = M 67 2) := by
  have hP := hz.1
  have h7 := hP.2.2.1
  obtain ⟨hTW, hTC, h9⟩ := hz.2.1.1
  have k25 : ∀ j s f (M1 : Mem), s + j = 8 → j < f → (∀ i, i < s → M1 91 i = 0) → (∀ a, a ≠ 91 → M1 a = M a) → Evs (L_X12_haunt_25 67 (nI n) f (nI s) M1) (fun M' => (∀ i, i < 8 → M' 91 i = 0) ∧ ∀ a, a ≠ 91 → M' a = M a) := by
    intro j
    induction j with
    | zero =>
      intro s f M1 e hf a1 a2
      obtain ⟨f, rfl⟩ : ∃ f', f = f' + 1 := ⟨f - 1, by omega⟩
      obtain rfl : s = 8 := by omega
      rw [L_X12_haunt_25, if_pos (by decide)]
      exact Evs.pure ⟨a1, a2⟩
    | succ j ih =>
      intro s f M1 e hf a1 a2
      obtain ⟨f, rfl⟩ : ∃ f', f = f' + 1 := ⟨f - 1, by omega⟩
      rw [L_X12_haunt_25, if_neg (znge 8 8 rfl (by omega) (by omega)), zast (by omega) (by omega), zbs rfl, nI_1]
      refine ih (s + 1) f _ (by omega) (by omega) (fun i hi => ?_) (fun a ha => by rw [up_ne ha]; exact a2 a ha)
      rw [up_app]
      by_cases z : i = s
      · rw [if_pos ⟨rfl, z⟩]
      · rw [if_neg (fun k => z k.2)]; exact a1 i (by omega)
  refine Evs.bind (k25 8 0 FU M (by omega) (by decide) (fun i hi => by omega) (fun _ _ => rfl)) (fun M0 h0 => ?_)
  obtain ⟨z0, d0⟩ := h0
  have G0 : Gz M M0 := ⟨fun a x1 x2 x3 x4 x5 x6 x7 x8 x9 => d0 a (by omega), fun k _ => by rw [d0 67 (by omega)], fun k _ => by rw [mrow_of (M := M) (fun k _ _ => by rw [d0 _ (by omega)]) (d0 _ (by omega)) (d0 _ (by omega)) (d0 _ (by omega))]⟩
  have hm0 := hm.keep G0
  obtain ⟨M1, e1, h1⟩ := zm_pack (M := M0) (a := 90) (n := 60) (f := 0) (by omega) (by omega) (by omega)
  have c1 : ∀ b, b ≠ 90 → M1 b = M0 b := fun b hb => h1.cell (fun k _ => by simp [sloc]; omega)
  have P1 : MP M1 (z_P Z) := hm0.P.of (fun a _ _ => c1 a (by omega))
  have T1 : MT (mrow M1) (b_t (z_B Z)) := by rw [mrow_of (M := M0) (fun k _ _ => by rw [c1 _ (by omega)]) (c1 _ (by omega)) (c1 _ (by omega)) (c1 _ (by omega))]; exact hm0.T
  have n35 : M1 67 35 = -1 := by rw [c1 _ (by omega)]; exact hm0.2.2.2.2.2.1
  rw [zbs (show F_X12_pack 67 (67 + 23) 60 0 M0 = some M1 from e1)]
  have key : ∀ j i f (M2 : Mem), i + j = n → j < f → MT (mrow M2) (zgo (z_P Z) (b_t (z_B Z)) i) → (∀ s, s < 8 → M2 91 s = nI (zhn (z_P Z) (b_t (z_B Z)) s i)) → Gh 91 M1 M2 →
      Evs (L_X12_haunt_55 67 (nI n) f (nI i) M2) (fun M' => (∀ s, s < 8 → M' 91 s = nI (zhn (z_P Z) (b_t (z_B Z)) s n)) ∧ Gh 91 M1 M') := by
    intro j
    induction j with
    | zero =>
      intro i f M2 e hf a1 a2 a3
      obtain ⟨f, rfl⟩ : ∃ f', f = f' + 1 := ⟨f - 1, by omega⟩
      obtain rfl : i = n := by omega
      rw [L_X12_haunt_55, if_pos (nI_le (by omega) (by omega))]
      exact Evs.pure ⟨a2, a3⟩
    | succ j ih =>
      intro i f M2 e hf a1 a2 a3
      obtain ⟨f, rfl⟩ : ∃ f', f = f' + 1 := ⟨f - 1, by omega⟩
      have q := zgo_k (T := b_t (z_B Z)) hP i
      have hf9 := zfog_le hP (t_n (b_t (z_B Z)) + i)
      have hTi : TW9 (z_P Z) (zgo (z_P Z) (b_t (z_B Z)) i) := q.2.2.2.2.1 hTW (by omega)
      have fogOf : ∀ M', MP M' (z_P Z) → MT (mrow M') (zgo (z_P Z) (b_t (z_B Z)) i) → M' 67 35 = -1 → F_X12_fogOf 67 M' = some (nI (zfog (z_P Z) (t_n (b_t (z_B Z)) + i))) := fun M' p1 p2 p3 => by
        rw [← q.1]; exact zm_fog hP p1 p2 (by rw [q.1]; omega) p3
      have m35 : M2 67 35 = -1 := by rw [a3.2 35 (by omega) (by omega) (by omega) (by omega) (by omega)]; exact n35
      have P2 := P1.h (by omega) a3
      rw [L_X12_haunt_55, if_neg (nI_ge (by omega) (by omega)), nI_1]
      refine Evs.bind (zm_tell hP P2 a1 hTi (fogOf M2 P2 a1 m35) (by omega)) (fun M3 h3 => ?_)
      obtain ⟨t1, t2, t3, t4⟩ := h3
      have G3 : Gh 91 M1 M3 := a3.tr ⟨fun a x1 x2 x3 x4 x5 => t3 a x1 (by omega), fun k x1 x2 x3 x4 x5 => t4 k x4⟩
      have T3 : MT (mrow M3) (zgo (z_P Z) (b_t (z_B Z)) i) := by rw [mrow_of (M := M2) (fun k _ _ => t4 k (by omega)) (t3 _ (by omega) (by omega)) (t3 _ (by omega) (by omega)) (t3 _ (by omega) (by omega))]; exact a1
      have P3 := P1.h (by omega) G3
      have k66 : ∀ j p f (M4 : Mem), p + j = znp (z_P Z) → j < f → (∀ s, s < 8 → M4 91 s = nI (zhn (z_P Z) (b_t (z_B Z)) s i + fb_sm (fun p => zcnt (z_P Z) (b_t (z_B Z)) (i + 1) p s) p)) → (∀ a, a ≠ 91 → M4 a = M3 a) →
          Evs (L_X12_haunt_66 67 (nI n) (nI i) f (nI p) M4) (fun M' => (∀ s, s < 8 → M' 91 s = nI (zhn (z_P Z) (b_t (z_B Z)) s (i + 1))) ∧ ∀ a, a ≠ 91 → M' a = M3 a) := by
        intro j
        induction j with
        | zero =>
          intro p f M4 e hf b1 b2
          obtain ⟨f, rfl⟩ : ∃ f', f = f' + 1 := ⟨f - 1, by omega⟩
          obtain rfl : p = znp (z_P Z) := by omega
          rw [L_X12_haunt_66, b2 _ (by omega), P3.1.2.2.2.1, if_pos (nI_le (by omega) (by omega))]
          exact Evs.pure ⟨b1, b2⟩
        | succ j ih =>
          intro p f M4 e hf b1 b2
          obtain ⟨f, rfl⟩ : ∃ f', f = f' + 1 := ⟨f - 1, by omega⟩
          have P4 : MP M4 (z_P Z) := P3.of (fun a _ _ => b2 a (by omega))
          have T4 : MT (mrow M4) (zgo (z_P Z) (b_t (z_B Z)) i) := by rw [mrow_of (M := M3) (fun k _ _ => by rw [b2 _ (by omega)]) (b2 _ (by omega)) (b2 _ (by omega)) (b2 _ (by omega))]; exact T3
          rw [L_X12_haunt_66, b2 _ (by omega), P3.1.2.2.2.1, if_neg (nI_ge (by omega) (by omega)), nI_1]
          have hx : M4 87 p = zsk (z_P Z) (b_t (z_B Z)) (t_w (b_t (z_B Z)) p) (i + 1) p := by
            rw [b2 _ (by omega), t1 p (by omega)]
            unfold zhs
            rw [if_pos (by omega), zseen_go hP]
          refine Evs.bind (zm_h79 hP P4 T4 hTi (p := p) (by omega) hx b1 _ _) (fun M5 h5 => ?_)
          refine ih (p + 1) f M5 (by omega) (by omega) (fun s hs => ?_) (fun a ha => (h5.2 a ha).trans (b2 a ha))
          rw [h5.1 s hs, fb_sm_succ, ← Nat.add_assoc]
          unfold zcnt
          rw [q.2.2.2.1]
      refine Evs.bind (k66 (znp (z_P Z)) 0 FU M3 (by omega) (by unfold FU; omega) (fun s hs => by rw [t3 91 (by omega) (by omega), a2 s hs]; rfl) (fun _ _ => rfl)) (fun M4 h4 => ?_)
      have G4 : Gh 91 M1 M4 := G3.tr ⟨fun a x1 x2 x3 x4 x5 => h4.2 a x5, fun k x1 x2 x3 x4 x5 => by rw [h4.2 67 (by omega)]⟩
      have T4 : MT (mrow M4) (zgo (z_P Z) (b_t (z_B Z)) i) := by rw [mrow_of (M := M3) (fun k _ _ => by rw [h4.2 _ (by omega)]) (h4.2 _ (by omega)) (h4.2 _ (by omega)) (h4.2 _ (by omega))]; exact T3
      have m4 : M4 67 35 = -1 := by rw [G4.2 35 (by omega) (by omega) (by omega) (by omega) (by omega)]; exact n35
      refine Evs.bind (zm_night hP (P1.h (by omega) G4) T4 hTi (fogOf M4 (P1.h (by omega) G4) T4 m4) (by omega)) (fun M5 h5 => ?_)
      exact ih (i + 1) f M5 (by omega) (by omega) h5.1.1 (fun s hs => by rw [h5.2.2.1 91 (by omega) (by omega) (by omega) (by omega)]; exact h4.1 s hs) (G4.tr h5.2.2.h)
  refine Evs.bind (key n 0 FU M1 (by omega) (by unfold FU; omega) T1 (fun s hs => by rw [c1 _ (by omega), z0 s hs]; rfl) Gh.rf) (fun M2 h2 => ?_)
  obtain ⟨M3, e3, h4⟩ := zm_unpack (M := M2) (a := 90) (n := 60) (f := 0) (by omega) (by omega) (by omega)
  rw [zbs (show F_X12_unpack 67 (67 + 23) 60 0 M2 = some M3 from e3)]
  have c3 : ∀ b, b ≠ 67 → b ≠ 81 → b ≠ 82 → b ≠ 83 → M3 b = M2 b := fun b x1 x2 x3 x4 => h4.cell (fun k _ => by have := mloc_cell k; omega)
  have c4 : ∀ k, (k < 29 ∨ 32 < k) → M3 67 k = M2 67 k := fun k hk => h4.2 67 k (fun i hi e => by unfold mloc at e; (repeat' split at e) <;> simp at e <;> omega)
  have GG := zm_backh (Or.inl rfl) (Or.inl rfl) h1 h2.2 h4
  rw [zm_hbest hP (hm0.keep GG).P (fun s hs => by rw [c3 _ (by omega) (by omega) (by omega) (by omega)]; exact h2.1 s hs) (fun s => by have := zhn_le hP (b_t (z_B Z)) s n; omega), zbs rfl]
  refine Evs.pure ⟨rfl, G0.tr GG, ?_⟩
  show M3 67 2 = _
  rw [c4 2 (by omega), h2.2.2 2 (by omega) (by omega) (by omega) (by omega) (by omega), c1 67 (by omega), d0 67 (by omega)]
end MHAUNT
