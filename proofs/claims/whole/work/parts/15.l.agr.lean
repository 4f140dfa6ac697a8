/-! ===== a call of the class's and the model's ===== -/
def RR (M : Mem) : Prop := ∃ w Z, ZW Z ∧ RC w Z M ∧ RM Z M
/-- the class's answer is the model's, and what stood stands -/
def Agr (FL FM : Mem → Option (Int32 × Mem)) : Prop := ∀ M, RR M → ∃ (kc b : Int32) (M1 M2 : Mem), FL M = some (kc, M1) ∧ FM M1 = some (b, M2) ∧ M2 67 2 = kc ∧ (kc = 0 → M2 106 0 = b) ∧ RR M2
def CL (FL : Mem → Option (Int32 × Mem)) (w : Nat) (M : Mem) (a : Sum Nat Int32) : Prop := (∀ k, a = Sum.inl k → (k = 1 ∨ k = 2) ∧ FL M = some (nI k, M)) ∧ ∀ v, a = Sum.inr v → ∃ M', FL M = some (0, up M' 106 0 v) ∧ Fz w M M'
def ML (M1 : Mem) (a : Sum Nat Int32) (r : Int32 × Mem) : Prop := (∀ k, a = Sum.inl k → r.2 67 2 = nI k) ∧ (∀ v, a = Sum.inr v → r.1 = v ∧ r.2 67 2 = 0) ∧ Gz M1 r.2
theorem CL.thr {FL : Mem → Option (Int32 × Mem)} {w k : Nat} {M : Mem} (hk : k = 1 ∨ k = 2) (e : FL M = some (nI k, M)) : CL FL w M (Sum.inl k) := ⟨fun j h => by cases h; exact ⟨hk, e⟩, fun v h => (by cases h)⟩
theorem CL.val {FL : Mem → Option (Int32 × Mem)} {w : Nat} {M M' : Mem} {v : Int32} (e : FL M = some (0, up M' 106 0 v)) (F : Fz w M M') : CL FL w M (Sum.inr v) := ⟨fun j h => (by cases h), fun u h => by cases h; exact ⟨M', e, F⟩⟩
theorem ML.thr {M1 : Mem} {k : Nat} {r : Int32 × Mem} (e : r.2 67 2 = nI k) (G : Gz M1 r.2) : ML M1 (Sum.inl k) r := ⟨fun j h => by cases h; exact e, fun v h => (by cases h), G⟩
theorem ML.val {M1 : Mem} {v : Int32} {r : Int32 × Mem} (e : r.1 = v) (e2 : r.2 67 2 = 0) (G : Gz M1 r.2) : ML M1 (Sum.inr v) r := ⟨fun j h => (by cases h), fun u h => by cases h; exact ⟨e, e2⟩, G⟩
theorem Gz.fr {M M' : Mem} (G : Gz M M') {a : Nat} (h : a < 67 ∨ a = 106) : M' a = M a := G.1 a (by omega) (by omega) (by omega) (by omega) (by omega) (by omega) (by omega) (by omega) (by omega)
theorem agr_read {FL FM : Mem → Option (Int32 × Mem)} (h : ∀ w Z M, ZW Z → RC w Z M → ∃ a : Sum Nat Int32, CL FL w M a ∧ ∀ M1, RM Z M1 → Evs (FM M1) (ML M1 a)) : Agr FL FM := by
  intro M ⟨w, Z, hz, hc, hm⟩
  obtain ⟨a, c, m⟩ := h w Z M hz hc
  cases a with
  | inl k =>
    obtain ⟨hk, e⟩ := c.1 k rfl
    obtain ⟨r, e2, r1, -, G⟩ := m M hm
    refine ⟨nI k, r.1, M, r.2, e, e2, r1 k rfl, fun z => ?_, w, Z, hz, hc.of (fun a h => G.fr (Or.inl h)), hm.keep G⟩
    exact absurd z (nI_ne0 (by omega) (by omega))
  | inr v =>
    obtain ⟨M', e, F⟩ := c.2 v rfl
    have hc1 : RC w Z (up M' 106 0 v) := (hc.keep F).of (fun a h => up_ne (by omega))
    have hm1 : RM Z (up M' 106 0 v) := hm.of (fun a h1 h2 => by rw [up_ne (by omega)]; exact F.1 a (by omega))
    obtain ⟨r, e2, -, r1, G⟩ := m _ hm1
    refine ⟨0, r.1, _, r.2, e, e2, (r1 v rfl).2, fun _ => ?_, w, Z, hz, hc1.of (fun a h => G.fr (Or.inl h)), hm1.keep G⟩
    rw [G.fr (Or.inr rfl), up_app, if_pos ⟨rfl, rfl⟩]; exact (r1 v rfl).1.symm
/-! the kinds of refusal -/
theorem zcmp (x y : Int64) : (lg_cmp x y < 0 ↔ x < y) ∧ (0 < lg_cmp x y ↔ y < x) := by
  unfold lg_cmp
  by_cases h : x > y
  · rw [if_pos h]
    exact ⟨⟨fun z => absurd z (by decide), fun z => absurd (Int64.lt_trans z h) (Int64.lt_irrefl)⟩, ⟨fun _ => h, fun _ => by decide⟩⟩
  · rw [if_neg h]
    by_cases h2 : x = y
    · rw [if_pos h2, h2]
      exact ⟨⟨fun z => absurd z (by decide), fun z => absurd z Int64.lt_irrefl⟩, ⟨fun z => absurd z (by decide), fun z => absurd z Int64.lt_irrefl⟩⟩
    · rw [if_neg h2]
      refine ⟨⟨fun _ => ?_, fun _ => by decide⟩, ⟨fun z => absurd z (by decide), fun z => absurd z h⟩⟩
      rcases Int64.lt_or_le x y with k | k
      · exact k
      · exact absurd (Int64.le_antisymm (Int64.not_lt.mp h) k) h2
theorem zl64 (x y : Int32) : (x.toInt64 < y.toInt64) ↔ x < y := by
  rw [Int64.lt_iff_toInt_lt, Int32.lt_iff_toInt_lt, Int32.toInt_toInt64, Int32.toInt_toInt64]
theorem zisin (p a b : Int32) (A B : Int64) (hA : A = a.toInt64) (hB : B = b.toInt64) : F_X12_isIn p.toInt64 A B = if p < a then false else if p ≤ b then true else false := by
  unfold F_X12_isIn
  rw [hA, hB]
  by_cases h1 : p < a
  · rw [if_pos ((zcmp _ _).1.mpr ((zl64 _ _).mpr h1)), if_pos h1]
  · rw [if_neg (fun z => h1 ((zl64 _ _).mp ((zcmp _ _).1.mp z))), if_neg h1]
    by_cases h2 : p ≤ b
    · rw [if_neg (fun z => Int32.not_lt.mpr h2 ((zl64 _ _).mp ((zcmp _ _).2.mp z))), if_pos h2]
    · rw [if_pos ((zcmp _ _).2.mpr ((zl64 _ _).mpr (Int32.not_le.mp h2))), if_neg h2]
/-- a number below n, or none -/
theorem znum (p : Int32) (n : Nat) (hn : n < 100000) : (∃ i, i < n ∧ p = nI i) ∨ (p < 0 ∨ (¬ p < 0 ∧ ¬ p < nI n)) := by
  by_cases h : p < 0
  · exact Or.inr (Or.inl h)
  · by_cases h2 : p < nI n
    · obtain ⟨j, hj, e⟩ := nI_of h
      subst e
      exact Or.inl ⟨j, (nI_ltI hj (by omega)).mp h2, rfl⟩
    · exact Or.inr (Or.inr ⟨h, h2⟩)
theorem zisn1 {i n : Nat} (h : i < n) (hn : n < 100000) : F_X12_isIn (nI i).toInt64 0 ((nI n - 1).toInt64) = true := by
  rw [zisin (nI i) 0 (nI n - 1) 0 _ rfl rfl, if_neg (nI_pos (by omega)), zsub1 (by omega), if_pos (nI_le (by omega) (by omega))]
theorem zisn0 {p : Int32} {n : Nat} (hn : n < 100000) (h : p < 0 ∨ (¬ p < 0 ∧ ¬ p < nI n)) : F_X12_isIn p.toInt64 0 ((nI n - 1).toInt64) = false := by
  rw [zisin p 0 (nI n - 1) 0 _ rfl rfl]
  rcases h with h | ⟨h, h2⟩
  · rw [if_pos h]
  · rw [if_neg h]
    by_cases e : n = 0
    · subst e
      rw [if_neg]
      intro z
      exact h (Int32.lt_of_le_of_lt z (by decide))
    · rw [zsub1 (by omega), if_neg]
      intro z
      refine h2 (Int32.lt_of_le_of_lt z (nI_lt (by omega) (by omega)))
section NEED
variable {M : Mem} {w : Nat} {Z : Zs}
theorem zc_np (hc : RC w Z M) {i : Nat} (h : i < znp (z_P Z)) (h7 : znp (z_P Z) ≤ 7) : F_X11_needPerson 0 (nI i) M = some (Sum.inr ()) := by
  unfold F_X11_needPerson
  rw [if_neg (nI_pos (by omega)), hc.grd, zbs rfl, hc.P.1.2.2.2.1, if_pos (nI_lt h (by omega))]
theorem zc_npx (hc : RC w Z M) {p : Int32} (h : p < 0 ∨ (¬ p < 0 ∧ ¬ p < nI (znp (z_P Z)))) : F_X11_needPerson 0 p M = some (Sum.inl 1) := by
  unfold F_X11_needPerson
  rcases h with h | ⟨h, h2⟩
  · rw [if_pos h]; rfl
  · rw [if_neg h, hc.grd, zbs rfl, hc.P.1.2.2.2.1, if_neg h2]; rfl
theorem zc_ns (hc : RC w Z M) {i : Nat} (h : i < zns (z_P Z)) (h7 : zns (z_P Z) ≤ 8) : F_X11_needStreet 0 (nI i) M = some (Sum.inr ()) := by
  unfold F_X11_needStreet
  rw [if_neg (nI_pos (by omega)), hc.grd, zbs rfl, hc.P.1.1, if_pos (nI_lt h (by omega))]
theorem zc_nsx (hc : RC w Z M) {p : Int32} (h : p < 0 ∨ (¬ p < 0 ∧ ¬ p < nI (zns (z_P Z)))) : F_X11_needStreet 0 p M = some (Sum.inl 1) := by
  unfold F_X11_needStreet
  rcases h with h | ⟨h, h2⟩
  · rw [if_pos h]; rfl
  · rw [if_neg h, hc.grd, zbs rfl, hc.P.1.1, if_neg h2]; rfl
theorem zc_npl (hc : RC w Z M) {p i : Nat} (hp : p < znp (z_P Z)) (hP : PW (z_P Z)) (hi : i < p_ln (z_P Z) p) : F_X11_needPlace 0 (nI p) (nI i) M = some (Sum.inr ()) := by
  have h7 := hP.2.2.1
  have h6 := hP.2.2.2.2.2.2.2.1 p hp
  unfold F_X11_needPlace
  rw [zc_np hc hp h7, zbs rfl]
  show (if nI i < 0 then _ else _) = _
  rw [if_neg (nI_pos (by omega)), hc.grd, zbs rfl, zat_at (by omega) (by omega), hc.P.2.2.2.2.1 p hp, if_pos (nI_lt hi (by omega))]
theorem zc_nplx1 (hc : RC w Z M) {p i : Int32} (h : p < 0 ∨ (¬ p < 0 ∧ ¬ p < nI (znp (z_P Z)))) : F_X11_needPlace 0 p i M = some (Sum.inl 1) := by
  unfold F_X11_needPlace
  rw [zc_npx hc h, zbs rfl]; rfl
theorem zc_nplx2 (hc : RC w Z M) {p : Nat} {i : Int32} (hp : p < znp (z_P Z)) (hP : PW (z_P Z)) (h : i < 0 ∨ (¬ i < 0 ∧ ¬ i < nI (p_ln (z_P Z) p))) : F_X11_needPlace 0 (nI p) i M = some (Sum.inl 1) := by
  have h7 := hP.2.2.1
  unfold F_X11_needPlace
  rw [zc_np hc hp h7, zbs rfl]
  show (if i < 0 then _ else _) = _
  rcases h with h | ⟨h, h2⟩
  · rw [if_pos h]; rfl
  · rw [if_neg h, hc.grd, zbs rfl, zat_at (by omega) (by omega), hc.P.2.2.2.2.1 p hp, if_neg h2]; rfl
theorem zwhat1 {i n : Nat} (h : i < n) (hn : n < 100000) : F_X11_needWhat (nI i) (nI n) M = Sum.inr () := by
  unfold F_X11_needWhat
  rw [if_neg (nI_pos (by omega)), if_pos (nI_lt h (by omega))]
theorem zwhat0 {p : Int32} {n : Nat} (h : p < 0 ∨ (¬ p < 0 ∧ ¬ p < nI n)) : F_X11_needWhat p (nI n) M = Sum.inl 1 := by
  unfold F_X11_needWhat
  rcases h with h | ⟨h, h2⟩
  · rw [if_pos h]; rfl
  · rw [if_neg h, if_neg h2]; rfl
/-- between a and b, or not -/
theorem zwin (p : Int32) (a b : Nat) (hab : a ≤ b) (hb : b < 100000) : (∃ i, a ≤ i ∧ i ≤ b ∧ p = nI i) ∨ (p < nI a ∨ (¬ p < nI a ∧ ¬ p ≤ nI b)) := by
  by_cases h : p < nI a
  · exact Or.inr (Or.inl h)
  · by_cases h2 : p ≤ nI b
    · by_cases ha : a < 2147483648
      · have h0 : ¬ p < 0 := fun z => h (Int32.lt_of_lt_of_le z (nI_pos' (by omega)))
        obtain ⟨j, hj, e⟩ := nI_of h0
        subst e
        refine Or.inl ⟨j, ?_, (nI_leI hj (by omega)).mp h2, rfl⟩
        exact Nat.not_lt.mp (fun z => h ((nI_ltI hj (by omega)).mpr z))
      · omega
    · exact Or.inr (Or.inr ⟨h, h2⟩)
theorem zwithin1 {i a b : Nat} (h1 : a ≤ i) (h2 : i ≤ b) (hb : b < 100000) : F_X11_needWithin (nI i) (nI a) (nI b) M = Sum.inr () := by
  unfold F_X11_needWithin
  rw [if_neg (nI_nlt h1 (by omega)), if_pos (nI_le h2 (by omega))]
theorem zwithin0 {p : Int32} {a b : Nat} (h : p < nI a ∨ (¬ p < nI a ∧ ¬ p ≤ nI b)) : F_X11_needWithin p (nI a) (nI b) M = Sum.inl 2 := by
  unfold F_X11_needWithin
  rcases h with h | ⟨h, h2⟩
  · rw [if_pos h]; rfl
  · rw [if_neg h, if_neg h2]; rfl
theorem zisw1 {i a b : Nat} {A B : Int64} (hA : A = (nI a).toInt64) (hB : B = (nI b).toInt64) (h1 : a ≤ i) (h2 : i ≤ b) (hb : b < 100000) : F_X12_isIn (nI i).toInt64 A B = true := by
  rw [zisin (nI i) (nI a) (nI b) A B hA hB, if_neg (nI_nlt h1 (by omega)), if_pos (nI_le h2 (by omega))]
theorem zisw0 {p : Int32} {a b : Nat} {A B : Int64} (hA : A = (nI a).toInt64) (hB : B = (nI b).toInt64) (h : p < nI a ∨ (¬ p < nI a ∧ ¬ p ≤ nI b)) : F_X12_isIn p.toInt64 A B = false := by
  rw [zisin p (nI a) (nI b) A B hA hB]
  rcases h with h | ⟨h, h2⟩
  · rw [if_pos h]
  · rw [if_neg h, if_neg h2]
theorem zm_ip1 (hm : RM Z M) {i : Nat} (h : i < znp (z_P Z)) (h7 : znp (z_P Z) ≤ 7) : F_X12_isPerson 67 (nI i) M = true := by
  unfold F_X12_isPerson
  rw [hm.P.1.2.2.2.1]; exact zisn1 h (by omega)
theorem zm_ip0 (hm : RM Z M) {p : Int32} (h7 : znp (z_P Z) ≤ 7) (h : p < 0 ∨ (¬ p < 0 ∧ ¬ p < nI (znp (z_P Z)))) : F_X12_isPerson 67 p M = false := by
  unfold F_X12_isPerson
  rw [hm.P.1.2.2.2.1]; exact zisn0 (by omega) h
theorem zm_is1 (hm : RM Z M) {i : Nat} (h : i < zns (z_P Z)) (h7 : zns (z_P Z) ≤ 8) : F_X12_isStreet 67 (nI i) M = true := by
  unfold F_X12_isStreet
  rw [hm.P.1.1]; exact zisn1 h (by omega)
theorem zm_is0 (hm : RM Z M) {p : Int32} (h7 : zns (z_P Z) ≤ 8) (h : p < 0 ∨ (¬ p < 0 ∧ ¬ p < nI (zns (z_P Z)))) : F_X12_isStreet 67 p M = false := by
  unfold F_X12_isStreet
  rw [hm.P.1.1]; exact zisn0 (by omega) h
/-- every call of the model's begins so -/
theorem zm_0 (hm : RM Z M) : RM Z (up M 67 2 0) ∧ Gz M (up M 67 2 0) ∧ (up M 67 2 0) 67 2 = 0 := by
  have G : Gz M (up M 67 2 0) := Gz.f (by omega) (by omega)
  exact ⟨hm.keep G, G, by rw [up_app, if_pos ⟨rfl, rfl⟩]⟩
theorem zm_fail {M0 : Mem} {k : Nat} (G : Gz M0 M) : ML M0 (Sum.inl k) ((F_X12_fail 67 (nI k) M).1, (F_X12_fail 67 (nI k) M).2) := by
  refine ML.thr ?_ ?_
  · show (up M 67 2 (nI k)) 67 2 = nI k
    rw [up_app, if_pos ⟨rfl, rfl⟩]
  · exact G.tr (Gz.f (by omega) (by omega))
end NEED
