/-! ===== lots given out for most ===== -/
def gMk (t q : Nat) : Nat := t ||| (1 <<< q)
theorem gMk_lt : ∀ t, t < 128 → ∀ q, q < 7 → gMk t q < 128 ∧ nI t ||| ((1 : Int32) <<< (nI q &&& 31)) = nI (gMk t q) ∧ bt (nI t) q = t.testBit q := by decide +kernel
theorem gMk_n : ∀ n, n < 8 → ∀ t, t < 2 ^ n → ∀ q, q < n → gMk t q < 2 ^ n := by decide +kernel
def gP (b : Nat → Nat → Nat) (l t q : Nat) : Bool := decide (0 < b l q) && !t.testBit q
def gX (b : Nat → Nat → Nat) (R : Nat → Nat) (l t : Nat) : Nat → Nat
  | 0 => R t
  | n + 1 => if gP b l t n = true then max (gX b R l t n) (b l n + R (gMk t n)) else gX b R l t n
def gD (b : Nat → Nat → Nat) : Nat → Nat → Nat
  | 0, _ => 0
  | k + 1, t => gX b (gD b k) (6 - k) t 7
/-- who takes a lot: 7 for none -/
def gF (b : Nat → Nat → Nat) (R : Nat → Nat) (v l t : Nat) : Nat → Nat → Nat
  | 0, _ => 7
  | j + 1, q => if gP b l t q = true ∧ b l q + R (gMk t q) = v then q else gF b R v l t j (q + 1)
def gK (b : Nat → Nat → Nat) (l t : Nat) : Nat := gF b (gD b (6 - l)) (gD b (7 - l) t) l t 7 0
def gM (b : Nat → Nat → Nat) : Nat → Nat
  | 0 => 0
  | l + 1 => if gK b l (gM b l) = 7 then gM b l else gMk (gM b l) (gK b l (gM b l))
def gI (k : Nat) : Int32 := if k = 7 then -1 else nI k
theorem gX_le {b : Nat → Nat → Nat} {R : Nat → Nat} {l t m : Nat} (hb : ∀ l q, b l q ≤ 999) (ht : t < 128) (hR : ∀ t, t < 128 → R t ≤ m) : ∀ n, n ≤ 7 → gX b R l t n ≤ 999 + m
  | 0, _ => by have := hR t ht; show R t ≤ _; omega
  | n + 1, h => by
    have i := gX_le (l := l) hb ht hR n (by omega)
    rw [gX]
    have := hR _ (gMk_lt t ht n (by omega)).1
    have := hb l n
    split <;> omega
theorem gD_le {b : Nat → Nat → Nat} (hb : ∀ l q, b l q ≤ 999) : ∀ k t, t < 128 → gD b k t ≤ 999 * k
  | 0, _, _ => Nat.le_refl _
  | k + 1, t, h => by
    have := gX_le (R := gD b k) (l := 6 - k) (m := 999 * k) hb h (fun t h => gD_le hb k t h) 7 (by omega)
    rw [gD]; omega
theorem gF_le {b : Nat → Nat → Nat} {R : Nat → Nat} {v l t : Nat} : ∀ j q, q + j = 7 → gF b R v l t j q ≤ 7
  | 0, _, _ => Nat.le_refl _
  | j + 1, q, h => by
    rw [gF]
    split
    · omega
    · exact gF_le j (q + 1) (by omega)
theorem gM_lt (b : Nat → Nat → Nat) : ∀ l, gM b l < 128
  | 0 => Nat.zero_lt_succ 127
  | l + 1 => by
    have := gM_lt b l
    rw [gM]
    split
    · exact this
    · rename_i h
      have := gF_le (b := b) (R := gD b (6 - l)) (v := gD b (7 - l) (gM b l)) (l := l) (t := gM b l) 7 0 (by omega)
      exact (gMk_lt _ (gM_lt b l) _ (by unfold gK at h ⊢; omega)).1
theorem zimx {a b : Nat} (ha : a < 2147483648) (hb : b < 2147483648) : imax (nI a) (nI b) = nI (max a b) := by
  unfold imax
  by_cases h : a < b
  · rw [if_pos (nI_lt h (by omega))]; congr 1; omega
  · rw [if_neg (nI_nlt (by omega) (by omega))]; congr 1; omega
theorem zimx1 {a : Nat} (ha : a < 2147483648) : imax (nI a) (-1) = nI a := by
  have h : (-1 : Int32) < nI a := Int32.lt_of_lt_of_le (by decide) (nI_pos' (by omega))
  unfold imax
  rw [if_neg (fun z => Int32.lt_irrefl (Int32.lt_trans h z))]
/-- who bids what, as numbers -/
def gb (P : Pl) (T : Tn) (fog l q : Nat) : Nat := if l < znp P ∧ q < znp P ∧ ¬ zhs P T fog l = 0 then (zbid P T (zhs P T fog l) (zlt P T fog) q l).toInt.toNat else 0
theorem zbid_0 {P : Pl} {T : Tn} (hT : TC T) {x : Int32} {lt q p : Nat} : 0 ≤ zbid P T x lt q p := by
  unfold zbid
  split
  · exact (hT q).1
  · exact zi_maxl _ _
theorem gb_eq {P : Pl} {T : Tn} (hT : TC T) {fog l q : Nat} (hl : l < znp P) (hq : q < znp P) (h0 : ¬ zhs P T fog l = 0) : zbid P T (zhs P T fog l) (zlt P T fog) q l = nI (gb P T fog l q) ∧ gb P T fog l q ≤ 999 := by
  unfold gb
  rw [if_pos ⟨hl, hq, h0⟩]
  have a := zbid_0 (P := P) hT (x := zhs P T fog l) (lt := zlt P T fog) (q := q) (p := l)
  have b := Int32.le_trans (zbid_le (P := P) (x := zhs P T fog l) (lt := zlt P T fog) (p := l) (hT q).1) (hT q).2
  obtain ⟨i, hi, e⟩ := nI_of2 (M := 999) (n := 999) (by decide) (Int32.not_lt.mpr a) b
  rw [e, nI_toInt (by omega)]
  exact ⟨rfl, by simpa using by omega⟩
theorem gb_le {P : Pl} {T : Tn} (hT : TC T) (fog l q : Nat) : gb P T fog l q ≤ 999 := by
  by_cases h : l < znp P ∧ q < znp P ∧ ¬ zhs P T fog l = 0
  · exact (gb_eq hT h.1 h.2.1 h.2.2).2
  · unfold gb; rw [if_neg h]; omega
