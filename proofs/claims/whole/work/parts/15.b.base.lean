/-! ===== the pure side: what a run of the functions gives ===== -/
def Evs {α : Type} (o : Option α) (P : α → Prop) : Prop := ∃ a, o = some a ∧ P a
theorem Evs.bind {α β : Type} {o : Option α} {f : α → Option β} {P : α → Prop} {Q : β → Prop} (h : Evs o P) (hf : ∀ a, P a → Evs (f a) Q) : Evs (o.bind f) Q := by
  obtain ⟨a, rfl, ha⟩ := h; exact hf a ha
theorem Evs.pure {α : Type} {a : α} {P : α → Prop} (h : P a) : Evs (some a) P := ⟨a, rfl, h⟩
theorem Evs.of {α : Type} {o : Option α} {a : α} {P : α → Prop} (e : o = some a) (h : P a) : Evs o P := ⟨a, e, h⟩
theorem Evs.mono {α : Type} {o : Option α} {P Q : α → Prop} (h : Evs o P) (hq : ∀ a, P a → Q a) : Evs o Q := by
  obtain ⟨a, e, ha⟩ := h; exact ⟨a, e, hq a ha⟩
theorem zbs {α β : Type} {o : Option α} {f : α → Option β} {a : α} (e : o = some a) : o.bind f = f a := by rw [e]; rfl
/-! reading and writing at numbers -/
theorem up_app {M : Mem} {i k a b : Nat} {x : Int32} : up M i k x a b = if a = i ∧ b = k then x else M a b := by
  unfold up
  by_cases h : a = i
  · subst h; simp only [if_pos, true_and]; unfold upd; rfl
  · rw [if_neg h, if_neg (fun q => h q.1)]
theorem zat_at {a n i : Nat} {M : Mem} (h : i < n) (hn : n < 2147483648) : F_X11_at a n (nI i) M = M a i := by
  unfold F_X11_at
  rw [if_neg (nI_pos (by omega)), if_neg (nI_ge h (by omega)), nI_clamp (by omega)]
theorem zat_out {a n i : Nat} {M : Mem} (h : n ≤ i) (hi : i < 2147483648) : F_X11_at a n (nI i) M = 0 := by
  unfold F_X11_at
  rw [if_neg (nI_pos (by omega)), if_pos (nI_le h (by omega))]
theorem zat_neg {a n : Nat} {M : Mem} : F_X11_at a n (-1) M = 0 := by
  unfold F_X11_at
  rw [if_pos (by decide)]
theorem zput_at {a n i : Nat} {v : Int32} {M : Mem} (h : i < n) (hn : n < 2147483648) : F_X11_put a n (nI i) v M = up M a i v := by
  unfold F_X11_put
  rw [if_neg (nI_pos (by omega)), if_neg (nI_ge h (by omega)), nI_clamp (by omega)]
theorem zald {a n i : Nat} {M : Mem} (h : i < n) (hn : n < 2147483648) : ald M a n (nI i) = some (M a i) := by
  unfold ald
  rw [if_pos (nI_in h (by omega)), nI_clamp (by omega)]
theorem zast {a n i : Nat} {v : Int32} {M : Mem} (h : i < n) (hn : n < 2147483648) : ast M a n (nI i) v = some (up M a i v) := by
  unfold ast
  rw [if_pos (nI_in h (by omega)), nI_clamp (by omega)]
theorem zirm {a b : Nat} (ha : a < 2147483648) (h0 : 0 < b) (hb : b < 2147483648) : irm (nI a) (nI b) = some (nI (a % b)) := by
  unfold irm irem
  rw [if_neg (nI_ne0 h0 (by omega)), pk_rem (by omega) h0 (by omega)]
theorem zmul (a b : Nat) : nI a * nI b = nI (a * b) := (Int32.ofNat_mul a b).symm
theorem z6 (a : Nat) : (6 : Int32) * nI a = nI (6 * a) := zmul 6 a
theorem zsub {a b : Nat} (h : b ≤ a) : nI a - nI b = nI (a - b) := by
  have e : nI a = nI (a - b) + nI b := by rw [nI_add]; congr 1; omega
  rw [e, Int32.add_sub_cancel]
/-! bits -/
theorem z_and1 (x : Int32) : x &&& 1 = if bt x 0 then 1 else 0 := by
  apply b_ext
  intro i hi
  rw [b_and]
  have h1 : ∀ i, i < 32 → bt 1 i = decide (i = 0) := by decide +kernel
  rw [h1 i hi]
  by_cases h0 : i = 0
  · subst h0
    cases h : bt x 0
    · simp only [Bool.false_and, Bool.false_eq_true, if_false]; exact (b_0 0).symm
    · simp only [if_true]; rw [h1 0 (by omega)]; rfl
  · simp only [h0, decide_false, Bool.and_false]
    cases bt x 0
    · simp only [Bool.false_eq_true, if_false]; exact (b_0 i).symm
    · simp only [if_true]; rw [h1 i hi]; simp [h0]
theorem zbit {x : Int32} {i : Nat} (h : i < 32) : (x >>> (nI i &&& 31)) &&& 1 = if bt x i then 1 else 0 := by
  rw [z_and1, b_sshr i h x (by omega : 0 < 32)]
  simp only [Nat.add_zero, h, if_true]
theorem zbit0 {x : Int32} {i : Nat} (h : i < 32) : ((x >>> (nI i &&& 31)) &&& 1 = 0) ↔ bt x i = false := by
  rw [zbit h]; cases bt x i <;> decide
theorem zbit1 {x : Int32} {i : Nat} (h : i < 32) : ((x >>> (nI i &&& 31)) &&& 1 = 1) ↔ bt x i = true := by
  rw [zbit h]; cases bt x i <;> decide
theorem zone {i j : Nat} (hi : i < 32) (hj : j < 32) : bt ((1 : Int32) <<< (nI i &&& 31)) j = decide (i = j) := by
  rw [b_shl i hi 1 hj]
  have h1 : ∀ i, i < 32 → bt 1 i = decide (i = 0) := by decide +kernel
  by_cases h : i ≤ j
  · rw [h1 _ (by omega)]; simp only [h, decide_true, Bool.true_and]; congr 1; apply propext; constructor <;> intro q <;> omega
  · have : ¬ i = j := by omega
    simp [h, this]
theorem z_or0 (x : Int32) : x ||| 0 = x := by
  apply b_ext; intro i hi; rw [b_or, b_0, Bool.or_false]
/-- a set of numbers below n -/
def zmk (f : Nat → Bool) : Nat → Int32
  | 0 => 0
  | n + 1 => zmk f n ||| (if f n then (1 : Int32) <<< (nI n &&& 31) else 0)
theorem zmk_bt (f : Nat → Bool) {i : Nat} (hi : i < 32) : ∀ {n : Nat}, n ≤ 32 → bt (zmk f n) i = (decide (i < n) && f i)
  | 0, _ => by rw [zmk, b_0]; simp
  | n + 1, h => by
    rw [zmk, b_or, zmk_bt f hi (by omega : n ≤ 32)]
    by_cases e : n = i
    · subst e
      cases hf : f n
      · simp [b_0]
      · simp only [if_true]; rw [zone (by omega) (by omega)]; simp
    · have h2 : bt (if f n = true then (1 : Int32) <<< (nI n &&& 31) else 0) i = false := by
        cases f n
        · exact b_0 i
        · simp only [if_true]; rw [zone (by omega) hi]; simp [e]
      rw [h2, Bool.or_false]
      congr 1
      have : (i < n) ↔ (i < n + 1) := by omega
      simp [this]
theorem zmk_cong {f g : Nat → Bool} : ∀ {n : Nat}, (∀ k, k < n → f k = g k) → zmk f n = zmk g n
  | 0, _ => rfl
  | n + 1, h => by rw [zmk, zmk, zmk_cong (fun k hk => h k (by omega)), h n (by omega)]
/-- how many -/
def zct (x : Int32) : Nat := fb_ct (bt x) 32
theorem zct_le (x : Int32) : zct x ≤ 32 := fb_ct_le _ 32
theorem zmk_ct (f : Nat → Bool) {n : Nat} (h : n ≤ 32) : zct (zmk f n) = fb_ct f n := by
  unfold zct
  rw [fb_ct_cong (q := fun i => decide (i < n) && f i) (fun k hk => zmk_bt f hk h)]
  have e : 32 = n + (32 - n) := by omega
  rw [e, fb_ct_split, fb_ct_cong (p := fun i => decide (i < n) && f i) (q := f) (fun k hk => by simp [hk])]
  have z : fb_ct (fun k => decide (n + k < n) && f (n + k)) (32 - n) = 0 := fb_ct_zero.mpr (fun k _ => by simp; omega)
  rw [z, Nat.add_zero]
theorem z_low {x : Int32} {n : Nat} (hn : n ≤ 32) (h : ∀ i, n ≤ i → i < 32 → bt x i = false) : zmk (bt x) n = x := by
  apply b_ext
  intro i hi
  rw [zmk_bt _ hi hn]
  by_cases h2 : i < n
  · simp [h2]
  · simp [h2, h i (by omega) hi]
theorem z_zero {x : Int32} : x = 0 ↔ ∀ i, i < 32 → bt x i = false := by
  constructor
  · intro h i _; rw [h]; exact b_0 i
  · intro h; apply b_ext; intro i hi; rw [h i hi, b_0]
theorem zmk_0 {f : Nat → Bool} {n : Nat} (hn : n ≤ 32) : zmk f n = 0 ↔ ∀ i, i < n → f i = false := by
  rw [z_zero]
  constructor
  · intro h i hi
    have := h i (by omega)
    rw [zmk_bt f (by omega) hn] at this
    simpa [hi] using this
  · intro h i hi
    rw [zmk_bt f hi hn]
    by_cases h2 : i < n
    · simp [h i h2]
    · simp [h2]
/-- sets of few: an own number for each -/
theorem z_few {n : Nat} (hn : n ≤ 31) {x : Int32} (h : ∀ i, n ≤ i → i < 32 → bt x i = false) : ∃ v, v < 2 ^ n ∧ x = nI v := by
  refine ⟨x.toBitVec.toNat, ?_, ?_⟩
  · apply Nat.lt_pow_two_of_testBit
    intro i hi
    by_cases h2 : i < 32
    · have := h i hi h2
      unfold bt at this
      exact this
    · exact Nat.testBit_lt_two_pow (Nat.lt_of_lt_of_le x.toBitVec.isLt (Nat.pow_le_pow_right (by omega) (by omega)))
  · apply Int32.toBitVec_inj.mp
    show _ = BitVec.ofNat 32 _
    simp
theorem znge (k : Int32) (b : Nat) (e : k = nI b) {a : Nat} (h : a < b) (hb : b < 2147483648) : ¬ k ≤ nI a := by rw [e]; exact nI_ge h (by omega)
theorem zle (k : Int32) (b : Nat) (e : k = nI b) {a : Nat} (h : b ≤ a) (ha : a < 2147483648) : k ≤ nI a := by rw [e]; exact nI_le h (by omega)
theorem zne (k : Int32) (b : Nat) (e : k = nI b) {a : Nat} (h : a ≠ b) (ha : a < 2147483648) (hb : b < 2147483648) : ¬ nI a = k := by
  rw [e]; exact fun z => h ((nI_eq (by omega) (by omega)).mp z)
