/-! ===== gossip: whom one hears of ===== -/
def zkb (T : Tn) (r : Int32) : Nat → Int32
  | 0 => 0
  | k + 1 => zkb T r k ||| (if bt r k then t_k T k else 0)
theorem zkb_bt (T : Tn) (r : Int32) (i : Nat) : ∀ k, bt (zkb T r k) i = true ↔ ∃ q, q < k ∧ bt r q = true ∧ bt (t_k T q) i = true
  | 0 => by rw [zkb, b_0]; exact ⟨fun h => (by cases h), fun ⟨q, h, _⟩ => by omega⟩
  | k + 1 => by
    rw [zkb, b_or, Bool.or_eq_true, zkb_bt T r i k]
    constructor
    · rintro (⟨q, h1, h2⟩ | h)
      · exact ⟨q, by omega, h2⟩
      · by_cases e : bt r k = true
        · rw [if_pos e] at h; exact ⟨k, by omega, e, h⟩
        · rw [if_neg e, b_0] at h; cases h
    · rintro ⟨q, h1, h2, h3⟩
      by_cases e : q = k
      · subst e; exact Or.inr (by rw [if_pos h2]; exact h3)
      · exact Or.inl ⟨q, by omega, h2, h3⟩
/-- heard of after so many steps -/
def zhd (T : Tn) (r : Int32) : Nat → Int32
  | 0 => r
  | k + 1 => zhd T r k ||| zkb T (zhd T r k) 7
theorem zhd_up {T : Tn} {r : Int32} {i : Nat} : ∀ {k j : Nat}, k ≤ j → bt (zhd T r k) i = true → bt (zhd T r j) i = true
  | k, 0, h, e => by rw [show k = 0 by omega] at e; exact e
  | k, j + 1, h, e => by
    by_cases q : k = j + 1
    · rw [q] at e; exact e
    · rw [zhd, b_or, zhd_up (k := k) (j := j) (by omega) e]; rfl
theorem zhd_st {T : Tn} {r : Int32} {k : Nat} (h : zhd T r (k + 1) = zhd T r k) : ∀ j, zhd T r (k + j) = zhd T r k
  | 0 => rfl
  | j + 1 => by
    show zhd T r (k + j) ||| zkb T (zhd T r (k + j)) 7 = _
    rw [zhd_st h j]; exact h
/-- bits of people alone -/
def zlo (n : Nat) (r : Int32) : Prop := ∀ i, n ≤ i → i < 32 → bt r i = false
theorem zhd_lo {P : Pl} {T : Tn} (hW : TW9 P T) {r : Int32} (h : zlo (znp P) r) : ∀ k, zlo (znp P) (zhd T r k)
  | 0 => h
  | k + 1 => fun i h1 h2 => by
    rw [zhd, b_or, zhd_lo hW h k i h1 h2, Bool.false_or]
    cases e : bt (zkb T (zhd T r k) 7) i
    · rfl
    · obtain ⟨q, _, _, e2⟩ := (zkb_bt T _ i 7).mp e
      rw [hW.2.2.2 q i h2 (by omega)] at e2; cases e2
/-- after seven steps nothing new comes -/
theorem zhd_7 {P : Pl} {T : Tn} (hP : PW P) (hW : TW9 P T) {p : Nat} (hp : p < znp P) {r : Int32} (hr : bt r p = true) (hlo : zlo (znp P) r) : ∀ j, zhd T r (7 + j) = zhd T r 7 := by
  have h7 := hP.2.2.1
  have grow : ∀ k, (∃ m, m ≤ k ∧ zhd T r (m + 1) = zhd T r m) ∨ k + 1 ≤ fb_ct (bt (zhd T r k)) 7 := by
    intro k
    induction k with
    | zero =>
      right
      have : 0 < fb_ct (bt (zhd T r 0)) 7 := fb_ct_pos.mpr ⟨p, by omega, hr⟩
      omega
    | succ k ih =>
      rcases ih with ⟨m, h1, h2⟩ | h
      · exact Or.inl ⟨m, by omega, h2⟩
      · by_cases e : zhd T r (k + 1) = zhd T r k
        · exact Or.inl ⟨k, by omega, e⟩
        · right
          have sub : ∀ i, i < 7 → bt (zhd T r k) i = true → bt (zhd T r (k + 1)) i = true := fun i _ q => zhd_up (by omega) q
          have le := fb_ct_sub sub
          by_cases eq : fb_ct (bt (zhd T r (k + 1))) 7 = fb_ct (bt (zhd T r k)) 7
          · exfalso
            apply e
            apply b_ext
            intro i hi
            by_cases hi7 : i < 7
            · cases e1 : bt (zhd T r k) i
              · cases e2 : bt (zhd T r (k + 1)) i
                · rfl
                · exfalso
                  have g := fb_ct_upd (bt (zhd T r k)) true (i := i) (n := 7) hi7
                  rw [e1] at g
                  have s2 : ∀ j, j < 7 → (fun k' => if k' = i then true else bt (zhd T r k) k') j = true → bt (zhd T r (k + 1)) j = true := by
                    intro j hj q
                    by_cases z : j = i
                    · rw [z]; exact e2
                    · simp only [z, if_false] at q; exact sub j hj q
                  have := fb_ct_sub s2
                  simp only [Bool.false_eq_true, if_false, if_true, Nat.add_zero] at g
                  omega
              · exact sub i hi7 e1
            · rw [zhd_lo hW hlo (k + 1) i (by omega) hi, zhd_lo hW hlo k i (by omega) hi]
          · omega
  rcases grow 7 with ⟨m, h1, h2⟩ | h
  · intro j
    have a := zhd_st h2 (7 - m + j)
    have b := zhd_st h2 (7 - m)
    rw [show m + (7 - m + j) = 7 + j by omega] at a
    rw [show m + (7 - m) = 7 by omega] at b
    rw [a, b]
  · exfalso
    have := fb_ct_le (bt (zhd T r 7)) 7
    omega
theorem zhd_cl {P : Pl} {T : Tn} (hP : PW P) (hW : TW9 P T) {p : Nat} (hp : p < znp P) {r : Int32} (hr : bt r p = true) (hlo : zlo (znp P) r) {q i : Nat} (hq : bt (zhd T r 7) q = true) (hq7 : q < 7) (hi : bt (t_k T q) i = true) : bt (zhd T r 7) i = true := by
  have e := zhd_7 hP hW hp hr hlo 1
  rw [← e]
  show bt (zhd T r 7 ||| zkb T (zhd T r 7) 7) i = true
  rw [b_or, (zkb_bt T _ i 7).mpr ⟨q, hq7, hq, hi⟩, Bool.or_true]
/-- a pass of the model's -/
def zps (T : Tn) (r : Int32) : Nat → Int32
  | 0 => r
  | k + 1 => zps T r k ||| (if bt (zps T r k) k then t_k T k else 0)
def zgp (P : Pl) (T : Tn) (r : Int32) : Nat → Int32
  | 0 => r
  | k + 1 => zps T (zgp P T r k) (znp P)
theorem zps_up {T : Tn} {r : Int32} {i : Nat} (h : bt r i = true) : ∀ k, bt (zps T r k) i = true
  | 0 => h
  | k + 1 => by rw [zps, b_or, zps_up h k]; rfl
theorem zps_in {T : Tn} {r : Int32} {q i : Nat} (h : bt r q = true) (hi : bt (t_k T q) i = true) : ∀ k, q < k → bt (zps T r k) i = true
  | 0, hk => by omega
  | k + 1, hk => by
    rw [zps, b_or]
    by_cases e : q = k
    · subst e; rw [if_pos (zps_up h q), hi, Bool.or_true]
    · rw [zps_in h hi k (by omega)]; rfl
theorem zps_sub {T : Tn} {r c : Int32} {n : Nat} (h : ∀ i, bt r i = true → bt c i = true) (hc : ∀ q i, q < n → bt c q = true → bt (t_k T q) i = true → bt c i = true) : ∀ k, k ≤ n → ∀ i, bt (zps T r k) i = true → bt c i = true
  | 0, _, i, e => h i e
  | k + 1, hk, i, e => by
    rw [zps, b_or, Bool.or_eq_true] at e
    rcases e with e | e
    · exact zps_sub h hc k (by omega) i e
    · by_cases z : bt (zps T r k) k = true
      · rw [if_pos z] at e
        exact hc k i (by omega) (zps_sub h hc k (by omega) k z) e
      · rw [if_neg z, b_0] at e; cases e
theorem zgossip {P : Pl} {T : Tn} (hP : PW P) (hW : TW9 P T) {p : Nat} (hp : p < znp P) : zgp P T (t_k T p) 7 &&& (((1 : Int32) <<< (nI p &&& 31)) ^^^ (-1)) = zhd T ((1 : Int32) <<< (nI p &&& 31)) 7 &&& (((1 : Int32) <<< (nI p &&& 31)) ^^^ (-1)) := by
  have h7 := hP.2.2.1
  generalize hr0 : (1 : Int32) <<< (nI p &&& 31) = r0
  have hb : ∀ i, i < 32 → bt r0 i = decide (p = i) := fun i hi => by rw [← hr0]; exact zone (by omega) hi
  have hrp : bt r0 p = true := by rw [hb p (by omega)]; simp
  have hlo : zlo (znp P) r0 := fun i h1 h2 => by rw [hb i h2]; simp; omega
  have lt32 : ∀ {x : Int32} {i : Nat}, bt x i = true → i < 32 := fun {x i} h => by
    by_cases q : i < 32
    · exact q
    · rw [b_big (by omega)] at h; cases h
  have p7 : bt (zhd T r0 7) p = true := zhd_up (k := 0) (by omega) hrp
  have cl : ∀ q i, q < znp P → bt (zhd T r0 7) q = true → bt (t_k T q) i = true → bt (zhd T r0 7) i = true := fun q i hq h1 h2 => zhd_cl hP hW hp hrp hlo h1 (by omega) h2
  -- the model hears no more
  have up1 : ∀ k i, bt (zgp P T (t_k T p) k) i = true → bt (zhd T r0 7) i = true := by
    intro k
    induction k with
    | zero => intro i e; exact cl p i hp p7 e
    | succ k ih => intro i e; exact zps_sub ih cl (znp P) (Nat.le_refl _) i e
  -- and no less
  have up2 : ∀ k i, bt (zhd T r0 (k + 1)) i = true → i = p ∨ bt (zgp P T (t_k T p) k) i = true := by
    intro k
    induction k with
    | zero =>
      intro i e
      have hi := lt32 e
      have e : bt (r0 ||| zkb T r0 7) i = true := e
      rw [b_or, Bool.or_eq_true] at e
      rcases e with e | e
      · rw [hb i hi] at e; left; exact (by simpa using e : p = i).symm
      · obtain ⟨q, hq, e1, e2⟩ := (zkb_bt T r0 i 7).mp e
        rw [hb q (by omega)] at e1
        have : p = q := by simpa using e1
        subst this
        exact Or.inr e2
    | succ k ih =>
      intro i e
      have hi := lt32 e
      have e : bt (zhd T r0 (k + 1) ||| zkb T (zhd T r0 (k + 1)) 7) i = true := e
      rw [b_or, Bool.or_eq_true] at e
      rcases e with e | e
      · rcases ih i e with h | h
        · exact Or.inl h
        · exact Or.inr (zps_up h _)
      · obtain ⟨q, hq, e1, e2⟩ := (zkb_bt T _ i 7).mp e
        have hqn : q < znp P := by
          by_cases z : q < znp P
          · exact z
          · rw [hW.2.2.2 q i hi (by omega)] at e2; cases e2
        rcases ih q e1 with h | h
        · subst h
          right
          have base : ∀ m, bt (zgp P T (t_k T q) m) i = true := by
            intro m
            induction m with
            | zero => exact e2
            | succ m ihm => exact zps_up ihm _
          exact base _
        · exact Or.inr (zps_in h e2 _ hqn)
  apply b_ext
  intro i hi
  rw [b_and, b_and, b_xor, b_m1 i hi, hb i hi]
  by_cases e : p = i
  · simp [e]
  · have e' : ¬ i = p := fun z => e z.symm
    have : bt (zgp P T (t_k T p) 7) i = bt (zhd T r0 7) i := by
      cases e1 : bt (zhd T r0 7) i
      · cases e2 : bt (zgp P T (t_k T p) 7) i
        · rfl
        · rw [up1 7 i e2] at e1; cases e1
      · have : bt (zhd T r0 (7 + 1)) i = true := zhd_up (k := 7) (by omega) e1
        rcases up2 7 i this with h | h
        · exact absurd h e'
        · exact h
    rw [this]
section GOSSIP
variable {M : Mem} {w : Nat} {Z : Zs}
theorem zc_kb {T : Tn} {t : Nat} (hT : CT (crow M t) T) (r : Int32) : F_X8_knownBy t r M = some (zkb T r 7) := by
  have key : ∀ j q f, q + j = 7 → j < f → L_X8_knownBy_4 t r M f (zkb T r q) (nI q) = some (zkb T r 7) := by
    intro j
    induction j with
    | zero =>
      intro q f e hf
      obtain ⟨f, rfl⟩ : ∃ f', f = f' + 1 := ⟨f - 1, by omega⟩
      obtain rfl : q = 7 := by omega
      rw [L_X8_knownBy_4, if_pos (by decide)]
    | succ j ih =>
      intro q f e hf
      obtain ⟨f, rfl⟩ : ∃ f', f = f' + 1 := ⟨f - 1, by omega⟩
      have e1 := ih (q + 1) f (by omega) (by omega)
      rw [zkb] at e1
      rw [L_X8_knownBy_4, if_neg (znge 7 7 rfl (by omega) (by omega)), nI_1]
      by_cases k : bt r q = false
      · rw [if_pos ((zbit0 (by omega)).mpr k)]
        rw [k, if_neg (by decide), z_or0] at e1
        exact e1
      · rw [if_neg (fun z => k ((zbit0 (by omega)).mp z)), zald (by omega) (by omega), zbs rfl, hT.k (by omega)]
        rw [if_pos (by simpa using k)] at e1
        exact e1
  unfold F_X8_knownBy
  exact zbs (key 7 0 FU (by omega) (by decide))
theorem zc_gos {p : Nat} (hc : RC w Z M) (r : Int32) : L_X11_gossip_11 0 (nI p) M FU r 0 = some (zhd (b_t (z_B Z)) r 7) := by
  have key : ∀ j k f, k + j = 7 → j < f → L_X11_gossip_11 0 (nI p) M f (zhd (b_t (z_B Z)) r k) (nI k) = some (zhd (b_t (z_B Z)) r 7) := by
    intro j
    induction j with
    | zero =>
      intro q f e hf
      obtain ⟨f, rfl⟩ : ∃ f', f = f' + 1 := ⟨f - 1, by omega⟩
      obtain rfl : q = 7 := by omega
      rw [L_X11_gossip_11, if_pos (by decide)]
    | succ j ih =>
      intro q f e hf
      obtain ⟨f, rfl⟩ : ∃ f', f = f' + 1 := ⟨f - 1, by omega⟩
      rw [L_X11_gossip_11, if_neg (znge 7 7 rfl (by omega) (by omega)), zc_kb hc.T, zbs rfl, nI_1]
      exact ih (q + 1) f (by omega) (by omega)
  exact key 7 0 FU (by omega) (by decide)
theorem zm_gos (hz : ZW Z) (hm : RM Z M) {p : Nat} (r : Int32) : L_X12_gossip_28 67 (nI p) M FU r 0 = some (zgp (z_P Z) (b_t (z_B Z)) r 7) := by
  have hP := hz.1
  have h7 := hP.2.2.1
  have inner : ∀ (x3 r : Int32), L_X12_gossip_37 67 (nI p) x3 M FU r 0 = some (zps (b_t (z_B Z)) r (znp (z_P Z))) := by
    intro x3 r
    have key : ∀ j q f, q + j = znp (z_P Z) → j < f → L_X12_gossip_37 67 (nI p) x3 M f (zps (b_t (z_B Z)) r q) (nI q) = some (zps (b_t (z_B Z)) r (znp (z_P Z))) := by
      intro j
      induction j with
      | zero =>
        intro q f e hf
        obtain ⟨f, rfl⟩ : ∃ f', f = f' + 1 := ⟨f - 1, by omega⟩
        obtain rfl : q = znp (z_P Z) := by omega
        rw [L_X12_gossip_37, hm.P.1.2.2.2.1, if_pos (nI_le (by omega) (by omega))]
      | succ j ih =>
        intro q f e hf
        obtain ⟨f, rfl⟩ : ∃ f', f = f' + 1 := ⟨f - 1, by omega⟩
        have e1 := ih (q + 1) f (by omega) (by omega)
        rw [zps] at e1
        rw [L_X12_gossip_37, hm.P.1.2.2.2.1, if_neg (nI_ge (by omega) (by omega)), zis (by omega)]
        unfold J_X12_gossip_j69
        rw [nI_1]
        by_cases k : bt (zps (b_t (z_B Z)) r q) q = false
        · rw [if_pos (zbi.mpr k)]
          rw [k, if_neg (by decide)] at e1
          exact e1
        · rw [if_neg (fun z => k (zbi.mp z)), zald (by omega) (by omega), zbs rfl, hm.T.k (by omega)]
          rw [if_pos (by simpa using k)] at e1
          exact e1
    exact key (znp (z_P Z)) 0 FU (by omega) (by unfold FU; omega)
  have key : ∀ j k f, k + j = 7 → j < f → L_X12_gossip_28 67 (nI p) M f (zgp (z_P Z) (b_t (z_B Z)) r k) (nI k) = some (zgp (z_P Z) (b_t (z_B Z)) r 7) := by
    intro j
    induction j with
    | zero =>
      intro q f e hf
      obtain ⟨f, rfl⟩ : ∃ f', f = f' + 1 := ⟨f - 1, by omega⟩
      obtain rfl : q = 7 := by omega
      rw [L_X12_gossip_28, if_pos (by decide)]
    | succ j ih =>
      intro q f e hf
      obtain ⟨f, rfl⟩ : ∃ f', f = f' + 1 := ⟨f - 1, by omega⟩
      rw [L_X12_gossip_28, if_neg (znge 7 7 rfl (by omega) (by omega)), inner, zbs rfl, nI_1]
      exact ih (q + 1) f (by omega) (by omega)
  exact key 7 0 FU (by omega) (by decide)
end GOSSIP
