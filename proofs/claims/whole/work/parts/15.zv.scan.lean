/-! ===== the walks that fit, the class's ===== -/
/-- the lots of night k, as a number -/
def yl (P : Pl) (T : Tn) (k : Nat) : Nat := ymk (fun q => !(zsk P T (t_w T q) (k + 1) q == 0)) (znp P)
def yft (P : Pl) (T : Tn) (B : Bk) (p i s : Nat) : Bool := !(t_w T p i == s) && yha P (zTw T p i s) B
def yS (P : Pl) (T : Tn) (B : Bk) (p i : Nat) : Nat → List (Nat × Nat × Nat)
  | 0 => []
  | s + 1 => yS P T B p i s ++ if yft P T B p i s = true then [(p, i, s)] else []
def yI (P : Pl) (T : Tn) (B : Bk) (p : Nat) : Nat → List (Nat × Nat × Nat)
  | 0 => []
  | i + 1 => yI P T B p i ++ yS P T B p i (zns P)
def yL (P : Pl) (T : Tn) (B : Bk) : Nat → List (Nat × Nat × Nat)
  | 0 => []
  | p + 1 => yL P T B p ++ yI P T B p (p_ln P p)
def yc (e : Nat × Nat × Nat) : Nat := 100 * e.1 + 10 * e.2.1 + e.2.2
def yT (T : Tn) (e : Nat × Nat × Nat) : Tn := zTw T e.1 e.2.1 e.2.2
def yfst : List (Nat × Nat × Nat) → Int32
  | [] => -1
  | e :: _ => nI (yc e)
/-- what the class has noted -/
def CS (P : Pl) (T : Tn) (M : Mem) (L : List (Nat × Nat × Nat)) : Prop := M 61 2 = nI L.length ∧ M 61 3 = yfst L ∧ ∀ k, k < 12 → ∀ u, u < 4 → ∀ i, i < 32 → bt (M 63 (4 * k + u)) i = L.any (fun e => decide (yl P (yT T e) k = 32 * u + i))
theorem yS_len {P : Pl} {T : Tn} {B : Bk} {p i : Nat} : ∀ s, (yS P T B p i s).length ≤ s
  | 0 => Nat.le_refl _
  | s + 1 => by
    have := yS_len (P := P) (T := T) (B := B) (p := p) (i := i) s
    rw [yS, List.length_append]
    split
    · simp; omega
    · simp; omega
theorem yI_len {P : Pl} {T : Tn} {B : Bk} {p : Nat} (h : zns P ≤ 8) : ∀ i, (yI P T B p i).length ≤ 8 * i
  | 0 => Nat.le_refl _
  | i + 1 => by
    have := yI_len (T := T) (B := B) (p := p) h i
    have := yS_len (P := P) (T := T) (B := B) (p := p) (i := i) (zns P)
    rw [yI, List.length_append]; omega
theorem yL_len {P : Pl} {T : Tn} {B : Bk} {n : Nat} (h : zns P ≤ 8) (h6 : ∀ p, p < n → p_ln P p ≤ 6) : ∀ p, p ≤ n → (yL P T B p).length ≤ 48 * p
  | 0, _ => Nat.le_refl _
  | p + 1, hp => by
    have := yL_len (T := T) (B := B) h h6 p (by omega)
    have := yI_len (T := T) (B := B) (p := p) h (p_ln P p)
    have := h6 p (by omega)
    rw [yL, List.length_append]; omega
section SCAN
variable {M : Mem} {w : Nat} {Z : Zs}
theorem CS.add {P : Pl} {T : Tn} {M M' : Mem} {L : List (Nat × Nat × Nat)} (h : CS P T M L) (hl : L.length < 2147483648) {p i s : Nat} (g1 : M' 61 2 = M 61 2 + 1) (g2 : M' 61 3 = (if M 61 2 = 0 then nI (yc (p, i, s)) else M 61 3)) (g3 : ∀ k, k < 12 → ∀ u, u < 4 → ∀ j, j < 32 → bt (M' 63 (4 * k + u)) j = (bt (M 63 (4 * k + u)) j || decide (yl P (yT T (p, i, s)) k = 32 * u + j))) : CS P T M' (L ++ [(p, i, s)]) := by
  refine ⟨?_, ?_, fun k hk u hu j hj => ?_⟩
  · rw [g1, h.1, nI_1, List.length_append]; rfl
  · rw [g2, h.1, h.2.1]
    cases L with
    | nil => exact if_pos rfl
    | cons e L => rw [if_neg (nI_ne0 (by simp) hl)]; rfl
  · rw [g3 k hk u hu j hj, h.2.2 k hk u hu j hj, List.any_append]; simp
theorem CS.of {P : Pl} {T : Tn} {M M' : Mem} {L : List (Nat × Nat × Nat)} (h : CS P T M L) (e1 : M' 61 = M 61) (e2 : M' 63 = M 63) : CS P T M' L := by
  unfold CS; rw [e1, e2]; exact h
/-- but for the notes all stands -/
def Fn (M M' : Mem) : Prop := (∀ a, a ≠ 61 → a ≠ 62 → a ≠ 63 → M' a = M a) ∧ M' 61 4 = M 61 4
theorem Fn.rf : Fn M M := ⟨fun _ _ _ _ => rfl, rfl⟩
theorem Fn.tr {M1 M2 : Mem} (h : Fn M M1) (h2 : Fn M1 M2) : Fn M M2 := ⟨fun a x y z => (h2.1 a x y z).trans (h.1 a x y z), h2.2.trans h.2⟩
theorem Fn.z {M' : Mem} (hw : w = 3 ∨ w = 14) (h : Fn M M') : Fz w M M' := ⟨fun a x => h.1 a (by omega) (by omega) (by omega), by rw [h.1 _ (by omega) (by omega) (by omega)]⟩
/-- the table of nights: row p aside, as the town's walks have it -/
def CN (P : Pl) (T : Tn) (M : Mem) (p : Nat) : Prop := ∀ q, q < znp P → q ≠ p → M 62 q = ynt P T (t_w T q) q
theorem zsk_w (P : Pl) (T : Tn) (p i s : Nat) (wk : Nat → Nat) (k q : Nat) : zsk P (zTw T p i s) wk k q = zsk P T wk k q := rfl
theorem ynt_bt0 {P : Pl} {T : Tn} {wk : Nat → Nat} {p k : Nat} (h : k < 12) : bt (ynt P T wk p) k = !(zsk P T wk (k + 1) p == 0) := by
  have := ynt_bt (P := P) (T := T) (wk := wk) (p := p) (i := k + 1) (by omega) (by omega)
  rwa [Nat.add_sub_cancel] at this
theorem ymk_cong {f g : Nat → Bool} : ∀ n, (∀ k, k < n → f k = g k) → ymk f n = ymk g n
  | 0, _ => rfl
  | n + 1, h => by rw [ymk, ymk, ymk_cong n (fun k hk => h k (by omega)), h n (by omega)]
/-- with a row of its own the table is the changed town's -/
theorem CN.tab {P : Pl} {T : Tn} {p i s : Nat} (h : CN P T M p) (hp : M 62 p = ynt P T (t_w (zTw T p i s) p) p) {q : Nat} (hq : q < znp P) : M 62 q = ynt P (zTw T p i s) (t_w (zTw T p i s) q) q := by
  by_cases e : q = p
  · rw [e]; exact hp
  · rw [h q hq e]
    show _ = ynt P T (t_w (zTw T p i s) q) q
    congr 1
    funext j
    show _ = if q = p ∧ j = i then s else t_w T q j
    rw [if_neg (fun z => e z.1)]
theorem zc_try43 (hz : ZW Z) (hc : RC w Z M) {p i : Nat} (hp : p < znp (z_P Z)) (hi : i < 6) {L : List (Nat × Nat × Nat)} (hL : L.length ≤ 48 * p + 8 * i) (hS : CS (z_P Z) (b_t (z_B Z)) M L) (hN : CN (z_P Z) (b_t (z_B Z)) M p) (x7 : Int32) : Evs (L_X4_tryWalksOf_43 61 w 25 31 (nI p) (M 28 p) x7 (nI (p_ln (z_P Z) p)) (nI i) FU 0 M) (fun M' => CS (z_P Z) (b_t (z_B Z)) M' (L ++ yS (z_P Z) (b_t (z_B Z)) (z_B Z) p i (zns (z_P Z))) ∧ CN (z_P Z) (b_t (z_B Z)) M' p ∧ Fn M M') := by
  have hP := hz.1
  have hw := hc.ww
  have h7 := hP.2.2.1
  have h8 := hP.1.2
  obtain ⟨⟨hTW, hTC, h9⟩, -, -, hm8, hq⟩ := hz.2.1
  have key : ∀ j s f (N : Mem), s + j = zns (z_P Z) → j < f → CS (z_P Z) (b_t (z_B Z)) N (L ++ yS (z_P Z) (b_t (z_B Z)) (z_B Z) p i s) → CN (z_P Z) (b_t (z_B Z)) N p → Fn M N → Evs (L_X4_tryWalksOf_43 61 w 25 31 (nI p) (M 28 p) x7 (nI (p_ln (z_P Z) p)) (nI i) f (nI s) N) (fun M' => CS (z_P Z) (b_t (z_B Z)) M' (L ++ yS (z_P Z) (b_t (z_B Z)) (z_B Z) p i (zns (z_P Z))) ∧ CN (z_P Z) (b_t (z_B Z)) M' p ∧ Fn M M') := by
    intro j
    induction j with
    | zero =>
      intro s f N e hf c1 c2 F
      obtain ⟨f, rfl⟩ : ∃ f', f = f' + 1 := ⟨f - 1, by omega⟩
      obtain rfl : s = zns (z_P Z) := by omega
      rw [L_X4_tryWalksOf_43, show N w 0 = _ from (hc.keep (F.z hw)).P.1.1, if_pos (nI_le (by omega) (by omega))]
      exact Evs.pure ⟨c1, c2, F⟩
    | succ j ih =>
      intro s f N e hf c1 c2 F
      obtain ⟨f, rfl⟩ : ∃ f', f = f' + 1 := ⟨f - 1, by omega⟩
      have hcN := hc.keep (F.z hw)
      have hwi := hTW.2.1 p i
      have ih' := fun N2 => ih (s + 1) f N2 (by omega) (by omega)
      rw [yS] at ih'
      rw [L_X4_tryWalksOf_43, show N w 0 = _ from hcN.P.1.1, if_neg (nI_ge (by omega) (by omega)), show F_X11_streetIn (M 28 p) (nI i) = nI (t_w (b_t (z_B Z)) p i) from hc.T.w (by omega) hi, nI_1]
      by_cases q : t_w (b_t (z_B Z)) p i = s
      · rw [if_pos (by rw [q])]
        have hft : yft (z_P Z) (b_t (z_B Z)) (z_B Z) p i s = false := by unfold yft; simp [q]
        rw [hft] at ih'
        simp only [Bool.false_eq_true, if_false, List.append_nil] at ih'
        exact ih' N c1 c2 F
      · rw [if_neg (fun z => q ((nI_eq (by omega) (by omega)).mp z).symm)]
        have hnt : F_X4_nightsOf w 25 (nI p) (F_X11_walkWith (M 28 p) (nI i) (nI s)) N = some (ynt (z_P Z) (b_t (z_B Z)) (t_w (zTw (b_t (z_B Z)) p i s) p) p) := by
          refine zc_nights hz hcN ⟨hcN.T.n, hcN.T.b⟩ (by omega) hp (fun k hk => ?_) (fun k => ?_)
          · rw [zwith hi (by omega) hk, show F_X11_streetIn (M 28 p) (nI k) = nI (t_w (b_t (z_B Z)) p k) from hc.T.w (by omega) hk]
            show _ = nI (if p = p ∧ k = i then s else t_w (b_t (z_B Z)) p k)
            by_cases e2 : k = i
            · rw [if_pos e2, if_pos ⟨rfl, e2⟩]
            · rw [if_neg e2, if_neg (fun z => e2 z.2)]
          · show (if p = p ∧ k = i then s else t_w (b_t (z_B Z)) p k) < 8
            have := hTW.2.1 p k
            split <;> omega
        rw [hnt, zbs rfl, show F_X11_put (61 + 1) 7 (nI p) (ynt (z_P Z) (b_t (z_B Z)) (t_w (zTw (b_t (z_B Z)) p i s) p) p) N = up N 62 p (ynt (z_P Z) (b_t (z_B Z)) (t_w (zTw (b_t (z_B Z)) p i s) p) p) from zput_at (by omega) (by omega)]
        have F2 : Fn N (up N 62 p (ynt (z_P Z) (b_t (z_B Z)) (t_w (zTw (b_t (z_B Z)) p i s) p) p)) := ⟨fun a x y z => by rw [up_ne y], by rw [up_ne (by omega)]⟩
        have c3 : CN (z_P Z) (b_t (z_B Z)) (up N 62 p (ynt (z_P Z) (b_t (z_B Z)) (t_w (zTw (b_t (z_B Z)) p i s) p) p)) p := fun q hq hn => by rw [up_app, if_neg (fun z => hn z.2)]; exact c2 q hq hn
        have c4 : CS (z_P Z) (b_t (z_B Z)) (up N 62 p (ynt (z_P Z) (b_t (z_B Z)) (t_w (zTw (b_t (z_B Z)) p i s) p) p)) (L ++ yS (z_P Z) (b_t (z_B Z)) (z_B Z) p i s) := c1.of (up_ne (by omega)) (up_ne (by omega))
        have tab : ∀ q, q < znp (z_P Z) → (up N 62 p (ynt (z_P Z) (b_t (z_B Z)) (t_w (zTw (b_t (z_B Z)) p i s) p) p)) 62 q = ynt (z_P Z) (zTw (b_t (z_B Z)) p i s) (t_w (zTw (b_t (z_B Z)) p i s) q) q := fun q hq => c3.tab (by rw [up_app, if_pos ⟨rfl, rfl⟩]) hq
        generalize up N 62 p (ynt (z_P Z) (b_t (z_B Z)) (t_w (zTw (b_t (z_B Z)) p i s) p) p) = N1 at F2 c3 c4 tab ⊢
        have F3 := F.tr F2
        have hc1 := hc.keep (F3.z hw)
        have ho : F_X7_holds 31 62 7 N1 = some (yha (z_P Z) (zTw (b_t (z_B Z)) p i s) (z_B Z)) := by
          rw [zc_holds hc1.B (fun i hi => ⟨by have := (hq i hi).1; omega, (hq i hi).2⟩) hm8]
          unfold yha
          congr 1
          refine yal_cong _ (fun j hj => ?_)
          rw [tab _ (hq j hj).1, ynt_bt (hq j hj).2.1 (hq j hj).2.2]
          rfl
        rw [ho, zbs rfl]
        by_cases g : yha (z_P Z) (zTw (b_t (z_B Z)) p i s) (z_B Z) = true
        · rw [if_neg (by rw [g]; decide)]
          have hft : yft (z_P Z) (b_t (z_B Z)) (z_B Z) p i s = true := by unfold yft; rw [g]; simp [q]
          rw [hft] at ih'
          simp only [if_true] at ih'
          have hcode : 100 * nI p + 10 * nI i + nI s = nI (yc (p, i, s)) := by
            rw [show (100 : Int32) = nI 100 from rfl, show (10 : Int32) = nI 10 from rfl, zmul, zmul, nI_add, nI_add]; rfl
          rw [hcode, show N1 w 3 = _ from hc1.P.1.2.2.2.1]
          refine Evs.bind (zc_note (M := N1) (n := znp (z_P Z)) h7) (fun N2 h2 => ?_)
          obtain ⟨g1, g2, g3, g4, g5⟩ := h2
          refine ih' N2 ?_ (fun q hq hn => by rw [g5 62 (by omega) (by omega)]; exact c3 q hq hn) (F3.tr ⟨fun a x y z => g5 a x z, g3 4 (by omega) (by omega)⟩)
          rw [← List.append_assoc]
          refine c4.add ?_ g1 g2 (fun k hk u hu j hj => ?_)
          · have := yS_len (P := z_P Z) (T := b_t (z_B Z)) (B := z_B Z) (p := p) (i := i) s
            rw [List.length_append]; omega
          · rw [g4 k hk u hu j hj]
            congr 2
            rw [show yv N1 (znp (z_P Z)) k = yl (z_P Z) (yT (b_t (z_B Z)) (p, i, s)) k from ymk_cong _ (fun q hq => by rw [tab q hq, ynt_bt0 hk]; rfl)]
        · rw [if_pos (by rw [zbi]; simpa using g)]
          have hft : yft (z_P Z) (b_t (z_B Z)) (z_B Z) p i s = false := by unfold yft; rw [show yha (z_P Z) (zTw (b_t (z_B Z)) p i s) (z_B Z) = false by simpa using g, Bool.and_false]
          rw [hft] at ih'
          simp only [Bool.false_eq_true, if_false, List.append_nil] at ih'
          exact ih' N1 c4 c3 F3
  exact key (zns (z_P Z)) 0 FU M (by omega) (by unfold FU; omega) (by rw [yS, List.append_nil]; exact hS) hN Fn.rf
end SCAN
