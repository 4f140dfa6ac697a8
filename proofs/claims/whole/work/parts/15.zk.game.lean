/-! ===== a game of two who bribe ===== -/
def zbr (T : Tn) (p : Nat) : Tn := (t_n T, t_d T, t_h T, t_b T ||| ((1 : Int32) <<< (nI p &&& 31)), upd (t_c T) p (t_c T p - 5), t_k T, t_w T)
def zcp (T : Tn) (p o c r : Nat) : Tn := if r = 1 then zbr (if c = 1 then zbr T p else T) o else (if c = 1 then zbr T p else T)
def zbu (P : Pl) (T : Tn) (p o c r : Nat) : Nat → Int32 := (zpass P (zcp T p o c r) (zfog P (t_n T))).2.1
def zlo9 (B : Nat → Int32) (q : Nat) : Nat := if B q = -1 ∨ B q = nI q then 0 else 10
/-- what the one, the other loses -/
def zl1 (P : Pl) (T : Tn) (p o k : Nat) : Nat := 5 * (k / 2) + zlo9 (zbu P T p o (k / 2) (k % 2)) p
def zl2 (P : Pl) (T : Tn) (p o k : Nat) : Nat := 5 * (k % 2) + zlo9 (zbu P T p o (k / 2) (k % 2)) o
theorem zlo9_or (B : Nat → Int32) (q : Nat) : zlo9 B q = 0 ∨ zlo9 B q = 10 := by unfold zlo9; split <;> simp
theorem zbr_W {P : Pl} {T : Tn} (h : TW9 P T) {p : Nat} (hp : p < znp P) : TW9 P (zbr T p) := by
  refine ⟨h.1, h.2.1, fun q hq => ?_, h.2.2.2⟩
  show upd _ p _ q = 0
  rw [upd_app, if_neg (by omega)]; exact h.2.2.1 q hq
theorem zcp_W {P : Pl} {T : Tn} (h : TW9 P T) {p o c r : Nat} (hp : p < znp P) (ho : o < znp P) : TW9 P (zcp T p o c r) ∧ t_n (zcp T p o c r) = t_n T := by
  unfold zcp
  by_cases e1 : r = 1
  · rw [if_pos e1]
    by_cases e2 : c = 1
    · rw [if_pos e2]; exact ⟨zbr_W (zbr_W h hp) ho, rfl⟩
    · rw [if_neg e2]; exact ⟨zbr_W h ho, rfl⟩
  · rw [if_neg e1]
    by_cases e2 : c = 1
    · rw [if_pos e2]; exact ⟨zbr_W h hp, rfl⟩
    · rw [if_neg e2]; exact ⟨h, rfl⟩
/-- couples that rest: how many, the first -/
def zrest (P : Pl) (T : Tn) (p o C1 C2 k : Nat) : Bool := !(decide (C1 = 2) && decide (zl1 P T p o (2 * (1 - k / 2) + k % 2) < zl1 P T p o k)) && !(decide (C2 = 2) && decide (zl2 P T p o (2 * (k / 2) + 1 - k % 2) < zl2 P T p o k))
def zgm (P : Pl) (T : Tn) (p o C1 C2 : Nat) : Nat → Nat × Int32
  | 0 => (0, -1)
  | k + 1 => if k / 2 < C1 ∧ k % 2 < C2 ∧ zrest P T p o C1 C2 k = true then ((zgm P T p o C1 C2 k).1 + 1, if (zgm P T p o C1 C2 k).1 = 0 then nI (10 * (k / 2) + k % 2) else (zgm P T p o C1 C2 k).2) else zgm P T p o C1 C2 k
section GAME
variable {M : Mem} {w : Nat} {Z : Zs}
theorem CT.br {T : Tn} {p : Nat} (h : CT (crow M 48) T) (hp : p < 7) : CT (crow (F_X8_startBribing 48 (nI p) M) 48) (zbr T p) ∧ ∀ a, a ≠ 48 → a ≠ 49 → F_X8_startBribing 48 (nI p) M a = M a := by
  have e : F_X8_startBribing 48 (nI p) M = up (up M 49 p (t_c T p - 5)) 48 2 (t_b T ||| ((1 : Int32) <<< (nI p &&& 31))) := by
    unfold F_X8_startBribing
    rw [zat_at (by omega) (by omega), zput_at (by omega) (by omega), up_ne (j := 48) (by omega), show M (48 + 1) p = t_c T p from h.c hp, show M 48 2 = t_b T from h.b]
  rw [e]
  refine ⟨CT.of ?_ ?_ ?_ ?_ ?_ ?_ ?_, fun a x1 x2 => by rw [up_ne x1, up_ne x2]⟩
  · rw [up_app, if_neg (by omega), up_ne (by omega)]; exact h.n
  · rw [up_app, if_neg (by omega), up_ne (by omega)]; exact h.d
  · rw [up_app, if_pos ⟨rfl, rfl⟩]; rfl
  · rw [up_app, if_neg (by omega), up_ne (by omega)]; exact h.h
  · intro q hq
    rw [up_ne (by omega), up_app]
    show _ = upd _ p _ q
    rw [upd_app]
    by_cases e : q = p
    · rw [if_pos ⟨rfl, e⟩, if_pos e]
    · rw [if_neg (fun z => e z.2), if_neg e]; exact h.c hq
  · intro q hq; rw [up_ne (by omega), up_ne (by omega)]; exact h.k hq
  · intro q hq i hi; rw [up_ne (by omega), up_ne (by omega)]; exact h.w hq hi
theorem MT.br {T : Tn} {p : Nat} (h : MT (mrow M) T) (hp : p < 7) : ∃ M', F_X12_doBribe 67 (nI p) M = some M' ∧ MT (mrow M') (zbr T p) ∧ (∀ a, a ≠ 67 → a ≠ 81 → M' a = M a) ∧ ∀ k, k ≠ 32 → M' 67 k = M 67 k := by
  refine ⟨up (up M 81 p (t_c T p - 5)) 67 32 (t_b T ||| ((1 : Int32) <<< (nI p &&& 31))), ?_, MT.of ?_ ?_ ?_ ?_ ?_ ?_ ?_, fun a x1 x2 => by rw [up_ne x1, up_ne x2], fun k hk => by rw [up_app, if_neg (fun z => hk z.2), up_ne (by omega)]⟩
  · unfold F_X12_doBribe
    rw [zald (by omega) (by omega), zbs rfl, zast (by omega) (by omega), zbs rfl, show M (67 + 14) p = t_c T p from h.c hp, up_ne (j := 67) (by omega), h.b]
  · rw [up_app, if_neg (by omega), up_ne (by omega)]; exact h.n
  · rw [up_app, if_neg (by omega), up_ne (by omega)]; exact h.d
  · rw [up_app, if_neg (by omega), up_ne (by omega)]; exact h.h
  · rw [up_app, if_pos ⟨rfl, rfl⟩]; rfl
  · intro q hq
    rw [up_ne (by omega), up_app]
    show _ = upd _ p _ q
    rw [upd_app]
    by_cases e : q = p
    · rw [if_pos ⟨rfl, e⟩, if_pos e]
    · rw [if_neg (fun z => e z.2), if_neg e]; exact h.c hq
  · intro q hq; rw [up_ne (by omega), up_ne (by omega)]; exact h.k hq
  · intro q hq i hi; rw [up_ne (by omega), up_ne (by omega)]; exact h.w hq hi
theorem zc_loss {B : Nat → Int32} {q : Nat} (h : M 55 q = B q) (hq : q < 7) : F_X11_lossOf 0 (nI q) M = nI (zlo9 B q) := by
  unfold F_X11_lossOf zlo9
  rw [zat_at (by omega) (by omega), show M (0 + 52 + 3) q = B q from h]
  by_cases e1 : B q = -1
  · rw [if_pos e1, if_pos (Or.inl e1)]; rfl
  · rw [if_neg e1]
    by_cases e2 : B q = nI q
    · rw [if_pos e2, if_pos (Or.inr e2)]; rfl
    · rw [if_neg e2, if_neg (fun z => z.elim e1 e2)]; rfl
theorem zm_loss {B : Nat → Int32} {q c : Nat} (h : M 88 q = B q) (hq : q < 7) (hc : c < 2) : F_X12_loss 67 (nI q) (nI c) M = some (0 - nI (5 * c + zlo9 B q)) := by
  unfold F_X12_loss
  rw [zald (by omega) (by omega), zbs rfl, show M (67 + 21) q = B q from h]
  have e0 : ∀ l, l = 0 ∨ l = 10 → (if nI c = 1 then (-5 : Int32) else 0) - nI l = 0 - nI (5 * c + l) := by
    intro l hl
    have h9 : c = 0 ∨ c = 1 := by omega
    rcases h9 with rfl | rfl <;> rcases hl with rfl | rfl <;> decide
  unfold zlo9
  by_cases e1 : B q = -1
  · rw [if_pos e1, if_pos (Or.inl e1), ← e0 0 (Or.inl rfl)]; rfl
  · rw [if_neg e1]
    rw [zbs rfl]
    by_cases e2 : B q = nI q
    · rw [if_pos e2, if_pos (show B q = -1 ∨ B q = nI q from Or.inr e2), ← e0 0 (Or.inl rfl)]; rfl
    · rw [if_neg e2, if_neg (show ¬ (B q = -1 ∨ B q = nI q) from fun z => z.elim e1 e2), ← e0 10 (Or.inr rfl)]; rfl
/-- one couple is played: the class -/
theorem zc_couple (hz : ZW Z) (hc : RC w Z M) {p o c r : Nat} (hp : p < znp (z_P Z)) (ho : o < znp (z_P Z)) (hc2 : c < 2) (hr2 : r < 2) (x3 x4 : Int32) (rec : Int32 → Mem → Option Mem) : ∃ M3, ((F_X8_copy (0 + 48) ((0 + 24) + 1) M).bind fun q3 => if nI c = 1 then J_X11_playCouples_j47 0 rec (nI p) (nI o) x3 x4 (nI c) (nI r) (F_X8_startBribing (0 + 48) (nI p) q3) else J_X11_playCouples_j47 0 rec (nI p) (nI o) x3 x4 (nI c) (nI r) q3) = rec (nI (r + 1)) M3 ∧ (M3 65 (2 * c + r) = nI (5 * c + zlo9 (zbu (z_P Z) (b_t (z_B Z)) p o c r) p) ∧ M3 66 (2 * c + r) = nI (5 * r + zlo9 (zbu (z_P Z) (b_t (z_B Z)) p o c r) o)) ∧ (∀ j, j ≠ 2 * c + r → M3 65 j = M 65 j ∧ M3 66 j = M 66 j) ∧ Fz w M M3 := by
  have hP := hz.1
  have h7 := hP.2.2.1
  have hw := hc.ww
  obtain ⟨hTW, hTC, h9⟩ := hz.2.1.1
  obtain ⟨M1, e1, h1, h2, h3⟩ := zc_cp48 hc
  rw [zbs (show F_X8_copy (0 + 48) (0 + 24 + 1) M = some M1 from e1)]
  -- the bribes
  have go : ∀ (N : Mem), CT (crow N 48) (zcp (b_t (z_B Z)) p o c r) → (∀ a, (a < 48 ∨ 51 < a) → N a = M a) → ∃ M3, J_X11_playCouples_j61 0 rec (nI p) (nI o) x3 x4 (nI c) (nI r) N = rec (nI (r + 1)) M3 ∧ (M3 65 (2 * c + r) = nI (5 * c + zlo9 (zbu (z_P Z) (b_t (z_B Z)) p o c r) p) ∧ M3 66 (2 * c + r) = nI (5 * r + zlo9 (zbu (z_P Z) (b_t (z_B Z)) p o c r) o)) ∧ (∀ j, j ≠ 2 * c + r → M3 65 j = M 65 j ∧ M3 66 j = M 66 j) ∧ Fz w M M3 := by
    intro N hN nN
    have F0 : Fz w M N := ⟨fun a x => nN a (by omega), by rw [nN _ (by omega)]⟩
    have hcN := hc.keep F0
    obtain ⟨w1, w2⟩ := zcp_W (P := z_P Z) hTW (c := c) (r := r) hp ho
    have hf9 := zfog_le hP (t_n (b_t (z_B Z)))
    obtain ⟨M2, e2, S2, F2⟩ := zc_pass hP hcN.P hw (c := 48) hN w1 (by omega) (fog := zfog (z_P Z) (t_n (b_t (z_B Z)))) (by omega)
    have i1 : (2 : Int32) * nI c + nI r = nI (2 * c + r) := by rw [show (2 : Int32) * nI c = nI (2 * c) from zmul 2 c, nI_add]
    have l1 : (5 : Int32) * nI c + F_X11_lossOf 0 (nI p) M2 = nI (5 * c + zlo9 (zbu (z_P Z) (b_t (z_B Z)) p o c r) p) := by
      rw [zc_loss (B := zbu (z_P Z) (b_t (z_B Z)) p o c r) (S2.2.1 p (by omega)) (by omega), show (5 : Int32) * nI c = nI (5 * c) from zmul 5 c, nI_add]
    have l2 : ∀ j v, (5 : Int32) * nI r + F_X11_lossOf 0 (nI o) (up M2 65 j v) = nI (5 * r + zlo9 (zbu (z_P Z) (b_t (z_B Z)) p o c r) o) := by
      intro j v
      rw [zc_loss (B := zbu (z_P Z) (b_t (z_B Z)) p o c r) (by rw [up_ne (by omega)]; exact S2.2.1 o (by omega)) (by omega), show (5 : Int32) * nI r = nI (5 * r) from zmul 5 r, nI_add]
    refine ⟨up (up M2 65 (2 * c + r) (nI (5 * c + zlo9 (zbu (z_P Z) (b_t (z_B Z)) p o c r) p))) 66 (2 * c + r) (nI (5 * r + zlo9 (zbu (z_P Z) (b_t (z_B Z)) p o c r) o)), ?_, ⟨?_, ?_⟩, fun j hj => ⟨?_, ?_⟩, F0.tr ((F2.z hw).tr ⟨fun a x => by rw [up_ne (by omega), up_ne (by omega)], by rw [up_ne (by omega), up_ne (by omega)]⟩)⟩
    · unfold J_X11_playCouples_j61
      rw [hcN.grd, zbs rfl, zbs rfl, show N (0 + 48) 0 = nI (t_n (zcp (b_t (z_B Z)) p o c r)) from hN.n, w2, zc_fog hP hcN.P (by omega), zbs rfl, zbs (show F_X6_pass (0 + 52) w (0 + 48) (nI (zfog (z_P Z) (t_n (b_t (z_B Z))))) N = some M2 from e2), i1, l1, zput_at (a := 0 + 65) (by omega) (by omega), l2, zput_at (a := 0 + 66) (by omega) (by omega), nI_1]
    · rw [up_ne (by omega), up_app, if_pos ⟨rfl, rfl⟩]
    · rw [up_app, if_pos ⟨rfl, rfl⟩]
    · rw [up_ne (by omega), up_app, if_neg (fun z => hj z.2), F2.1 65 (by omega) (by omega) (by omega) (by omega), nN 65 (by omega)]
    · rw [up_app, if_neg (fun z => hj z.2), up_ne (by omega), F2.1 66 (by omega) (by omega) (by omega) (by omega), nN 66 (by omega)]
  have go2 : ∀ (N : Mem), CT (crow N 48) (if c = 1 then zbr (b_t (z_B Z)) p else b_t (z_B Z)) → (∀ a, (a < 48 ∨ 51 < a) → N a = M a) → ∃ M3, J_X11_playCouples_j47 0 rec (nI p) (nI o) x3 x4 (nI c) (nI r) N = rec (nI (r + 1)) M3 ∧ (M3 65 (2 * c + r) = nI (5 * c + zlo9 (zbu (z_P Z) (b_t (z_B Z)) p o c r) p) ∧ M3 66 (2 * c + r) = nI (5 * r + zlo9 (zbu (z_P Z) (b_t (z_B Z)) p o c r) o)) ∧ (∀ j, j ≠ 2 * c + r → M3 65 j = M 65 j ∧ M3 66 j = M 66 j) ∧ Fz w M M3 := by
    intro N hN nN
    unfold J_X11_playCouples_j47
    by_cases e : r = 1
    · rw [if_pos (by rw [e]; rfl)]
      obtain ⟨b1, b2⟩ := hN.br (p := o) (by omega)
      exact go _ (by unfold zcp; rw [if_pos e]; exact b1) (fun a ha => by rw [show F_X8_startBribing (0 + 48) (nI o) N a = N a from b2 a (by omega) (by omega)]; exact nN a ha)
    · rw [if_neg (zne 1 1 rfl e (by omega) (by omega))]
      exact go N (by unfold zcp; rw [if_neg e]; exact hN) nN
  by_cases e : c = 1
  · rw [if_pos (by rw [e]; rfl)]
    obtain ⟨b1, b2⟩ := h1.br (p := p) (by omega)
    exact go2 _ (by rw [if_pos e]; exact b1) (fun a ha => by rw [show F_X8_startBribing (0 + 48) (nI p) M1 a = M1 a from b2 a (by omega) (by omega)]; exact h3 a ha)
  · rw [if_neg (zne 1 1 rfl e (by omega) (by omega))]
    exact go2 M1 (by rw [if_neg e]; exact h1) h3
theorem zc_play (hz : ZW Z) (hc : RC w Z M) {p o C1 C2 : Nat} (hp : p < znp (z_P Z)) (ho : o < znp (z_P Z)) (h1 : C1 ≤ 2) (h2 : C2 ≤ 2) : ∃ M', F_X11_playCouples 0 (nI p) (nI o) (nI C1) (nI C2) M = some M' ∧ (∀ c r, c < C1 → r < C2 → M' 65 (2 * c + r) = nI (zl1 (z_P Z) (b_t (z_B Z)) p o (2 * c + r)) ∧ M' 66 (2 * c + r) = nI (zl2 (z_P Z) (b_t (z_B Z)) p o (2 * c + r))) ∧ Fz w M M' := by
  have dm : ∀ c r, r < 2 → (2 * c + r) / 2 = c ∧ (2 * c + r) % 2 = r := fun c r h => by omega
  have inner : ∀ c, c < C1 → ∀ j r f (N : Mem), r + j = C2 → j < f → Fz w M N → (∀ r', r' < r → N 65 (2 * c + r') = nI (zl1 (z_P Z) (b_t (z_B Z)) p o (2 * c + r')) ∧ N 66 (2 * c + r') = nI (zl2 (z_P Z) (b_t (z_B Z)) p o (2 * c + r'))) → ∃ N', L_X11_playCouples_12 0 (nI p) (nI o) (nI C1) (nI C2) (nI c) f (nI r) N = some N' ∧ (∀ r', r' < C2 → N' 65 (2 * c + r') = nI (zl1 (z_P Z) (b_t (z_B Z)) p o (2 * c + r')) ∧ N' 66 (2 * c + r') = nI (zl2 (z_P Z) (b_t (z_B Z)) p o (2 * c + r'))) ∧ (∀ j, (j < 2 * c ∨ 2 * c + 1 < j) → N' 65 j = N 65 j ∧ N' 66 j = N 66 j) ∧ Fz w M N' := by
    intro c hcC j
    induction j with
    | zero =>
      intro r f N e hf F a
      obtain ⟨f, rfl⟩ : ∃ f', f = f' + 1 := ⟨f - 1, by omega⟩
      obtain rfl : r = C2 := by omega
      rw [L_X11_playCouples_12, if_pos (nI_le (by omega) (by omega))]
      exact ⟨N, rfl, a, fun _ _ => ⟨rfl, rfl⟩, F⟩
    | succ j ih =>
      intro r f N e hf F a
      obtain ⟨f, rfl⟩ : ∃ f', f = f' + 1 := ⟨f - 1, by omega⟩
      rw [L_X11_playCouples_12, if_neg (nI_ge (by omega) (by omega))]
      obtain ⟨M3, e3, ⟨v1, v2⟩, k3, F3⟩ := zc_couple hz (hc.keep F) hp ho (c := c) (r := r) (by omega) (by omega) (nI C1) (nI C2) (L_X11_playCouples_12 0 (nI p) (nI o) (nI C1) (nI C2) (nI c) f)
      rw [e3]
      obtain ⟨N', e4, b1, b2, b3⟩ := ih (r + 1) f M3 (by omega) (by omega) (F.tr F3) (fun r' hr' => by
        by_cases q : r' = r
        · rw [q]
          refine ⟨?_, ?_⟩
          · rw [v1]; unfold zl1; rw [(dm c r (by omega)).1, (dm c r (by omega)).2]
          · rw [v2]; unfold zl2; rw [(dm c r (by omega)).1, (dm c r (by omega)).2]
        · rw [(k3 (2 * c + r') (by omega)).1, (k3 (2 * c + r') (by omega)).2]; exact a r' (by omega))
      exact ⟨N', e4, b1, fun j hj => ⟨by rw [(b2 j hj).1, (k3 j (by omega)).1], by rw [(b2 j hj).2, (k3 j (by omega)).2]⟩, b3⟩
  have outer : ∀ j c f (N : Mem), c + j = C1 → j < f → Fz w M N → (∀ c' r, c' < c → r < C2 → N 65 (2 * c' + r) = nI (zl1 (z_P Z) (b_t (z_B Z)) p o (2 * c' + r)) ∧ N 66 (2 * c' + r) = nI (zl2 (z_P Z) (b_t (z_B Z)) p o (2 * c' + r))) → ∃ N', L_X11_playCouples_3 0 (nI p) (nI o) (nI C1) (nI C2) f (nI c) N = some N' ∧ (∀ c' r, c' < C1 → r < C2 → N' 65 (2 * c' + r) = nI (zl1 (z_P Z) (b_t (z_B Z)) p o (2 * c' + r)) ∧ N' 66 (2 * c' + r) = nI (zl2 (z_P Z) (b_t (z_B Z)) p o (2 * c' + r))) ∧ Fz w M N' := by
    intro j
    induction j with
    | zero =>
      intro c f N e hf F a
      obtain ⟨f, rfl⟩ : ∃ f', f = f' + 1 := ⟨f - 1, by omega⟩
      obtain rfl : c = C1 := by omega
      rw [L_X11_playCouples_3, if_pos (nI_le (by omega) (by omega))]
      exact ⟨N, rfl, a, F⟩
    | succ j ih =>
      intro c f N e hf F a
      obtain ⟨f, rfl⟩ : ∃ f', f = f' + 1 := ⟨f - 1, by omega⟩
      rw [L_X11_playCouples_3, if_neg (nI_ge (by omega) (by omega))]
      obtain ⟨N', e4, b1, b2, b3⟩ := inner c (by omega) C2 0 FU N (by omega) (by unfold FU; omega) F (fun r' hr' => by omega)
      rw [zbs (show L_X11_playCouples_12 0 (nI p) (nI o) (nI C1) (nI C2) (nI c) FU 0 N = some N' from e4), nI_1]
      refine ih (c + 1) f N' (by omega) (by omega) b3 (fun c' r hc' hr => ?_)
      by_cases q : c' = c
      · rw [q]; exact b1 r hr
      · rw [(b2 (2 * c' + r) (by omega)).1, (b2 (2 * c' + r) (by omega)).2]; exact a c' r (by omega) hr
  obtain ⟨M', e, a, F⟩ := outer C1 0 FU M (by omega) (by unfold FU; omega) Fz.rf (fun c' r h => by omega)
  refine ⟨M', ?_, a, F⟩
  unfold F_X11_playCouples
  exact zbs e
end GAME
