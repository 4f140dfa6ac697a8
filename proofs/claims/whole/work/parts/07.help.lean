theorem ob {α β : Type} {o : Option α} {f : α → Option β} {b : β} (h : o.bind f = some b) : ∃ a, o = some a ∧ f a = some b := Option.bind_eq_some_iff.mp h
/-- how often a loop is gone round at most -/
def FU : Nat := 100000
def bgd (x : Int32) : Option Bool := if x = 0 then some false else if x = 1 then some true else none
theorem bgd_some {x : Int32} {b : Bool} (h : bgd x = some b) : x = bi b := by
  unfold bgd at h
  split at h
  · obtain rfl := Option.some.inj h
    rename_i h1
    rw [h1]
    rfl
  · split at h
    · obtain rfl := Option.some.inj h
      rename_i h1
      rw [h1]
      rfl
    · cases h
theorem ts_out {x : Int32} (lo hi : Int) (h0 : lo ≤ hi) (h : ∀ v : Int, lo ≤ v → v ≤ hi → ¬ x.toInt = v) : x.toInt < lo ∨ hi < x.toInt := by
  by_cases h1 : x.toInt < lo
  · exact Or.inl h1
  · by_cases h2 : hi < x.toInt
    · exact Or.inr h2
    · exact absurd rfl (h x.toInt (by omega) (by omega))
/-- a text out of a row of texts -/
def sld (j : Nat) (x : Int32) : Option Nat := if ¬ (x < 0 ∨ txl j ≤ x.toNatClampNeg) then (if txi j x.toNatClampNeg < 38 then some (txi j x.toNatClampNeg) else none) else none
theorem sld_some {j u : Nat} {x : Int32} (h : sld j x = some u) : vp_in x (txl j) ∧ txi j x.toNatClampNeg = u ∧ u < 38 := by
  unfold sld at h
  split at h
  · rename_i h1
    split at h
    · rename_i h2
      obtain rfl := Option.some.inj h
      exact ⟨h1, rfl, h2⟩
    · cases h
  · cases h
theorem sld_lt {j u : Nat} {x : Int32} (h : sld j x = some u) : u < 38 := (sld_some h).2.2
theorem zst_some {M M2 : Mem} {a N : Nat} {x v : Int32} (h : zst M a N x v = some M2) : vp_in x N ∧ up M a x.toNatClampNeg (vp_nar .boolean v) = M2 := by
  unfold zst at h
  split at h
  · exact ⟨by assumption, Option.some.inj h⟩
  · cases h
section EWZ
variable {X : FX} {g : WC} {z n nL : Nat} {E : Nat → va_E} {k sl pc : Nat} {lv : List (Nat × Value)} {st : List Value} {own : String} {cc : ByteArray}
theorem e_zast (C : Cx X g own cc nL) {i N : Nat} {f : Nat → Int32} {x v : Int32} (hd : decode cc pc = .ok (.bastore, 1)) (hi : i < n) (he : E i = .inl (g_ac g 1, N, .inl f)) (hin : vp_in x N) (kk : EW X g z n nL (upE E i (.inl (g_ac g 1, N, .inl (upd f x.toNatClampNeg (vp_nar .boolean v))))) k sl (pc + 1) lv st) : EW X g z n nL E k sl pc lv (.int v :: .int x :: .ref (g_N g + i) :: st) := fun H locs ls hP hz hS hl => by
  have hat : H[g_N g + i]? = some (vp_cell (g_ac g 1) (N, .inl f)) := hP i (g_N g + i, .inl (g_ac g 1, N, .inl f)) (by rw [Wof_get hi, he])
  refine W.zast C.1 C.2.1 hat ((C.2.2.2.2.2.1.2 1 _ rfl).1 N (fun j => .int (f j))) (fun q => by cases q) (by show ¬ (x < 0 ∨ (arrV _ _ _).slots.size ≤ _); rw [arrV_size]; exact hin) rfl rfl hd fun H1 e zz oq => ?_
  refine kk H1 _ ls (va_P_upE hP hi ?_ oq) (zz.trans hz) (hS.put zz oq (Nat.le_add_right _ _)) hl
  show H1[g_N g + i]? = some (vp_cell _ _)
  rw [e, vp_cell_i, vp_cell_i, arrV_store]
  congr 2
  funext q
  by_cases hq : q = x.toNatClampNeg
  · subst hq
    simp [updV, upd, vp_nar]
    rfl
  · simp [updV, upd, hq]
theorem e_aald (C : Cx X g own cc nL) {i N : Nat} {f : Nat → Option Nat} {x : Int32} {q : Nat} (hd : decode cc pc = .ok (.aaload, 1)) (hi : i < n) (he : E i = .inl (g_ac g 3, N, .inr (.inr (.inr (.inr f))))) (hin : vp_in x N) (hq : f x.toNatClampNeg = some q) (kk : EW X g z n nL E k sl (pc + 1) lv (.ref q :: st)) : EW X g z n nL E k sl pc lv (.int x :: .ref (g_N g + i) :: st) := fun H locs ls hP hz hS hl =>
  va_aldq C.1 C.2.1 C.2.2.2.2.2.1 hP i 3 (by rw [Wof_get hi, he]) rfl hin hd (by rw [hq]; exact kk H locs ls hP hz hS hl)
end EWZ
section MW2
variable {X : FX} {g : WC} {z n nL k sl pc : Nat} {lv : List (Nat × Value)} {st : List Value} {own : String} {cc : ByteArray} {Xo : Nat → va_E} {kd : Nat → Nat} {M M2 : Mem} {i N : Nat} {x v : Int32}
theorem m_aldc (C : Cx X g own cc nL) (K : KD n kd) (h : IA kd i N) (j : Nat) (hd : decode cc pc = .ok (.iaload, 1)) (hj : x.toNatClampNeg = j) (hin : ¬ (x < 0 ∨ N ≤ x.toNatClampNeg)) (kk : EW X g z n nL (ent g Xo kd M) k sl (pc + 1) lv (.int (M i j) :: st)) : EW X g z n nL (ent g Xo kd M) k sl pc lv (.int x :: .ref (g_N g + i) :: st) := by
  subst hj
  exact e_iald C hd (K.1 i (by rw [h.1]; omega)) (ent_ia h) hin kk
theorem m_zld (C : Cx X g own cc nL) (K : KD n kd) (h : ZA kd i N) (hd : decode cc pc = .ok (.baload, 1)) (hx : ald M i N x = some v) (kk : EW X g z n nL (ent g Xo kd M) k sl (pc + 1) lv (.int v :: st)) : EW X g z n nL (ent g Xo kd M) k sl pc lv (.int x :: .ref (g_N g + i) :: st) := by
  obtain ⟨h1, rfl⟩ := ald_some hx
  exact e_zald C hd (K.1 i (by rw [h.1]; omega)) (ent_za h) h1 kk
theorem m_zst (C : Cx X g own cc nL) (K : KD n kd) (h : ZA kd i N) (hd : decode cc pc = .ok (.bastore, 1)) (hx : zst M i N x v = some M2) (kk : EW X g z n nL (ent g Xo kd M2) k sl (pc + 1) lv st) : EW X g z n nL (ent g Xo kd M) k sl pc lv (.int v :: .int x :: .ref (g_N g + i) :: st) := by
  obtain ⟨h1, rfl⟩ := zst_some hx
  exact e_zast C hd (K.1 i (by rw [h.1]; omega)) (ent_za h) h1 (e_E (fun j _ => upE_ent (entR_za h) j) kk)
theorem m_zlen (C : Cx X g own cc nL) (K : KD n kd) (h : ZA kd i N) (v : Int32) (hv : Int32.ofNat N = v) (hd : decode cc pc = .ok (.arraylength, 1)) (kk : EW X g z n nL (ent g Xo kd M) k sl (pc + 1) lv (.int v :: st)) : EW X g z n nL (ent g Xo kd M) k sl pc lv (.ref (g_N g + i) :: st) :=
  e_alen C (t0 := 1) v hd (K.1 i (by rw [h.1]; omega)) (ent_za h) rfl hv kk
theorem m_sld (C : Cx X g own cc nL) (K : KD n kd) {j u : Nat} (h : SA kd i j) (hd : decode cc pc = .ok (.aaload, 1)) (hx : sld j x = some u) (kk : EW X g z n nL (ent g Xo kd M) k sl (pc + 1) lv (.ref (g_sa g u) :: st)) : EW X g z n nL (ent g Xo kd M) k sl pc lv (.int x :: .ref (g_N g + i) :: st) := by
  obtain ⟨h1, h2, -⟩ := sld_some hx
  exact e_aald C hd (K.1 i (by rw [show kd i = 40000 + j from h]; omega)) (ent_sa h) h1 (by rw [h2]) kk
theorem m_slen (C : Cx X g own cc nL) (K : KD n kd) {j : Nat} (h : SA kd i j) (hd : decode cc pc = .ok (.arraylength, 1)) (kk : EW X g z n nL (ent g Xo kd M) k sl (pc + 1) lv (.int (nI (txl j)) :: st)) : EW X g z n nL (ent g Xo kd M) k sl pc lv (.ref (g_N g + i) :: st) :=
  e_alen C (t0 := 3) (nI (txl j)) hd (K.1 i (by rw [show kd i = 40000 + j from h]; omega)) (ent_sa h) rfl rfl kk
end MW2
theorem pn_X0 : plainName RX0 = true := by decide +kernel
theorem pn_X1 : plainName RX1 = true := by decide +kernel
theorem pn_X2 : plainName RX2 = true := by decide +kernel
theorem pn_X3 : plainName RX3 = true := by decide +kernel
theorem pn_X4 : plainName RX4 = true := by decide +kernel
theorem pn_X5 : plainName RX5 = true := by decide +kernel
theorem pn_X6 : plainName RX6 = true := by decide +kernel
theorem pn_X7 : plainName RX7 = true := by decide +kernel
theorem pn_X8 : plainName RX8 = true := by decide +kernel
theorem pn_X9 : plainName RX9 = true := by decide +kernel
theorem pn_X10 : plainName RX10 = true := by decide +kernel
theorem pn_X11 : plainName RX11 = true := by decide +kernel
theorem pn_X12 : plainName RX12 = true := by decide +kernel
theorem pn_J6 : plainName RJ6 = true := by decide +kernel
def imax (x y : Int32) : Int32 := if x < y then y else x
def imin (x y : Int32) : Int32 := if y < x then y else x
section EMM
variable {X : FX} {g : WC} {z n nL d : Nat} {E : Nat → va_E} {k sl pc : Nat} {lv : List (Nat × Value)} {st : List Value} {own : String} {cc : ByteArray} {idx : Nat} {x y : Int32}
theorem e_mmax (C : Cx X g own cc nL) (hR : x_R X = rm d) (hl : Cond.methodLink own idx yJ9_max_7cf53 ∈ TW) (hd : decode cc pc = .ok (.invokestatic idx, 3)) (hs : (st.map fun v => v.category).sum ≤ 8) (kk : EW X g z n nL E 0 0 (pc + 3) lv (.int (imax x y) :: st)) : EW X g z n nL E 0 0 pc lv (.int y :: .int x :: st) := fun H locs ls hP hz hS hlv =>
  va_mmax C.1 C.2.1 (C.2.2.1.trans hlv.1.symm) C.2.2.2.1 (C.2.2.2.2.1 _ hl) (C.2.2.2.2.1 _ sm_J9_max_7cf53) (C.2.2.2.2.1 _ ini_J9) (C.2.2.2.2.1 _ (show Cond.code Lib.Math.max.name Lib.Math.max.code 2 (some .int) ∈ TW from co_J9_max_7cf53)) (by rw [hR]; simp [rm]) (by rw [hR]; simp only [rm]; omega) (Nat.zero_le _) (Nat.zero_le _) hd (kk H locs ls hP hz hS hlv)
theorem e_mmin (C : Cx X g own cc nL) (hR : x_R X = rm d) (hl : Cond.methodLink own idx yJ9_min_7cf53 ∈ TW) (hd : decode cc pc = .ok (.invokestatic idx, 3)) (hs : (st.map fun v => v.category).sum ≤ 8) (kk : EW X g z n nL E 0 0 (pc + 3) lv (.int (imin x y) :: st)) : EW X g z n nL E 0 0 pc lv (.int y :: .int x :: st) := fun H locs ls hP hz hS hlv =>
  va_mmin C.1 C.2.1 (C.2.2.1.trans hlv.1.symm) C.2.2.2.1 (C.2.2.2.2.1 _ hl) (C.2.2.2.2.1 _ sm_J9_min_7cf53) (C.2.2.2.2.1 _ ini_J9) (C.2.2.2.2.1 _ (show Cond.code Lib.Math.min.name Lib.Math.min.code 2 (some .int) ∈ TW from co_J9_min_7cf53)) (by rw [hR]; simp [rm]) (by rw [hR]; simp only [rm]; omega) (Nat.zero_le _) (Nat.zero_le _) hd (kk H locs ls hP hz hS hlv)
end EMM
/-- at(row, i) -/
def F_X11_at (a0 n0 : Nat) (p1 : Int32) (M : Mem) : Int32 := if p1 < 0 then 0 else if nI n0 ≤ p1 then 0 else M a0 p1.toNatClampNeg
theorem in_of {x : Int32} {N : Nat} (hN : N < 19000) (h1 : ¬ x < 0) (h2 : ¬ nI N ≤ x) : ¬ (x < 0 ∨ N ≤ x.toNatClampNeg) := by
  intro h
  rcases h with h | h
  · exact h1 h
  · obtain ⟨j, hj, rfl⟩ := nI_of h1
    rw [nI_clamp hj] at h
    exact h2 (nI_le h hj)
set_option maxRecDepth 20000 in
theorem c_X11_at {g : WC} {Xo : Nat → va_E} {n : Nat} {kd : Nat → Nat} (K : KD n kd) {a0 n0 : Nat} {p1 : Int32} (ha0 : IA kd a0 n0) {M : Mem} {res : Int32} (h : F_X11_at a0 n0 p1 M = res) : MC g yX11_at cX11_at 2 (some .int) 0 n [.ref (g_N g + a0), .int p1] (ent g Xo kd M) (some (.int res)) (ent g Xo kd M) := by
  refine MC_of pn_X11 (Nat.le_of_ble_eq_true rfl) (fun X C B => ?_)
  rw [F_X11_at] at h
  refine e_iload_n C 1 (dk dX11_at 0 rfl) rfl rfl ?_
  refine e_if_lt C 16 (dk dX11_at 1 rfl) (by decide) (fun c1 => ?_) (fun c1 => ?_)
  · rw [if_pos c1] at h
    refine e_iconst C 0 (dk dX11_at 10 rfl) (by decide) ?_
    subst h
    exact e_iret C B (nar1 _) (dk dX11_at 11 rfl)
  · rw [if_neg c1] at h
    refine e_iload_n C 1 (dk dX11_at 2 rfl) rfl rfl ?_
    refine e_aload_n C 0 (dk dX11_at 3 rfl) rfl rfl ?_
    refine m_alen C K ha0 (nI n0) rfl (dk dX11_at 4 rfl) ?_
    refine e_icmp_ge C 16 (dk dX11_at 5 rfl) (by decide) (fun c2 => ?_) (fun c2 => ?_)
    · rw [if_pos c2] at h
      refine e_iconst C 0 (dk dX11_at 10 rfl) (by decide) ?_
      subst h
      exact e_iret C B (nar1 _) (dk dX11_at 11 rfl)
    · rw [if_neg c2] at h
      refine e_aload_n C 0 (dk dX11_at 6 rfl) rfl rfl ?_
      refine e_iload_n C 1 (dk dX11_at 7 rfl) rfl rfl ?_
      refine m_aldc C K ha0 _ (dk dX11_at 8 rfl) rfl (in_of ha0.2 c1 c2) ?_
      refine e_goto C 17 (dk dX11_at 9 rfl) (by decide) ?_
      subst h
      exact e_iret C B (nar1 _) (dk dX11_at 11 rfl)
/-- put(row, i, value) -/
def F_X11_put (a0 n0 : Nat) (p1 p2 : Int32) (M : Mem) : Mem := if p1 < 0 then M else if nI n0 ≤ p1 then M else up M a0 p1.toNatClampNeg p2
set_option maxRecDepth 20000 in
theorem c_X11_put {g : WC} {Xo : Nat → va_E} {n : Nat} {kd : Nat → Nat} (K : KD n kd) {a0 n0 : Nat} {p1 p2 : Int32} (ha0 : IA kd a0 n0) {M : Mem} {res : Mem} (h : F_X11_put a0 n0 p1 p2 M = res) : MC g yX11_put cX11_put 3 none 0 n [.ref (g_N g + a0), .int p1, .int p2] (ent g Xo kd M) none (ent g Xo kd res) := by
  refine MC_of pn_X11 (Nat.le_of_ble_eq_true rfl) (fun X C B => ?_)
  rw [F_X11_put] at h
  refine e_iload_n C 1 (dk dX11_put 0 rfl) rfl rfl ?_
  refine e_if_lt C 14 (dk dX11_put 1 rfl) (by decide) (fun c1 => ?_) (fun c1 => ?_)
  · rw [if_pos c1] at h
    subst h
    exact e_vret C B (dk dX11_put 10 rfl)
  · rw [if_neg c1] at h
    refine e_iload_n C 1 (dk dX11_put 2 rfl) rfl rfl ?_
    refine e_aload_n C 0 (dk dX11_put 3 rfl) rfl rfl ?_
    refine m_alen C K ha0 (nI n0) rfl (dk dX11_put 4 rfl) ?_
    refine e_icmp_ge C 14 (dk dX11_put 5 rfl) (by decide) (fun c2 => ?_) (fun c2 => ?_)
    · rw [if_pos c2] at h
      subst h
      exact e_vret C B (dk dX11_put 10 rfl)
    · rw [if_neg c2] at h
      refine e_aload_n C 0 (dk dX11_put 6 rfl) rfl rfl ?_
      refine e_iload_n C 1 (dk dX11_put 7 rfl) rfl rfl ?_
      refine e_iload_n C 2 (dk dX11_put 8 rfl) rfl rfl ?_
      refine m_ast C K ha0 (dk dX11_put 9 rfl) (M2 := up M a0 p1.toNatClampNeg p2) (by rw [ast, if_pos (in_of ha0.2 c1 c2)]) ?_
      subst h
      exact e_vret C B (dk dX11_put 10 rfl)
