theorem cl_X12_str : Cond.classLink RX12 9 "java/lang/String" ∈ TW := tw_mem (in_tables_1_6 (List.mem_of_getElem? (i := 161) rfl)) rfl
theorem vin {x : Int32} {N : Nat} (h1 : decide (x < 0) = false) (h2 : decide (N ≤ x.toNatClampNeg) = false) : vp_in x N := fun h3 => by
  rcases h3 with h3 | h3
  · rw [decide_eq_true h3] at h1
    cases h1
  · rw [decide_eq_true h3] at h2
    cases h2
theorem asg_aux (vm : Vm) (n : Nat) (c : ClassId) : vm.assignableAux (n + 1) c c = true := by
  simp [Vm.assignableAux]
theorem asg_self (vm : Vm) (c : ClassId) : vm.assignable c c = true := asg_aux vm 255 c
section NEWS
variable {X : FX} {g : WC} {z n n0 nL : Nat} {E E0 : Nat → va_E} {k sl pc idx N : Nat} {lv : List (Nat × Value)} {st : List Value} {own : String} {cc : ByteArray} {L L2 : List va_E}
theorem e_newZ (C : Cx X g own cc nL) {v : Int32} (hn : n = n0 + L.length) (hv : ¬ v < 0) (hN : v.toNatClampNeg = N) (hb : N ≤ 19000) (hk : k + 1 ≤ (x_R X).cells) (hs : sl + N ≤ (x_R X).slots) (hL : L ++ [zar g N] = L2) (hd : decode cc pc = .ok (.newarray .boolean, 2)) (kk : EW X g (g_N g + (n + 1)) (n + 1) nL (ap E0 n0 L2) (k + 1) (sl + N) (pc + 2) lv (.ref (g_N g + n) :: st)) : EW X g (g_N g + n) n nL (ap E0 n0 L) k sl pc lv (.int v :: st) := fun H locs ls hP hz hS hlv => by
  refine va_newaK (atype := .boolean) C.1 C.2.1 (C.2.2.2.2.1 _ ac_boolean) rfl hd rfl hv hN (by show N * 1 ≤ 536870912; omega) hk hs rfl fun H1 cA e1 z1 o1 hAr hNm => ?_
  have h0 : (x_s X).vm.findClass "[Z" = some (g_ac g 1) := (C.2.2.2.2.2.1.2 1 _ rfl).2
  have hc : cA = g_ac g 1 := Option.some.inj (hNm.symm.trans h0)
  subst hc
  rw [hz] at z1 e1 o1 ⊢
  exact kk H1 locs ls (va_P_app hn hL hP (by
    show H1[g_N g + n]? = some (vp_cell _ _)
    rw [e1, vp_cell_i]
    rfl) o1) (by rw [z1]; rfl) ⟨by rw [z1]; have := hS.1; omega, fun q h1 h2 => by rw [o1 q (by have := hS.1; omega)]; exact hS.2.1 q h1 h2, hS.2.2⟩ hlv
theorem e_newL (C : Cx X g own cc nL) {v : Int32} (hn : n = n0 + L.length) (hv : ¬ v < 0) (hN : v.toNatClampNeg = N) (hb : N ≤ 19000) (hk : k + 1 ≤ (x_R X).cells) (hs : sl + N ≤ (x_R X).slots) (hL : L ++ [lar g N] = L2) (hd : decode cc pc = .ok (.newarray .long, 2)) (kk : EW X g (g_N g + (n + 1)) (n + 1) nL (ap E0 n0 L2) (k + 1) (sl + N) (pc + 2) lv (.ref (g_N g + n) :: st)) : EW X g (g_N g + n) n nL (ap E0 n0 L) k sl pc lv (.int v :: st) := fun H locs ls hP hz hS hlv => by
  refine va_newaK (atype := .long) C.1 C.2.1 (C.2.2.2.2.1 _ ac_long) rfl hd rfl hv hN (by show N * 8 ≤ 536870912; omega) hk hs rfl fun H1 cA e1 z1 o1 hAr hNm => ?_
  have h0 : (x_s X).vm.findClass "[J" = some (g_ac g 2) := (C.2.2.2.2.2.1.2 2 _ rfl).2
  have hc : cA = g_ac g 2 := Option.some.inj (hNm.symm.trans h0)
  subst hc
  rw [hz] at z1 e1 o1 ⊢
  exact kk H1 locs ls (va_P_app hn hL hP (by
    show H1[g_N g + n]? = some (vp_cell _ _)
    rw [e1, vp_cell_l]
    rfl) o1) (by rw [z1]; rfl) ⟨by rw [z1]; have := hS.1; omega, fun q h1 h2 => by rw [o1 q (by have := hS.1; omega)]; exact hS.2.1 q h1 h2, hS.2.2⟩ hlv
/-- a row of texts, none yet -/
def sar0 (g : WC) (N : Nat) (f : Nat → Option Nat) : va_E := .inl (g_ac g 3, N, .inr (.inr (.inr (.inr f))))
theorem e_newS (C : Cx X g RX12 cc nL) {v : Int32} (hn : n = n0 + L.length) (hv : ¬ v < 0) (hN : v.toNatClampNeg = N) (hb : N ≤ 19000) (hk : k + 1 ≤ (x_R X).cells) (hs : sl + N ≤ (x_R X).slots) (hL : L ++ [sar0 g N (fun _ => none)] = L2) (hd : decode cc pc = .ok (.anewarray 9, 3)) (kk : EW X g (g_N g + (n + 1)) (n + 1) nL (ap E0 n0 L2) (k + 1) (sl + N) (pc + 3) lv (.ref (g_N g + n) :: st)) : EW X g (g_N g + n) n nL (ap E0 n0 L) k sl pc lv (.int v :: st) := fun H locs ls hP hz hS hlv => by
  subst hN
  refine W.anew C.1 C.2.1 C.2.2.2.1 (C.2.2.2.2.1 _ cl_X12_str) (va_AO.use C.2.2.2.2.2.2.2.2.2.2.2.2.1.1.2.2.2.2.2.2.2) rfl hd rfl hv (by omega) hk hs fun cA kA comp f1 f2 f3 f4 => ?_
  obtain ⟨kA2, comp2, r1, r2, r3, r4⟩ := (C.2.2.2.2.2.1.2 3 _ rfl).2
  have hc : cA = g_ac g 3 := Option.some.inj (f1.symm.trans r4)
  subst hc
  generalize hH1 : H.push ({ cls := g_ac g 3, slots := Array.replicate v.toNatClampNeg .null, vm := .none } : Cell) = H1
  have z1 : H1.size = g_N g + n + 1 := by rw [← hH1, Array.size_push, hz]
  have e1 : H1[g_N g + n]? = some (arrV (g_ac g 3) v.toNatClampNeg (fun _ => .null)) := by rw [← hz, ← hH1, Array.getElem?_push_size, ← arrV_new]
  have o1 : ∀ q : Nat, q < g_N g + n → H1[q]? = H[q]? := fun q hq => by rw [← hH1, Array.getElem?_push, if_neg (Nat.ne_of_lt (by rw [hz]; exact hq))]
  rw [hz]
  exact kk H1 locs ls (va_P_app hn hL hP (by
    show H1[g_N g + n]? = some (vp_cell _ _)
    rw [e1, vp_cell_q]
    rfl) o1) (by rw [z1]; rfl) ⟨by rw [z1]; have := hS.1; omega, fun q h1 h2 => by rw [o1 q (by have := hS.1; omega)]; exact hS.2.1 q h1 h2, hS.2.2⟩ hlv
/-- a text is put into a row -/
theorem e_aast (C : Cx X g own cc nL) {i u : Nat} {f : Nat → Option Nat} {x : Int32} (hu : u < 38) (hd : decode cc pc = .ok (.aastore, 1)) (hi : i < n) (he : E i = sar0 g N f) (hin : vp_in x N) (kk : EW X g z n nL (upE E i (sar0 g N (va_up f x.toNatClampNeg (some (g_sa g u))))) k sl (pc + 1) lv st) : EW X g z n nL E k sl pc lv (.ref (g_sa g u) :: .int x :: .ref (g_N g + i) :: st) := fun H locs ls hP hz hS hlv => by
  have hlt : x.toNatClampNeg < N := Nat.not_le.mp fun q => hin (Or.inr q)
  have h0 : ¬ x < 0 := fun q => hin (Or.inl q)
  have hat : H[g_N g + i]? = some (vp_cell (g_ac g 3) (N, .inr (.inr (.inr (.inr f))))) := hP i (g_N g + i, sar0 g N f) (by rw [Wof_get hi, he])
  obtain ⟨cV, g1, g2, g3, g4⟩ := (C.2.2.2.2.2.2.2.2.2.2.1.1 u hu).1
  have hlt2 : g_sa g u < (x_s X).heap.size := (Array.getElem?_eq_some_iff.mp g1).1
  have gH : H[g_sa g u]? = some cV := (hS.2.1 _ hlt2 g4).trans g1
  obtain ⟨kA, comp, k1, k2, k3, -⟩ := (C.2.2.2.2.2.1.2 3 _ rfl).2
  obtain ⟨kE, hkE, -⟩ := Vm.findClass_spec k3
  have hcl : cV.cls = comp := Option.some.inj (g3.symm.trans k3)
  refine W.aast C.1 C.2.1 hat (fun q h => by cases h) (fun h => by cases h) k1 k2 rfl hkE ⟨h0, by show _ < (arrV _ _ _).slots.size; rw [arrV_size]; exact hlt⟩ gH (fun q h => by rw [h] at g2; cases g2) (by rw [hcl]; exact hkE) (by rw [hcl]; exact asg_self _ _) rfl rfl hd fun H1 e zz oq => ?_
  refine kk H1 _ ls (va_P_upE hP hi ?_ oq) (zz.trans hz) (hS.put zz oq (Nat.le_add_right _ _)) hlv
  show H1[g_N g + i]? = some (vp_cell _ _)
  rw [e, vp_cell_q, vp_cell_q, arrV_store]
  congr 2
  funext q
  by_cases hq : q = x.toNatClampNeg
  · subst hq
    simp [updV, va_up, va_rf]
  · simp [updV, va_up, hq]
theorem sar_at {g : WC} {D : va_G} {cl : List vw_C} {q N : Nat} {f f2 : Nat → Option Nat} (h : ∀ j, j < N → f j = f2 j) (H : Heap) (h9 : va_at D cl (q, sar0 g N f) H) : va_at D cl (q, sar0 g N f2) H := by
  have h8 : H[q]? = some (vp_cell (g_ac g 3) (N, .inr (.inr (.inr (.inr f))))) := h9
  show H[q]? = some (vp_cell (g_ac g 3) (N, .inr (.inr (.inr (.inr f2)))))
  rw [h8, vp_cell_q, vp_cell_q]
  congr 1
  unfold arrV
  congr 2
  funext j
  exact congrArg va_rf (h j.val j.isLt)
/-- the same cell, said otherwise -/
theorem e_swap {a : Nat} {x x2 : va_E} (ha : L[a]? = some x) (hi : n0 + a < n) (hx : ∀ H : Heap, va_at (g_D g) vwCl (g_N g + (n0 + a), x) H → va_at (g_D g) vwCl (g_N g + (n0 + a), x2) H) (hL : L.set a x2 = L2) (kk : EW X g z n nL (ap E0 n0 L2) k sl pc lv st) : EW X g z n nL (ap E0 n0 L) k sl pc lv st := fun H locs ls hP hz hS hlv => by
  refine kk H locs ls ?_ hz hS hlv
  have h1 := hP (n0 + a) _ (Wof_get hi)
  rw [ap_at ha] at h1
  have h2 := va_P_upE hP hi (hx H h1) (fun _ _ => rfl)
  rw [← hL, ← Wof_congr (fun j _ => ap_set (List.getElem?_eq_some_iff.mp ha).1 j)]
  exact h2
end NEWS
