/-! ===== the law's own wrappers: they return, and may make a cell ===== -/
def QL (g : WC) (n : Nat) (E2 : Nat → va_E) (r : Option Value) : Array Value → State → Outcome → State → Prop := fun _ st oc t =>
  oc = .returned r ∧ va_P (g_D g) vwCl (Wof (g_N g) n E2) t.heap ∧ st.heap.size ≤ t.heap.size ∧ ∀ q : Nat, q < g_N g → q < st.heap.size → t.heap[q]? = st.heap[q]?
def XN : String → State → State → Prop := fun _ _ _ => False
def LX (g : WC) (y : MethodName) (cc : ByteArray) (nL : Nat) (hh : List (Nat × Nat × Nat × Nat)) (d mc ms n : Nat) (as : List Value) (E : Nat → va_E) (r : Option Value) (E2 : Nat → va_E) : Prop :=
  vx_Met (g_l g) y (.codeWith y cc nL (some .int) hh :: TW) (rmx d mc ms) (PM g n E as) (QL g n E2 r) XN mc ms (FR g)
def BL (X : FX) (g : WC) (d mc ms n : Nat) (r : Option Value) (E2 : Nat → va_E) (hh : List (Nat × Nat × Nat × Nat)) : Prop :=
  x_R X = rmx d mc ms ∧ (x_h X).sig.returnType = some .int ∧ x_Q X = vx_MQ (x_b X) (QL g n E2 r) XN (x_a X) (x_s X) mc ms (FR g) ∧ (x_c X).exceptionTable.toList = tableOf hh
theorem LX_of {g : WC} {y : MethodName} {cc : ByteArray} {nL : Nat} {hh : List (Nat × Nat × Nat × Nat)} {d mc ms n : Nat} {as : List Value} {E E2 : Nat → va_E} {r : Option Value} (hy : plainName y.cls = true) (hlen : (lg_sl as).length ≤ nL)
    (body : ∀ X : FX, Cx X g y.cls cc nL → BL X g d mc ms n r E2 hh → EW X g (x_s X).heap.size n nL E 0 0 0 (lv_args 0 as) []) : LX g y cc nL hh d mc ms n as E r E2 := by
  refine vx_ofWH (cc := cc) (maxL := nL) (ret := some .int) (hh := hh) hy rfl ?_
  intro p e s m args below meth c s₁ B hml hv
  obtain ⟨rfl, hP, hK, hA⟩ := hv
  have hts0 := atoms_spec (ws := .codeWith y cc nL (some .int) hh :: TW) B.pre
  have htab := vx_table (x := y) B (hts0 _ List.mem_cons_self)
  have hts : ∀ w ∈ TW, w.before as.toArray s = true := fun w hw => hts0 w (List.mem_cons_of_mem _ hw)
  have hown : s.vm.findClass y.cls = some m.cls := findClass_of_methodNamed B.named
  rw [lg_entry_eq]
  have hl := lv_entry as (n := nL) hlen
  exact body (p, g_l g, e, (headSpec (.codeWith y cc nL (some .int) hh :: TW) (rmx d mc ms)).room, s, m, as.toArray, below, meth, c, vx_MQ below (QL g n E2 r) XN as.toArray s mc ms (FR g)) ⟨B.exec, B.bytes, hml, hown, hts, hK, B.notSynchronized, rfl, hA⟩ ⟨rfl, B.returns, rfl, htab⟩ s.heap [] _ hP rfl va_S.rf hl
def CalW (y : MethodName) (bytes : ByteArray) (maxL : Nat) (hh : List (Nat × Nat × Nat × Nat)) (a : Nat) : Prop :=
  Cond.codeWith y bytes maxL (some .int) hh ∈ TW ∧ Cond.initialized y.cls ∈ TW ∧ maxL ≤ 45 ∧ (y.cls ≠ "java/lang/invoke/MethodHandle" ∧ y.cls ≠ "java/lang/invoke/VarHandle") ∧ (parseMethodDescriptor y.desc).map (fun d => d.parameters.length) = some a
section LAWR
variable {X : FX} {g : WC} {z n nL mc ms mc2 ms2 k sl : Nat} {E E2 : Nat → va_E} {Xo : Nat → va_E} {kd : Nat → Nat} {M : Mem} {pc d d2 idx i N : Nat} {lv : List (Nat × Value)} {st st0 as : List Value} {own : String} {cc bytes : ByteArray} {y : MethodName} {maxL : Nat} {hh : List (Nat × Nat × Nat × Nat)} {r : Option Value}
theorem e_iretL {v : Int32} (C : Cx X g own cc nL) (B : BL X g d mc ms n (some (.int v)) E hh) (hz9 : (x_s X).heap.size ≤ z) (h1 : k ≤ mc) (h2 : sl ≤ ms) (hd : decode cc pc = .ok (.ireturn, 1)) : EW X g z n nL E k sl pc lv [.int v] := fun H locs ls hP hz hS hl => by
  rw [B.2.2.1]
  exact W.widen h1 h2 (vx_ret (W.zret C.1 C.2.1 B.2.1 (nar1 _) (fun t ht _ => ⟨rfl, by rw [ht]; exact hP, by rw [ht, hz]; exact hz9, fun q h3 h4 => by rw [ht]; exact hS.2.1 q h4 (Nat.not_le.mpr h3)⟩) hS.2.2 hd (hlocks := C.2.2.2.2.2.2.1)))
/-- a long that an int became is put into an array -/
theorem m_last (C : Cx X g own cc nL) (K : KD n kd) (h : LA kd i N) {x v : Int32} (hd : decode cc pc = .ok (.lastore, 1)) (hin : vp_in x N) (kk : EW X g z n nL (ent g Xo kd (up M i x.toNatClampNeg v)) k sl (pc + 1) lv st) : EW X g z n nL (ent g Xo kd M) k sl pc lv (.long v.toInt64 :: .int x :: .ref (g_N g + i) :: st) := fun H locs ls hP hz hS hl => by
  have hi : i < n := K.1 i (by rw [h.1]; omega)
  have hat : H[g_N g + i]? = some (vp_cell (g_ac g 2) (N, .inr (.inl (fun j => (M i j).toInt64)))) := hP i (g_N g + i, .inl (g_ac g 2, N, .inr (.inl (fun j => (M i j).toInt64)))) (by rw [Wof_get hi, ent_la h])
  refine W.last C.1 C.2.1 hat ((C.2.2.2.2.2.1.2 2 _ rfl).1 N (fun j => .long ((M i j).toInt64))) (fun q => by cases q) (by show ¬ (x < 0 ∨ (arrV _ _ _).slots.size ≤ _); rw [arrV_size]; exact hin) rfl rfl hd fun H1 e zz oq => ?_
  have hP1 : va_P (g_D g) vwCl (Wof (g_N g) n (upE (ent g Xo kd M) i (.inl (g_ac g 2, N, .inr (.inl (fun j => (upd (M i) x.toNatClampNeg v j).toInt64)))))) H1 := by
    refine va_P_upE hP hi ?_ oq
    show H1[g_N g + i]? = some (vp_cell _ _)
    rw [e, vp_cell_l, vp_cell_l, arrV_store]
    congr 2
    funext q
    by_cases hq : q = x.toNatClampNeg
    · subst hq
      simp [updV, upd]
    · simp [updV, upd, hq]
  refine kk H1 _ ls ?_ (zz.trans hz) (hS.put zz oq (Nat.le_add_right _ _)) hl
  rw [← Wof_congr (fun j _ => upE_ent (M := M) (i := i) (k := x.toNatClampNeg) (v := v) (Xo := Xo) (g := g) (kd := kd) (by
    have h0 := ent_la (g := g) (Xo := Xo) (M := fun _ => upd (M i) x.toNatClampNeg v) h
    exact h0) j)]
  exact hP1
theorem cast_NSE (C : Cx X g own cc nL) : (Cond.castable xNSE xNSE).before (x_a X) (x_s X) = true := va_Nw.use rfl C.2.2.2.2.2.2.2.2.2.2.2.2.1.1.2.1
theorem cast_IAE (C : Cx X g own cc nL) : (Cond.castable xIAE xIAE).before (x_a X) (x_s X) = true := va_Nw.use rfl C.2.2.2.2.2.2.2.2.2.2.2.2.1.1.1
theorem nc_IN (C : Cx X g own cc nL) : va_Nc xIAE xNSE (x_s X) := C.2.2.2.2.2.2.2.2.2.2.2.2.1.1.2.2.1
/-- a wrapper is called -/
theorem e_lcall (C : Cx X g own cc nL) (P : CalW y bytes maxL hh as.length) (hsm : Cond.static y ∈ TW) (hl : Cond.methodLink own idx y ∈ TW) (hroom : (rmx d2 mc2 ms2).frames + 1 ≤ (x_R X).frames ∧ 8 + (maxL + 11) + (rmx d2 mc2 ms2).locals ≤ (x_R X).locals) (hd : decode cc pc = .ok (.invokestatic idx, 3)) (hM : LX g y bytes maxL hh d2 mc2 ms2 n as E r E2) (hk : k + mc2 ≤ (x_R X).cells ∧ sl + ms2 ≤ (x_R X).slots) (hs : (st.map fun v => v.category).sum ≤ 8)
    (hst : st0 = as.reverse ++ st) (kr : ∀ z2, z ≤ z2 → EW X g z2 n nL E2 (k + mc2) (sl + ms2) (pc + 3) lv (r.toList ++ st)) : EW X g z n nL E k sl pc lv st0 := fun H locs ls hP hz hS hlv => by
  have hG : GoodIn TW (Cond.codeWith y bytes maxL (some .int) hh :: TW) := fun w hw => by
    rcases List.mem_cons.mp hw with rfl | hw
    · exact tw_good _ P.1
    · exact tw_good _ hw
  have cw : vx_CSW (x_R X) (x_s X) (x_a X) own idx y bytes maxL (some .int) hh (Cond.codeWith y bytes maxL (some .int) hh :: TW) (rmx d2 mc2 ms2) mc2 ms2 as.length :=
    ⟨⟨rfl, rfl, hroom.1, hroom.2, pay_in C.2.2.2.2.1 hG, List.mem_cons_self⟩, C.2.2.2.2.1 _ P.1, C.2.2.2.2.1 _ P.2.1, P.2.2.2.1, fun sig h => by
      have h2 := P.2.2.2.2
      rw [h] at h2
      exact (Option.some.inj h2).symm, C.2.2.2.2.1 _ hl, C.2.2.2.2.1 _ hsm⟩
  have hM2 : vx_Met (x_l X) y (.codeWith y bytes maxL (some .int) hh :: TW) (rmx d2 mc2 ms2) (PM g n E as) (QL g n E2 r) XN mc2 ms2 (FR g) := by rw [C.2.2.2.2.2.2.2.1]; exact hM
  have hr := vx_runSX (e := x_e X) (below := x_b X) (meth := x_h X) (As := as) (rest := st) (g := F0 (x_m X) pc ls st0) (H := H) (locs := locs) (cells := k) (slots := sl) (fix C) hM2 cw ⟨PM_blind, fun U hU hW => pm_at C hP hS U hU hW⟩ rfl rfl hlv.1 hst (lv_room hs) hd hk
  intro T hT X1
  rcases hr T hT X1 with ⟨v, s0, t, T2, L, h0, X2, hL, e1, e2, ⟨q1, q2, q3, q4⟩, stp⟩ | ⟨q, s0, t, T2, L, En, ce, h0, X2, hL, e1, e2, hx, _⟩
  · cases q1
    rw [h0] at q3 q4
    obtain ⟨t2, a1, b1⟩ := kr T2.heap.size (by rw [e1]; omega) T2.heap (locs ++ L) ls (by rw [e1]; exact q2) rfl
      ⟨by rw [e1]; exact Nat.le_trans hS.1 q3, fun q h1 h2 => by rw [e1, q4 q (Nat.not_le.mp h2) (Nat.lt_of_lt_of_le h1 hS.1)]; exact hS.2.1 q h1 h2, fun q hq => by
        rcases List.mem_append.mp hq with h | h
        · exact hS.2.2 q h
        · exact hL q h⟩ hlv T2 rfl X2
    exact ⟨t2, stp t2 a1, b1⟩
  · exact hx.elim
end LAWR
theorem cl_L_13 : Cond.classLink RL 13 xIAE ∈ TW := tw_mem (in_tables_1_3 (List.mem_of_getElem? (i := 152) rfl)) rfl
theorem cl_L_18 : Cond.classLink RL 18 xNSE ∈ TW := tw_mem (in_tables_1_4 (List.mem_of_getElem? (i := 201) rfl)) rfl
theorem vin01 : vp_in 0 1 := by
  show ¬ ((0 : Int32) < 0 ∨ 1 ≤ (0 : Int32).toNatClampNeg)
  decide
theorem pn_L : plainName RL = true := by decide +kernel
theorem cw_L_ward : CalW yL_ward cL_ward 4 [(0, 9, 12, 13)] 3 := ⟨tw_mem (in_tables_1_3 (List.mem_of_getElem? (i := 151) rfl)) rfl, ini_L, by decide, by decide +kernel, by decide +kernel⟩
theorem cw_L_count : CalW yL_count cL_count 4 [(0, 9, 12, 18)] 3 := ⟨tw_mem (in_tables_1_4 (List.mem_of_getElem? (i := 200) rfl)) rfl, ini_L, by decide, by decide +kernel, by decide +kernel⟩
theorem cw_L_paths : CalW yL_paths cL_paths 4 [(0, 9, 12, 18)] 3 := ⟨tw_mem (in_tables_1_4 (List.mem_of_getElem? (i := 231) rfl)) rfl, ini_L, by decide, by decide +kernel, by decide +kernel⟩
theorem cw_L_person : CalW yL_person cL_person 5 [(0, 10, 13, 18)] 4 := ⟨tw_mem (in_tables_1_5 (List.mem_of_getElem? (i := 3) rfl)) rfl, ini_L, by decide, by decide +kernel, by decide +kernel⟩
theorem cw_L_walk : CalW yL_walk cL_walk 5 [(0, 10, 13, 18)] 4 := ⟨tw_mem (in_tables_1_5 (List.mem_of_getElem? (i := 15) rfl)) rfl, ini_L, by decide, by decide +kernel, by decide +kernel⟩
theorem cw_L_bribe : CalW yL_bribe cL_bribe 4 [(0, 9, 12, 18)] 3 := ⟨tw_mem (in_tables_1_5 (List.mem_of_getElem? (i := 28) rfl)) rfl, ini_L, by decide, by decide +kernel, by decide +kernel⟩
theorem cw_L_wander : CalW yL_wander cL_wander 6 [(0, 12, 15, 18)] 5 := ⟨tw_mem (in_tables_1_5 (List.mem_of_getElem? (i := 44) rfl)) rfl, ini_L, by decide, by decide +kernel, by decide +kernel⟩
theorem cw_L_earn : CalW yL_earn cL_earn 5 [(0, 10, 13, 18)] 4 := ⟨tw_mem (in_tables_1_5 (List.mem_of_getElem? (i := 56) rfl)) rfl, ini_L, by decide, by decide +kernel, by decide +kernel⟩
theorem cw_L_lots : CalW yL_lots cL_lots 4 [(0, 9, 12, 13)] 3 := ⟨tw_mem (in_tables_1_5 (List.mem_of_getElem? (i := 68) rfl)) rfl, ini_L, by decide, by decide +kernel, by decide +kernel⟩
theorem cw_L_sold : CalW yL_sold cL_sold 6 [(0, 12, 15, 18), (0, 12, 19, 13)] 5 := ⟨tw_mem (in_tables_1_5 (List.mem_of_getElem? (i := 84) rfl)) rfl, ini_L, by decide, by decide +kernel, by decide +kernel⟩
theorem cw_L_then : CalW yL_then cL_then 6 [(0, 12, 15, 18), (0, 12, 19, 13)] 5 := ⟨tw_mem (in_tables_1_5 (List.mem_of_getElem? (i := 96) rfl)) rfl, ini_L, by decide, by decide +kernel, by decide +kernel⟩
theorem cw_L_dark : CalW yL_dark cL_dark 4 [(0, 9, 12, 13)] 3 := ⟨tw_mem (in_tables_1_5 (List.mem_of_getElem? (i := 103) rfl)) rfl, ini_L, by decide, by decide +kernel, by decide +kernel⟩
theorem cw_L_first : CalW yL_first cL_first 4 [(0, 9, 12, 18)] 3 := ⟨tw_mem (in_tables_1_5 (List.mem_of_getElem? (i := 110) rfl)) rfl, ini_L, by decide, by decide +kernel, by decide +kernel⟩
theorem cw_L_haunt : CalW yL_haunt cL_haunt 4 [(0, 9, 12, 13)] 3 := ⟨tw_mem (in_tables_1_5 (List.mem_of_getElem? (i := 117) rfl)) rfl, ini_L, by decide, by decide +kernel, by decide +kernel⟩
theorem cw_L_watch : CalW yL_watch cL_watch 5 [(0, 10, 13, 13)] 4 := ⟨tw_mem (in_tables_1_5 (List.mem_of_getElem? (i := 129) rfl)) rfl, ini_L, by decide, by decide +kernel, by decide +kernel⟩
theorem cw_L_way : CalW yL_way cL_way 5 [(0, 10, 13, 18)] 4 := ⟨tw_mem (in_tables_1_5 (List.mem_of_getElem? (i := 137) rfl)) rfl, ini_L, by decide, by decide +kernel, by decide +kernel⟩
theorem cw_L_sneak : CalW yL_sneak cL_sneak 5 [(0, 10, 13, 18)] 4 := ⟨tw_mem (in_tables_1_5 (List.mem_of_getElem? (i := 148) rfl)) rfl, ini_L, by decide, by decide +kernel, by decide +kernel⟩
theorem cw_L_safe : CalW yL_safe cL_safe 4 [(0, 9, 12, 18)] 3 := ⟨tw_mem (in_tables_1_5 (List.mem_of_getElem? (i := 155) rfl)) rfl, ini_L, by decide, by decide +kernel, by decide +kernel⟩
theorem cw_L_toHide : CalW yL_toHide cL_toHide 4 [(0, 9, 12, 18)] 3 := ⟨tw_mem (in_tables_1_5 (List.mem_of_getElem? (i := 167) rfl)) rfl, ini_L, by decide, by decide +kernel, by decide +kernel⟩
theorem cw_L_toWin : CalW yL_toWin cL_toWin 5 [(0, 10, 13, 18)] 4 := ⟨tw_mem (in_tables_1_5 (List.mem_of_getElem? (i := 178) rfl)) rfl, ini_L, by decide, by decide +kernel, by decide +kernel⟩
theorem cw_L_given : CalW yL_given cL_given 4 [(0, 9, 12, 18)] 3 := ⟨tw_mem (in_tables_1_5 (List.mem_of_getElem? (i := 192) rfl)) rfl, ini_L, by decide, by decide +kernel, by decide +kernel⟩
theorem cw_L_gossip : CalW yL_gossip cL_gossip 4 [(0, 9, 12, 18)] 3 := ⟨tw_mem (in_tables_1_5 (List.mem_of_getElem? (i := 228) rfl)) rfl, ini_L, by decide, by decide +kernel, by decide +kernel⟩
theorem cw_L_most : CalW yL_most cL_most 4 [(0, 9, 12, 18)] 3 := ⟨tw_mem (in_tables_1_5 (List.mem_of_getElem? (i := 239) rfl)) rfl, ini_L, by decide, by decide +kernel, by decide +kernel⟩
theorem cw_L_lantern : CalW yL_lantern cL_lantern 4 [(0, 9, 12, 18)] 3 := ⟨tw_mem (in_tables_1_6 (List.mem_of_getElem? (i := 11) rfl)) rfl, ini_L, by decide, by decide +kernel, by decide +kernel⟩
theorem cw_L_meet : CalW yL_meet cL_meet 5 [(0, 10, 13, 18)] 4 := ⟨tw_mem (in_tables_1_6 (List.mem_of_getElem? (i := 18) rfl)) rfl, ini_L, by decide, by decide +kernel, by decide +kernel⟩
theorem cw_L_spends : CalW yL_spends cL_spends 5 [(0, 10, 13, 18), (0, 10, 17, 13)] 4 := ⟨tw_mem (in_tables_1_6 (List.mem_of_getElem? (i := 29) rfl)) rfl, ini_L, by decide, by decide +kernel, by decide +kernel⟩
theorem cw_L_unknown : CalW yL_unknown cL_unknown 4 [(0, 9, 12, 18)] 3 := ⟨tw_mem (in_tables_1_6 (List.mem_of_getElem? (i := 40) rfl)) rfl, ini_L, by decide, by decide +kernel, by decide +kernel⟩
theorem cw_L_tell : CalW yL_tell cL_tell 6 [(0, 12, 15, 18)] 5 := ⟨tw_mem (in_tables_1_6 (List.mem_of_getElem? (i := 47) rfl)) rfl, ini_L, by decide, by decide +kernel, by decide +kernel⟩
theorem cw_L_otherwise : CalW yL_otherwise cL_otherwise 4 [(0, 9, 12, 18)] 3 := ⟨tw_mem (in_tables_1_6 (List.mem_of_getElem? (i := 63) rfl)) rfl, ini_L, by decide, by decide +kernel, by decide +kernel⟩
theorem cw_L_look : CalW yL_look cL_look 4 [(0, 9, 12, 18)] 3 := ⟨tw_mem (in_tables_1_6 (List.mem_of_getElem? (i := 95) rfl)) rfl, ini_L, by decide, by decide +kernel, by decide +kernel⟩
theorem cw_L_game : CalW yL_game cL_game 6 [(0, 12, 15, 18), (0, 12, 19, 13)] 5 := ⟨tw_mem (in_tables_1_6 (List.mem_of_getElem? (i := 117) rfl)) rfl, ini_L, by decide, by decide +kernel, by decide +kernel⟩
theorem cw_L_years : CalW yL_years cL_years 6 [(0, 12, 15, 18), (0, 12, 19, 13)] 5 := ⟨tw_mem (in_tables_1_6 (List.mem_of_getElem? (i := 137) rfl)) rfl, ini_L, by decide, by decide +kernel, by decide +kernel⟩
set_option maxRecDepth 20000 in
theorem c_L_ward {g : WC} {Xo : Nat → va_E} {n : Nat} {kd : Nat → Nat} (K : KD n kd) {t o : Nat} {p0 : Int32} (ht : kd t = 12) (ho : LA kd o 1) {M : Mem} {res : Int32 × Mem} (h : F_L_ward t o p0 M = some res) : LX g yL_ward cL_ward 4 [(0, 9, 12, 13)] 69 1 6 n [.ref (g_N g + t), .int p0, .ref (g_N g + o)] (ent g Xo kd M) (some (.int res.1)) (ent g Xo kd res.2) := by
  refine LX_of pn_L (Nat.le_of_ble_eq_true rfl) (fun X C B => ?_)
  have hR := B.1
  rw [F_L_ward] at h
  obtain ⟨r, hr, h⟩ := ob h
  refine e_aload_n C 2 (dk dL_ward 0 rfl) rfl rfl ?_
  refine e_iconst C 0 (dk dL_ward 1 rfl) (by decide) ?_
  refine e_aload_n C 0 (dk dL_ward 2 rfl) rfl rfl ?_
  refine e_iload_n C 1 (dk dL_ward 3 rfl) rfl rfl ?_
  refine e_xcallV (ci := 11) C cal_X11_ward im_X11_ward se_X11_ward ml_L_7 rfl (rmx_roomX hR (by decide) cal_X11_ward.2.2.1) (dk dL_ward 4 rfl) (K.1 _ (by rw [ht]; decide)) (ent_o11 ht) (c_X11_ward K ht hr) (rmx_cap hR (by decide) (by decide)) (Nat.le_of_ble_eq_true rfl) rfl (fun v hv => ?_) (fun j hj H locs ls q ce hP hz hS hl hce hcv hcl => ?_)
  · rcases r with j9 | v9
    · exact nomatch hv
    · obtain rfl := Sum.inr.inj hv
      obtain rfl := Option.some.inj h
      refine e_i2l C (dk dL_ward 5 rfl) ?_
      refine m_last C K ho (dk dL_ward 6 rfl) vin01 ?_
      refine e_goto C 15 (dk dL_ward 7 rfl) (by decide) ?_
      refine e_iconst C 0 (dk dL_ward 11 rfl) (by decide) ?_
      exact e_iretL C B (Nat.le_refl _) (by decide) (by decide) (dk dL_ward 12 rfl)
  · rcases r with j9 | v9
    · obtain rfl := Sum.inl.inj hj
      dsimp only [Sum.elim_inl] at h
      by_cases c1 : j9 = 2
      · subst c1
        rw [if_pos rfl] at h
        obtain rfl := Option.some.inj h
        have ek : EW X g H.size n 4 (ent g Xo kd M) (0 + 1) (0 + 6) 12 [(0, .ref (g_N g + t)), (1, .int p0), (2, .ref (g_N g + o))] [.ref q] := by
          refine e_astore_n C [(3, .ref q), (0, .ref (g_N g + t)), (1, .int p0), (2, .ref (g_N g + o))] (dk dL_ward 8 rfl) rfl (by decide) rfl ?_
          refine e_iconst C 1 (dk dL_ward 9 rfl) (by decide) ?_
          exact e_iretL C B hz (by decide) (by decide) (dk dL_ward 10 rfl)
        exact vx_catch (own := RL) (name := xIAE) (E := xIAE) C.2.2.2.1 [] ⟨0, 9, 12, 13⟩ [] B.2.2.2 (fun z9 hz9 => nomatch hz9) rfl (by decide) (C.2.2.2.2.1 _ cl_L_13) (cast_IAE C) hce hcv hcl (ek H locs ls hP rfl hS hl)
      rw [if_neg c1] at h
      cases h
    · exact nomatch hj
set_option maxRecDepth 20000 in
theorem c_L_count {g : WC} {Xo : Nat → va_E} {n : Nat} {kd : Nat → Nat} (K : KD n kd) {t o : Nat} {p0 : Int32} (ht : kd t = 12) (ho : LA kd o 1) {M : Mem} {res : Int32 × Mem} (h : F_L_count t o p0 M = some res) : LX g yL_count cL_count 4 [(0, 9, 12, 18)] 2 1 6 n [.ref (g_N g + t), .int p0, .ref (g_N g + o)] (ent g Xo kd M) (some (.int res.1)) (ent g Xo kd res.2) := by
  refine LX_of pn_L (Nat.le_of_ble_eq_true rfl) (fun X C B => ?_)
  have hR := B.1
  rw [F_L_count] at h
  obtain ⟨r, hr, h⟩ := ob h
  refine e_aload_n C 2 (dk dL_count 0 rfl) rfl rfl ?_
  refine e_iconst C 0 (dk dL_count 1 rfl) (by decide) ?_
  refine e_aload_n C 0 (dk dL_count 2 rfl) rfl rfl ?_
  refine e_iload_n C 1 (dk dL_count 3 rfl) rfl rfl ?_
  refine e_xcallV (ci := 11) C cal_X11_count im_X11_count se_X11_count ml_L_15 rfl (rmx_roomX hR (by decide) cal_X11_count.2.2.1) (dk dL_count 4 rfl) (K.1 _ (by rw [ht]; decide)) (ent_o11 ht) (c_X11_count K ht hr) (rmx_cap hR (by decide) (by decide)) (Nat.le_of_ble_eq_true rfl) rfl (fun v hv => ?_) (fun j hj H locs ls q ce hP hz hS hl hce hcv hcl => ?_)
  · rcases r with j9 | v9
    · exact nomatch hv
    · obtain rfl := Sum.inr.inj hv
      obtain rfl := Option.some.inj h
      refine e_i2l C (dk dL_count 5 rfl) ?_
      refine m_last C K ho (dk dL_count 6 rfl) vin01 ?_
      refine e_goto C 15 (dk dL_count 7 rfl) (by decide) ?_
      refine e_iconst C 0 (dk dL_count 11 rfl) (by decide) ?_
      exact e_iretL C B (Nat.le_refl _) (by decide) (by decide) (dk dL_count 12 rfl)
  · rcases r with j9 | v9
    · obtain rfl := Sum.inl.inj hj
      dsimp only [Sum.elim_inl] at h
      by_cases c1 : j9 = 1
      · subst c1
        rw [if_pos rfl] at h
        obtain rfl := Option.some.inj h
        have ek : EW X g H.size n 4 (ent g Xo kd M) (0 + 1) (0 + 6) 12 [(0, .ref (g_N g + t)), (1, .int p0), (2, .ref (g_N g + o))] [.ref q] := by
          refine e_astore_n C [(3, .ref q), (0, .ref (g_N g + t)), (1, .int p0), (2, .ref (g_N g + o))] (dk dL_count 8 rfl) rfl (by decide) rfl ?_
          refine e_iconst C 1 (dk dL_count 9 rfl) (by decide) ?_
          exact e_iretL C B hz (by decide) (by decide) (dk dL_count 10 rfl)
        exact vx_catch (own := RL) (name := xNSE) (E := xNSE) C.2.2.2.1 [] ⟨0, 9, 12, 18⟩ [] B.2.2.2 (fun z9 hz9 => nomatch hz9) rfl (by decide) (C.2.2.2.2.1 _ cl_L_18) (cast_NSE C) hce hcv hcl (ek H locs ls hP rfl hS hl)
      rw [if_neg c1] at h
      cases h
    · exact nomatch hj
set_option maxRecDepth 20000 in
theorem c_L_paths {g : WC} {Xo : Nat → va_E} {n : Nat} {kd : Nat → Nat} (K : KD n kd) {t o : Nat} {p0 : Int32} (ht : kd t = 12) (ho : LA kd o 1) {M : Mem} {res : Int32 × Mem} (h : F_L_paths t o p0 M = some res) : LX g yL_paths cL_paths 4 [(0, 9, 12, 18)] 2 1 6 n [.ref (g_N g + t), .int p0, .ref (g_N g + o)] (ent g Xo kd M) (some (.int res.1)) (ent g Xo kd res.2) := by
  refine LX_of pn_L (Nat.le_of_ble_eq_true rfl) (fun X C B => ?_)
  have hR := B.1
  rw [F_L_paths] at h
  obtain ⟨r, hr, h⟩ := ob h
  refine e_aload_n C 2 (dk dL_paths 0 rfl) rfl rfl ?_
  refine e_iconst C 0 (dk dL_paths 1 rfl) (by decide) ?_
  refine e_aload_n C 0 (dk dL_paths 2 rfl) rfl rfl ?_
  refine e_iload_n C 1 (dk dL_paths 3 rfl) rfl rfl ?_
  refine e_xcallV (ci := 11) C cal_X11_paths im_X11_paths se_X11_paths ml_L_20 rfl (rmx_roomX hR (by decide) cal_X11_paths.2.2.1) (dk dL_paths 4 rfl) (K.1 _ (by rw [ht]; decide)) (ent_o11 ht) (c_X11_paths K ht hr) (rmx_cap hR (by decide) (by decide)) (Nat.le_of_ble_eq_true rfl) rfl (fun v hv => ?_) (fun j hj H locs ls q ce hP hz hS hl hce hcv hcl => ?_)
  · rcases r with j9 | v9
    · exact nomatch hv
    · obtain rfl := Sum.inr.inj hv
      obtain rfl := Option.some.inj h
      refine e_i2l C (dk dL_paths 5 rfl) ?_
      refine m_last C K ho (dk dL_paths 6 rfl) vin01 ?_
      refine e_goto C 15 (dk dL_paths 7 rfl) (by decide) ?_
      refine e_iconst C 0 (dk dL_paths 11 rfl) (by decide) ?_
      exact e_iretL C B (Nat.le_refl _) (by decide) (by decide) (dk dL_paths 12 rfl)
  · rcases r with j9 | v9
    · obtain rfl := Sum.inl.inj hj
      dsimp only [Sum.elim_inl] at h
      by_cases c1 : j9 = 1
      · subst c1
        rw [if_pos rfl] at h
        obtain rfl := Option.some.inj h
        have ek : EW X g H.size n 4 (ent g Xo kd M) (0 + 1) (0 + 6) 12 [(0, .ref (g_N g + t)), (1, .int p0), (2, .ref (g_N g + o))] [.ref q] := by
          refine e_astore_n C [(3, .ref q), (0, .ref (g_N g + t)), (1, .int p0), (2, .ref (g_N g + o))] (dk dL_paths 8 rfl) rfl (by decide) rfl ?_
          refine e_iconst C 1 (dk dL_paths 9 rfl) (by decide) ?_
          exact e_iretL C B hz (by decide) (by decide) (dk dL_paths 10 rfl)
        exact vx_catch (own := RL) (name := xNSE) (E := xNSE) C.2.2.2.1 [] ⟨0, 9, 12, 18⟩ [] B.2.2.2 (fun z9 hz9 => nomatch hz9) rfl (by decide) (C.2.2.2.2.1 _ cl_L_18) (cast_NSE C) hce hcv hcl (ek H locs ls hP rfl hS hl)
      rw [if_neg c1] at h
      cases h
    · exact nomatch hj
set_option maxRecDepth 20000 in
theorem c_L_person {g : WC} {Xo : Nat → va_E} {n : Nat} {kd : Nat → Nat} (K : KD n kd) {t o : Nat} {p0 : Int32} {p1 : Int32} (ht : kd t = 12) (ho : LA kd o 1) {M : Mem} {res : Int32 × Mem} (h : F_L_person t o p0 p1 M = some res) : LX g yL_person cL_person 5 [(0, 10, 13, 18)] 4 2 12 n [.ref (g_N g + t), .int p0, .int p1, .ref (g_N g + o)] (ent g Xo kd M) (some (.int res.1)) (ent g Xo kd res.2) := by
  refine LX_of pn_L (Nat.le_of_ble_eq_true rfl) (fun X C B => ?_)
  have hR := B.1
  rw [F_L_person] at h
  obtain ⟨r, hr, h⟩ := ob h
  refine e_aload_n C 3 (dk dL_person 0 rfl) rfl rfl ?_
  refine e_iconst C 0 (dk dL_person 1 rfl) (by decide) ?_
  refine e_aload_n C 0 (dk dL_person 2 rfl) rfl rfl ?_
  refine e_iload_n C 1 (dk dL_person 3 rfl) rfl rfl ?_
  refine e_iload_n C 2 (dk dL_person 4 rfl) rfl rfl ?_
  refine e_xcallV (ci := 11) C cal_X11_person im_X11_person se_X11_person ml_L_23 rfl (rmx_roomX hR (by decide) cal_X11_person.2.2.1) (dk dL_person 5 rfl) (K.1 _ (by rw [ht]; decide)) (ent_o11 ht) (c_X11_person K ht hr) (rmx_cap hR (by decide) (by decide)) (Nat.le_of_ble_eq_true rfl) rfl (fun v hv => ?_) (fun j hj H locs ls q ce hP hz hS hl hce hcv hcl => ?_)
  · rcases r with j9 | v9
    · exact nomatch hv
    · obtain rfl := Sum.inr.inj hv
      obtain rfl := Option.some.inj h
      refine e_i2l C (dk dL_person 6 rfl) ?_
      refine m_last C K ho (dk dL_person 7 rfl) vin01 ?_
      refine e_goto C 17 (dk dL_person 8 rfl) (by decide) ?_
      refine e_iconst C 0 (dk dL_person 12 rfl) (by decide) ?_
      exact e_iretL C B (Nat.le_refl _) (by decide) (by decide) (dk dL_person 13 rfl)
  · rcases r with j9 | v9
    · obtain rfl := Sum.inl.inj hj
      dsimp only [Sum.elim_inl] at h
      by_cases c1 : j9 = 1
      · subst c1
        rw [if_pos rfl] at h
        obtain rfl := Option.some.inj h
        have ek : EW X g H.size n 5 (ent g Xo kd M) (0 + 2) (0 + 12) 13 [(0, .ref (g_N g + t)), (1, .int p0), (2, .int p1), (3, .ref (g_N g + o))] [.ref q] := by
          refine e_astore C [(4, .ref q), (0, .ref (g_N g + t)), (1, .int p0), (2, .int p1), (3, .ref (g_N g + o))] (dk dL_person 9 rfl) (by decide) rfl ?_
          refine e_iconst C 1 (dk dL_person 10 rfl) (by decide) ?_
          exact e_iretL C B hz (by decide) (by decide) (dk dL_person 11 rfl)
        exact vx_catch (own := RL) (name := xNSE) (E := xNSE) C.2.2.2.1 [] ⟨0, 10, 13, 18⟩ [] B.2.2.2 (fun z9 hz9 => nomatch hz9) rfl (by decide) (C.2.2.2.2.1 _ cl_L_18) (cast_NSE C) hce hcv hcl (ek H locs ls hP rfl hS hl)
      rw [if_neg c1] at h
      cases h
    · exact nomatch hj
set_option maxRecDepth 20000 in
theorem c_L_walk {g : WC} {Xo : Nat → va_E} {n : Nat} {kd : Nat → Nat} (K : KD n kd) {t o : Nat} {p0 : Int32} {p1 : Int32} (ht : kd t = 12) (ho : LA kd o 1) {M : Mem} {res : Int32 × Mem} (h : F_L_walk t o p0 p1 M = some res) : LX g yL_walk cL_walk 5 [(0, 10, 13, 18)] 3 2 12 n [.ref (g_N g + t), .int p0, .int p1, .ref (g_N g + o)] (ent g Xo kd M) (some (.int res.1)) (ent g Xo kd res.2) := by
  refine LX_of pn_L (Nat.le_of_ble_eq_true rfl) (fun X C B => ?_)
  have hR := B.1
  rw [F_L_walk] at h
  obtain ⟨r, hr, h⟩ := ob h
  refine e_aload_n C 3 (dk dL_walk 0 rfl) rfl rfl ?_
  refine e_iconst C 0 (dk dL_walk 1 rfl) (by decide) ?_
  refine e_aload_n C 0 (dk dL_walk 2 rfl) rfl rfl ?_
  refine e_iload_n C 1 (dk dL_walk 3 rfl) rfl rfl ?_
  refine e_iload_n C 2 (dk dL_walk 4 rfl) rfl rfl ?_
  refine e_xcallV (ci := 11) C cal_X11_walk im_X11_walk se_X11_walk ml_L_27 rfl (rmx_roomX hR (by decide) cal_X11_walk.2.2.1) (dk dL_walk 5 rfl) (K.1 _ (by rw [ht]; decide)) (ent_o11 ht) (c_X11_walk K ht hr) (rmx_cap hR (by decide) (by decide)) (Nat.le_of_ble_eq_true rfl) rfl (fun v hv => ?_) (fun j hj H locs ls q ce hP hz hS hl hce hcv hcl => ?_)
  · rcases r with j9 | v9
    · exact nomatch hv
    · obtain rfl := Sum.inr.inj hv
      obtain rfl := Option.some.inj h
      refine e_i2l C (dk dL_walk 6 rfl) ?_
      refine m_last C K ho (dk dL_walk 7 rfl) vin01 ?_
      refine e_goto C 17 (dk dL_walk 8 rfl) (by decide) ?_
      refine e_iconst C 0 (dk dL_walk 12 rfl) (by decide) ?_
      exact e_iretL C B (Nat.le_refl _) (by decide) (by decide) (dk dL_walk 13 rfl)
  · rcases r with j9 | v9
    · obtain rfl := Sum.inl.inj hj
      dsimp only [Sum.elim_inl] at h
      by_cases c1 : j9 = 1
      · subst c1
        rw [if_pos rfl] at h
        obtain rfl := Option.some.inj h
        have ek : EW X g H.size n 5 (ent g Xo kd M) (0 + 2) (0 + 12) 13 [(0, .ref (g_N g + t)), (1, .int p0), (2, .int p1), (3, .ref (g_N g + o))] [.ref q] := by
          refine e_astore C [(4, .ref q), (0, .ref (g_N g + t)), (1, .int p0), (2, .int p1), (3, .ref (g_N g + o))] (dk dL_walk 9 rfl) (by decide) rfl ?_
          refine e_iconst C 1 (dk dL_walk 10 rfl) (by decide) ?_
          exact e_iretL C B hz (by decide) (by decide) (dk dL_walk 11 rfl)
        exact vx_catch (own := RL) (name := xNSE) (E := xNSE) C.2.2.2.1 [] ⟨0, 10, 13, 18⟩ [] B.2.2.2 (fun z9 hz9 => nomatch hz9) rfl (by decide) (C.2.2.2.2.1 _ cl_L_18) (cast_NSE C) hce hcv hcl (ek H locs ls hP rfl hS hl)
      rw [if_neg c1] at h
      cases h
    · exact nomatch hj
set_option maxRecDepth 20000 in
theorem c_L_bribe {g : WC} {Xo : Nat → va_E} {n : Nat} {kd : Nat → Nat} (K : KD n kd) {t o : Nat} {p0 : Int32} (ht : kd t = 12) (ho : LA kd o 1) {M : Mem} {res : Int32 × Mem} (h : F_L_bribe t o p0 M = some res) : LX g yL_bribe cL_bribe 4 [(0, 9, 12, 18)] 4 1 6 n [.ref (g_N g + t), .int p0, .ref (g_N g + o)] (ent g Xo kd M) (some (.int res.1)) (ent g Xo kd res.2) := by
  refine LX_of pn_L (Nat.le_of_ble_eq_true rfl) (fun X C B => ?_)
  have hR := B.1
  rw [F_L_bribe] at h
  obtain ⟨r, hr, h⟩ := ob h
  refine e_aload_n C 2 (dk dL_bribe 0 rfl) rfl rfl ?_
  refine e_iconst C 0 (dk dL_bribe 1 rfl) (by decide) ?_
  refine e_aload_n C 0 (dk dL_bribe 2 rfl) rfl rfl ?_
  refine e_iload_n C 1 (dk dL_bribe 3 rfl) rfl rfl ?_
  refine e_xcallV (ci := 11) C cal_X11_bribe im_X11_bribe se_X11_bribe ml_L_30 rfl (rmx_roomX hR (by decide) cal_X11_bribe.2.2.1) (dk dL_bribe 4 rfl) (K.1 _ (by rw [ht]; decide)) (ent_o11 ht) (c_X11_bribe K ht hr) (rmx_cap hR (by decide) (by decide)) (Nat.le_of_ble_eq_true rfl) rfl (fun v hv => ?_) (fun j hj H locs ls q ce hP hz hS hl hce hcv hcl => ?_)
  · rcases r with j9 | v9
    · exact nomatch hv
    · obtain rfl := Sum.inr.inj hv
      obtain rfl := Option.some.inj h
      refine e_i2l C (dk dL_bribe 5 rfl) ?_
      refine m_last C K ho (dk dL_bribe 6 rfl) vin01 ?_
      refine e_goto C 15 (dk dL_bribe 7 rfl) (by decide) ?_
      refine e_iconst C 0 (dk dL_bribe 11 rfl) (by decide) ?_
      exact e_iretL C B (Nat.le_refl _) (by decide) (by decide) (dk dL_bribe 12 rfl)
  · rcases r with j9 | v9
    · obtain rfl := Sum.inl.inj hj
      dsimp only [Sum.elim_inl] at h
      by_cases c1 : j9 = 1
      · subst c1
        rw [if_pos rfl] at h
        obtain rfl := Option.some.inj h
        have ek : EW X g H.size n 4 (ent g Xo kd M) (0 + 1) (0 + 6) 12 [(0, .ref (g_N g + t)), (1, .int p0), (2, .ref (g_N g + o))] [.ref q] := by
          refine e_astore_n C [(3, .ref q), (0, .ref (g_N g + t)), (1, .int p0), (2, .ref (g_N g + o))] (dk dL_bribe 8 rfl) rfl (by decide) rfl ?_
          refine e_iconst C 1 (dk dL_bribe 9 rfl) (by decide) ?_
          exact e_iretL C B hz (by decide) (by decide) (dk dL_bribe 10 rfl)
        exact vx_catch (own := RL) (name := xNSE) (E := xNSE) C.2.2.2.1 [] ⟨0, 9, 12, 18⟩ [] B.2.2.2 (fun z9 hz9 => nomatch hz9) rfl (by decide) (C.2.2.2.2.1 _ cl_L_18) (cast_NSE C) hce hcv hcl (ek H locs ls hP rfl hS hl)
      rw [if_neg c1] at h
      cases h
    · exact nomatch hj
set_option maxRecDepth 20000 in
theorem c_L_wander {g : WC} {Xo : Nat → va_E} {n : Nat} {kd : Nat → Nat} (K : KD n kd) {t o : Nat} {p0 : Int32} {p1 : Int32} {p2 : Int32} (ht : kd t = 12) (ho : LA kd o 1) {M : Mem} {res : Int32 × Mem} (h : F_L_wander t o p0 p1 p2 M = some res) : LX g yL_wander cL_wander 6 [(0, 12, 15, 18)] 4 3 18 n [.ref (g_N g + t), .int p0, .int p1, .int p2, .ref (g_N g + o)] (ent g Xo kd M) (some (.int res.1)) (ent g Xo kd res.2) := by
  refine LX_of pn_L (Nat.le_of_ble_eq_true rfl) (fun X C B => ?_)
  have hR := B.1
  rw [F_L_wander] at h
  obtain ⟨r, hr, h⟩ := ob h
  refine e_aload C 4 (dk dL_wander 0 rfl) rfl ?_
  refine e_iconst C 0 (dk dL_wander 1 rfl) (by decide) ?_
  refine e_aload_n C 0 (dk dL_wander 2 rfl) rfl rfl ?_
  refine e_iload_n C 1 (dk dL_wander 3 rfl) rfl rfl ?_
  refine e_iload_n C 2 (dk dL_wander 4 rfl) rfl rfl ?_
  refine e_iload_n C 3 (dk dL_wander 5 rfl) rfl rfl ?_
  refine e_xcallV (ci := 11) C cal_X11_wander im_X11_wander se_X11_wander ml_L_33 rfl (rmx_roomX hR (by decide) cal_X11_wander.2.2.1) (dk dL_wander 6 rfl) (K.1 _ (by rw [ht]; decide)) (ent_o11 ht) (c_X11_wander K ht hr) (rmx_cap hR (by decide) (by decide)) (Nat.le_of_ble_eq_true rfl) rfl (fun v hv => ?_) (fun j hj H locs ls q ce hP hz hS hl hce hcv hcl => ?_)
  · rcases r with j9 | v9
    · exact nomatch hv
    · obtain rfl := Sum.inr.inj hv
      obtain rfl := Option.some.inj h
      refine e_i2l C (dk dL_wander 7 rfl) ?_
      refine m_last C K ho (dk dL_wander 8 rfl) vin01 ?_
      refine e_goto C 19 (dk dL_wander 9 rfl) (by decide) ?_
      refine e_iconst C 0 (dk dL_wander 13 rfl) (by decide) ?_
      exact e_iretL C B (Nat.le_refl _) (by decide) (by decide) (dk dL_wander 14 rfl)
  · rcases r with j9 | v9
    · obtain rfl := Sum.inl.inj hj
      dsimp only [Sum.elim_inl] at h
      by_cases c1 : j9 = 1
      · subst c1
        rw [if_pos rfl] at h
        obtain rfl := Option.some.inj h
        have ek : EW X g H.size n 6 (ent g Xo kd M) (0 + 3) (0 + 18) 15 [(0, .ref (g_N g + t)), (1, .int p0), (2, .int p1), (3, .int p2), (4, .ref (g_N g + o))] [.ref q] := by
          refine e_astore C [(5, .ref q), (0, .ref (g_N g + t)), (1, .int p0), (2, .int p1), (3, .int p2), (4, .ref (g_N g + o))] (dk dL_wander 10 rfl) (by decide) rfl ?_
          refine e_iconst C 1 (dk dL_wander 11 rfl) (by decide) ?_
          exact e_iretL C B hz (by decide) (by decide) (dk dL_wander 12 rfl)
        exact vx_catch (own := RL) (name := xNSE) (E := xNSE) C.2.2.2.1 [] ⟨0, 12, 15, 18⟩ [] B.2.2.2 (fun z9 hz9 => nomatch hz9) rfl (by decide) (C.2.2.2.2.1 _ cl_L_18) (cast_NSE C) hce hcv hcl (ek H locs ls hP rfl hS hl)
      rw [if_neg c1] at h
      cases h
    · exact nomatch hj
set_option maxRecDepth 20000 in
theorem c_L_earn {g : WC} {Xo : Nat → va_E} {n : Nat} {kd : Nat → Nat} (K : KD n kd) {t o : Nat} {p0 : Int32} {p1 : Int32} (ht : kd t = 12) (ho : LA kd o 1) {M : Mem} {res : Int32 × Mem} (h : F_L_earn t o p0 p1 M = some res) : LX g yL_earn cL_earn 5 [(0, 10, 13, 18)] 4 1 6 n [.ref (g_N g + t), .int p0, .int p1, .ref (g_N g + o)] (ent g Xo kd M) (some (.int res.1)) (ent g Xo kd res.2) := by
  refine LX_of pn_L (Nat.le_of_ble_eq_true rfl) (fun X C B => ?_)
  have hR := B.1
  rw [F_L_earn] at h
  obtain ⟨r, hr, h⟩ := ob h
  refine e_aload_n C 3 (dk dL_earn 0 rfl) rfl rfl ?_
  refine e_iconst C 0 (dk dL_earn 1 rfl) (by decide) ?_
  refine e_aload_n C 0 (dk dL_earn 2 rfl) rfl rfl ?_
  refine e_iload_n C 1 (dk dL_earn 3 rfl) rfl rfl ?_
  refine e_iload_n C 2 (dk dL_earn 4 rfl) rfl rfl ?_
  refine e_xcallV (ci := 11) C cal_X11_earn im_X11_earn se_X11_earn ml_L_37 rfl (rmx_roomX hR (by decide) cal_X11_earn.2.2.1) (dk dL_earn 5 rfl) (K.1 _ (by rw [ht]; decide)) (ent_o11 ht) (c_X11_earn K ht hr) (rmx_cap hR (by decide) (by decide)) (Nat.le_of_ble_eq_true rfl) rfl (fun v hv => ?_) (fun j hj H locs ls q ce hP hz hS hl hce hcv hcl => ?_)
  · rcases r with j9 | v9
    · exact nomatch hv
    · obtain rfl := Sum.inr.inj hv
      obtain rfl := Option.some.inj h
      refine e_i2l C (dk dL_earn 6 rfl) ?_
      refine m_last C K ho (dk dL_earn 7 rfl) vin01 ?_
      refine e_goto C 17 (dk dL_earn 8 rfl) (by decide) ?_
      refine e_iconst C 0 (dk dL_earn 12 rfl) (by decide) ?_
      exact e_iretL C B (Nat.le_refl _) (by decide) (by decide) (dk dL_earn 13 rfl)
  · rcases r with j9 | v9
    · obtain rfl := Sum.inl.inj hj
      dsimp only [Sum.elim_inl] at h
      by_cases c1 : j9 = 1
      · subst c1
        rw [if_pos rfl] at h
        obtain rfl := Option.some.inj h
        have ek : EW X g H.size n 5 (ent g Xo kd M) (0 + 1) (0 + 6) 13 [(0, .ref (g_N g + t)), (1, .int p0), (2, .int p1), (3, .ref (g_N g + o))] [.ref q] := by
          refine e_astore C [(4, .ref q), (0, .ref (g_N g + t)), (1, .int p0), (2, .int p1), (3, .ref (g_N g + o))] (dk dL_earn 9 rfl) (by decide) rfl ?_
          refine e_iconst C 1 (dk dL_earn 10 rfl) (by decide) ?_
          exact e_iretL C B hz (by decide) (by decide) (dk dL_earn 11 rfl)
        exact vx_catch (own := RL) (name := xNSE) (E := xNSE) C.2.2.2.1 [] ⟨0, 10, 13, 18⟩ [] B.2.2.2 (fun z9 hz9 => nomatch hz9) rfl (by decide) (C.2.2.2.2.1 _ cl_L_18) (cast_NSE C) hce hcv hcl (ek H locs ls hP rfl hS hl)
      rw [if_neg c1] at h
      cases h
    · exact nomatch hj
set_option maxRecDepth 20000 in
theorem c_L_lots {g : WC} {Xo : Nat → va_E} {n : Nat} {kd : Nat → Nat} (K : KD n kd) {t o : Nat} {p0 : Int32} (ht : kd t = 12) (ho : LA kd o 1) {M : Mem} {res : Int32 × Mem} (h : F_L_lots t o p0 M = some res) : LX g yL_lots cL_lots 4 [(0, 9, 12, 13)] 5 1 6 n [.ref (g_N g + t), .int p0, .ref (g_N g + o)] (ent g Xo kd M) (some (.int res.1)) (ent g Xo kd res.2) := by
  refine LX_of pn_L (Nat.le_of_ble_eq_true rfl) (fun X C B => ?_)
  have hR := B.1
  rw [F_L_lots] at h
  obtain ⟨r, hr, h⟩ := ob h
  refine e_aload_n C 2 (dk dL_lots 0 rfl) rfl rfl ?_
  refine e_iconst C 0 (dk dL_lots 1 rfl) (by decide) ?_
  refine e_aload_n C 0 (dk dL_lots 2 rfl) rfl rfl ?_
  refine e_iload_n C 1 (dk dL_lots 3 rfl) rfl rfl ?_
  refine e_xcallV (ci := 11) C cal_X11_lots im_X11_lots se_X11_lots ml_L_40 rfl (rmx_roomX hR (by decide) cal_X11_lots.2.2.1) (dk dL_lots 4 rfl) (K.1 _ (by rw [ht]; decide)) (ent_o11 ht) (c_X11_lots K ht hr) (rmx_cap hR (by decide) (by decide)) (Nat.le_of_ble_eq_true rfl) rfl (fun v hv => ?_) (fun j hj H locs ls q ce hP hz hS hl hce hcv hcl => ?_)
  · rcases r with j9 | v9
    · exact nomatch hv
    · obtain rfl := Sum.inr.inj hv
      obtain rfl := Option.some.inj h
      refine e_i2l C (dk dL_lots 5 rfl) ?_
      refine m_last C K ho (dk dL_lots 6 rfl) vin01 ?_
      refine e_goto C 15 (dk dL_lots 7 rfl) (by decide) ?_
      refine e_iconst C 0 (dk dL_lots 11 rfl) (by decide) ?_
      exact e_iretL C B (Nat.le_refl _) (by decide) (by decide) (dk dL_lots 12 rfl)
  · rcases r with j9 | v9
    · obtain rfl := Sum.inl.inj hj
      dsimp only [Sum.elim_inl] at h
      by_cases c1 : j9 = 2
      · subst c1
        rw [if_pos rfl] at h
        obtain rfl := Option.some.inj h
        have ek : EW X g H.size n 4 (ent g Xo kd M) (0 + 1) (0 + 6) 12 [(0, .ref (g_N g + t)), (1, .int p0), (2, .ref (g_N g + o))] [.ref q] := by
          refine e_astore_n C [(3, .ref q), (0, .ref (g_N g + t)), (1, .int p0), (2, .ref (g_N g + o))] (dk dL_lots 8 rfl) rfl (by decide) rfl ?_
          refine e_iconst C 1 (dk dL_lots 9 rfl) (by decide) ?_
          exact e_iretL C B hz (by decide) (by decide) (dk dL_lots 10 rfl)
        exact vx_catch (own := RL) (name := xIAE) (E := xIAE) C.2.2.2.1 [] ⟨0, 9, 12, 13⟩ [] B.2.2.2 (fun z9 hz9 => nomatch hz9) rfl (by decide) (C.2.2.2.2.1 _ cl_L_13) (cast_IAE C) hce hcv hcl (ek H locs ls hP rfl hS hl)
      rw [if_neg c1] at h
      cases h
    · exact nomatch hj
set_option maxRecDepth 20000 in
theorem c_L_sold {g : WC} {Xo : Nat → va_E} {n : Nat} {kd : Nat → Nat} (K : KD n kd) {t o : Nat} {p0 : Int32} {p1 : Int32} {p2 : Int32} (ht : kd t = 12) (ho : LA kd o 1) {M : Mem} {res : Int32 × Mem} (h : F_L_sold t o p0 p1 p2 M = some res) : LX g yL_sold cL_sold 6 [(0, 12, 15, 18), (0, 12, 19, 13)] 7 3 18 n [.ref (g_N g + t), .int p0, .int p1, .int p2, .ref (g_N g + o)] (ent g Xo kd M) (some (.int res.1)) (ent g Xo kd res.2) := by
  refine LX_of pn_L (Nat.le_of_ble_eq_true rfl) (fun X C B => ?_)
  have hR := B.1
  rw [F_L_sold] at h
  obtain ⟨r, hr, h⟩ := ob h
  refine e_aload C 4 (dk dL_sold 0 rfl) rfl ?_
  refine e_iconst C 0 (dk dL_sold 1 rfl) (by decide) ?_
  refine e_aload_n C 0 (dk dL_sold 2 rfl) rfl rfl ?_
  refine e_iload_n C 1 (dk dL_sold 3 rfl) rfl rfl ?_
  refine e_iload_n C 2 (dk dL_sold 4 rfl) rfl rfl ?_
  refine e_iload_n C 3 (dk dL_sold 5 rfl) rfl rfl ?_
  refine e_xcallV (ci := 11) C cal_X11_sold im_X11_sold se_X11_sold ml_L_43 rfl (rmx_roomX hR (by decide) cal_X11_sold.2.2.1) (dk dL_sold 6 rfl) (K.1 _ (by rw [ht]; decide)) (ent_o11 ht) (c_X11_sold K ht hr) (rmx_cap hR (by decide) (by decide)) (Nat.le_of_ble_eq_true rfl) rfl (fun v hv => ?_) (fun j hj H locs ls q ce hP hz hS hl hce hcv hcl => ?_)
  · rcases r with j9 | v9
    · exact nomatch hv
    · obtain rfl := Sum.inr.inj hv
      obtain rfl := Option.some.inj h
      refine e_i2l C (dk dL_sold 7 rfl) ?_
      refine m_last C K ho (dk dL_sold 8 rfl) vin01 ?_
      refine e_goto C 23 (dk dL_sold 9 rfl) (by decide) ?_
      refine e_iconst C 0 (dk dL_sold 16 rfl) (by decide) ?_
      exact e_iretL C B (Nat.le_refl _) (by decide) (by decide) (dk dL_sold 17 rfl)
  · rcases r with j9 | v9
    · obtain rfl := Sum.inl.inj hj
      dsimp only [Sum.elim_inl] at h
      by_cases c1 : j9 = 1
      · subst c1
        rw [if_pos rfl] at h
        obtain rfl := Option.some.inj h
        have ek : EW X g H.size n 6 (ent g Xo kd M) (0 + 3) (0 + 18) 15 [(0, .ref (g_N g + t)), (1, .int p0), (2, .int p1), (3, .int p2), (4, .ref (g_N g + o))] [.ref q] := by
          refine e_astore C [(5, .ref q), (0, .ref (g_N g + t)), (1, .int p0), (2, .int p1), (3, .int p2), (4, .ref (g_N g + o))] (dk dL_sold 10 rfl) (by decide) rfl ?_
          refine e_iconst C 1 (dk dL_sold 11 rfl) (by decide) ?_
          exact e_iretL C B hz (by decide) (by decide) (dk dL_sold 12 rfl)
        exact vx_catch (own := RL) (name := xNSE) (E := xNSE) C.2.2.2.1 [] ⟨0, 12, 15, 18⟩ [⟨0, 12, 19, 13⟩] B.2.2.2 (fun z9 hz9 => nomatch hz9) rfl (by decide) (C.2.2.2.2.1 _ cl_L_18) (cast_NSE C) hce hcv hcl (ek H locs ls hP rfl hS hl)
      rw [if_neg c1] at h
      by_cases c2 : j9 = 2
      · subst c2
        rw [if_pos rfl] at h
        obtain rfl := Option.some.inj h
        have ek : EW X g H.size n 6 (ent g Xo kd M) (0 + 3) (0 + 18) 19 [(0, .ref (g_N g + t)), (1, .int p0), (2, .int p1), (3, .int p2), (4, .ref (g_N g + o))] [.ref q] := by
          refine e_astore C [(5, .ref q), (0, .ref (g_N g + t)), (1, .int p0), (2, .int p1), (3, .int p2), (4, .ref (g_N g + o))] (dk dL_sold 13 rfl) (by decide) rfl ?_
          refine e_iconst C 2 (dk dL_sold 14 rfl) (by decide) ?_
          exact e_iretL C B hz (by decide) (by decide) (dk dL_sold 15 rfl)
        exact vx_catch (own := RL) (name := xIAE) (E := xIAE) C.2.2.2.1 [⟨0, 12, 15, 18⟩] ⟨0, 12, 19, 13⟩ [] B.2.2.2 (fun z9 hz9 => by cases List.mem_singleton.mp hz9; exact Or.inr ⟨by decide, xNSE, C.2.2.2.2.1 _ cl_L_18, nc_IN C⟩) rfl (by decide) (C.2.2.2.2.1 _ cl_L_13) (cast_IAE C) hce hcv hcl (ek H locs ls hP rfl hS hl)
      rw [if_neg c2] at h
      cases h
    · exact nomatch hj
set_option maxRecDepth 20000 in
theorem c_L_then {g : WC} {Xo : Nat → va_E} {n : Nat} {kd : Nat → Nat} (K : KD n kd) {t o : Nat} {p0 : Int32} {p1 : Int32} {p2 : Int32} (ht : kd t = 12) (ho : LA kd o 1) {M : Mem} {res : Int32 × Mem} (h : F_L_then t o p0 p1 p2 M = some res) : LX g yL_then cL_then 6 [(0, 12, 15, 18), (0, 12, 19, 13)] 7 3 18 n [.ref (g_N g + t), .int p0, .int p1, .int p2, .ref (g_N g + o)] (ent g Xo kd M) (some (.int res.1)) (ent g Xo kd res.2) := by
  refine LX_of pn_L (Nat.le_of_ble_eq_true rfl) (fun X C B => ?_)
  have hR := B.1
  rw [F_L_then] at h
  obtain ⟨r, hr, h⟩ := ob h
  refine e_aload C 4 (dk dL_then 0 rfl) rfl ?_
  refine e_iconst C 0 (dk dL_then 1 rfl) (by decide) ?_
  refine e_aload_n C 0 (dk dL_then 2 rfl) rfl rfl ?_
  refine e_iload_n C 1 (dk dL_then 3 rfl) rfl rfl ?_
  refine e_iload_n C 2 (dk dL_then 4 rfl) rfl rfl ?_
  refine e_iload_n C 3 (dk dL_then 5 rfl) rfl rfl ?_
  refine e_xcallV (ci := 11) C cal_X11_then im_X11_then se_X11_then ml_L_46 rfl (rmx_roomX hR (by decide) cal_X11_then.2.2.1) (dk dL_then 6 rfl) (K.1 _ (by rw [ht]; decide)) (ent_o11 ht) (c_X11_then K ht hr) (rmx_cap hR (by decide) (by decide)) (Nat.le_of_ble_eq_true rfl) rfl (fun v hv => ?_) (fun j hj H locs ls q ce hP hz hS hl hce hcv hcl => ?_)
  · rcases r with j9 | v9
    · exact nomatch hv
    · obtain rfl := Sum.inr.inj hv
      obtain rfl := Option.some.inj h
      refine e_i2l C (dk dL_then 7 rfl) ?_
      refine m_last C K ho (dk dL_then 8 rfl) vin01 ?_
      refine e_goto C 23 (dk dL_then 9 rfl) (by decide) ?_
      refine e_iconst C 0 (dk dL_then 16 rfl) (by decide) ?_
      exact e_iretL C B (Nat.le_refl _) (by decide) (by decide) (dk dL_then 17 rfl)
  · rcases r with j9 | v9
    · obtain rfl := Sum.inl.inj hj
      dsimp only [Sum.elim_inl] at h
      by_cases c1 : j9 = 1
      · subst c1
        rw [if_pos rfl] at h
        obtain rfl := Option.some.inj h
        have ek : EW X g H.size n 6 (ent g Xo kd M) (0 + 3) (0 + 18) 15 [(0, .ref (g_N g + t)), (1, .int p0), (2, .int p1), (3, .int p2), (4, .ref (g_N g + o))] [.ref q] := by
          refine e_astore C [(5, .ref q), (0, .ref (g_N g + t)), (1, .int p0), (2, .int p1), (3, .int p2), (4, .ref (g_N g + o))] (dk dL_then 10 rfl) (by decide) rfl ?_
          refine e_iconst C 1 (dk dL_then 11 rfl) (by decide) ?_
          exact e_iretL C B hz (by decide) (by decide) (dk dL_then 12 rfl)
        exact vx_catch (own := RL) (name := xNSE) (E := xNSE) C.2.2.2.1 [] ⟨0, 12, 15, 18⟩ [⟨0, 12, 19, 13⟩] B.2.2.2 (fun z9 hz9 => nomatch hz9) rfl (by decide) (C.2.2.2.2.1 _ cl_L_18) (cast_NSE C) hce hcv hcl (ek H locs ls hP rfl hS hl)
      rw [if_neg c1] at h
      by_cases c2 : j9 = 2
      · subst c2
        rw [if_pos rfl] at h
        obtain rfl := Option.some.inj h
        have ek : EW X g H.size n 6 (ent g Xo kd M) (0 + 3) (0 + 18) 19 [(0, .ref (g_N g + t)), (1, .int p0), (2, .int p1), (3, .int p2), (4, .ref (g_N g + o))] [.ref q] := by
          refine e_astore C [(5, .ref q), (0, .ref (g_N g + t)), (1, .int p0), (2, .int p1), (3, .int p2), (4, .ref (g_N g + o))] (dk dL_then 13 rfl) (by decide) rfl ?_
          refine e_iconst C 2 (dk dL_then 14 rfl) (by decide) ?_
          exact e_iretL C B hz (by decide) (by decide) (dk dL_then 15 rfl)
        exact vx_catch (own := RL) (name := xIAE) (E := xIAE) C.2.2.2.1 [⟨0, 12, 15, 18⟩] ⟨0, 12, 19, 13⟩ [] B.2.2.2 (fun z9 hz9 => by cases List.mem_singleton.mp hz9; exact Or.inr ⟨by decide, xNSE, C.2.2.2.2.1 _ cl_L_18, nc_IN C⟩) rfl (by decide) (C.2.2.2.2.1 _ cl_L_13) (cast_IAE C) hce hcv hcl (ek H locs ls hP rfl hS hl)
      rw [if_neg c2] at h
      cases h
    · exact nomatch hj
set_option maxRecDepth 20000 in
theorem c_L_dark {g : WC} {Xo : Nat → va_E} {n : Nat} {kd : Nat → Nat} (K : KD n kd) {t o : Nat} {p0 : Int32} (ht : kd t = 12) (ho : LA kd o 1) {M : Mem} {res : Int32 × Mem} (h : F_L_dark t o p0 M = some res) : LX g yL_dark cL_dark 4 [(0, 9, 12, 13)] 7 1 6 n [.ref (g_N g + t), .int p0, .ref (g_N g + o)] (ent g Xo kd M) (some (.int res.1)) (ent g Xo kd res.2) := by
  refine LX_of pn_L (Nat.le_of_ble_eq_true rfl) (fun X C B => ?_)
  have hR := B.1
  rw [F_L_dark] at h
  obtain ⟨r, hr, h⟩ := ob h
  refine e_aload_n C 2 (dk dL_dark 0 rfl) rfl rfl ?_
  refine e_iconst C 0 (dk dL_dark 1 rfl) (by decide) ?_
  refine e_aload_n C 0 (dk dL_dark 2 rfl) rfl rfl ?_
  refine e_iload_n C 1 (dk dL_dark 3 rfl) rfl rfl ?_
  refine e_xcallV (ci := 11) C cal_X11_dark im_X11_dark se_X11_dark ml_L_49 rfl (rmx_roomX hR (by decide) cal_X11_dark.2.2.1) (dk dL_dark 4 rfl) (K.1 _ (by rw [ht]; decide)) (ent_o11 ht) (c_X11_dark K ht hr) (rmx_cap hR (by decide) (by decide)) (Nat.le_of_ble_eq_true rfl) rfl (fun v hv => ?_) (fun j hj H locs ls q ce hP hz hS hl hce hcv hcl => ?_)
  · rcases r with j9 | v9
    · exact nomatch hv
    · obtain rfl := Sum.inr.inj hv
      obtain rfl := Option.some.inj h
      refine e_i2l C (dk dL_dark 5 rfl) ?_
      refine m_last C K ho (dk dL_dark 6 rfl) vin01 ?_
      refine e_goto C 15 (dk dL_dark 7 rfl) (by decide) ?_
      refine e_iconst C 0 (dk dL_dark 11 rfl) (by decide) ?_
      exact e_iretL C B (Nat.le_refl _) (by decide) (by decide) (dk dL_dark 12 rfl)
  · rcases r with j9 | v9
    · obtain rfl := Sum.inl.inj hj
      dsimp only [Sum.elim_inl] at h
      by_cases c1 : j9 = 2
      · subst c1
        rw [if_pos rfl] at h
        obtain rfl := Option.some.inj h
        have ek : EW X g H.size n 4 (ent g Xo kd M) (0 + 1) (0 + 6) 12 [(0, .ref (g_N g + t)), (1, .int p0), (2, .ref (g_N g + o))] [.ref q] := by
          refine e_astore_n C [(3, .ref q), (0, .ref (g_N g + t)), (1, .int p0), (2, .ref (g_N g + o))] (dk dL_dark 8 rfl) rfl (by decide) rfl ?_
          refine e_iconst C 1 (dk dL_dark 9 rfl) (by decide) ?_
          exact e_iretL C B hz (by decide) (by decide) (dk dL_dark 10 rfl)
        exact vx_catch (own := RL) (name := xIAE) (E := xIAE) C.2.2.2.1 [] ⟨0, 9, 12, 13⟩ [] B.2.2.2 (fun z9 hz9 => nomatch hz9) rfl (by decide) (C.2.2.2.2.1 _ cl_L_13) (cast_IAE C) hce hcv hcl (ek H locs ls hP rfl hS hl)
      rw [if_neg c1] at h
      cases h
    · exact nomatch hj
set_option maxRecDepth 20000 in
theorem c_L_first {g : WC} {Xo : Nat → va_E} {n : Nat} {kd : Nat → Nat} (K : KD n kd) {t o : Nat} {p0 : Int32} (ht : kd t = 12) (ho : LA kd o 1) {M : Mem} {res : Int32 × Mem} (h : F_L_first t o p0 M = some res) : LX g yL_first cL_first 4 [(0, 9, 12, 18)] 5 1 6 n [.ref (g_N g + t), .int p0, .ref (g_N g + o)] (ent g Xo kd M) (some (.int res.1)) (ent g Xo kd res.2) := by
  refine LX_of pn_L (Nat.le_of_ble_eq_true rfl) (fun X C B => ?_)
  have hR := B.1
  rw [F_L_first] at h
  obtain ⟨r, hr, h⟩ := ob h
  refine e_aload_n C 2 (dk dL_first 0 rfl) rfl rfl ?_
  refine e_iconst C 0 (dk dL_first 1 rfl) (by decide) ?_
  refine e_aload_n C 0 (dk dL_first 2 rfl) rfl rfl ?_
  refine e_iload_n C 1 (dk dL_first 3 rfl) rfl rfl ?_
  refine e_xcallV (ci := 11) C cal_X11_first im_X11_first se_X11_first ml_L_52 rfl (rmx_roomX hR (by decide) cal_X11_first.2.2.1) (dk dL_first 4 rfl) (K.1 _ (by rw [ht]; decide)) (ent_o11 ht) (c_X11_first K ht hr) (rmx_cap hR (by decide) (by decide)) (Nat.le_of_ble_eq_true rfl) rfl (fun v hv => ?_) (fun j hj H locs ls q ce hP hz hS hl hce hcv hcl => ?_)
  · rcases r with j9 | v9
    · exact nomatch hv
    · obtain rfl := Sum.inr.inj hv
      obtain rfl := Option.some.inj h
      refine e_i2l C (dk dL_first 5 rfl) ?_
      refine m_last C K ho (dk dL_first 6 rfl) vin01 ?_
      refine e_goto C 15 (dk dL_first 7 rfl) (by decide) ?_
      refine e_iconst C 0 (dk dL_first 11 rfl) (by decide) ?_
      exact e_iretL C B (Nat.le_refl _) (by decide) (by decide) (dk dL_first 12 rfl)
  · rcases r with j9 | v9
    · obtain rfl := Sum.inl.inj hj
      dsimp only [Sum.elim_inl] at h
      by_cases c1 : j9 = 1
      · subst c1
        rw [if_pos rfl] at h
        obtain rfl := Option.some.inj h
        have ek : EW X g H.size n 4 (ent g Xo kd M) (0 + 1) (0 + 6) 12 [(0, .ref (g_N g + t)), (1, .int p0), (2, .ref (g_N g + o))] [.ref q] := by
          refine e_astore_n C [(3, .ref q), (0, .ref (g_N g + t)), (1, .int p0), (2, .ref (g_N g + o))] (dk dL_first 8 rfl) rfl (by decide) rfl ?_
          refine e_iconst C 1 (dk dL_first 9 rfl) (by decide) ?_
          exact e_iretL C B hz (by decide) (by decide) (dk dL_first 10 rfl)
        exact vx_catch (own := RL) (name := xNSE) (E := xNSE) C.2.2.2.1 [] ⟨0, 9, 12, 18⟩ [] B.2.2.2 (fun z9 hz9 => nomatch hz9) rfl (by decide) (C.2.2.2.2.1 _ cl_L_18) (cast_NSE C) hce hcv hcl (ek H locs ls hP rfl hS hl)
      rw [if_neg c1] at h
      cases h
    · exact nomatch hj
set_option maxRecDepth 20000 in
theorem c_L_haunt {g : WC} {Xo : Nat → va_E} {n : Nat} {kd : Nat → Nat} (K : KD n kd) {t o : Nat} {p0 : Int32} (ht : kd t = 12) (ho : LA kd o 1) {M : Mem} {res : Int32 × Mem} (h : F_L_haunt t o p0 M = some res) : LX g yL_haunt cL_haunt 4 [(0, 9, 12, 13)] 5 1 6 n [.ref (g_N g + t), .int p0, .ref (g_N g + o)] (ent g Xo kd M) (some (.int res.1)) (ent g Xo kd res.2) := by
  refine LX_of pn_L (Nat.le_of_ble_eq_true rfl) (fun X C B => ?_)
  have hR := B.1
  rw [F_L_haunt] at h
  obtain ⟨r, hr, h⟩ := ob h
  refine e_aload_n C 2 (dk dL_haunt 0 rfl) rfl rfl ?_
  refine e_iconst C 0 (dk dL_haunt 1 rfl) (by decide) ?_
  refine e_aload_n C 0 (dk dL_haunt 2 rfl) rfl rfl ?_
  refine e_iload_n C 1 (dk dL_haunt 3 rfl) rfl rfl ?_
  refine e_xcallV (ci := 11) C cal_X11_haunt im_X11_haunt se_X11_haunt ml_L_55 rfl (rmx_roomX hR (by decide) cal_X11_haunt.2.2.1) (dk dL_haunt 4 rfl) (K.1 _ (by rw [ht]; decide)) (ent_o11 ht) (c_X11_haunt K ht hr) (rmx_cap hR (by decide) (by decide)) (Nat.le_of_ble_eq_true rfl) rfl (fun v hv => ?_) (fun j hj H locs ls q ce hP hz hS hl hce hcv hcl => ?_)
  · rcases r with j9 | v9
    · exact nomatch hv
    · obtain rfl := Sum.inr.inj hv
      obtain rfl := Option.some.inj h
      refine e_i2l C (dk dL_haunt 5 rfl) ?_
      refine m_last C K ho (dk dL_haunt 6 rfl) vin01 ?_
      refine e_goto C 15 (dk dL_haunt 7 rfl) (by decide) ?_
      refine e_iconst C 0 (dk dL_haunt 11 rfl) (by decide) ?_
      exact e_iretL C B (Nat.le_refl _) (by decide) (by decide) (dk dL_haunt 12 rfl)
  · rcases r with j9 | v9
    · obtain rfl := Sum.inl.inj hj
      dsimp only [Sum.elim_inl] at h
      by_cases c1 : j9 = 2
      · subst c1
        rw [if_pos rfl] at h
        obtain rfl := Option.some.inj h
        have ek : EW X g H.size n 4 (ent g Xo kd M) (0 + 1) (0 + 6) 12 [(0, .ref (g_N g + t)), (1, .int p0), (2, .ref (g_N g + o))] [.ref q] := by
          refine e_astore_n C [(3, .ref q), (0, .ref (g_N g + t)), (1, .int p0), (2, .ref (g_N g + o))] (dk dL_haunt 8 rfl) rfl (by decide) rfl ?_
          refine e_iconst C 1 (dk dL_haunt 9 rfl) (by decide) ?_
          exact e_iretL C B hz (by decide) (by decide) (dk dL_haunt 10 rfl)
        exact vx_catch (own := RL) (name := xIAE) (E := xIAE) C.2.2.2.1 [] ⟨0, 9, 12, 13⟩ [] B.2.2.2 (fun z9 hz9 => nomatch hz9) rfl (by decide) (C.2.2.2.2.1 _ cl_L_13) (cast_IAE C) hce hcv hcl (ek H locs ls hP rfl hS hl)
      rw [if_neg c1] at h
      cases h
    · exact nomatch hj
set_option maxRecDepth 20000 in
theorem c_L_watch {g : WC} {Xo : Nat → va_E} {n : Nat} {kd : Nat → Nat} (K : KD n kd) {t o : Nat} {p0 : Int32} {p1 : Int32} (ht : kd t = 12) (ho : LA kd o 1) {M : Mem} {res : Int32 × Mem} (h : F_L_watch t o p0 p1 M = some res) : LX g yL_watch cL_watch 5 [(0, 10, 13, 13)] 2 2 12 n [.ref (g_N g + t), .int p0, .int p1, .ref (g_N g + o)] (ent g Xo kd M) (some (.int res.1)) (ent g Xo kd res.2) := by
  refine LX_of pn_L (Nat.le_of_ble_eq_true rfl) (fun X C B => ?_)
  have hR := B.1
  rw [F_L_watch] at h
  obtain ⟨r, hr, h⟩ := ob h
  refine e_aload_n C 3 (dk dL_watch 0 rfl) rfl rfl ?_
  refine e_iconst C 0 (dk dL_watch 1 rfl) (by decide) ?_
  refine e_aload_n C 0 (dk dL_watch 2 rfl) rfl rfl ?_
  refine e_iload_n C 1 (dk dL_watch 3 rfl) rfl rfl ?_
  refine e_iload_n C 2 (dk dL_watch 4 rfl) rfl rfl ?_
  refine e_xcallV (ci := 11) C cal_X11_watch im_X11_watch se_X11_watch ml_L_58 rfl (rmx_roomX hR (by decide) cal_X11_watch.2.2.1) (dk dL_watch 5 rfl) (K.1 _ (by rw [ht]; decide)) (ent_o11 ht) (c_X11_watch K ht hr) (rmx_cap hR (by decide) (by decide)) (Nat.le_of_ble_eq_true rfl) rfl (fun v hv => ?_) (fun j hj H locs ls q ce hP hz hS hl hce hcv hcl => ?_)
  · rcases r with j9 | v9
    · exact nomatch hv
    · obtain rfl := Sum.inr.inj hv
      obtain rfl := Option.some.inj h
      refine e_i2l C (dk dL_watch 6 rfl) ?_
      refine m_last C K ho (dk dL_watch 7 rfl) vin01 ?_
      refine e_goto C 17 (dk dL_watch 8 rfl) (by decide) ?_
      refine e_iconst C 0 (dk dL_watch 12 rfl) (by decide) ?_
      exact e_iretL C B (Nat.le_refl _) (by decide) (by decide) (dk dL_watch 13 rfl)
  · rcases r with j9 | v9
    · obtain rfl := Sum.inl.inj hj
      dsimp only [Sum.elim_inl] at h
      by_cases c1 : j9 = 2
      · subst c1
        rw [if_pos rfl] at h
        obtain rfl := Option.some.inj h
        have ek : EW X g H.size n 5 (ent g Xo kd M) (0 + 2) (0 + 12) 13 [(0, .ref (g_N g + t)), (1, .int p0), (2, .int p1), (3, .ref (g_N g + o))] [.ref q] := by
          refine e_astore C [(4, .ref q), (0, .ref (g_N g + t)), (1, .int p0), (2, .int p1), (3, .ref (g_N g + o))] (dk dL_watch 9 rfl) (by decide) rfl ?_
          refine e_iconst C 1 (dk dL_watch 10 rfl) (by decide) ?_
          exact e_iretL C B hz (by decide) (by decide) (dk dL_watch 11 rfl)
        exact vx_catch (own := RL) (name := xIAE) (E := xIAE) C.2.2.2.1 [] ⟨0, 10, 13, 13⟩ [] B.2.2.2 (fun z9 hz9 => nomatch hz9) rfl (by decide) (C.2.2.2.2.1 _ cl_L_13) (cast_IAE C) hce hcv hcl (ek H locs ls hP rfl hS hl)
      rw [if_neg c1] at h
      cases h
    · exact nomatch hj
set_option maxRecDepth 20000 in
theorem c_L_way {g : WC} {Xo : Nat → va_E} {n : Nat} {kd : Nat → Nat} (K : KD n kd) {t o : Nat} {p0 : Int32} {p1 : Int32} (ht : kd t = 12) (ho : LA kd o 1) {M : Mem} {res : Int32 × Mem} (h : F_L_way t o p0 p1 M = some res) : LX g yL_way cL_way 5 [(0, 10, 13, 18)] 2 2 12 n [.ref (g_N g + t), .int p0, .int p1, .ref (g_N g + o)] (ent g Xo kd M) (some (.int res.1)) (ent g Xo kd res.2) := by
  refine LX_of pn_L (Nat.le_of_ble_eq_true rfl) (fun X C B => ?_)
  have hR := B.1
  rw [F_L_way] at h
  obtain ⟨r, hr, h⟩ := ob h
  refine e_aload_n C 3 (dk dL_way 0 rfl) rfl rfl ?_
  refine e_iconst C 0 (dk dL_way 1 rfl) (by decide) ?_
  refine e_aload_n C 0 (dk dL_way 2 rfl) rfl rfl ?_
  refine e_iload_n C 1 (dk dL_way 3 rfl) rfl rfl ?_
  refine e_iload_n C 2 (dk dL_way 4 rfl) rfl rfl ?_
  refine e_xcallV (ci := 11) C cal_X11_way im_X11_way se_X11_way ml_L_61 rfl (rmx_roomX hR (by decide) cal_X11_way.2.2.1) (dk dL_way 5 rfl) (K.1 _ (by rw [ht]; decide)) (ent_o11 ht) (c_X11_way K ht hr) (rmx_cap hR (by decide) (by decide)) (Nat.le_of_ble_eq_true rfl) rfl (fun v hv => ?_) (fun j hj H locs ls q ce hP hz hS hl hce hcv hcl => ?_)
  · rcases r with j9 | v9
    · exact nomatch hv
    · obtain rfl := Sum.inr.inj hv
      obtain rfl := Option.some.inj h
      refine e_i2l C (dk dL_way 6 rfl) ?_
      refine m_last C K ho (dk dL_way 7 rfl) vin01 ?_
      refine e_goto C 17 (dk dL_way 8 rfl) (by decide) ?_
      refine e_iconst C 0 (dk dL_way 12 rfl) (by decide) ?_
      exact e_iretL C B (Nat.le_refl _) (by decide) (by decide) (dk dL_way 13 rfl)
  · rcases r with j9 | v9
    · obtain rfl := Sum.inl.inj hj
      dsimp only [Sum.elim_inl] at h
      by_cases c1 : j9 = 1
      · subst c1
        rw [if_pos rfl] at h
        obtain rfl := Option.some.inj h
        have ek : EW X g H.size n 5 (ent g Xo kd M) (0 + 2) (0 + 12) 13 [(0, .ref (g_N g + t)), (1, .int p0), (2, .int p1), (3, .ref (g_N g + o))] [.ref q] := by
          refine e_astore C [(4, .ref q), (0, .ref (g_N g + t)), (1, .int p0), (2, .int p1), (3, .ref (g_N g + o))] (dk dL_way 9 rfl) (by decide) rfl ?_
          refine e_iconst C 1 (dk dL_way 10 rfl) (by decide) ?_
          exact e_iretL C B hz (by decide) (by decide) (dk dL_way 11 rfl)
        exact vx_catch (own := RL) (name := xNSE) (E := xNSE) C.2.2.2.1 [] ⟨0, 10, 13, 18⟩ [] B.2.2.2 (fun z9 hz9 => nomatch hz9) rfl (by decide) (C.2.2.2.2.1 _ cl_L_18) (cast_NSE C) hce hcv hcl (ek H locs ls hP rfl hS hl)
      rw [if_neg c1] at h
      cases h
    · exact nomatch hj
set_option maxRecDepth 20000 in
theorem c_L_sneak {g : WC} {Xo : Nat → va_E} {n : Nat} {kd : Nat → Nat} (K : KD n kd) {t o : Nat} {p0 : Int32} {p1 : Int32} (ht : kd t = 12) (ho : LA kd o 1) {M : Mem} {res : Int32 × Mem} (h : F_L_sneak t o p0 p1 M = some res) : LX g yL_sneak cL_sneak 5 [(0, 10, 13, 18)] 2 2 12 n [.ref (g_N g + t), .int p0, .int p1, .ref (g_N g + o)] (ent g Xo kd M) (some (.int res.1)) (ent g Xo kd res.2) := by
  refine LX_of pn_L (Nat.le_of_ble_eq_true rfl) (fun X C B => ?_)
  have hR := B.1
  rw [F_L_sneak] at h
  obtain ⟨r, hr, h⟩ := ob h
  refine e_aload_n C 3 (dk dL_sneak 0 rfl) rfl rfl ?_
  refine e_iconst C 0 (dk dL_sneak 1 rfl) (by decide) ?_
  refine e_aload_n C 0 (dk dL_sneak 2 rfl) rfl rfl ?_
  refine e_iload_n C 1 (dk dL_sneak 3 rfl) rfl rfl ?_
  refine e_iload_n C 2 (dk dL_sneak 4 rfl) rfl rfl ?_
  refine e_xcallV (ci := 11) C cal_X11_sneak im_X11_sneak se_X11_sneak ml_L_64 rfl (rmx_roomX hR (by decide) cal_X11_sneak.2.2.1) (dk dL_sneak 5 rfl) (K.1 _ (by rw [ht]; decide)) (ent_o11 ht) (c_X11_sneak K ht hr) (rmx_cap hR (by decide) (by decide)) (Nat.le_of_ble_eq_true rfl) rfl (fun v hv => ?_) (fun j hj H locs ls q ce hP hz hS hl hce hcv hcl => ?_)
  · rcases r with j9 | v9
    · exact nomatch hv
    · obtain rfl := Sum.inr.inj hv
      obtain rfl := Option.some.inj h
      refine e_i2l C (dk dL_sneak 6 rfl) ?_
      refine m_last C K ho (dk dL_sneak 7 rfl) vin01 ?_
      refine e_goto C 17 (dk dL_sneak 8 rfl) (by decide) ?_
      refine e_iconst C 0 (dk dL_sneak 12 rfl) (by decide) ?_
      exact e_iretL C B (Nat.le_refl _) (by decide) (by decide) (dk dL_sneak 13 rfl)
  · rcases r with j9 | v9
    · obtain rfl := Sum.inl.inj hj
      dsimp only [Sum.elim_inl] at h
      by_cases c1 : j9 = 1
      · subst c1
        rw [if_pos rfl] at h
        obtain rfl := Option.some.inj h
        have ek : EW X g H.size n 5 (ent g Xo kd M) (0 + 2) (0 + 12) 13 [(0, .ref (g_N g + t)), (1, .int p0), (2, .int p1), (3, .ref (g_N g + o))] [.ref q] := by
          refine e_astore C [(4, .ref q), (0, .ref (g_N g + t)), (1, .int p0), (2, .int p1), (3, .ref (g_N g + o))] (dk dL_sneak 9 rfl) (by decide) rfl ?_
          refine e_iconst C 1 (dk dL_sneak 10 rfl) (by decide) ?_
          exact e_iretL C B hz (by decide) (by decide) (dk dL_sneak 11 rfl)
        exact vx_catch (own := RL) (name := xNSE) (E := xNSE) C.2.2.2.1 [] ⟨0, 10, 13, 18⟩ [] B.2.2.2 (fun z9 hz9 => nomatch hz9) rfl (by decide) (C.2.2.2.2.1 _ cl_L_18) (cast_NSE C) hce hcv hcl (ek H locs ls hP rfl hS hl)
      rw [if_neg c1] at h
      cases h
    · exact nomatch hj
set_option maxRecDepth 20000 in
theorem c_L_safe {g : WC} {Xo : Nat → va_E} {n : Nat} {kd : Nat → Nat} (K : KD n kd) {t o : Nat} {p0 : Int32} (ht : kd t = 12) (ho : LA kd o 1) {M : Mem} {res : Int32 × Mem} (h : F_L_safe t o p0 M = some res) : LX g yL_safe cL_safe 4 [(0, 9, 12, 18)] 3 1 6 n [.ref (g_N g + t), .int p0, .ref (g_N g + o)] (ent g Xo kd M) (some (.int res.1)) (ent g Xo kd res.2) := by
  refine LX_of pn_L (Nat.le_of_ble_eq_true rfl) (fun X C B => ?_)
  have hR := B.1
  rw [F_L_safe] at h
  obtain ⟨r, hr, h⟩ := ob h
  refine e_aload_n C 2 (dk dL_safe 0 rfl) rfl rfl ?_
  refine e_iconst C 0 (dk dL_safe 1 rfl) (by decide) ?_
  refine e_aload_n C 0 (dk dL_safe 2 rfl) rfl rfl ?_
  refine e_iload_n C 1 (dk dL_safe 3 rfl) rfl rfl ?_
  refine e_xcallV (ci := 11) C cal_X11_safe im_X11_safe se_X11_safe ml_L_67 rfl (rmx_roomX hR (by decide) cal_X11_safe.2.2.1) (dk dL_safe 4 rfl) (K.1 _ (by rw [ht]; decide)) (ent_o11 ht) (c_X11_safe K ht hr) (rmx_cap hR (by decide) (by decide)) (Nat.le_of_ble_eq_true rfl) rfl (fun v hv => ?_) (fun j hj H locs ls q ce hP hz hS hl hce hcv hcl => ?_)
  · rcases r with j9 | v9
    · exact nomatch hv
    · obtain rfl := Sum.inr.inj hv
      obtain rfl := Option.some.inj h
      refine e_i2l C (dk dL_safe 5 rfl) ?_
      refine m_last C K ho (dk dL_safe 6 rfl) vin01 ?_
      refine e_goto C 15 (dk dL_safe 7 rfl) (by decide) ?_
      refine e_iconst C 0 (dk dL_safe 11 rfl) (by decide) ?_
      exact e_iretL C B (Nat.le_refl _) (by decide) (by decide) (dk dL_safe 12 rfl)
  · rcases r with j9 | v9
    · obtain rfl := Sum.inl.inj hj
      dsimp only [Sum.elim_inl] at h
      by_cases c1 : j9 = 1
      · subst c1
        rw [if_pos rfl] at h
        obtain rfl := Option.some.inj h
        have ek : EW X g H.size n 4 (ent g Xo kd M) (0 + 1) (0 + 6) 12 [(0, .ref (g_N g + t)), (1, .int p0), (2, .ref (g_N g + o))] [.ref q] := by
          refine e_astore_n C [(3, .ref q), (0, .ref (g_N g + t)), (1, .int p0), (2, .ref (g_N g + o))] (dk dL_safe 8 rfl) rfl (by decide) rfl ?_
          refine e_iconst C 1 (dk dL_safe 9 rfl) (by decide) ?_
          exact e_iretL C B hz (by decide) (by decide) (dk dL_safe 10 rfl)
        exact vx_catch (own := RL) (name := xNSE) (E := xNSE) C.2.2.2.1 [] ⟨0, 9, 12, 18⟩ [] B.2.2.2 (fun z9 hz9 => nomatch hz9) rfl (by decide) (C.2.2.2.2.1 _ cl_L_18) (cast_NSE C) hce hcv hcl (ek H locs ls hP rfl hS hl)
      rw [if_neg c1] at h
      cases h
    · exact nomatch hj
set_option maxRecDepth 20000 in
theorem c_L_toHide {g : WC} {Xo : Nat → va_E} {n : Nat} {kd : Nat → Nat} (K : KD n kd) {t o : Nat} {p0 : Int32} (ht : kd t = 12) (ho : LA kd o 1) {M : Mem} {res : Int32 × Mem} (h : F_L_toHide t o p0 M = some res) : LX g yL_toHide cL_toHide 4 [(0, 9, 12, 18)] 4 1 6 n [.ref (g_N g + t), .int p0, .ref (g_N g + o)] (ent g Xo kd M) (some (.int res.1)) (ent g Xo kd res.2) := by
  refine LX_of pn_L (Nat.le_of_ble_eq_true rfl) (fun X C B => ?_)
  have hR := B.1
  rw [F_L_toHide] at h
  obtain ⟨r, hr, h⟩ := ob h
  refine e_aload_n C 2 (dk dL_toHide 0 rfl) rfl rfl ?_
  refine e_iconst C 0 (dk dL_toHide 1 rfl) (by decide) ?_
  refine e_aload_n C 0 (dk dL_toHide 2 rfl) rfl rfl ?_
  refine e_iload_n C 1 (dk dL_toHide 3 rfl) rfl rfl ?_
  refine e_xcallV (ci := 11) C cal_X11_toHide im_X11_toHide se_X11_toHide ml_L_70 rfl (rmx_roomX hR (by decide) cal_X11_toHide.2.2.1) (dk dL_toHide 4 rfl) (K.1 _ (by rw [ht]; decide)) (ent_o11 ht) (c_X11_toHide K ht hr) (rmx_cap hR (by decide) (by decide)) (Nat.le_of_ble_eq_true rfl) rfl (fun v hv => ?_) (fun j hj H locs ls q ce hP hz hS hl hce hcv hcl => ?_)
  · rcases r with j9 | v9
    · exact nomatch hv
    · obtain rfl := Sum.inr.inj hv
      obtain rfl := Option.some.inj h
      refine e_i2l C (dk dL_toHide 5 rfl) ?_
      refine m_last C K ho (dk dL_toHide 6 rfl) vin01 ?_
      refine e_goto C 15 (dk dL_toHide 7 rfl) (by decide) ?_
      refine e_iconst C 0 (dk dL_toHide 11 rfl) (by decide) ?_
      exact e_iretL C B (Nat.le_refl _) (by decide) (by decide) (dk dL_toHide 12 rfl)
  · rcases r with j9 | v9
    · obtain rfl := Sum.inl.inj hj
      dsimp only [Sum.elim_inl] at h
      by_cases c1 : j9 = 1
      · subst c1
        rw [if_pos rfl] at h
        obtain rfl := Option.some.inj h
        have ek : EW X g H.size n 4 (ent g Xo kd M) (0 + 1) (0 + 6) 12 [(0, .ref (g_N g + t)), (1, .int p0), (2, .ref (g_N g + o))] [.ref q] := by
          refine e_astore_n C [(3, .ref q), (0, .ref (g_N g + t)), (1, .int p0), (2, .ref (g_N g + o))] (dk dL_toHide 8 rfl) rfl (by decide) rfl ?_
          refine e_iconst C 1 (dk dL_toHide 9 rfl) (by decide) ?_
          exact e_iretL C B hz (by decide) (by decide) (dk dL_toHide 10 rfl)
        exact vx_catch (own := RL) (name := xNSE) (E := xNSE) C.2.2.2.1 [] ⟨0, 9, 12, 18⟩ [] B.2.2.2 (fun z9 hz9 => nomatch hz9) rfl (by decide) (C.2.2.2.2.1 _ cl_L_18) (cast_NSE C) hce hcv hcl (ek H locs ls hP rfl hS hl)
      rw [if_neg c1] at h
      cases h
    · exact nomatch hj
set_option maxRecDepth 20000 in
theorem c_L_toWin {g : WC} {Xo : Nat → va_E} {n : Nat} {kd : Nat → Nat} (K : KD n kd) {t o : Nat} {p0 : Int32} {p1 : Int32} (ht : kd t = 12) (ho : LA kd o 1) {M : Mem} {res : Int32 × Mem} (h : F_L_toWin t o p0 p1 M = some res) : LX g yL_toWin cL_toWin 5 [(0, 10, 13, 18)] 6 2 12 n [.ref (g_N g + t), .int p0, .int p1, .ref (g_N g + o)] (ent g Xo kd M) (some (.int res.1)) (ent g Xo kd res.2) := by
  refine LX_of pn_L (Nat.le_of_ble_eq_true rfl) (fun X C B => ?_)
  have hR := B.1
  rw [F_L_toWin] at h
  obtain ⟨r, hr, h⟩ := ob h
  refine e_aload_n C 3 (dk dL_toWin 0 rfl) rfl rfl ?_
  refine e_iconst C 0 (dk dL_toWin 1 rfl) (by decide) ?_
  refine e_aload_n C 0 (dk dL_toWin 2 rfl) rfl rfl ?_
  refine e_iload_n C 1 (dk dL_toWin 3 rfl) rfl rfl ?_
  refine e_iload_n C 2 (dk dL_toWin 4 rfl) rfl rfl ?_
  refine e_xcallV (ci := 11) C cal_X11_toWin im_X11_toWin se_X11_toWin ml_L_73 rfl (rmx_roomX hR (by decide) cal_X11_toWin.2.2.1) (dk dL_toWin 5 rfl) (K.1 _ (by rw [ht]; decide)) (ent_o11 ht) (c_X11_toWin K ht hr) (rmx_cap hR (by decide) (by decide)) (Nat.le_of_ble_eq_true rfl) rfl (fun v hv => ?_) (fun j hj H locs ls q ce hP hz hS hl hce hcv hcl => ?_)
  · rcases r with j9 | v9
    · exact nomatch hv
    · obtain rfl := Sum.inr.inj hv
      obtain rfl := Option.some.inj h
      refine e_i2l C (dk dL_toWin 6 rfl) ?_
      refine m_last C K ho (dk dL_toWin 7 rfl) vin01 ?_
      refine e_goto C 17 (dk dL_toWin 8 rfl) (by decide) ?_
      refine e_iconst C 0 (dk dL_toWin 12 rfl) (by decide) ?_
      exact e_iretL C B (Nat.le_refl _) (by decide) (by decide) (dk dL_toWin 13 rfl)
  · rcases r with j9 | v9
    · obtain rfl := Sum.inl.inj hj
      dsimp only [Sum.elim_inl] at h
      by_cases c1 : j9 = 1
      · subst c1
        rw [if_pos rfl] at h
        obtain rfl := Option.some.inj h
        have ek : EW X g H.size n 5 (ent g Xo kd M) (0 + 2) (0 + 12) 13 [(0, .ref (g_N g + t)), (1, .int p0), (2, .int p1), (3, .ref (g_N g + o))] [.ref q] := by
          refine e_astore C [(4, .ref q), (0, .ref (g_N g + t)), (1, .int p0), (2, .int p1), (3, .ref (g_N g + o))] (dk dL_toWin 9 rfl) (by decide) rfl ?_
          refine e_iconst C 1 (dk dL_toWin 10 rfl) (by decide) ?_
          exact e_iretL C B hz (by decide) (by decide) (dk dL_toWin 11 rfl)
        exact vx_catch (own := RL) (name := xNSE) (E := xNSE) C.2.2.2.1 [] ⟨0, 10, 13, 18⟩ [] B.2.2.2 (fun z9 hz9 => nomatch hz9) rfl (by decide) (C.2.2.2.2.1 _ cl_L_18) (cast_NSE C) hce hcv hcl (ek H locs ls hP rfl hS hl)
      rw [if_neg c1] at h
      cases h
    · exact nomatch hj
set_option maxRecDepth 20000 in
theorem c_L_given {g : WC} {Xo : Nat → va_E} {n : Nat} {kd : Nat → Nat} (K : KD n kd) {t o : Nat} {p0 : Int32} (ht : kd t = 12) (ho : LA kd o 1) {M : Mem} {res : Int32 × Mem} (h : F_L_given t o p0 M = some res) : LX g yL_given cL_given 4 [(0, 9, 12, 18)] 5 1 6 n [.ref (g_N g + t), .int p0, .ref (g_N g + o)] (ent g Xo kd M) (some (.int res.1)) (ent g Xo kd res.2) := by
  refine LX_of pn_L (Nat.le_of_ble_eq_true rfl) (fun X C B => ?_)
  have hR := B.1
  rw [F_L_given] at h
  obtain ⟨r, hr, h⟩ := ob h
  refine e_aload_n C 2 (dk dL_given 0 rfl) rfl rfl ?_
  refine e_iconst C 0 (dk dL_given 1 rfl) (by decide) ?_
  refine e_aload_n C 0 (dk dL_given 2 rfl) rfl rfl ?_
  refine e_iload_n C 1 (dk dL_given 3 rfl) rfl rfl ?_
  refine e_xcallV (ci := 11) C cal_X11_given im_X11_given se_X11_given ml_L_76 rfl (rmx_roomX hR (by decide) cal_X11_given.2.2.1) (dk dL_given 4 rfl) (K.1 _ (by rw [ht]; decide)) (ent_o11 ht) (c_X11_given K ht hr) (rmx_cap hR (by decide) (by decide)) (Nat.le_of_ble_eq_true rfl) rfl (fun v hv => ?_) (fun j hj H locs ls q ce hP hz hS hl hce hcv hcl => ?_)
  · rcases r with j9 | v9
    · exact nomatch hv
    · obtain rfl := Sum.inr.inj hv
      obtain rfl := Option.some.inj h
      refine e_i2l C (dk dL_given 5 rfl) ?_
      refine m_last C K ho (dk dL_given 6 rfl) vin01 ?_
      refine e_goto C 15 (dk dL_given 7 rfl) (by decide) ?_
      refine e_iconst C 0 (dk dL_given 11 rfl) (by decide) ?_
      exact e_iretL C B (Nat.le_refl _) (by decide) (by decide) (dk dL_given 12 rfl)
  · rcases r with j9 | v9
    · obtain rfl := Sum.inl.inj hj
      dsimp only [Sum.elim_inl] at h
      by_cases c1 : j9 = 1
      · subst c1
        rw [if_pos rfl] at h
        obtain rfl := Option.some.inj h
        have ek : EW X g H.size n 4 (ent g Xo kd M) (0 + 1) (0 + 6) 12 [(0, .ref (g_N g + t)), (1, .int p0), (2, .ref (g_N g + o))] [.ref q] := by
          refine e_astore_n C [(3, .ref q), (0, .ref (g_N g + t)), (1, .int p0), (2, .ref (g_N g + o))] (dk dL_given 8 rfl) rfl (by decide) rfl ?_
          refine e_iconst C 1 (dk dL_given 9 rfl) (by decide) ?_
          exact e_iretL C B hz (by decide) (by decide) (dk dL_given 10 rfl)
        exact vx_catch (own := RL) (name := xNSE) (E := xNSE) C.2.2.2.1 [] ⟨0, 9, 12, 18⟩ [] B.2.2.2 (fun z9 hz9 => nomatch hz9) rfl (by decide) (C.2.2.2.2.1 _ cl_L_18) (cast_NSE C) hce hcv hcl (ek H locs ls hP rfl hS hl)
      rw [if_neg c1] at h
      cases h
    · exact nomatch hj
set_option maxRecDepth 20000 in
theorem c_L_gossip {g : WC} {Xo : Nat → va_E} {n : Nat} {kd : Nat → Nat} (K : KD n kd) {t o : Nat} {p0 : Int32} (ht : kd t = 12) (ho : LA kd o 1) {M : Mem} {res : Int32 × Mem} (h : F_L_gossip t o p0 M = some res) : LX g yL_gossip cL_gossip 4 [(0, 9, 12, 18)] 2 1 6 n [.ref (g_N g + t), .int p0, .ref (g_N g + o)] (ent g Xo kd M) (some (.int res.1)) (ent g Xo kd res.2) := by
  refine LX_of pn_L (Nat.le_of_ble_eq_true rfl) (fun X C B => ?_)
  have hR := B.1
  rw [F_L_gossip] at h
  obtain ⟨r, hr, h⟩ := ob h
  refine e_aload_n C 2 (dk dL_gossip 0 rfl) rfl rfl ?_
  refine e_iconst C 0 (dk dL_gossip 1 rfl) (by decide) ?_
  refine e_aload_n C 0 (dk dL_gossip 2 rfl) rfl rfl ?_
  refine e_iload_n C 1 (dk dL_gossip 3 rfl) rfl rfl ?_
  refine e_xcallV (ci := 11) C cal_X11_gossip im_X11_gossip se_X11_gossip ml_L_79 rfl (rmx_roomX hR (by decide) cal_X11_gossip.2.2.1) (dk dL_gossip 4 rfl) (K.1 _ (by rw [ht]; decide)) (ent_o11 ht) (c_X11_gossip K ht hr) (rmx_cap hR (by decide) (by decide)) (Nat.le_of_ble_eq_true rfl) rfl (fun v hv => ?_) (fun j hj H locs ls q ce hP hz hS hl hce hcv hcl => ?_)
  · rcases r with j9 | v9
    · exact nomatch hv
    · obtain rfl := Sum.inr.inj hv
      obtain rfl := Option.some.inj h
      refine e_i2l C (dk dL_gossip 5 rfl) ?_
      refine m_last C K ho (dk dL_gossip 6 rfl) vin01 ?_
      refine e_goto C 15 (dk dL_gossip 7 rfl) (by decide) ?_
      refine e_iconst C 0 (dk dL_gossip 11 rfl) (by decide) ?_
      exact e_iretL C B (Nat.le_refl _) (by decide) (by decide) (dk dL_gossip 12 rfl)
  · rcases r with j9 | v9
    · obtain rfl := Sum.inl.inj hj
      dsimp only [Sum.elim_inl] at h
      by_cases c1 : j9 = 1
      · subst c1
        rw [if_pos rfl] at h
        obtain rfl := Option.some.inj h
        have ek : EW X g H.size n 4 (ent g Xo kd M) (0 + 1) (0 + 6) 12 [(0, .ref (g_N g + t)), (1, .int p0), (2, .ref (g_N g + o))] [.ref q] := by
          refine e_astore_n C [(3, .ref q), (0, .ref (g_N g + t)), (1, .int p0), (2, .ref (g_N g + o))] (dk dL_gossip 8 rfl) rfl (by decide) rfl ?_
          refine e_iconst C 1 (dk dL_gossip 9 rfl) (by decide) ?_
          exact e_iretL C B hz (by decide) (by decide) (dk dL_gossip 10 rfl)
        exact vx_catch (own := RL) (name := xNSE) (E := xNSE) C.2.2.2.1 [] ⟨0, 9, 12, 18⟩ [] B.2.2.2 (fun z9 hz9 => nomatch hz9) rfl (by decide) (C.2.2.2.2.1 _ cl_L_18) (cast_NSE C) hce hcv hcl (ek H locs ls hP rfl hS hl)
      rw [if_neg c1] at h
      cases h
    · exact nomatch hj
set_option maxRecDepth 20000 in
theorem c_L_most {g : WC} {Xo : Nat → va_E} {n : Nat} {kd : Nat → Nat} (K : KD n kd) {t o : Nat} {p0 : Int32} (ht : kd t = 12) (ho : LA kd o 1) {M : Mem} {res : Int32 × Mem} (h : F_L_most t o p0 M = some res) : LX g yL_most cL_most 4 [(0, 9, 12, 18)] 2 1 6 n [.ref (g_N g + t), .int p0, .ref (g_N g + o)] (ent g Xo kd M) (some (.int res.1)) (ent g Xo kd res.2) := by
  refine LX_of pn_L (Nat.le_of_ble_eq_true rfl) (fun X C B => ?_)
  have hR := B.1
  rw [F_L_most] at h
  obtain ⟨r, hr, h⟩ := ob h
  refine e_aload_n C 2 (dk dL_most 0 rfl) rfl rfl ?_
  refine e_iconst C 0 (dk dL_most 1 rfl) (by decide) ?_
  refine e_aload_n C 0 (dk dL_most 2 rfl) rfl rfl ?_
  refine e_iload_n C 1 (dk dL_most 3 rfl) rfl rfl ?_
  refine e_xcallV (ci := 11) C cal_X11_most im_X11_most se_X11_most ml_L_82 rfl (rmx_roomX hR (by decide) cal_X11_most.2.2.1) (dk dL_most 4 rfl) (K.1 _ (by rw [ht]; decide)) (ent_o11 ht) (c_X11_most K ht hr) (rmx_cap hR (by decide) (by decide)) (Nat.le_of_ble_eq_true rfl) rfl (fun v hv => ?_) (fun j hj H locs ls q ce hP hz hS hl hce hcv hcl => ?_)
  · rcases r with j9 | v9
    · exact nomatch hv
    · obtain rfl := Sum.inr.inj hv
      obtain rfl := Option.some.inj h
      refine e_i2l C (dk dL_most 5 rfl) ?_
      refine m_last C K ho (dk dL_most 6 rfl) vin01 ?_
      refine e_goto C 15 (dk dL_most 7 rfl) (by decide) ?_
      refine e_iconst C 0 (dk dL_most 11 rfl) (by decide) ?_
      exact e_iretL C B (Nat.le_refl _) (by decide) (by decide) (dk dL_most 12 rfl)
  · rcases r with j9 | v9
    · obtain rfl := Sum.inl.inj hj
      dsimp only [Sum.elim_inl] at h
      by_cases c1 : j9 = 1
      · subst c1
        rw [if_pos rfl] at h
        obtain rfl := Option.some.inj h
        have ek : EW X g H.size n 4 (ent g Xo kd M) (0 + 1) (0 + 6) 12 [(0, .ref (g_N g + t)), (1, .int p0), (2, .ref (g_N g + o))] [.ref q] := by
          refine e_astore_n C [(3, .ref q), (0, .ref (g_N g + t)), (1, .int p0), (2, .ref (g_N g + o))] (dk dL_most 8 rfl) rfl (by decide) rfl ?_
          refine e_iconst C 1 (dk dL_most 9 rfl) (by decide) ?_
          exact e_iretL C B hz (by decide) (by decide) (dk dL_most 10 rfl)
        exact vx_catch (own := RL) (name := xNSE) (E := xNSE) C.2.2.2.1 [] ⟨0, 9, 12, 18⟩ [] B.2.2.2 (fun z9 hz9 => nomatch hz9) rfl (by decide) (C.2.2.2.2.1 _ cl_L_18) (cast_NSE C) hce hcv hcl (ek H locs ls hP rfl hS hl)
      rw [if_neg c1] at h
      cases h
    · exact nomatch hj
set_option maxRecDepth 20000 in
theorem c_L_lantern {g : WC} {Xo : Nat → va_E} {n : Nat} {kd : Nat → Nat} (K : KD n kd) {t o : Nat} {p0 : Int32} (ht : kd t = 12) (ho : LA kd o 1) {M : Mem} {res : Int32 × Mem} (h : F_L_lantern t o p0 M = some res) : LX g yL_lantern cL_lantern 4 [(0, 9, 12, 18)] 2 1 6 n [.ref (g_N g + t), .int p0, .ref (g_N g + o)] (ent g Xo kd M) (some (.int res.1)) (ent g Xo kd res.2) := by
  refine LX_of pn_L (Nat.le_of_ble_eq_true rfl) (fun X C B => ?_)
  have hR := B.1
  rw [F_L_lantern] at h
  obtain ⟨r, hr, h⟩ := ob h
  refine e_aload_n C 2 (dk dL_lantern 0 rfl) rfl rfl ?_
  refine e_iconst C 0 (dk dL_lantern 1 rfl) (by decide) ?_
  refine e_aload_n C 0 (dk dL_lantern 2 rfl) rfl rfl ?_
  refine e_iload_n C 1 (dk dL_lantern 3 rfl) rfl rfl ?_
  refine e_xcallV (ci := 11) C cal_X11_lantern im_X11_lantern se_X11_lantern ml_L_85 rfl (rmx_roomX hR (by decide) cal_X11_lantern.2.2.1) (dk dL_lantern 4 rfl) (K.1 _ (by rw [ht]; decide)) (ent_o11 ht) (c_X11_lantern K ht hr) (rmx_cap hR (by decide) (by decide)) (Nat.le_of_ble_eq_true rfl) rfl (fun v hv => ?_) (fun j hj H locs ls q ce hP hz hS hl hce hcv hcl => ?_)
  · rcases r with j9 | v9
    · exact nomatch hv
    · obtain rfl := Sum.inr.inj hv
      obtain rfl := Option.some.inj h
      refine e_i2l C (dk dL_lantern 5 rfl) ?_
      refine m_last C K ho (dk dL_lantern 6 rfl) vin01 ?_
      refine e_goto C 15 (dk dL_lantern 7 rfl) (by decide) ?_
      refine e_iconst C 0 (dk dL_lantern 11 rfl) (by decide) ?_
      exact e_iretL C B (Nat.le_refl _) (by decide) (by decide) (dk dL_lantern 12 rfl)
  · rcases r with j9 | v9
    · obtain rfl := Sum.inl.inj hj
      dsimp only [Sum.elim_inl] at h
      by_cases c1 : j9 = 1
      · subst c1
        rw [if_pos rfl] at h
        obtain rfl := Option.some.inj h
        have ek : EW X g H.size n 4 (ent g Xo kd M) (0 + 1) (0 + 6) 12 [(0, .ref (g_N g + t)), (1, .int p0), (2, .ref (g_N g + o))] [.ref q] := by
          refine e_astore_n C [(3, .ref q), (0, .ref (g_N g + t)), (1, .int p0), (2, .ref (g_N g + o))] (dk dL_lantern 8 rfl) rfl (by decide) rfl ?_
          refine e_iconst C 1 (dk dL_lantern 9 rfl) (by decide) ?_
          exact e_iretL C B hz (by decide) (by decide) (dk dL_lantern 10 rfl)
        exact vx_catch (own := RL) (name := xNSE) (E := xNSE) C.2.2.2.1 [] ⟨0, 9, 12, 18⟩ [] B.2.2.2 (fun z9 hz9 => nomatch hz9) rfl (by decide) (C.2.2.2.2.1 _ cl_L_18) (cast_NSE C) hce hcv hcl (ek H locs ls hP rfl hS hl)
      rw [if_neg c1] at h
      cases h
    · exact nomatch hj
set_option maxRecDepth 20000 in
theorem c_L_meet {g : WC} {Xo : Nat → va_E} {n : Nat} {kd : Nat → Nat} (K : KD n kd) {t o : Nat} {p0 : Int32} {p1 : Int32} (ht : kd t = 12) (ho : LA kd o 1) {M : Mem} {res : Int32 × Mem} (h : F_L_meet t o p0 p1 M = some res) : LX g yL_meet cL_meet 5 [(0, 10, 13, 18)] 3 2 12 n [.ref (g_N g + t), .int p0, .int p1, .ref (g_N g + o)] (ent g Xo kd M) (some (.int res.1)) (ent g Xo kd res.2) := by
  refine LX_of pn_L (Nat.le_of_ble_eq_true rfl) (fun X C B => ?_)
  have hR := B.1
  rw [F_L_meet] at h
  obtain ⟨r, hr, h⟩ := ob h
  refine e_aload_n C 3 (dk dL_meet 0 rfl) rfl rfl ?_
  refine e_iconst C 0 (dk dL_meet 1 rfl) (by decide) ?_
  refine e_aload_n C 0 (dk dL_meet 2 rfl) rfl rfl ?_
  refine e_iload_n C 1 (dk dL_meet 3 rfl) rfl rfl ?_
  refine e_iload_n C 2 (dk dL_meet 4 rfl) rfl rfl ?_
  refine e_xcallV (ci := 11) C cal_X11_meet im_X11_meet se_X11_meet ml_L_88 rfl (rmx_roomX hR (by decide) cal_X11_meet.2.2.1) (dk dL_meet 5 rfl) (K.1 _ (by rw [ht]; decide)) (ent_o11 ht) (c_X11_meet K ht hr) (rmx_cap hR (by decide) (by decide)) (Nat.le_of_ble_eq_true rfl) rfl (fun v hv => ?_) (fun j hj H locs ls q ce hP hz hS hl hce hcv hcl => ?_)
  · rcases r with j9 | v9
    · exact nomatch hv
    · obtain rfl := Sum.inr.inj hv
      obtain rfl := Option.some.inj h
      refine e_i2l C (dk dL_meet 6 rfl) ?_
      refine m_last C K ho (dk dL_meet 7 rfl) vin01 ?_
      refine e_goto C 17 (dk dL_meet 8 rfl) (by decide) ?_
      refine e_iconst C 0 (dk dL_meet 12 rfl) (by decide) ?_
      exact e_iretL C B (Nat.le_refl _) (by decide) (by decide) (dk dL_meet 13 rfl)
  · rcases r with j9 | v9
    · obtain rfl := Sum.inl.inj hj
      dsimp only [Sum.elim_inl] at h
      by_cases c1 : j9 = 1
      · subst c1
        rw [if_pos rfl] at h
        obtain rfl := Option.some.inj h
        have ek : EW X g H.size n 5 (ent g Xo kd M) (0 + 2) (0 + 12) 13 [(0, .ref (g_N g + t)), (1, .int p0), (2, .int p1), (3, .ref (g_N g + o))] [.ref q] := by
          refine e_astore C [(4, .ref q), (0, .ref (g_N g + t)), (1, .int p0), (2, .int p1), (3, .ref (g_N g + o))] (dk dL_meet 9 rfl) (by decide) rfl ?_
          refine e_iconst C 1 (dk dL_meet 10 rfl) (by decide) ?_
          exact e_iretL C B hz (by decide) (by decide) (dk dL_meet 11 rfl)
        exact vx_catch (own := RL) (name := xNSE) (E := xNSE) C.2.2.2.1 [] ⟨0, 10, 13, 18⟩ [] B.2.2.2 (fun z9 hz9 => nomatch hz9) rfl (by decide) (C.2.2.2.2.1 _ cl_L_18) (cast_NSE C) hce hcv hcl (ek H locs ls hP rfl hS hl)
      rw [if_neg c1] at h
      cases h
    · exact nomatch hj
set_option maxRecDepth 20000 in
theorem c_L_spends {g : WC} {Xo : Nat → va_E} {n : Nat} {kd : Nat → Nat} (K : KD n kd) {t o : Nat} {p0 : Int32} {p1 : Int32} (ht : kd t = 12) (ho : LA kd o 1) {M : Mem} {res : Int32 × Mem} (h : F_L_spends t o p0 p1 M = some res) : LX g yL_spends cL_spends 5 [(0, 10, 13, 18), (0, 10, 17, 13)] 6 2 12 n [.ref (g_N g + t), .int p0, .int p1, .ref (g_N g + o)] (ent g Xo kd M) (some (.int res.1)) (ent g Xo kd res.2) := by
  refine LX_of pn_L (Nat.le_of_ble_eq_true rfl) (fun X C B => ?_)
  have hR := B.1
  rw [F_L_spends] at h
  obtain ⟨r, hr, h⟩ := ob h
  refine e_aload_n C 3 (dk dL_spends 0 rfl) rfl rfl ?_
  refine e_iconst C 0 (dk dL_spends 1 rfl) (by decide) ?_
  refine e_aload_n C 0 (dk dL_spends 2 rfl) rfl rfl ?_
  refine e_iload_n C 1 (dk dL_spends 3 rfl) rfl rfl ?_
  refine e_iload_n C 2 (dk dL_spends 4 rfl) rfl rfl ?_
  refine e_xcallV (ci := 11) C cal_X11_spends im_X11_spends se_X11_spends ml_L_91 rfl (rmx_roomX hR (by decide) cal_X11_spends.2.2.1) (dk dL_spends 5 rfl) (K.1 _ (by rw [ht]; decide)) (ent_o11 ht) (c_X11_spends K ht hr) (rmx_cap hR (by decide) (by decide)) (Nat.le_of_ble_eq_true rfl) rfl (fun v hv => ?_) (fun j hj H locs ls q ce hP hz hS hl hce hcv hcl => ?_)
  · rcases r with j9 | v9
    · exact nomatch hv
    · obtain rfl := Sum.inr.inj hv
      obtain rfl := Option.some.inj h
      refine e_i2l C (dk dL_spends 6 rfl) ?_
      refine m_last C K ho (dk dL_spends 7 rfl) vin01 ?_
      refine e_goto C 21 (dk dL_spends 8 rfl) (by decide) ?_
      refine e_iconst C 0 (dk dL_spends 15 rfl) (by decide) ?_
      exact e_iretL C B (Nat.le_refl _) (by decide) (by decide) (dk dL_spends 16 rfl)
  · rcases r with j9 | v9
    · obtain rfl := Sum.inl.inj hj
      dsimp only [Sum.elim_inl] at h
      by_cases c1 : j9 = 1
      · subst c1
        rw [if_pos rfl] at h
        obtain rfl := Option.some.inj h
        have ek : EW X g H.size n 5 (ent g Xo kd M) (0 + 2) (0 + 12) 13 [(0, .ref (g_N g + t)), (1, .int p0), (2, .int p1), (3, .ref (g_N g + o))] [.ref q] := by
          refine e_astore C [(4, .ref q), (0, .ref (g_N g + t)), (1, .int p0), (2, .int p1), (3, .ref (g_N g + o))] (dk dL_spends 9 rfl) (by decide) rfl ?_
          refine e_iconst C 1 (dk dL_spends 10 rfl) (by decide) ?_
          exact e_iretL C B hz (by decide) (by decide) (dk dL_spends 11 rfl)
        exact vx_catch (own := RL) (name := xNSE) (E := xNSE) C.2.2.2.1 [] ⟨0, 10, 13, 18⟩ [⟨0, 10, 17, 13⟩] B.2.2.2 (fun z9 hz9 => nomatch hz9) rfl (by decide) (C.2.2.2.2.1 _ cl_L_18) (cast_NSE C) hce hcv hcl (ek H locs ls hP rfl hS hl)
      rw [if_neg c1] at h
      by_cases c2 : j9 = 2
      · subst c2
        rw [if_pos rfl] at h
        obtain rfl := Option.some.inj h
        have ek : EW X g H.size n 5 (ent g Xo kd M) (0 + 2) (0 + 12) 17 [(0, .ref (g_N g + t)), (1, .int p0), (2, .int p1), (3, .ref (g_N g + o))] [.ref q] := by
          refine e_astore C [(4, .ref q), (0, .ref (g_N g + t)), (1, .int p0), (2, .int p1), (3, .ref (g_N g + o))] (dk dL_spends 12 rfl) (by decide) rfl ?_
          refine e_iconst C 2 (dk dL_spends 13 rfl) (by decide) ?_
          exact e_iretL C B hz (by decide) (by decide) (dk dL_spends 14 rfl)
        exact vx_catch (own := RL) (name := xIAE) (E := xIAE) C.2.2.2.1 [⟨0, 10, 13, 18⟩] ⟨0, 10, 17, 13⟩ [] B.2.2.2 (fun z9 hz9 => by cases List.mem_singleton.mp hz9; exact Or.inr ⟨by decide, xNSE, C.2.2.2.2.1 _ cl_L_18, nc_IN C⟩) rfl (by decide) (C.2.2.2.2.1 _ cl_L_13) (cast_IAE C) hce hcv hcl (ek H locs ls hP rfl hS hl)
      rw [if_neg c2] at h
      cases h
    · exact nomatch hj
set_option maxRecDepth 20000 in
theorem c_L_unknown {g : WC} {Xo : Nat → va_E} {n : Nat} {kd : Nat → Nat} (K : KD n kd) {t o : Nat} {p0 : Int32} (ht : kd t = 12) (ho : LA kd o 1) {M : Mem} {res : Int32 × Mem} (h : F_L_unknown t o p0 M = some res) : LX g yL_unknown cL_unknown 4 [(0, 9, 12, 18)] 2 1 6 n [.ref (g_N g + t), .int p0, .ref (g_N g + o)] (ent g Xo kd M) (some (.int res.1)) (ent g Xo kd res.2) := by
  refine LX_of pn_L (Nat.le_of_ble_eq_true rfl) (fun X C B => ?_)
  have hR := B.1
  rw [F_L_unknown] at h
  obtain ⟨r, hr, h⟩ := ob h
  refine e_aload_n C 2 (dk dL_unknown 0 rfl) rfl rfl ?_
  refine e_iconst C 0 (dk dL_unknown 1 rfl) (by decide) ?_
  refine e_aload_n C 0 (dk dL_unknown 2 rfl) rfl rfl ?_
  refine e_iload_n C 1 (dk dL_unknown 3 rfl) rfl rfl ?_
  refine e_xcallV (ci := 11) C cal_X11_unknown im_X11_unknown se_X11_unknown ml_L_94 rfl (rmx_roomX hR (by decide) cal_X11_unknown.2.2.1) (dk dL_unknown 4 rfl) (K.1 _ (by rw [ht]; decide)) (ent_o11 ht) (c_X11_unknown K ht hr) (rmx_cap hR (by decide) (by decide)) (Nat.le_of_ble_eq_true rfl) rfl (fun v hv => ?_) (fun j hj H locs ls q ce hP hz hS hl hce hcv hcl => ?_)
  · rcases r with j9 | v9
    · exact nomatch hv
    · obtain rfl := Sum.inr.inj hv
      obtain rfl := Option.some.inj h
      refine e_i2l C (dk dL_unknown 5 rfl) ?_
      refine m_last C K ho (dk dL_unknown 6 rfl) vin01 ?_
      refine e_goto C 15 (dk dL_unknown 7 rfl) (by decide) ?_
      refine e_iconst C 0 (dk dL_unknown 11 rfl) (by decide) ?_
      exact e_iretL C B (Nat.le_refl _) (by decide) (by decide) (dk dL_unknown 12 rfl)
  · rcases r with j9 | v9
    · obtain rfl := Sum.inl.inj hj
      dsimp only [Sum.elim_inl] at h
      by_cases c1 : j9 = 1
      · subst c1
        rw [if_pos rfl] at h
        obtain rfl := Option.some.inj h
        have ek : EW X g H.size n 4 (ent g Xo kd M) (0 + 1) (0 + 6) 12 [(0, .ref (g_N g + t)), (1, .int p0), (2, .ref (g_N g + o))] [.ref q] := by
          refine e_astore_n C [(3, .ref q), (0, .ref (g_N g + t)), (1, .int p0), (2, .ref (g_N g + o))] (dk dL_unknown 8 rfl) rfl (by decide) rfl ?_
          refine e_iconst C 1 (dk dL_unknown 9 rfl) (by decide) ?_
          exact e_iretL C B hz (by decide) (by decide) (dk dL_unknown 10 rfl)
        exact vx_catch (own := RL) (name := xNSE) (E := xNSE) C.2.2.2.1 [] ⟨0, 9, 12, 18⟩ [] B.2.2.2 (fun z9 hz9 => nomatch hz9) rfl (by decide) (C.2.2.2.2.1 _ cl_L_18) (cast_NSE C) hce hcv hcl (ek H locs ls hP rfl hS hl)
      rw [if_neg c1] at h
      cases h
    · exact nomatch hj
set_option maxRecDepth 20000 in
theorem c_L_tell {g : WC} {Xo : Nat → va_E} {n : Nat} {kd : Nat → Nat} (K : KD n kd) {t o : Nat} {p0 : Int32} {p1 : Int32} {p2 : Int32} (ht : kd t = 12) (ho : LA kd o 1) {M : Mem} {res : Int32 × Mem} (h : F_L_tell t o p0 p1 p2 M = some res) : LX g yL_tell cL_tell 6 [(0, 12, 15, 18)] 2 1 6 n [.ref (g_N g + t), .int p0, .int p1, .int p2, .ref (g_N g + o)] (ent g Xo kd M) (some (.int res.1)) (ent g Xo kd res.2) := by
  refine LX_of pn_L (Nat.le_of_ble_eq_true rfl) (fun X C B => ?_)
  have hR := B.1
  rw [F_L_tell] at h
  obtain ⟨r, hr, h⟩ := ob h
  refine e_aload C 4 (dk dL_tell 0 rfl) rfl ?_
  refine e_iconst C 0 (dk dL_tell 1 rfl) (by decide) ?_
  refine e_aload_n C 0 (dk dL_tell 2 rfl) rfl rfl ?_
  refine e_iload_n C 1 (dk dL_tell 3 rfl) rfl rfl ?_
  refine e_iload_n C 2 (dk dL_tell 4 rfl) rfl rfl ?_
  refine e_iload_n C 3 (dk dL_tell 5 rfl) rfl rfl ?_
  refine e_xcallV (ci := 11) C cal_X11_tell im_X11_tell se_X11_tell ml_L_97 rfl (rmx_roomX hR (by decide) cal_X11_tell.2.2.1) (dk dL_tell 6 rfl) (K.1 _ (by rw [ht]; decide)) (ent_o11 ht) (c_X11_tell K ht hr) (rmx_cap hR (by decide) (by decide)) (Nat.le_of_ble_eq_true rfl) rfl (fun v hv => ?_) (fun j hj H locs ls q ce hP hz hS hl hce hcv hcl => ?_)
  · rcases r with j9 | v9
    · exact nomatch hv
    · obtain rfl := Sum.inr.inj hv
      obtain rfl := Option.some.inj h
      refine e_i2l C (dk dL_tell 7 rfl) ?_
      refine m_last C K ho (dk dL_tell 8 rfl) vin01 ?_
      refine e_goto C 19 (dk dL_tell 9 rfl) (by decide) ?_
      refine e_iconst C 0 (dk dL_tell 13 rfl) (by decide) ?_
      exact e_iretL C B (Nat.le_refl _) (by decide) (by decide) (dk dL_tell 14 rfl)
  · rcases r with j9 | v9
    · obtain rfl := Sum.inl.inj hj
      dsimp only [Sum.elim_inl] at h
      by_cases c1 : j9 = 1
      · subst c1
        rw [if_pos rfl] at h
        obtain rfl := Option.some.inj h
        have ek : EW X g H.size n 6 (ent g Xo kd M) (0 + 1) (0 + 6) 15 [(0, .ref (g_N g + t)), (1, .int p0), (2, .int p1), (3, .int p2), (4, .ref (g_N g + o))] [.ref q] := by
          refine e_astore C [(5, .ref q), (0, .ref (g_N g + t)), (1, .int p0), (2, .int p1), (3, .int p2), (4, .ref (g_N g + o))] (dk dL_tell 10 rfl) (by decide) rfl ?_
          refine e_iconst C 1 (dk dL_tell 11 rfl) (by decide) ?_
          exact e_iretL C B hz (by decide) (by decide) (dk dL_tell 12 rfl)
        exact vx_catch (own := RL) (name := xNSE) (E := xNSE) C.2.2.2.1 [] ⟨0, 12, 15, 18⟩ [] B.2.2.2 (fun z9 hz9 => nomatch hz9) rfl (by decide) (C.2.2.2.2.1 _ cl_L_18) (cast_NSE C) hce hcv hcl (ek H locs ls hP rfl hS hl)
      rw [if_neg c1] at h
      cases h
    · exact nomatch hj
set_option maxRecDepth 20000 in
theorem c_L_otherwise {g : WC} {Xo : Nat → va_E} {n : Nat} {kd : Nat → Nat} (K : KD n kd) {t o : Nat} {p0 : Int32} (ht : kd t = 12) (ho : LA kd o 1) {M : Mem} {res : Int32 × Mem} (h : F_L_otherwise t o p0 M = some res) : LX g yL_otherwise cL_otherwise 4 [(0, 9, 12, 18)] 7 1 6 n [.ref (g_N g + t), .int p0, .ref (g_N g + o)] (ent g Xo kd M) (some (.int res.1)) (ent g Xo kd res.2) := by
  refine LX_of pn_L (Nat.le_of_ble_eq_true rfl) (fun X C B => ?_)
  have hR := B.1
  rw [F_L_otherwise] at h
  obtain ⟨r, hr, h⟩ := ob h
  refine e_aload_n C 2 (dk dL_otherwise 0 rfl) rfl rfl ?_
  refine e_iconst C 0 (dk dL_otherwise 1 rfl) (by decide) ?_
  refine e_aload_n C 0 (dk dL_otherwise 2 rfl) rfl rfl ?_
  refine e_iload_n C 1 (dk dL_otherwise 3 rfl) rfl rfl ?_
  refine e_xcallV (ci := 11) C cal_X11_otherwise im_X11_otherwise se_X11_otherwise ml_L_101 rfl (rmx_roomX hR (by decide) cal_X11_otherwise.2.2.1) (dk dL_otherwise 4 rfl) (K.1 _ (by rw [ht]; decide)) (ent_o11 ht) (c_X11_otherwise K ht hr) (rmx_cap hR (by decide) (by decide)) (Nat.le_of_ble_eq_true rfl) rfl (fun v hv => ?_) (fun j hj H locs ls q ce hP hz hS hl hce hcv hcl => ?_)
  · rcases r with j9 | v9
    · exact nomatch hv
    · obtain rfl := Sum.inr.inj hv
      obtain rfl := Option.some.inj h
      refine e_i2l C (dk dL_otherwise 5 rfl) ?_
      refine m_last C K ho (dk dL_otherwise 6 rfl) vin01 ?_
      refine e_goto C 15 (dk dL_otherwise 7 rfl) (by decide) ?_
      refine e_iconst C 0 (dk dL_otherwise 11 rfl) (by decide) ?_
      exact e_iretL C B (Nat.le_refl _) (by decide) (by decide) (dk dL_otherwise 12 rfl)
  · rcases r with j9 | v9
    · obtain rfl := Sum.inl.inj hj
      dsimp only [Sum.elim_inl] at h
      by_cases c1 : j9 = 1
      · subst c1
        rw [if_pos rfl] at h
        obtain rfl := Option.some.inj h
        have ek : EW X g H.size n 4 (ent g Xo kd M) (0 + 1) (0 + 6) 12 [(0, .ref (g_N g + t)), (1, .int p0), (2, .ref (g_N g + o))] [.ref q] := by
          refine e_astore_n C [(3, .ref q), (0, .ref (g_N g + t)), (1, .int p0), (2, .ref (g_N g + o))] (dk dL_otherwise 8 rfl) rfl (by decide) rfl ?_
          refine e_iconst C 1 (dk dL_otherwise 9 rfl) (by decide) ?_
          exact e_iretL C B hz (by decide) (by decide) (dk dL_otherwise 10 rfl)
        exact vx_catch (own := RL) (name := xNSE) (E := xNSE) C.2.2.2.1 [] ⟨0, 9, 12, 18⟩ [] B.2.2.2 (fun z9 hz9 => nomatch hz9) rfl (by decide) (C.2.2.2.2.1 _ cl_L_18) (cast_NSE C) hce hcv hcl (ek H locs ls hP rfl hS hl)
      rw [if_neg c1] at h
      cases h
    · exact nomatch hj
set_option maxRecDepth 20000 in
theorem c_L_look {g : WC} {Xo : Nat → va_E} {n : Nat} {kd : Nat → Nat} (K : KD n kd) {t o : Nat} {p0 : Int32} (ht : kd t = 12) (ho : LA kd o 1) {M : Mem} {res : Int32 × Mem} (h : F_L_look t o p0 M = some res) : LX g yL_look cL_look 4 [(0, 9, 12, 18)] 7 1 6 n [.ref (g_N g + t), .int p0, .ref (g_N g + o)] (ent g Xo kd M) (some (.int res.1)) (ent g Xo kd res.2) := by
  refine LX_of pn_L (Nat.le_of_ble_eq_true rfl) (fun X C B => ?_)
  have hR := B.1
  rw [F_L_look] at h
  obtain ⟨r, hr, h⟩ := ob h
  refine e_aload_n C 2 (dk dL_look 0 rfl) rfl rfl ?_
  refine e_iconst C 0 (dk dL_look 1 rfl) (by decide) ?_
  refine e_aload_n C 0 (dk dL_look 2 rfl) rfl rfl ?_
  refine e_iload_n C 1 (dk dL_look 3 rfl) rfl rfl ?_
  refine e_xcallV (ci := 11) C cal_X11_look im_X11_look se_X11_look ml_L_104 rfl (rmx_roomX hR (by decide) cal_X11_look.2.2.1) (dk dL_look 4 rfl) (K.1 _ (by rw [ht]; decide)) (ent_o11 ht) (c_X11_look K ht hr) (rmx_cap hR (by decide) (by decide)) (Nat.le_of_ble_eq_true rfl) rfl (fun v hv => ?_) (fun j hj H locs ls q ce hP hz hS hl hce hcv hcl => ?_)
  · rcases r with j9 | v9
    · exact nomatch hv
    · obtain rfl := Sum.inr.inj hv
      obtain rfl := Option.some.inj h
      refine e_i2l C (dk dL_look 5 rfl) ?_
      refine m_last C K ho (dk dL_look 6 rfl) vin01 ?_
      refine e_goto C 15 (dk dL_look 7 rfl) (by decide) ?_
      refine e_iconst C 0 (dk dL_look 11 rfl) (by decide) ?_
      exact e_iretL C B (Nat.le_refl _) (by decide) (by decide) (dk dL_look 12 rfl)
  · rcases r with j9 | v9
    · obtain rfl := Sum.inl.inj hj
      dsimp only [Sum.elim_inl] at h
      by_cases c1 : j9 = 1
      · subst c1
        rw [if_pos rfl] at h
        obtain rfl := Option.some.inj h
        have ek : EW X g H.size n 4 (ent g Xo kd M) (0 + 1) (0 + 6) 12 [(0, .ref (g_N g + t)), (1, .int p0), (2, .ref (g_N g + o))] [.ref q] := by
          refine e_astore_n C [(3, .ref q), (0, .ref (g_N g + t)), (1, .int p0), (2, .ref (g_N g + o))] (dk dL_look 8 rfl) rfl (by decide) rfl ?_
          refine e_iconst C 1 (dk dL_look 9 rfl) (by decide) ?_
          exact e_iretL C B hz (by decide) (by decide) (dk dL_look 10 rfl)
        exact vx_catch (own := RL) (name := xNSE) (E := xNSE) C.2.2.2.1 [] ⟨0, 9, 12, 18⟩ [] B.2.2.2 (fun z9 hz9 => nomatch hz9) rfl (by decide) (C.2.2.2.2.1 _ cl_L_18) (cast_NSE C) hce hcv hcl (ek H locs ls hP rfl hS hl)
      rw [if_neg c1] at h
      cases h
    · exact nomatch hj
set_option maxRecDepth 20000 in
theorem c_L_game {g : WC} {Xo : Nat → va_E} {n : Nat} {kd : Nat → Nat} (K : KD n kd) {t o : Nat} {p0 : Int32} {p1 : Int32} {p2 : Int32} (ht : kd t = 12) (ho : LA kd o 1) {M : Mem} {res : Int32 × Mem} (h : F_L_game t o p0 p1 p2 M = some res) : LX g yL_game cL_game 6 [(0, 12, 15, 18), (0, 12, 19, 13)] 7 4 24 n [.ref (g_N g + t), .int p0, .int p1, .int p2, .ref (g_N g + o)] (ent g Xo kd M) (some (.int res.1)) (ent g Xo kd res.2) := by
  refine LX_of pn_L (Nat.le_of_ble_eq_true rfl) (fun X C B => ?_)
  have hR := B.1
  rw [F_L_game] at h
  obtain ⟨r, hr, h⟩ := ob h
  refine e_aload C 4 (dk dL_game 0 rfl) rfl ?_
  refine e_iconst C 0 (dk dL_game 1 rfl) (by decide) ?_
  refine e_aload_n C 0 (dk dL_game 2 rfl) rfl rfl ?_
  refine e_iload_n C 1 (dk dL_game 3 rfl) rfl rfl ?_
  refine e_iload_n C 2 (dk dL_game 4 rfl) rfl rfl ?_
  refine e_iload_n C 3 (dk dL_game 5 rfl) rfl rfl ?_
  refine e_xcallV (ci := 11) C cal_X11_game im_X11_game se_X11_game ml_L_107 rfl (rmx_roomX hR (by decide) cal_X11_game.2.2.1) (dk dL_game 6 rfl) (K.1 _ (by rw [ht]; decide)) (ent_o11 ht) (c_X11_game K ht hr) (rmx_cap hR (by decide) (by decide)) (Nat.le_of_ble_eq_true rfl) rfl (fun v hv => ?_) (fun j hj H locs ls q ce hP hz hS hl hce hcv hcl => ?_)
  · rcases r with j9 | v9
    · exact nomatch hv
    · obtain rfl := Sum.inr.inj hv
      obtain rfl := Option.some.inj h
      refine e_i2l C (dk dL_game 7 rfl) ?_
      refine m_last C K ho (dk dL_game 8 rfl) vin01 ?_
      refine e_goto C 23 (dk dL_game 9 rfl) (by decide) ?_
      refine e_iconst C 0 (dk dL_game 16 rfl) (by decide) ?_
      exact e_iretL C B (Nat.le_refl _) (by decide) (by decide) (dk dL_game 17 rfl)
  · rcases r with j9 | v9
    · obtain rfl := Sum.inl.inj hj
      dsimp only [Sum.elim_inl] at h
      by_cases c1 : j9 = 1
      · subst c1
        rw [if_pos rfl] at h
        obtain rfl := Option.some.inj h
        have ek : EW X g H.size n 6 (ent g Xo kd M) (0 + 4) (0 + 24) 15 [(0, .ref (g_N g + t)), (1, .int p0), (2, .int p1), (3, .int p2), (4, .ref (g_N g + o))] [.ref q] := by
          refine e_astore C [(5, .ref q), (0, .ref (g_N g + t)), (1, .int p0), (2, .int p1), (3, .int p2), (4, .ref (g_N g + o))] (dk dL_game 10 rfl) (by decide) rfl ?_
          refine e_iconst C 1 (dk dL_game 11 rfl) (by decide) ?_
          exact e_iretL C B hz (by decide) (by decide) (dk dL_game 12 rfl)
        exact vx_catch (own := RL) (name := xNSE) (E := xNSE) C.2.2.2.1 [] ⟨0, 12, 15, 18⟩ [⟨0, 12, 19, 13⟩] B.2.2.2 (fun z9 hz9 => nomatch hz9) rfl (by decide) (C.2.2.2.2.1 _ cl_L_18) (cast_NSE C) hce hcv hcl (ek H locs ls hP rfl hS hl)
      rw [if_neg c1] at h
      by_cases c2 : j9 = 2
      · subst c2
        rw [if_pos rfl] at h
        obtain rfl := Option.some.inj h
        have ek : EW X g H.size n 6 (ent g Xo kd M) (0 + 4) (0 + 24) 19 [(0, .ref (g_N g + t)), (1, .int p0), (2, .int p1), (3, .int p2), (4, .ref (g_N g + o))] [.ref q] := by
          refine e_astore C [(5, .ref q), (0, .ref (g_N g + t)), (1, .int p0), (2, .int p1), (3, .int p2), (4, .ref (g_N g + o))] (dk dL_game 13 rfl) (by decide) rfl ?_
          refine e_iconst C 2 (dk dL_game 14 rfl) (by decide) ?_
          exact e_iretL C B hz (by decide) (by decide) (dk dL_game 15 rfl)
        exact vx_catch (own := RL) (name := xIAE) (E := xIAE) C.2.2.2.1 [⟨0, 12, 15, 18⟩] ⟨0, 12, 19, 13⟩ [] B.2.2.2 (fun z9 hz9 => by cases List.mem_singleton.mp hz9; exact Or.inr ⟨by decide, xNSE, C.2.2.2.2.1 _ cl_L_18, nc_IN C⟩) rfl (by decide) (C.2.2.2.2.1 _ cl_L_13) (cast_IAE C) hce hcv hcl (ek H locs ls hP rfl hS hl)
      rw [if_neg c2] at h
      cases h
    · exact nomatch hj
set_option maxRecDepth 20000 in
theorem c_L_years {g : WC} {Xo : Nat → va_E} {n : Nat} {kd : Nat → Nat} (K : KD n kd) {t o : Nat} {p0 : Int32} {p1 : Int32} {p2 : Int32} (ht : kd t = 12) (ho : LA kd o 1) {M : Mem} {res : Int32 × Mem} (h : F_L_years t o p0 p1 p2 M = some res) : LX g yL_years cL_years 6 [(0, 12, 15, 18), (0, 12, 19, 13)] 6 2 12 n [.ref (g_N g + t), .int p0, .int p1, .int p2, .ref (g_N g + o)] (ent g Xo kd M) (some (.int res.1)) (ent g Xo kd res.2) := by
  refine LX_of pn_L (Nat.le_of_ble_eq_true rfl) (fun X C B => ?_)
  have hR := B.1
  rw [F_L_years] at h
  obtain ⟨r, hr, h⟩ := ob h
  refine e_aload C 4 (dk dL_years 0 rfl) rfl ?_
  refine e_iconst C 0 (dk dL_years 1 rfl) (by decide) ?_
  refine e_aload_n C 0 (dk dL_years 2 rfl) rfl rfl ?_
  refine e_iload_n C 1 (dk dL_years 3 rfl) rfl rfl ?_
  refine e_iload_n C 2 (dk dL_years 4 rfl) rfl rfl ?_
  refine e_iload_n C 3 (dk dL_years 5 rfl) rfl rfl ?_
  refine e_xcallV (ci := 11) C cal_X11_years im_X11_years se_X11_years ml_L_110 rfl (rmx_roomX hR (by decide) cal_X11_years.2.2.1) (dk dL_years 6 rfl) (K.1 _ (by rw [ht]; decide)) (ent_o11 ht) (c_X11_years K ht hr) (rmx_cap hR (by decide) (by decide)) (Nat.le_of_ble_eq_true rfl) rfl (fun v hv => ?_) (fun j hj H locs ls q ce hP hz hS hl hce hcv hcl => ?_)
  · rcases r with j9 | v9
    · exact nomatch hv
    · obtain rfl := Sum.inr.inj hv
      obtain rfl := Option.some.inj h
      refine e_i2l C (dk dL_years 7 rfl) ?_
      refine m_last C K ho (dk dL_years 8 rfl) vin01 ?_
      refine e_goto C 23 (dk dL_years 9 rfl) (by decide) ?_
      refine e_iconst C 0 (dk dL_years 16 rfl) (by decide) ?_
      exact e_iretL C B (Nat.le_refl _) (by decide) (by decide) (dk dL_years 17 rfl)
  · rcases r with j9 | v9
    · obtain rfl := Sum.inl.inj hj
      dsimp only [Sum.elim_inl] at h
      by_cases c1 : j9 = 1
      · subst c1
        rw [if_pos rfl] at h
        obtain rfl := Option.some.inj h
        have ek : EW X g H.size n 6 (ent g Xo kd M) (0 + 2) (0 + 12) 15 [(0, .ref (g_N g + t)), (1, .int p0), (2, .int p1), (3, .int p2), (4, .ref (g_N g + o))] [.ref q] := by
          refine e_astore C [(5, .ref q), (0, .ref (g_N g + t)), (1, .int p0), (2, .int p1), (3, .int p2), (4, .ref (g_N g + o))] (dk dL_years 10 rfl) (by decide) rfl ?_
          refine e_iconst C 1 (dk dL_years 11 rfl) (by decide) ?_
          exact e_iretL C B hz (by decide) (by decide) (dk dL_years 12 rfl)
        exact vx_catch (own := RL) (name := xNSE) (E := xNSE) C.2.2.2.1 [] ⟨0, 12, 15, 18⟩ [⟨0, 12, 19, 13⟩] B.2.2.2 (fun z9 hz9 => nomatch hz9) rfl (by decide) (C.2.2.2.2.1 _ cl_L_18) (cast_NSE C) hce hcv hcl (ek H locs ls hP rfl hS hl)
      rw [if_neg c1] at h
      by_cases c2 : j9 = 2
      · subst c2
        rw [if_pos rfl] at h
        obtain rfl := Option.some.inj h
        have ek : EW X g H.size n 6 (ent g Xo kd M) (0 + 2) (0 + 12) 19 [(0, .ref (g_N g + t)), (1, .int p0), (2, .int p1), (3, .int p2), (4, .ref (g_N g + o))] [.ref q] := by
          refine e_astore C [(5, .ref q), (0, .ref (g_N g + t)), (1, .int p0), (2, .int p1), (3, .int p2), (4, .ref (g_N g + o))] (dk dL_years 13 rfl) (by decide) rfl ?_
          refine e_iconst C 2 (dk dL_years 14 rfl) (by decide) ?_
          exact e_iretL C B hz (by decide) (by decide) (dk dL_years 15 rfl)
        exact vx_catch (own := RL) (name := xIAE) (E := xIAE) C.2.2.2.1 [⟨0, 12, 15, 18⟩] ⟨0, 12, 19, 13⟩ [] B.2.2.2 (fun z9 hz9 => by cases List.mem_singleton.mp hz9; exact Or.inr ⟨by decide, xNSE, C.2.2.2.2.1 _ cl_L_18, nc_IN C⟩) rfl (by decide) (C.2.2.2.2.1 _ cl_L_13) (cast_IAE C) hce hcv hcl (ek H locs ls hP rfl hS hl)
      rw [if_neg c2] at h
      cases h
    · exact nomatch hj
