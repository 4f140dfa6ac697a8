/-! ===== what makes cells: the world grows at its end ===== -/
theorem im_objectInit : Cond.instanceMethod Lib.objectInit ∈ TW := tw_mem (in_tables_1_1 (List.mem_of_getElem? (i := 31) rfl)) rfl
theorem co_objectInit : Cond.code Lib.objectInit object_method_1_code 1 none ∈ TW := tw_mem (in_tables_1_1 (List.mem_of_getElem? (i := 32) rfl)) rfl
/-- the cells E0 below n0, from n0 on those of L -/
def ap (E0 : Nat → va_E) (n0 : Nat) (L : List va_E) : Nat → va_E := fun j => if j < n0 then E0 j else L.getD (j - n0) (.inr (0, []))
theorem ap_at {E0 : Nat → va_E} {n0 a : Nat} {L : List va_E} {x : va_E} (h : L[a]? = some x) : ap E0 n0 L (n0 + a) = x := by
  unfold ap
  rw [if_neg (by omega), Nat.add_sub_cancel_left, List.getD_eq_getElem?_getD, h]
  rfl
theorem ap_ap {E0 : Nat → va_E} {n0 t : Nat} {L B : List va_E} (ht : t = n0 + L.length) (j : Nat) : ap (ap E0 n0 L) t B j = ap E0 n0 (L ++ B) j := by
  subst ht
  unfold ap
  by_cases h1 : j < n0
  · rw [if_pos (by omega), if_pos h1, if_pos h1]
  · by_cases h2 : j < n0 + L.length
    · rw [if_pos h2, if_neg h1, if_neg h1]
      simp only [List.getD_eq_getElem?_getD]
      rw [List.getElem?_append_left (by omega)]
    · rw [if_neg h2, if_neg h1]
      simp only [List.getD_eq_getElem?_getD]
      rw [List.getElem?_append_right (by omega)]
      congr 2
      omega
theorem ap_set {E0 : Nat → va_E} {n0 a : Nat} {L : List va_E} {x : va_E} (ha : a < L.length) (j : Nat) : upE (ap E0 n0 L) (n0 + a) x j = ap E0 n0 (L.set a x) j := by
  unfold upE ap
  by_cases h0 : j = n0 + a
  · rw [if_pos h0, if_neg (by omega)]
    subst h0
    rw [Nat.add_sub_cancel_left]
    simp [List.getD_eq_getElem?_getD, ha]
  · rw [if_neg h0]
    by_cases h1 : j < n0
    · rw [if_pos h1, if_pos h1]
    · rw [if_neg h1, if_neg h1]
      simp only [List.getD_eq_getElem?_getD]
      rw [List.getElem?_set_ne (by omega)]
/-- one more cell -/
theorem va_P_app {N n : Nat} {D : va_G} {cl : List vw_C} {E0 : Nat → va_E} {n0 : Nat} {L L2 : List va_E} {x : va_E} {H H1 : Heap} (hn : n = n0 + L.length) (hL : L ++ [x] = L2) (hP : va_P D cl (Wof N n (ap E0 n0 L)) H) (he : va_at D cl (N + n, x) H1) (oq : ∀ q : Nat, q < N + n → H1[q]? = H[q]?) : va_P D cl (Wof N (n + 1) (ap E0 n0 L2)) H1 := by
  intro k q hq
  obtain ⟨hk, rfl⟩ := Wof_at hq
  subst hL
  by_cases h : k = n
  · subst h
    have e : ap E0 n0 (L ++ [x]) k = x := by
      rw [hn]
      exact ap_at (by simp)
    rw [e]
    exact he
  · have hk2 : k < n := by omega
    have e : ap E0 n0 (L ++ [x]) k = ap E0 n0 L k := by
      unfold ap
      by_cases h1 : k < n0
      · rw [if_pos h1, if_pos h1]
      · rw [if_neg h1, if_neg h1]
        simp only [List.getD_eq_getElem?_getD]
        rw [List.getElem?_append_left (by omega)]
    rw [e]
    have hP2 : va_P D cl [(N + k, ap E0 n0 L k)] H := fun i y hy => by
      have hz : i < 1 := (List.getElem?_eq_some_iff.mp hy).1
      rw [show i = 0 by omega] at hy
      cases hy
      exact hP k _ (Wof_get hk2)
    exact hP2.kept (H1 := H1) (fun i y hy => by
      have hz : i < 1 := (List.getElem?_eq_some_iff.mp hy).1
      rw [show i = 0 by omega] at hy
      cases hy
      exact oq (N + k) (by omega)) 0 _ rfl
/-- an array of N ints, all 0 -/
def iar (g : WC) (N : Nat) : va_E := .inl (g_ac g 0, N, .inl (fun _ => 0))
def zar (g : WC) (N : Nat) : va_E := .inl (g_ac g 1, N, .inl (fun _ => 0))
def lar (g : WC) (N : Nat) : va_E := .inl (g_ac g 2, N, .inr (.inl (fun _ => 0)))
def rmn (d mc ms : Nat) : Room := { frames := d + 1, cells := mc, slots := ms, locals := 64 * (d + 1) }
def PN (g : WC) (n : Nat) (E : Nat → va_E) (as : List Value) : Array Value → State → Prop := fun a U => PM g n E as a U ∧ U.heap.size = g_N g + n
def QN (g : WC) (n : Nat) (E2 : Nat → va_E) : Array Value → State → Outcome → State → Prop := fun _ st oc t =>
  oc = .returned none ∧ va_P (g_D g) vwCl (Wof (g_N g) n E2) t.heap ∧ t.heap.size = g_N g + n ∧ ∀ q : Nat, q < g_N g → t.heap[q]? = st.heap[q]?
theorem PN_blind {g : WC} {n : Nat} {E : Nat → va_E} {as : List Value} : FrameBlind (PN g n E as) := fun a U gg mk h => ⟨PM_blind a U gg mk h.1, h.2⟩
/-- a constructor: the cell o at t, the last one of n = t + 1, becomes the cells B -/
def NC (g : WC) (y : MethodName) (cc : ByteArray) (nL d mc ms t : Nat) (x : va_E) (B : List va_E) : Prop := ∀ E0 : Nat → va_E,
  Met (g_l g) y (.code y cc nL none :: TW) (rmn d mc ms) (PN g (t + 1) (ap E0 t [x]) [.ref (g_N g + t)]) (QN g (t + B.length) (ap E0 t B)) mc ms (FR g)
def BN (X : FX) (g : WC) (d mc ms n : Nat) (E2 : Nat → va_E) : Prop :=
  x_R X = rmn d mc ms ∧ (x_h X).sig.returnType = none ∧ x_Q X = MQ (x_b X) (QN g n E2) (x_a X) (x_s X) mc ms (FR g) ∧ (x_h X).name = "<init>" ∧ g_N g ≤ (x_s X).heap.size
theorem NC_of {g : WC} {y : MethodName} {cc : ByteArray} {nL d mc ms t : Nat} {x : va_E} {B : List va_E} (hy : plainName y.cls = true) (hy1 : y.name = "<init>") (hlen : 1 ≤ nL)
    (body : ∀ (X : FX) (E0 : Nat → va_E), Cx X g y.cls cc nL → BN X g d mc ms (t + B.length) (ap E0 t B) → EW X g (g_N g + (t + 1)) (t + 1) nL (ap E0 t [x]) 0 0 0 [(0, .ref (g_N g + t))] []) : NC g y cc nL d mc ms t x B := by
  intro E0
  refine Met.ofW (cc := cc) (maxL := nL) (ret := none) hy rfl ?_
  intro p e s m args below meth c s₁ B9 hml hv
  obtain ⟨⟨rfl, hP, hK, hA⟩, hz⟩ := hv
  have hts0 := atoms_spec (ws := .code y cc nL none :: TW) B9.pre
  have hts : ∀ w ∈ TW, w.before [Value.ref (g_N g + t)].toArray s = true := fun w hw => hts0 w (List.mem_cons_of_mem _ hw)
  have hown : s.vm.findClass y.cls = some m.cls := findClass_of_methodNamed B9.named
  rw [lg_entry_eq]
  have hl := lv_entry [Value.ref (g_N g + t)] (n := nL) hlen
  exact body (p, g_l g, e, (headSpec (.code y cc nL none :: TW) (rmn d mc ms)).room, s, m, [Value.ref (g_N g + t)].toArray, below, meth, c, MQ below (QN g (t + B.length) (ap E0 t B)) [Value.ref (g_N g + t)].toArray s mc ms (FR g)) E0 ⟨B9.exec, B9.bytes, hml, hown, hts, hK, B9.notSynchronized, rfl, hA⟩ ⟨rfl, B9.returns, rfl, (name_of_methodNamed B9.named B9.method).1.trans hy1, by show g_N g ≤ s.heap.size; rw [hz]; exact Nat.le_add_right _ _⟩ s.heap [] _ hP hz va_S.rf hl
section NEWR
variable {X : FX} {g : WC} {z n n0 n2 nL d d2 mc ms mc2 ms2 : Nat} {E E2 E0 : Nat → va_E} {k sl pc t idx N : Nat} {lv : List (Nat × Value)} {st : List Value} {own : String} {cc bytes : ByteArray} {L L1 L2 B : List va_E} {x : va_E} {y : MethodName} {maxL : Nat}
theorem e_nret (C : Cx X g own cc nL) (Bn : BN X g d mc ms n E) (h1 : k ≤ mc) (h2 : sl ≤ ms) (hd : decode cc pc = .ok (.return_, 1)) : EW X g (g_N g + n) n nL E k sl pc lv [] := fun H locs ls hP hz hS hl => by
  rw [Bn.2.2.1]
  exact W.widen h1 h2 (W.vret C.1 C.2.1 Bn.2.1 (fun t ht _ => ⟨rfl, by rw [ht]; exact hP, by rw [ht]; exact hz, fun q hq => by
    rw [ht]
    exact hS.2.1 q (Nat.lt_of_lt_of_le hq Bn.2.2.2.2) (Nat.not_le.mpr hq)⟩) hS.2.2 hd (hlocks := C.2.2.2.2.2.2.1))
theorem e_objInit (C : Cx X g own cc nL) {a : Nat} (hl : Cond.methodLink own idx Lib.objectInit ∈ TW) (hf : 1 ≤ (x_R X).frames) (hlo : (st.map fun v => v.category).sum + 12 ≤ (x_R X).locals) (hd : decode cc pc = .ok (.invokespecial idx, 3)) (kk : EW X g z n nL E k sl (pc + 3) lv st) : EW X g z n nL E k sl pc lv (.ref a :: st) := fun H locs ls hP hz hS hlv =>
  W.objInit (rest := st) C.1 C.2.1 C.2.2.2.1 (C.2.2.2.2.1 _ hl) (C.2.2.2.2.1 _ im_objectInit) (C.2.2.2.2.1 _ co_objectInit) rfl (hlv.1.trans C.2.2.1.symm) rfl hd hf (by show 2 * 0 + (st.map fun v => v.category).sum + 12 ≤ _; omega) (kk H locs ls hP hz hS hlv)
theorem e_newI (C : Cx X g own cc nL) {v : Int32} (hn : n = n0 + L.length) (hv : ¬ v < 0) (hN : v.toNatClampNeg = N) (hb : N ≤ 19000) (hk : k + 1 ≤ (x_R X).cells) (hs : sl + N ≤ (x_R X).slots) (hL : L ++ [iar g N] = L2) (hd : decode cc pc = .ok (.newarray .int, 2)) (kk : EW X g (g_N g + (n + 1)) (n + 1) nL (ap E0 n0 L2) (k + 1) (sl + N) (pc + 2) lv (.ref (g_N g + n) :: st)) : EW X g (g_N g + n) n nL (ap E0 n0 L) k sl pc lv (.int v :: st) := fun H locs ls hP hz hS hlv => by
  refine va_newaK (atype := .int) C.1 C.2.1 (C.2.2.2.2.1 _ ac_int) rfl hd rfl hv hN (by show N * 4 ≤ 536870912; omega) hk hs rfl fun H1 cA e1 z1 o1 hAr hNm => ?_
  have h0 : (x_s X).vm.findClass "[I" = some (g_ac g 0) := (C.2.2.2.2.2.1.2 0 _ rfl).2
  have hc : cA = g_ac g 0 := Option.some.inj (hNm.symm.trans h0)
  subst hc
  rw [hz] at z1 e1 o1 ⊢
  exact kk H1 locs ls (va_P_app hn hL hP (by
    show H1[g_N g + n]? = some (vp_cell _ _)
    rw [e1, vp_cell_i]
    rfl) o1) (by rw [z1]; rfl) ⟨by rw [z1]; have := hS.1; omega, fun q h1 h2 => by rw [o1 q (by have := hS.1; omega)]; exact hS.2.1 q h1 h2, hS.2.2⟩ hlv
theorem e_newO (C : Cx X g own cc nL) {Cn : String} {T : u_T} {NF ci : Nat} {fs : List Value} (hn : n = n0 + L.length) (hin : ∀ w ∈ u_ws Cn T NF, w ∈ TW) (ty : Nat → FieldType) (hty : ∀ k, k < NF → parseFieldDescriptor (T k).2.2.1 = some (ty k)) (hcl : Cond.classLink own idx Cn ∈ TW) (hins : Cond.instantiable Cn NF ∈ TW) (hini : Cond.initialized Cn ∈ TW) (hc : vwCl[ci]? = some (Cn, T, NF)) (hfs : ∀ j, j < NF → defaultValue (ty j) = vp_V fs j) (hk : k + 1 ≤ (x_R X).cells) (hs : sl + NF ≤ (x_R X).slots) (hL : L ++ [.inr (ci, fs)] = L2) (hd : decode cc pc = .ok (.new idx, 3)) (kk : EW X g (g_N g + (n + 1)) (n + 1) nL (ap E0 n0 L2) (k + 1) (sl + NF) (pc + 3) lv (.ref (g_N g + n) :: st)) : EW X g (g_N g + n) n nL (ap E0 n0 L) k sl pc lv st := fun H locs ls hP hz hS hlv => by
  have hKn := C.2.2.2.2.2.1.1 ci _ hc
  refine W.newcK C.1 C.2.1 C.2.2.2.1 (C.2.2.2.2.1 _ hcl) (C.2.2.2.2.1 _ hins) (C.2.2.2.2.1 _ hini) rfl hd hk hs hKn.2.1 rfl fun H1 kC hkC e1 z1 o1 => ?_
  rw [hz] at z1 e1 o1 ⊢
  exact kk H1 locs ls (va_P_app hn hL hP ⟨_, hc, (u_born ty C.2.2.2.2.1 hin hKn hkC e1 hty).to hfs⟩ o1) (by rw [z1]; rfl) ⟨by rw [z1]; have := hS.1; omega, fun q h1 h2 => by rw [o1 q (by have := hS.1; omega)]; exact hS.2.1 q h1 h2, hS.2.2⟩ hlv
theorem e_ap {a : Nat} (ha : a < L.length) (hL : L.set a x = L2) (kk : EW X g z n nL (ap E0 n0 L2) k sl pc lv st) : EW X g z n nL (upE (ap E0 n0 L) (n0 + a) x) k sl pc lv st := e_E (fun j _ => by rw [← hL]; exact ap_set ha j) kk
theorem e_ncall (C : Cx X g own cc nL) (P : CalP y bytes maxL none 0) (hy1 : y.name = "<init>") (him : Cond.instanceMethod y ∈ TW) (hl : Cond.methodLink own idx y ∈ TW) (hroom : (rmn d2 mc2 ms2).frames + 1 ≤ (x_R X).frames ∧ 8 + (maxL + 11) + (rmn d2 mc2 ms2).locals ≤ (x_R X).locals) (hd : decode cc pc = .ok (.invokespecial idx, 3)) (hM : NC g y bytes maxL d2 mc2 ms2 t x B) (ht : t = n0 + L.length) (hk : k + mc2 ≤ (x_R X).cells ∧ sl + ms2 ≤ (x_R X).slots) (hs : (st.map fun v => v.category).sum ≤ 8) (h1 : L ++ [x] = L1) (h2 : L ++ B = L2) (hn2 : n2 = t + B.length) (hB : 1 ≤ B.length)
    (kk : EW X g (g_N g + n2) n2 nL (ap E0 n0 L2) (k + mc2) (sl + ms2) (pc + 3) lv st) : EW X g (g_N g + (t + 1)) (t + 1) nL (ap E0 n0 L1) k sl pc lv (.ref (g_N g + t) :: st) := fun H locs ls hP hz hS hlv => by
  have hM2 : Met (x_l X) y (.code y bytes maxL none :: TW) (rmn d2 mc2 ms2) (PN g (t + 1) (ap (ap E0 n0 L) t [x]) [.ref (g_N g + t)]) (QN g (t + B.length) (ap (ap E0 n0 L) t B)) mc2 ms2 (FR g) := by rw [C.2.2.2.2.2.2.2.1]; exact hM (ap E0 n0 L)
  have hP2 : va_P (g_D g) vwCl (Wof (g_N g) (t + 1) (ap (ap E0 n0 L) t [x])) H := by
    rw [Wof_congr (fun j _ => ap_ap ht j), h1]
    exact hP
  have cw : CallB (x_R X) (x_s X) (x_a X) own idx y bytes maxL none (.code y bytes maxL none :: TW) (rmn d2 mc2 ms2) mc2 ms2 0 :=
    callB_of 0 C.2.2.2.2.1 (good_code P.1) rfl rfl rfl (C.2.2.2.2.1 _ P.2.1) (C.2.2.2.2.1 _ hl) P.2.2.2 hroom
  have hr := va_runI (e := x_e X) (below := x_b X) (meth := x_h X) (As := []) (b := g_N g + t) (rest := st) (g := F0 (x_m X) pc ls (.ref (g_N g + t) :: st)) (H := H) (locs := locs) (cells := k) (slots := sl) (fix C) hM2 ⟨cw, hy1, C.2.2.2.2.1 _ him⟩ ⟨PN_blind, fun U hU hW => ⟨pm_at C hP2 hS U hU hW, by rw [hU]; exact hz⟩⟩ rfl rfl hlv.1 rfl (lv_room hs) hd hk
  intro T hT X1
  obtain ⟨v, s0, t9, T2, L9, h0, X2, hL, e1, e2, ⟨q1, q2, q3, q4⟩, stp⟩ := hr T hT X1
  cases q1
  rw [h0] at q4
  subst hn2
  obtain ⟨t2, a1, b1⟩ := kk T2.heap (locs ++ L9) ls (by
      rw [e1, ← h2, ← Wof_congr (fun j _ => ap_ap (B := B) ht j)]
      exact q2) (by rw [e1]; exact q3)
    ⟨by rw [e1, q3]; have := hS.1; omega, fun q h3 h4 => by rw [e1, q4 q (Nat.not_le.mp h4)]; exact hS.2.1 q h3 h4, fun q hq => by
      rcases List.mem_append.mp hq with h | h
      · exact hS.2.2 q h
      · exact hL q h⟩ hlv T2 rfl X2
  exact ⟨t2, stp t2 a1, b1⟩
theorem rmn_cap (h : x_R X = rmn d mc ms) (h1 : k ≤ mc) : k ≤ (x_R X).cells := by
  rw [h]
  exact h1
theorem rmn_slo (h : x_R X = rmn d mc ms) (h1 : sl ≤ ms) : sl ≤ (x_R X).slots := by
  rw [h]
  exact h1
theorem rmn_fr (h : x_R X = rmn d mc ms) : 1 ≤ (x_R X).frames := by
  rw [h]
  exact Nat.le_add_left _ _
theorem rmn_lo {w : Nat} (h : x_R X = rmn d mc ms) (h1 : w ≤ 64) : w ≤ (x_R X).locals := by
  rw [h]
  show w ≤ 64 * (d + 1)
  omega
theorem rmn_room {mc9 ms9 : Nat} (h : x_R X = rmn d mc ms) (hdd : d2 < d) (hm : maxL ≤ 45) : (rmn d2 mc9 ms9).frames + 1 ≤ (x_R X).frames ∧ 8 + (maxL + 11) + (rmn d2 mc9 ms9).locals ≤ (x_R X).locals := by
  rw [h]
  simp only [rmn]
  omega
theorem rmn_room0 (h : x_R X = rmn d mc ms) (hdd : d2 < d) (hm : maxL ≤ 45) : (rm d2).frames + 1 ≤ (x_R X).frames ∧ 8 + (maxL + 11) + (rm d2).locals ≤ (x_R X).locals := by
  rw [h]
  simp only [rmn, rm]
  omega
end NEWR
