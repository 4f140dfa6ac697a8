/-! ===== methods that return or throw ===== -/
def exn (k : Nat) : String := if k = 1 then xNSE else xIAE
def rmx (d mc ms : Nat) : Room := { frames := d + 7, cells := mc, slots := ms, locals := 64 * (d + 3) }
def QX (g : WC) (n : Nat) (E2 : Nat → va_E) (o : Sum Nat (Option Value)) : Array Value → State → Outcome → State → Prop := fun a st oc t => ∃ r, o = .inr r ∧ QM g n E2 r a st oc t
def XX (g : WC) (n : Nat) (E : Nat → va_E) (o : Sum Nat (Option Value)) : String → State → State → Prop := fun En st t =>
  ∃ k, o = .inl k ∧ En = exn k ∧ va_P (g_D g) vwCl (Wof (g_N g) n E) t.heap ∧ st.heap.size ≤ t.heap.size ∧ ∀ q : Nat, q < g_N g → q < st.heap.size → t.heap[q]? = st.heap[q]?
def MX (g : WC) (y : MethodName) (cc : ByteArray) (nL : Nat) (ret : Option FieldType) (d mc ms n : Nat) (as : List Value) (E : Nat → va_E) (o : Sum Nat (Option Value)) (E2 : Nat → va_E) : Prop :=
  vx_Met (g_l g) y (.code y cc nL ret :: TW) (rmx d mc ms) (PM g n E as) (QX g n E2 o) (XX g n E o) mc ms (FR g)
def BX (X : FX) (g : WC) (ret : Option FieldType) (d mc ms n : Nat) (o : Sum Nat (Option Value)) (E0 E2 : Nat → va_E) : Prop :=
  x_R X = rmx d mc ms ∧ (x_h X).sig.returnType = ret ∧ x_Q X = vx_MQ (x_b X) (QX g n E2 o) (XX g n E0 o) (x_a X) (x_s X) mc ms (FR g) ∧ ∀ x ∈ (x_c X).exceptionTable.toList, False
theorem MX_of {g : WC} {y : MethodName} {cc : ByteArray} {nL : Nat} {ret : Option FieldType} {d mc ms n : Nat} {as : List Value} {E E2 : Nat → va_E} {o : Sum Nat (Option Value)} (hy : plainName y.cls = true) (hlen : (lg_sl as).length ≤ nL)
    (body : ∀ X : FX, Cx X g y.cls cc nL → BX X g ret d mc ms n o E E2 → EW X g (x_s X).heap.size n nL E 0 0 0 (lv_args 0 as) []) : MX g y cc nL ret d mc ms n as E o E2 := by
  refine vx_ofW (cc := cc) (maxL := nL) (ret := ret) hy rfl ?_
  intro p e s m args below meth c s₁ B hml hex hv
  obtain ⟨rfl, hP, hK, hA⟩ := hv
  have hts0 := atoms_spec (ws := .code y cc nL ret :: TW) B.pre
  have hts : ∀ w ∈ TW, w.before as.toArray s = true := fun w hw => hts0 w (List.mem_cons_of_mem _ hw)
  have hown : s.vm.findClass y.cls = some m.cls := findClass_of_methodNamed B.named
  rw [lg_entry_eq]
  have hl := lv_entry as (n := nL) hlen
  exact body (p, g_l g, e, (headSpec (.code y cc nL ret :: TW) (rmx d mc ms)).room, s, m, as.toArray, below, meth, c, vx_MQ below (QX g n E2 o) (XX g n E o) as.toArray s mc ms (FR g)) ⟨B.exec, B.bytes, hml, hown, hts, hK, B.notSynchronized, rfl, hA⟩ ⟨rfl, B.returns, rfl, hex⟩ s.heap [] _ hP rfl va_S.rf hl
theorem rmx_room {X : FX} {d d2 mc ms maxL : Nat} (h : x_R X = rmx d mc ms) (hdd : d2 ≤ d) (hm : maxL ≤ 45) : (rm d2).frames + 1 ≤ (x_R X).frames ∧ 8 + (maxL + 11) + (rm d2).locals ≤ (x_R X).locals := by
  rw [h]
  simp only [rm, rmx]
  omega
theorem rmx_cap {X : FX} {d mc ms k sl : Nat} (h : x_R X = rmx d mc ms) (h1 : k ≤ mc) (h2 : sl ≤ ms) : k ≤ (x_R X).cells ∧ sl ≤ (x_R X).slots := by
  rw [h]
  exact ⟨h1, h2⟩
section XEND
variable {X : FX} {g : WC} {n nL mc ms k sl : Nat} {E E0 : Nat → va_E} {pc d : Nat} {lv : List (Nat × Value)} {own : String} {cc : ByteArray}
theorem e_iretX {ty : FieldType} {v : Int32} (C : Cx X g own cc nL) (B : BX X g (some ty) d mc ms n (.inr (some (.int v))) E0 E) (hn : narrow ty (.int v) = .int v) (h1 : k ≤ mc) (h2 : sl ≤ ms) (hd : decode cc pc = .ok (.ireturn, 1)) : EW X g (x_s X).heap.size n nL E k sl pc lv [.int v] := fun H locs ls hP hz hS hl => by
  rw [B.2.2.1]
  exact W.widen h1 h2 (vx_ret (W.zret C.1 C.2.1 B.2.1 hn (fun t ht _ => ⟨_, rfl, QM_end hP hz hS ht⟩) hS.2.2 hd (hlocks := C.2.2.2.2.2.2.1)))
theorem e_vretX (C : Cx X g own cc nL) (B : BX X g none d mc ms n (.inr none) E0 E) (h1 : k ≤ mc) (h2 : sl ≤ ms) (hd : decode cc pc = .ok (.return_, 1)) : EW X g (x_s X).heap.size n nL E k sl pc lv [] := fun H locs ls hP hz hS hl => by
  rw [B.2.2.1]
  exact W.widen h1 h2 (vx_ret (W.vret C.1 C.2.1 B.2.1 (fun t ht _ => ⟨_, rfl, QM_end hP hz hS ht⟩) hS.2.2 hd (hlocks := C.2.2.2.2.2.2.1)))
end XEND
def xNM : List String := ["java/lang/RuntimeException", "java/lang/Exception"]
theorem ini_IAE : Cond.initialized xIAE ∈ TW := tw_mem (in_tables_1_1 (List.mem_of_getElem? (i := 17) rfl)) rfl
theorem ini_NSE : Cond.initialized xNSE ∈ TW := tw_mem (in_tables_1_1 (List.mem_of_getElem? (i := 23) rfl)) rfl
theorem cl_X11_90 : Cond.classLink RX11 90 xIAE ∈ TW := tw_mem (in_tables_1_3 (List.mem_of_getElem? (i := 157) rfl)) rfl
theorem cl_X11_358 : Cond.classLink RX11 358 xNSE ∈ TW := tw_mem (in_tables_1_4 (List.mem_of_getElem? (i := 209) rfl)) rfl
/-! a text's exception whose own constructor names its parent's by another place than 7 (NoSuchElementException of JDK 17: 13), in launches without stack traces. The steps follow the library's law for place 7. -/
def xw_chain (X Y : String) (ix : Nat) (rx : ByteArray) (r : List String) : List Cond := Bundle.passSAtoms X Y ix rx ++ Bundle.chainSAtoms Y r
def xw_all (own : String) (ic : Nat) (X Y : String) (ix : Nat) (rx : ByteArray) (r : List String) : List Cond :=
  Bundle.throwableAtoms ++ Bundle.throwableSAtoms ++ xw_chain X Y ix rx r ++
  [.methodLink own ic (Bundle.initS X), .instantiable X 6, .castable X X, .selects X Bundle.tFill0 Bundle.tFill0, .selects X Bundle.tFill Bundle.tFill,
   .lays X Bundle.tN "cause" "Ljava/lang/Throwable;", .lays X Bundle.tN "stackTrace" Bundle.steD, .lays X Bundle.tN "suppressedExceptions" Bundle.listD, .lays X Bundle.tN "detailMessage" "Ljava/lang/String;",
   .isRef (.static Bundle.tN "UNASSIGNED_STACK" Bundle.steD), .isRef (.static Bundle.tN "SUPPRESSED_SENTINEL" Bundle.listD),
   .fieldLink Bundle.tN 198 Bundle.tN "backtrace" "Ljava/lang/Object;", .lays Bundle.tN Bundle.tN "backtrace" "Ljava/lang/Object;", .lays X Bundle.tN "backtrace" "Ljava/lang/Object;"]
def xw_S (own : String) (ic : Nat) (X Y : String) (ix : Nat) (rx : ByteArray) (r : List String) : List Cond := (xw_all own ic X Y ix rx r).filter vx_no
section XCTOR
variable {p : Program} {l : Launch} {e : Env} {R : Room} {s : State} {m₀ : MethodId} {args : Array Value} {below : List Frame} {meth : Method} {c : Code} {W : State} {locs : List Loc} {cells slots : Nat}
set_option maxHeartbeats 4000000 in
theorem xc_throw (X : Stand p l e R s m₀ args below meth c W locs cells slots) (hexec : p.tables.exec = Jvm.exec) (htr : e.platform.stackTraces = false) {own cls Y1 : String} {names : List String} {ic ix : Nat} {rx : ByteArray}
    (x0 : decode rx 0 = .ok (.aload_n 0, 1)) (x1 : decode rx 1 = .ok (.aload_n 1, 1)) (x2 : decode rx 2 = .ok (.invokespecial ix, 3)) (x5 : decode rx 5 = .ok (.return_, 1))
    (hown : s.vm.findClass own = some m₀.cls) (hcls : Bundle.fit cls = true) (hY1 : Bundle.fit Y1 = true) (hnames : ∀ n ∈ names, Bundle.fit n = true)
    (h : ∀ a ∈ xw_all own ic cls Y1 ix rx names, a.before args s = true)
    (hlocs : ∀ x ∈ locs, ∀ cell, s.heap[x.base]? = some cell → cell.vm.isStatics = false)
    {a : Addr} {cX : ClassId} {kX : Class} (hfoundX : s.vm.findClass cls = some cX) (hkX : s.vm.classes[cX]? = some kX) (hcell : W.heap[a]? = some (freshCell cX kX)) (hnew : s.heap.size ≤ a)
    {msg : Value} (hmsg : msg.isRef = true)
    {g : JFrame} (hg : g.method = m₀) (hsize : g.locals.size = c.maxLocals) (hlocked : g.locked = none) (hentered : g.entered = []) {rest : List Value} (hstack : g.stack = msg :: .ref a :: .ref a :: rest)
    (hd6 : decode c.code g.pc = .ok (.invokespecial ic, 3)) (hd9 : decode c.code (g.pc + 3) = .ok (.athrow, 1)) (hout : ∀ x ∈ c.exceptionTable.toList, covers x (g.pc + 3) = false)
    (hRframes : names.length + 4 < R.frames) (hRlocals : 2 * g.monitorRoom + ((Value.ref a :: rest).map fun v => v.category).sum + (13 * (names.length + 2) + 42) ≤ R.locals) (hlocks : meth.locks = false) :
    ∃ U : State, Steps p.tables e below (W.setTop g) U ∧ U.status = .running ∧ Ended U below (.threw a) ∧ s.WarmedH U.vm ∧ s.sameButNew ({ U with vm := s.vm } : State) locs cells slots ∧
      ∃ ce, U.heap[a]? = some ce ∧ s.vm.findClass cls = some ce.cls ∧ ce.vm = .none := by
  have howns : e.platform.frameOwnsMonitors = true := by rw [X.admits.platform]
  have hfin : e.platform.finalization = false := by rw [X.admits.platform]
  have hpl : e.platform.magicAccessors = ({} : Platform).magicAccessors := by rw [X.admits.platform]
  have hm : ∀ x, x ∈ xw_all own ic cls Y1 ix rx names → x.before args s = true := h
  have a' : ∀ x, x ∈ xw_all own ic cls Y1 ix rx names → x.holds args s none s [] = true := fun x hx => h x hx
  obtain ⟨T, Z0, L, -, Y⟩ := ThrowableC.of_atoms (args := args) howns hfin hpl (fun x hx => h x (by simp [xw_all, hx]))
  obtain ⟨Z, M, LZ, LM, hnZ⟩ := Init0T.ofS_atoms (args := args) hpl L Y (fun x hx => h x (by simp [xw_all, hx]))
  obtain ⟨P1, L1, hP1m, hs1⟩ := PassC.ofS_atoms (args := args) (s := s) hpl (X := cls) (Y := Y1) (Bundle.fit_spec hcls).1 (Bundle.fit_spec hY1).2 x0 x1 x2 x5 (fun x hx => h x (by simp [xw_all, xw_chain, hx]))
  obtain ⟨P2, Ps, hlen, L2, hL, hP2m, hlink2, hlink⟩ := Bundle.chainS (args := args) hpl hnZ names Y1 hY1 hnames (fun x hx => h x (by simp [xw_all, xw_chain, hx]))
  have hsup : P1.sup = P2.m := Option.some.inj (hs1.symm.trans hP2m)
  have hfound : s.vm.findClass cls = some P1.m.cls := findClass_of_methodNamed hP1m
  cases Option.some.inj (hfoundX.symm.trans hfound)
  obtain ⟨c1, kX', hc1, hk, hord, -, -, hn6⟩ := Cond.instantiable_spec (a' (.instantiable cls 6) (by simp [xw_all]))
  cases Option.some.inj (hc1.symm.trans hfound)
  cases Option.some.inj (hkX.symm.trans hk)
  have hsel0 : selectMethod e.platform s.vm P1.m.cls T.fill0 = .method T.fill0 := by
    obtain ⟨c2, r2, m2, q1, q2, q3, q4, -⟩ := Cond.selects_spec (a' (.selects cls Bundle.tFill0 Bundle.tFill0) (by simp [xw_all]))
    cases Option.some.inj (q1.symm.trans hfound)
    cases Option.some.inj (q2.symm.trans (State.methodFound?_of_named Y.fill0 (by decide)))
    cases Option.some.inj (q3.symm.trans Y.fill0)
    rw [Launch.admits_selectMethod X.admits]
    exact q4
  have hselF : selectMethod e.platform s.vm P1.m.cls T.fill = .method T.fill := by
    obtain ⟨c2, r2, m2, q1, q2, q3, q4, -⟩ := Cond.selects_spec (a' (.selects cls Bundle.tFill Bundle.tFill) (by simp [xw_all]))
    cases Option.some.inj (q1.symm.trans hfound)
    cases Option.some.inj (q2.symm.trans (State.methodFound?_of_named Y.fill (by decide)))
    cases Option.some.inj (q3.symm.trans Y.fill)
    rw [Launch.admits_selectMethod X.admits]
    exact q4
  obtain ⟨cellS0, hcS0, hiss⟩ := Y.statics
  obtain ⟨u0, hu0⟩ := Cond.staticRefV Y.unassigned L.unassignedStatic L.statics hcS0 hiss (a' (.isRef (.static Bundle.tN "UNASSIGNED_STACK" Bundle.steD)) (by simp [xw_all]))
  obtain ⟨sen, hsen⟩ := Cond.staticRefV Y.sentinel L.sentinelStatic L.statics hcS0 hiss (a' (.isRef (.static Bundle.tN "SUPPRESSED_SENTINEL" Bundle.listD)) (by simp [xw_all]))
  obtain ⟨ci198, i198, fB, hk198, hg198, ha198, hsB, -, hnB, htB, hffB⟩ := Cond.ownField (t := .object "java/lang/Object") Y.found L.cls (by decide +kernel) (a' (.fieldLink Bundle.tN 198 Bundle.tN "backtrace" "Ljava/lang/Object;") (by simp [xw_all])) (a' (.lays Bundle.tN Bundle.tN "backtrace" "Ljava/lang/Object;") (by simp [xw_all])) e.platform hpl
  obtain ⟨cellS, hcS', heS, -, hkeep⟩ := X.same.2.2.2.2.2 T.aS cellS0 hcS0
  have hcellS : W.heap[T.aS]? = some cellS := hcS'
  have hout' : ∀ i, (⟨T.aS, i⟩ : Loc) ∉ locs := fun i hmem => by
    have := hlocs _ hmem cellS0 hcS0
    rw [hiss] at this
    cases this
  have hknownS : cellS.vm ≠ .unknown := by
    rw [heS]
    intro hu
    rw [show cellS0.vm = .unknown from hu] at hiss
    cases hiss
  have hneS : T.aS ≠ a := Nat.ne_of_lt (Nat.lt_of_lt_of_le (Array.getElem?_eq_some_iff.mp hcS0).1 hnew)
  obtain ⟨iM, hffM⟩ := Y.msg
  obtain ⟨tyC, dC, hdC, hdnC⟩ := Cond.laysAt hfound hk Y.cause (a' (.lays cls Bundle.tN "cause" "Ljava/lang/Throwable;") (by simp [xw_all]))
  obtain ⟨tyS, dS, hdS, hdnS⟩ := Cond.laysAt hfound hk Y.stack (a' (.lays cls Bundle.tN "stackTrace" Bundle.steD) (by simp [xw_all]))
  obtain ⟨tyP, dP, hdP, hdnP⟩ := Cond.laysAt hfound hk Y.supp (a' (.lays cls Bundle.tN "suppressedExceptions" Bundle.listD) (by simp [xw_all]))
  obtain ⟨tyM, dM, hdM, hdnM⟩ := Cond.laysAt hfound hk hffM (a' (.lays cls Bundle.tN "detailMessage" "Ljava/lang/String;") (by simp [xw_all]))
  obtain ⟨tyB, dB, hdB, hdnB⟩ := Cond.laysAt hfound hk hffB (a' (.lays cls Bundle.tN "backtrace" "Ljava/lang/Object;") (by simp [xw_all]))
  have bC := Cond.laysApart hdB hdC hdnB hdnC (by rw [hnB, Y.causeName]; decide)
  have bS := Cond.laysApart hdB hdS hdnB hdnS (by rw [hnB, Y.stackName]; decide)
  have bP := Cond.laysApart hdB hdP hdnB hdnP (by rw [hnB, Y.suppName]; decide)
  have hskip : SkipFacts T e.platform s (fun u => u) u0 ((preparedCellV T.toThrowableT (freshCell P1.m.cls kX) a u0 sen).withEntry W.cur) :=
    ⟨{ ci198 := ci198, i198 := i198, fBack := fB }, ⟨hk198, hg198, ha198, hsB⟩, by
      have := fresh_default (c := P1.m.cls) tyB
      rw [htB] at this
      simpa [preparedCellV, Cell.setSlot, Cell.withEntry, Array.getElem?_setIfInBounds, bC, bS, bP, bC.symm, bS.symm, bP.symm, defaultValue] using this, fun _ _ => rfl⟩
  obtain ⟨tm, methC, cdC, kC, vm₁, hnC, -, -, -, -, -, -, -, hW₁, st1⟩ := Steps.initColdS (tb := p.tables) (e := e) (below := below) (s := s) (U := W) X.here hexec X.warmed hpl hown (t := Bundle.initS cls) rfl rfl (Bundle.fit_spec hcls).2
    (a' (.methodLink own ic (Bundle.initS cls)) (by simp [xw_all])) (h (.instanceMethod (Bundle.initS cls)) (by simp [xw_all, xw_chain, Bundle.passSAtoms])) (bytes := rx) (maxL := 2) (h (.code (Bundle.initS cls) rx 2 none) (by simp [xw_all, xw_chain, Bundle.passSAtoms]))
    (f := g) hg (a := a) (msg := msg) (rest := .ref a :: rest) hstack hd6
  cases Option.some.inj (hnC.symm.trans hP1m)
  have X₁ := X.noted hW₁
  obtain ⟨vm₂, X₂, st2⟩ := X₁.ctorMessageOffV hexec (g := { g with stack := .ref a :: rest }) hg hsize T L Z LZ M LM (P1 :: P2 :: Ps)
    (fun P hP => by
      rcases List.mem_cons.mp hP with rfl | hP
      · exact L1
      · rcases List.mem_cons.mp hP with rfl | hP
        · exact L2
        · exact hL P hP) ⟨hsup, hlink2, hlink⟩ (u0 := u0) (sen := sen) (self := a) hmsg (cell := freshCell P1.m.cls kX) (cellS := cellS)
    hcell (fun _ => by simp) (by simp) rfl rfl hsel0 hselF hcellS hneS hknownS (by rw [hkeep _ (hout' _)]; exact hu0) (by rw [hkeep _ (hout' _)]; exact hsen)
    (Takes.of_laid hk hord tyC (by rw [Y.causeType]; rfl)) (Takes.of_laid hk hord tyS (by rw [Y.stackType]; exact fits_refV_array _ u0)) (Takes.of_laid hk hord tyP (by rw [Y.suppType]; exact fits_refV_object _ sen))
    (Takes.of_laid hk hord tyM (by rw [Y.msgType]; exact fits_refV_object _ ⟨msg, hmsg⟩)) Y.objLocals hskip htr [] hd6
    (by simp only [List.length_cons, hlen]; omega) (by simp only [List.length_cons, hlen]; exact hRlocals)
  obtain ⟨hwalk, hrun, hended, hWU, hsame⟩ := X₂.athrowLeaves hexec (g := { g with stack := .ref a :: rest, pc := g.pc + 3 }) hg hlocked hentered hout (a := a) (rest := rest) rfl hd9
  have hlt : a < ((W.setVm vm₁).setVm vm₂).heap.size := (Array.getElem?_eq_some_iff.mp hcell).1
  have hU := heapAt_setCell_self (s := (W.setVm vm₁).setVm vm₂) (plainBareV T.toThrowableT (freshCell P1.m.cls kX) a u0 sen msg) hlt
  refine ⟨_, st1 _ (fun acts => ?_), hrun, hended, hWU, hsame.weaken (fun y hy hlt' => ?_) (Nat.le_refl _) (Nat.le_refl _), _, hU, hfound, rfl⟩
  · rw [doInvoke_state]
    exact st2 _ hwalk
  · rcases List.mem_append.mp hy with h1 | h1
    · exact h1
    · exfalso
      have hb : y.base = a := by
        simp only [List.mem_cons, List.not_mem_nil, or_false] at h1
        rcases h1 with rfl | rfl | rfl | rfl | rfl <;> rfl
      rw [hb] at hlt'
      exact Nat.not_lt.mpr hnew hlt'
end XCTOR
def xRX : ByteArray := ⟨#[0x2a, 0x2b, 0xb7, 0x00, 0x0d, 0xb1]⟩
def xRT : String := "java/lang/RuntimeException"
def xNM1 : List String := ["java/lang/Exception"]
section XTHROWW
variable {p : Program} {l : Launch} {e : Env} {R : Room} {s : State} {m : MethodId} {args : Array Value} {below : List Frame} {meth : Method} {c : Code} {H : Heap} {locs : List Loc} {cells slots : Nat} {free : Addr → Prop} {ls : Array Slot} {rest : List Value} {Qc : Array Value → State → Outcome → State → Prop} {XC : String → State → State → Prop}
set_option maxHeartbeats 4000000 in
theorem xc_throwSW {cc : ByteArray} {pc : Nat} (hexec : p.tables.exec = Jvm.exec) (hb : c.code = cc) (hl : l.stackTraces = false) {own text : String} {ik is ic mc ms sa : Nat} {A : Nat → Prop}
    (hown : s.vm.findClass own = some m.cls) (hcls : Bundle.fit xNSE = true) (hY1 : Bundle.fit xRT = true) (hnames : ∀ n ∈ xNM1, Bundle.fit n = true)
    (hk : (Cond.classLink own ik xNSE).before args s = true) (hini : (Cond.initialized xNSE).before args s = true) (hstr : vk_R own is text sa s) (hat : ∀ w ∈ xw_S own ic xNSE xRT 13 xRX xNM1, w.before args s = true)
    (hgood : ∀ w ∈ Cond.classLink own ik xNSE :: Cond.initialized xNSE :: xw_S own ic xNSE xRT 13 xRX xNM1, vx_ot w = true)
    (hU : vx_Zq Bundle.tN "UNASSIGNED_STACK" Bundle.steD A s s.heap) (hN : vx_Zq Bundle.tN "SUPPRESSED_SENTINEL" Bundle.listD A s s.heap) (hS : va_S A s.heap H locs) (hsize : ls.size = c.maxLocals)
    (d0 : decode cc pc = .ok (.new ik, 3)) (d3 : decode cc (pc + 3) = .ok (.dup, 1)) (d4 : decode cc (pc + 4) = .ok (.ldc_w is, 3)) (d7 : decode cc (pc + 7) = .ok (.invokespecial ic, 3)) (d10 : decode cc (pc + 10) = .ok (.athrow, 1))
    (hout : ∀ x ∈ c.exceptionTable.toList, covers x (pc + 10) = false)
    (hRframes : 6 ≤ R.frames) (hRlocals : (rest.map fun v => v.category).sum + 82 ≤ R.locals) (hRcells : cells + 1 ≤ R.cells) (hRslots : slots + 6 ≤ R.slots) (hlocks : meth.locks = false)
    (hx : ∀ t : State, s.vm.Alike t.vm → H.size ≤ t.heap.size → (∀ q : Nat, q < H.size → t.heap[q]? = H[q]?) → XC xNSE s t)
    (hf : ∀ z ∈ locs, free z.base) (hc : cells + 1 ≤ mc) (hs : slots + 6 ≤ ms) :
    W p l e R s m args below meth c H locs cells slots (vx_MQ below Qc XC args s mc ms free) (F0 m pc ls rest) := by
  intro T hT X
  have htr : e.platform.stackTraces = false := (show e.platform.stackTraces = l.stackTraces by rw [X.admits.platform]).trans hl
  have Y := vx_rebase X (R' := { frames := R.frames, locals := R.locals, cells := 1, slots := 6 }) (Nat.le_refl _) (Nat.le_refl _) hRcells hRslots
  obtain ⟨s', hA⟩ : ∃ z, z = (T.setVm s.vm).setFrames (.invoking m args :: below) := ⟨_, rfl⟩
  rw [← hA] at Y
  have hvm : s'.vm = s.vm := by rw [hA]; rfl
  have hhp : s'.heap = H := by rw [hA]; exact hT
  have hW0 : s.WarmedH s'.vm := by rw [hvm]; exact State.WarmedH.refl s
  have hat' : ∀ w ∈ xw_S own ic xNSE xRT 13 xRX xNM1, w.before args s' = true := fun w hw => vx_ot_at hW0 hvm.symm (hgood w (List.mem_cons_of_mem _ (List.mem_cons_of_mem _ hw))) (hat w hw)
  have hk' : (Cond.classLink own ik xNSE).before args s' = true := vx_ot_at hW0 hvm.symm (hgood _ List.mem_cons_self) hk
  have hini' : (Cond.initialized xNSE).before args s' = true := vx_ot_at hW0 hvm.symm (hgood _ (List.mem_cons_of_mem _ List.mem_cons_self)) hini
  have hU' : vx_Zq Bundle.tN "UNASSIGNED_STACK" Bundle.steD A s' s'.heap := by rw [hhp]; exact vx_Zq.moved hW0.alike (hU.kept hS.2.1)
  have hN' : vx_Zq Bundle.tN "SUPPRESSED_SENTINEL" Bundle.listD A s' s'.heap := by rw [hhp]; exact vx_Zq.moved hW0.alike (hN.kept hS.2.1)
  have h : ∀ w ∈ xw_all own ic xNSE xRT 13 xRX xNM1, w.before args s' = true := vx_own hat' (vx_isRefq hU'.1) (vx_isRefq hN'.1) hU'.2.word hN'.2.word
  have hown' : s'.vm.findClass own = some m.cls := by rw [hvm]; exact hown
  have hins : (Cond.instantiable xNSE 6).before args s' = true := h _ (by simp [xw_all])
  obtain ⟨vm₁, cX, kX, hfX, hkX, -, -, X₁, st1⟩ := Y.newCold hexec (own := own) (C := xNSE) (index := ik) (n := 6) hown' hk' hins hini'
    (g := F0 m pc ls rest) rfl (by rw [hb]; exact d0) (Nat.le_refl _) (Nat.le_refl _)
  generalize hT1 : (T.setVm vm₁).pushCell { cls := cX, slots := kX.instanceTypes.map defaultValue, vm := .none } = T1 at X₁ st1
  have hcat : (Value.ref T.heap.size).category = 1 := rfl
  have hcellA : T1.heap[T.heap.size]? = some (freshCell cX kX) := by rw [← hT1]; exact State.heap_pushCell_size _ _
  have d3' : decode c.code (pc + 3) = .ok (.dup, 1) := by rw [hb]; exact d3
  have d4' : decode c.code (pc + 4) = .ok (.ldc_w is, 3) := by rw [hb]; exact d4
  have hstr' : vk_R own is text sa s' := vk_R.warm hW0 hstr
  obtain ⟨U, hsteps, hrun, hend, hW, hsame, ce, hce, hOc, hOv⟩ := xc_throw X₁ hexec htr (own := own) (cls := xNSE) (Y1 := xRT) (names := xNM1) (ic := ic) (ix := 13) (rx := xRX) (by decide +kernel) (by decide +kernel) (by decide +kernel) (by decide +kernel) hown' hcls hY1 hnames h (fun x hx => nomatch hx) hfX hkX hcellA (by rw [hhp, hT]; exact Nat.le_refl _) (msg := .ref sa) rfl
    (g := { method := m, pc := pc + 7, locals := ls, stack := .ref sa :: .ref T.heap.size :: .ref T.heap.size :: rest, locked := none }) rfl hsize rfl rfl (rest := rest) rfl
    (by rw [hb]; exact d7) (by rw [hb]; exact d10) hout (by show 1 + 4 < R.frames; omega) (by show 2 * 0 + ((Value.ref _ :: rest).map fun v => v.category).sum + (13 * (1 + 2) + 42) ≤ R.locals; simp only [List.map_cons, List.sum_cons, hcat]; omega) hlocks
  obtain ⟨f1, f2⟩ := vx_frame hsame
  rw [hhp] at f1 f2
  have hWs : s.WarmedH U.vm := State.WarmedH.trans hW0 hW
  have hcl : s.vm.findClass xNSE = some ce.cls := by
    have h9 := hOc
    rw [hvm] at h9
    exact h9
  have hall : s.sameButNew ({ U with vm := s.vm } : State) locs mc ms := by
    subst hA
    obtain ⟨e1, e2⟩ := hsame
    rw [State.setFrames_setFrames] at e1
    have h2 : (T.setVm s.vm).sameButNew ({ U with vm := s.vm } : State) [] (0 + 1) (0 + 6) := ⟨e1, e2⟩
    have h3 := X.same.trans h2
    rw [List.append_nil] at h3
    exact h3.mono hc hs
  refine ⟨U, ?_, .threw T.heap.size, hrun, hend, Or.inr ⟨T.heap.size, rfl, xNSE, ce, locs, hx U hWs.alike f1 (fun q hq => f2 q hq (fun z hz => nomatch hz)), hce, hOv, hcl, hWs, hall, hf⟩⟩
  refine st1 _ ?_
  show Steps p.tables e below (T1.setTop { method := m, pc := pc + 3, locals := ls, stack := .ref T.heap.size :: rest, locked := none }) _
  jvm_step X₁.here [X₁.here.top, hexec, d3', Value.category]
  exact X₁.ldcStringW hexec (own := own) (text := text) (index := is) (a := sa) hown' hstr'.1 hstr'.2
    (g := { method := m, pc := pc + 4, locals := ls, stack := .ref T.heap.size :: .ref T.heap.size :: rest, locked := none }) rfl d4' _ hsteps
end XTHROWW
def xDC : List Cond := [Cond.declares (Bundle.initS "java/lang/RuntimeException"), Cond.declares (Bundle.initS "java/lang/Exception"), Cond.declares (Bundle.initS Bundle.tN)]
theorem atg_IAE : ∀ w ∈ (vx_atS RX11 94 xIAE xNM).filter goodWord, w ∈ lw_tbl := by decide +kernel
theorem atb_IAE : ∀ w ∈ (vx_atS RX11 94 xIAE xNM).filter (fun w => !goodWord w), w ∈ Cond.castable xIAE xIAE :: xDC := by decide +kernel
theorem ato_IAE : ∀ w ∈ Cond.classLink RX11 90 xIAE :: Cond.initialized xIAE :: vx_atS RX11 94 xIAE xNM, vx_ot w = true := by decide +kernel
theorem fit_IAE : Bundle.fit xIAE = true := by decide +kernel
theorem atg_NSE : ∀ w ∈ (xw_S RX11 362 xNSE xRT 13 xRX xNM1).filter goodWord, w ∈ lw_tbl := by decide +kernel
theorem atb_NSE : ∀ w ∈ (xw_S RX11 362 xNSE xRT 13 xRX xNM1).filter (fun w => !goodWord w), w ∈ Cond.castable xNSE xNSE :: xDC := by decide +kernel
theorem ato_NSE : ∀ w ∈ Cond.classLink RX11 358 xNSE :: Cond.initialized xNSE :: xw_S RX11 362 xNSE xRT 13 xRX xNM1, vx_ot w = true := by decide +kernel
theorem fit_NSE : Bundle.fit xNSE = true := by decide +kernel
theorem fit_RT : Bundle.fit xRT = true := by decide +kernel
theorem fit_NM : ∀ n ∈ xNM, Bundle.fit n = true := by decide +kernel
theorem fit_NM1 : ∀ n ∈ xNM1, Bundle.fit n = true := by decide +kernel
section THROW
variable {X : FX} {g : WC} {n nL mc ms k sl : Nat} {E E2 : Nat → va_E} {pc d : Nat} {lv : List (Nat × Value)} {st : List Value} {cc : ByteArray} {ret : Option FieldType} {text : String} {is j : Nat}
theorem at_all {e : String} {L : List Cond} (C : Cx X g RX11 cc nL) (h1 : ∀ w ∈ L.filter goodWord, w ∈ lw_tbl) (h2 : ∀ w ∈ L.filter (fun w => !goodWord w), w ∈ Cond.castable e e :: xDC) (h3 : va_Nw (.castable e e) (x_s X)) : ∀ w ∈ L, w.before (x_a X) (x_s X) = true := by
  have Y := C.2.2.2.2.2.2.2.2.2.2.2.2.1.1
  exact vx_hat (fun w hw => C.2.2.2.2.1 w (List.mem_filter.mpr ⟨h1 w hw, (List.mem_filter.mp hw).2⟩)) h2 (vx_c (va_Nw.use rfl h3) (vx_c (va_Nw.use rfl Y.2.2.2.2.1) (vx_c (va_Nw.use rfl Y.2.2.2.2.2.1) (vx_c (va_Nw.use rfl Y.2.2.2.2.2.2.1) vx_n))))
theorem XX_at {o : Sum Nat (Option Value)} {e : String} {H : Heap} {locs : List Loc} (ho : o = .inl j) (he : e = exn j) (hP : va_P (g_D g) vwCl (Wof (g_N g) n E) H) (hS : va_S (fun q => g_N g ≤ q) (x_s X).heap H locs) (t : State) (h1 : H.size ≤ t.heap.size) (h2 : ∀ q : Nat, q < H.size → t.heap[q]? = H[q]?) : XX g n E o e (x_s X) t :=
  ⟨j, ho, he, hP.kept (fun k q hk => h2 q.1 ((hP k q hk).lt)), Nat.le_trans hS.1 h1, fun q h3 h4 => (h2 q (Nat.lt_of_lt_of_le h4 hS.1)).trans (hS.2.1 q h4 (Nat.not_le.mpr h3))⟩
theorem e_throwIAE (C : Cx X g RX11 cc nL) (B : BX X g ret d mc ms n (.inl 2) E E2) (hx : (RX11, is, text) ∈ SRX) (h1 : k + 1 ≤ mc) (h2 : sl + 6 ≤ ms) (hs : (st.map fun v => v.category).sum ≤ 8) (d0 : decode cc pc = .ok (.new 90, 3)) (d3 : decode cc (pc + 3) = .ok (.dup, 1)) (d4 : decode cc (pc + 4) = .ok (.ldc is, 2)) (d6 : decode cc (pc + 6) = .ok (.invokespecial 94, 3)) (d9 : decode cc (pc + 9) = .ok (.athrow, 1)) : EW X g (x_s X).heap.size n nL E k sl pc lv st := fun H locs ls hP hz hS hl => by
  obtain ⟨sa, hsa⟩ := C.2.2.2.2.2.2.2.2.2.2.2.1 _ hx
  have Y := C.2.2.2.2.2.2.2.2.2.2.2.2.1
  rw [B.2.2.1]
  exact vx_throwS (cls := xIAE) (names := xNM) (A := fun q => g_N g ≤ q) C.1 C.2.1 (by rw [C.2.2.2.2.2.2.2.1]; exact C.2.2.2.2.2.2.2.2.2.2.2.2.2) C.2.2.2.1 fit_IAE fit_NM (C.2.2.2.2.1 _ cl_X11_90) (C.2.2.2.2.1 _ ini_IAE) hsa (at_all C atg_IAE atb_IAE Y.1.1) ato_IAE Y.2.1 Y.2.2.1 hS (hl.1.trans C.2.2.1.symm) d0 d3 d4 d6 d9 (fun x hx => (B.2.2.2 x hx).elim) (by rw [B.1]; simp [rmx, xNM]) (by rw [B.1]; simp only [rmx, xNM, List.length_cons, List.length_nil]; omega) (by rw [B.1]; exact h1) (by rw [B.1]; exact h2) C.2.2.2.2.2.2.1 (fun t _ g1 g2 => XX_at rfl rfl hP hS t g1 g2) hS.2.2 h1 h2
theorem e_throwIAEW (C : Cx X g RX11 cc nL) (B : BX X g ret d mc ms n (.inl 2) E E2) (hx : (RX11, is, text) ∈ SRX) (h1 : k + 1 ≤ mc) (h2 : sl + 6 ≤ ms) (hs : (st.map fun v => v.category).sum ≤ 8) (d0 : decode cc pc = .ok (.new 90, 3)) (d3 : decode cc (pc + 3) = .ok (.dup, 1)) (d4 : decode cc (pc + 4) = .ok (.ldc_w is, 3)) (d6 : decode cc (pc + 7) = .ok (.invokespecial 94, 3)) (d9 : decode cc (pc + 10) = .ok (.athrow, 1)) : EW X g (x_s X).heap.size n nL E k sl pc lv st := fun H locs ls hP hz hS hl => by
  obtain ⟨sa, hsa⟩ := C.2.2.2.2.2.2.2.2.2.2.2.1 _ hx
  have Y := C.2.2.2.2.2.2.2.2.2.2.2.2.1
  rw [B.2.2.1]
  exact vx_throwSW (cls := xIAE) (names := xNM) (A := fun q => g_N g ≤ q) C.1 C.2.1 (by rw [C.2.2.2.2.2.2.2.1]; exact C.2.2.2.2.2.2.2.2.2.2.2.2.2) C.2.2.2.1 fit_IAE fit_NM (C.2.2.2.2.1 _ cl_X11_90) (C.2.2.2.2.1 _ ini_IAE) hsa (at_all C atg_IAE atb_IAE Y.1.1) ato_IAE Y.2.1 Y.2.2.1 hS (hl.1.trans C.2.2.1.symm) d0 d3 d4 d6 d9 (fun x hx => (B.2.2.2 x hx).elim) (by rw [B.1]; simp [rmx, xNM]) (by rw [B.1]; simp only [rmx, xNM, List.length_cons, List.length_nil]; omega) (by rw [B.1]; exact h1) (by rw [B.1]; exact h2) C.2.2.2.2.2.2.1 (fun t _ g1 g2 => XX_at rfl rfl hP hS t g1 g2) hS.2.2 h1 h2
theorem e_throwNSEW (C : Cx X g RX11 cc nL) (B : BX X g ret d mc ms n (.inl 1) E E2) (hx : (RX11, is, text) ∈ SRX) (h1 : k + 1 ≤ mc) (h2 : sl + 6 ≤ ms) (hs : (st.map fun v => v.category).sum ≤ 8) (d0 : decode cc pc = .ok (.new 358, 3)) (d3 : decode cc (pc + 3) = .ok (.dup, 1)) (d4 : decode cc (pc + 4) = .ok (.ldc_w is, 3)) (d6 : decode cc (pc + 7) = .ok (.invokespecial 362, 3)) (d9 : decode cc (pc + 10) = .ok (.athrow, 1)) : EW X g (x_s X).heap.size n nL E k sl pc lv st := fun H locs ls hP hz hS hl => by
  obtain ⟨sa, hsa⟩ := C.2.2.2.2.2.2.2.2.2.2.2.1 _ hx
  have Y := C.2.2.2.2.2.2.2.2.2.2.2.2.1
  rw [B.2.2.1]
  exact xc_throwSW (A := fun q => g_N g ≤ q) C.1 C.2.1 (by rw [C.2.2.2.2.2.2.2.1]; exact C.2.2.2.2.2.2.2.2.2.2.2.2.2) C.2.2.2.1 fit_NSE fit_RT fit_NM1 (C.2.2.2.2.1 _ cl_X11_358) (C.2.2.2.2.1 _ ini_NSE) hsa (at_all C atg_NSE atb_NSE Y.1.2.1) ato_NSE Y.2.1 Y.2.2.1 hS (hl.1.trans C.2.2.1.symm) d0 d3 d4 d6 d9 (fun x hx => (B.2.2.2 x hx).elim) (by rw [B.1]; simp [rmx]) (by rw [B.1]; simp only [rmx]; omega) (by rw [B.1]; exact h1) (by rw [B.1]; exact h2) C.2.2.2.2.2.2.1 (fun t _ g1 g2 => XX_at rfl rfl hP hS t g1 g2) hS.2.2 h1 h2
end THROW
section XCALL
variable {X : FX} {g : WC} {z n nL mc2 ms2 : Nat} {E E2 : Nat → va_E} {k sl pc : Nat} {lv : List (Nat × Value)} {st st0 as : List Value} {own : String} {cc bytes : ByteArray} {y : MethodName} {maxL d2 idx : Nat} {ret : Option FieldType} {o : Sum Nat (Option Value)}
theorem e_xrun (hr : ∀ (H : Heap) (locs : List Loc) (ls : Array Slot), va_P (g_D g) vwCl (Wof (g_N g) n E) H → va_S (fun q => g_N g ≤ q) (x_s X).heap H locs → lv_has ls nL lv → ∃ aa, vx_Run (x_p X) (x_l X) (x_e X) (x_R X) (x_s X) (x_m X) (x_a X) (x_b X) (x_h X) (x_c X) H locs k sl mc2 ms2 (F0 (x_m X) pc ls st0) st (QX g n E2 o aa) (XX g n E o) (FR g))
    (kr : ∀ r, o = .inr r → EW X g z n nL E2 (k + mc2) (sl + ms2) (pc + 3) lv (r.toList ++ st))
    (kt : ∀ j, o = .inl j → ∀ (H : Heap) (locs : List Loc) (ls : Array Slot) (q : Addr) (ce : Cell), va_P (g_D g) vwCl (Wof (g_N g) n E) H → z ≤ H.size → va_S (fun q => g_N g ≤ q) (x_s X).heap H locs → lv_has ls nL lv → H[q]? = some ce → ce.vm = .none → (x_s X).vm.findClass (exn j) = some ce.cls → vx_W (x_p X) (x_l X) (x_e X) (x_R X) (x_s X) (x_m X) (x_a X) (x_b X) (x_h X) (x_c X) H locs (k + mc2) (sl + ms2) (x_Q X) (F0 (x_m X) pc ls st) q) : EW X g z n nL E k sl pc lv st0 := fun H locs ls hP hz hS hl => by
  obtain ⟨aa, hr⟩ := hr H locs ls hP hS hl
  intro T hT X1
  rcases hr T hT X1 with ⟨v, s0, t, T2, L, h0, X2, hL, e1, e2, ⟨r9, hor, q1, q2, q3, q4⟩, stp⟩ | ⟨q, s0, t, T2, L, En, ce, h0, X2, hL, e1, e2, ⟨j, hj, hEn, q2, q3, q4⟩, hce, hcv, hcl, stp⟩
  · cases q1
    obtain ⟨t2, a1, b1⟩ := kr _ hor T2.heap (locs ++ L) ls (by rw [e1]; exact q2) (by rw [e1, q3, h0]; exact hz)
      ⟨by rw [e1, q3, h0]; exact hS.1, fun q h1 h2 => by rw [e1, q4 q (Nat.not_le.mp h2), h0]; exact hS.2.1 q h1 h2, fun q hq => by
        rcases List.mem_append.mp hq with h | h
        · exact hS.2.2 q h
        · exact hL q h⟩ hl T2 rfl X2
    exact ⟨t2, stp t2 a1, b1⟩
  · rw [h0] at q3 q4
    obtain ⟨t2, a1, b1⟩ := kt j hj T2.heap (locs ++ L) ls q ce (by rw [e1]; exact q2) (by rw [e1]; omega)
      ⟨by rw [e1]; exact Nat.le_trans hS.1 q3, fun q h1 h2 => by rw [e1, q4 q (Nat.not_le.mp h2) (Nat.lt_of_lt_of_le h1 hS.1)]; exact hS.2.1 q h1 h2, fun q hq => by
        rcases List.mem_append.mp hq with h | h
        · exact hS.2.2 q h
        · exact hL q h⟩ hl (by rw [e1]; exact hce) hcv (by rw [← hEn]; exact hcl) T2 rfl X2
    exact ⟨t2, stp.trans a1, b1⟩
/-- what is thrown goes on to the caller -/
theorem e_prop {d mc ms : Nat} {ret2 : Option FieldType} {j : Nat} {E3 : Nat → va_E} (C : Cx X g own cc nL) (B : BX X g ret2 d mc ms n (.inl j) E E3) (h1 : k ≤ mc) (h2 : sl ≤ ms) : ∀ (H : Heap) (locs : List Loc) (ls : Array Slot) (q : Addr) (ce : Cell), va_P (g_D g) vwCl (Wof (g_N g) n E) H → z ≤ H.size → va_S (fun q => g_N g ≤ q) (x_s X).heap H locs → lv_has ls nL lv → H[q]? = some ce → ce.vm = .none → (x_s X).vm.findClass (exn j) = some ce.cls → vx_W (x_p X) (x_l X) (x_e X) (x_R X) (x_s X) (x_m X) (x_a X) (x_b X) (x_h X) (x_c X) H locs k sl (x_Q X) (F0 (x_m X) pc ls st) q := fun H locs ls q ce hP hz hS hl hce hcv hcl => by
  rw [B.2.2.1]
  exact vx_out (fun x hx => (B.2.2.2 x hx).elim) C.2.2.2.2.2.2.1 hce hcv hcl (fun t ht _ => XX_at rfl rfl hP hS t (by rw [ht]; exact Nat.le_refl _) (fun q _ => by rw [ht])) hS.2.2 h1 h2
theorem rmx_roomX {d mc ms mc9 ms9 : Nat} (h : x_R X = rmx d mc ms) (hdd : d2 < d) (hm : maxL ≤ 45) : (rmx d2 mc9 ms9).frames + 1 ≤ (x_R X).frames ∧ 8 + (maxL + 11) + (rmx d2 mc9 ms9).locals ≤ (x_R X).locals := by
  rw [h]
  simp only [rmx]
  omega
theorem callB_twX (C : Cx X g own cc nL) (P : CalP y bytes maxL ret as.length) (hl : Cond.methodLink own idx y ∈ TW) (hR : (rmx d2 mc2 ms2).frames + 1 ≤ (x_R X).frames ∧ 8 + (maxL + 11) + (rmx d2 mc2 ms2).locals ≤ (x_R X).locals) :
    CallB (x_R X) (x_s X) (x_a X) own idx y bytes maxL ret (.code y bytes maxL ret :: TW) (rmx d2 mc2 ms2) mc2 ms2 as.length :=
  callB_of as.length C.2.2.2.2.1 (good_code P.1) rfl rfl rfl (C.2.2.2.2.1 _ P.2.1) (C.2.2.2.2.1 _ hl) P.2.2.2 hR
theorem e_xcallV {i ci NF : Nat} {K : String} {T : u_T} {fs : List Value} (C : Cx X g own cc nL) (P : CalP y bytes maxL ret as.length) (him : Cond.instanceMethod y ∈ TW) (hse : Cond.selects K y y ∈ TW) (hl : Cond.methodLink own idx y ∈ TW) (hc : vwCl[ci]? = some (K, T, NF)) (hroom : (rmx d2 mc2 ms2).frames + 1 ≤ (x_R X).frames ∧ 8 + (maxL + 11) + (rmx d2 mc2 ms2).locals ≤ (x_R X).locals) (hd : decode cc pc = .ok (.invokevirtual idx, 3)) (hi : i < n) (he : E i = .inr (ci, fs)) (hM : MX g y bytes maxL ret d2 mc2 ms2 n (.ref (g_N g + i) :: as) E o E2) (hk : k + mc2 ≤ (x_R X).cells ∧ sl + ms2 ≤ (x_R X).slots) (hs : (st.map fun v => v.category).sum ≤ 8)
    (hst : st0 = as.reverse ++ .ref (g_N g + i) :: st)
    (kr : ∀ r, o = .inr r → EW X g z n nL E2 (k + mc2) (sl + ms2) (pc + 3) lv (r.toList ++ st))
    (kt : ∀ j, o = .inl j → ∀ (H : Heap) (locs : List Loc) (ls : Array Slot) (q : Addr) (ce : Cell), va_P (g_D g) vwCl (Wof (g_N g) n E) H → z ≤ H.size → va_S (fun q => g_N g ≤ q) (x_s X).heap H locs → lv_has ls nL lv → H[q]? = some ce → ce.vm = .none → (x_s X).vm.findClass (exn j) = some ce.cls → vx_W (x_p X) (x_l X) (x_e X) (x_R X) (x_s X) (x_m X) (x_a X) (x_b X) (x_h X) (x_c X) H locs (k + mc2) (sl + ms2) (x_Q X) (F0 (x_m X) pc ls st) q) : EW X g z n nL E k sl pc lv st0 :=
  e_xrun (fun H locs ls hP hS hlv => ⟨_, vx_runV (As := as) (rest := st) (C := K) (fix C) (C.2.2.2.2.2.2.2.1 ▸ hM) ⟨callB_twX C P hl hroom, C.2.2.2.2.1 _ him, C.2.2.2.2.1 _ hse⟩ ⟨PM_blind, recv_tw C hP hi he hc, fun U hU hW => pm_at C hP hS U hU hW⟩ rfl rfl hlv.1 hst (lv_room hs) hd hk⟩) kr kt
theorem e_xcallS (C : Cx X g own cc nL) (P : CalP y bytes maxL ret as.length) (hsm : Cond.static y ∈ TW) (hl : Cond.methodLink own idx y ∈ TW) (hroom : (rmx d2 mc2 ms2).frames + 1 ≤ (x_R X).frames ∧ 8 + (maxL + 11) + (rmx d2 mc2 ms2).locals ≤ (x_R X).locals) (hd : decode cc pc = .ok (.invokestatic idx, 3)) (hM : MX g y bytes maxL ret d2 mc2 ms2 n as E o E2) (hk : k + mc2 ≤ (x_R X).cells ∧ sl + ms2 ≤ (x_R X).slots) (hs : (st.map fun v => v.category).sum ≤ 8)
    (hst : st0 = as.reverse ++ st)
    (kr : ∀ r, o = .inr r → EW X g z n nL E2 (k + mc2) (sl + ms2) (pc + 3) lv (r.toList ++ st))
    (kt : ∀ j, o = .inl j → ∀ (H : Heap) (locs : List Loc) (ls : Array Slot) (q : Addr) (ce : Cell), va_P (g_D g) vwCl (Wof (g_N g) n E) H → z ≤ H.size → va_S (fun q => g_N g ≤ q) (x_s X).heap H locs → lv_has ls nL lv → H[q]? = some ce → ce.vm = .none → (x_s X).vm.findClass (exn j) = some ce.cls → vx_W (x_p X) (x_l X) (x_e X) (x_R X) (x_s X) (x_m X) (x_a X) (x_b X) (x_h X) (x_c X) H locs (k + mc2) (sl + ms2) (x_Q X) (F0 (x_m X) pc ls st) q) : EW X g z n nL E k sl pc lv st0 :=
  e_xrun (fun H locs ls hP hS hlv => ⟨_, vx_runS (As := as) (rest := st) (fix C) (C.2.2.2.2.2.2.2.1 ▸ hM) ⟨callB_twX C P hl hroom, C.2.2.2.2.1 _ hsm⟩ ⟨PM_blind, fun U hU hW => pm_at C hP hS U hU hW⟩ rfl rfl hlv.1 hst (lv_room hs) hd hk⟩) kr kt
end XCALL
