abbrev vwCl : List vw_C := [(RX0, TX0, 4), (RX1, TX1, 2), (RX2, TX2, 1), (RX3, TX3, 3), (RX4, TX4, 5), (RX5, TX5, 12), (RX6, TX6, 6), (RX7, TX7, 4), (RX8, TX8, 7), (RX9, TX9, 14), (RX10, TX10, 4), (RX11, TX11, 13), (RX12, TX12, 64)]
/-! ===== the abstract heap: what each cell holds, by the cell's number from the first one made on ===== -/
abbrev Mem : Type := Nat → Nat → Int32
def up (M : Mem) (i k : Nat) (x : Int32) : Mem := fun a => if a = i then upd (M i) k x else M a
theorem up_same {M : Mem} {i k : Nat} {x : Int32} : up M i k x i = upd (M i) k x := by simp [up]
theorem up_ne {M : Mem} {i j k : Nat} {x : Int32} (h : j ≠ i) : up M i k x j = M j := by simp [up, h]
/-- the world's constants: the launch, the first cell's address, the tables' numbers of classes and fields, those of the array classes, the addresses of texts and of their bytes -/
abbrev WC : Type := Launch × Nat × va_G × (Nat → ClassId) × (Nat → Nat) × (Nat → Nat)
abbrev g_l (g : WC) : Launch := g.1
abbrev g_N (g : WC) : Nat := g.2.1
abbrev g_D (g : WC) : va_G := g.2.2.1
abbrev g_ac (g : WC) : Nat → ClassId := g.2.2.2.1
abbrev g_sa (g : WC) : Nat → Nat := g.2.2.2.2.1
abbrev g_sv (g : WC) : Nat → Nat := g.2.2.2.2.2
def tysOf (g : WC) : List (ClassId × FieldType) := [(g_ac g 0, .int), (g_ac g 1, .boolean), (g_ac g 2, .long), (g_ac g 3, .object "java/lang/String")]
def Wof (N n : Nat) (E : Nat → va_E) : va_W := (List.range n).map (fun i => (N + i, E i))
def upE (E : Nat → va_E) (i : Nat) (x : va_E) : Nat → va_E := fun j => if j = i then x else E j
theorem Wof_get {N n i : Nat} {E : Nat → va_E} (h : i < n) : (Wof N n E)[i]? = some (N + i, E i) := by simp [Wof, h]
theorem Wof_at {N n k : Nat} {E : Nat → va_E} {q : Nat × va_E} (h : (Wof N n E)[k]? = some q) : k < n ∧ q = (N + k, E k) := by
  have hk : k < n := by
    have := (List.getElem?_eq_some_iff.mp h).1
    simpa [Wof] using this
  rw [Wof_get hk] at h
  exact ⟨hk, (Option.some.inj h).symm⟩
theorem Wof_set {N n i : Nat} {E : Nat → va_E} {x : va_E} (h : i < n) : (Wof N n E).set i (N + i, x) = Wof N n (upE E i x) := by
  apply List.ext_getElem?
  intro j
  by_cases hj : j < n
  · by_cases hij : i = j
    · subst hij
      simp [Wof, upE, h, List.getElem?_set]
    · simp [Wof, upE, hj, List.getElem?_set, hij, Ne.symm hij]
  · simp [Wof, List.getElem?_set, hj]
theorem Wof_D {N n : Nat} {E : Nat → va_E} : va_D (fun q => N ≤ q) (Wof N n E) := by
  refine ⟨fun i j p q hi hj h => ?_, fun k q hq => ?_⟩
  · obtain ⟨_, rfl⟩ := Wof_at hi
    obtain ⟨_, rfl⟩ := Wof_at hj
    simpa using h
  · obtain ⟨_, rfl⟩ := Wof_at hq
    exact Nat.le_add_right _ _
theorem Wof_congr {N n : Nat} {E E' : Nat → va_E} (h : ∀ i, i < n → E i = E' i) : Wof N n E = Wof N n E' := by
  apply List.map_congr_left
  intro i hi
  rw [h i (List.mem_range.mp hi)]
def xIAE : String := "java/lang/IllegalArgumentException"
def xNSE : String := "java/util/NoSuchElementException"
/-- what holds of JDK classes at every state: of exceptions, of two statics -/
def AY (A : Nat → Prop) (U : State) : Prop := (va_Nw (.castable xIAE xIAE) U ∧ va_Nw (.castable xNSE xNSE) U ∧ va_Nc xIAE xNSE U ∧ va_Nc xNSE xIAE U ∧ va_Nw (.declares (Bundle.initS "java/lang/RuntimeException")) U ∧ va_Nw (.declares (Bundle.initS "java/lang/Exception")) U ∧ va_Nw (.declares (Bundle.initS Bundle.tN)) U ∧ va_AO "java/lang/String" U) ∧ vx_Zq Bundle.tN "UNASSIGNED_STACK" Bundle.steD A U U.heap ∧ vx_Zq Bundle.tN "SUPPRESSED_SENTINEL" Bundle.listD A U U.heap ∧ va_Z "java/lang/String" "COMPACT_STRINGS" "Z" (.int 1) A U U.heap ∧ va_Zq "jdk/internal/util/Preconditions" "SIOOBE_FORMATTER" "Ljava/util/function/BiFunction;" A U U.heap
theorem AY.at {A : Nat → Prop} {s U : State} (h : AY A s) (hq : ∀ a : Nat, a < s.heap.size → ¬ A a → U.heap[a]? = s.heap[a]?) (hW : s.WarmedH U.vm) : AY A U := by
  obtain ⟨⟨a1, a2, a3, a4, a5, a6, a7, a8⟩, b1, b2, b3, b4⟩ := h
  exact ⟨⟨va_Nw.warmC hW a1, va_Nw.warmC hW a2, va_Nc.moved hW.alike a3, va_Nc.moved hW.alike a4, va_Nw.warmD hW a5, va_Nw.warmD hW a6, va_Nw.warmD hW a7, va_AO.moved hW.alike a8⟩, (vx_Zq.moved hW.alike b1).kept hq, (vx_Zq.moved hW.alike b2).kept hq, (va_Z.moved hW.alike b3).kept hq, (va_Zq.moved hW.alike b4).kept hq⟩
theorem AY.calling {A : Nat → Prop} {U : State} (gg : JFrame) (mk : MethodId) (a : Array Value) (h : AY A U) : AY A (U.calling gg mk a) := by
  obtain ⟨⟨a1, a2, a3, a4, a5, a6, a7, a8⟩, b1, b2, b3, b4⟩ := h
  exact ⟨⟨va_Nw.same (u := U) (U := U.calling gg mk a) rfl rfl a1, va_Nw.same (u := U) (U := U.calling gg mk a) rfl rfl a2, va_Nc.moved (u := U) (U := U.calling gg mk a) (Vm.Alike.refl U.vm) a3, va_Nc.moved (u := U) (U := U.calling gg mk a) (Vm.Alike.refl U.vm) a4, va_Nw.same (u := U) (U := U.calling gg mk a) rfl rfl a5, va_Nw.same (u := U) (U := U.calling gg mk a) rfl rfl a6, va_Nw.same (u := U) (U := U.calling gg mk a) rfl rfl a7, va_AO.moved (u := U) (U := U.calling gg mk a) (Vm.Alike.refl U.vm) a8⟩, vx_Zq.moved (u := U) (U := U.calling gg mk a) (Vm.Alike.refl U.vm) b1, vx_Zq.moved (u := U) (U := U.calling gg mk a) (Vm.Alike.refl U.vm) b2, va_Z.moved (u := U) (U := U.calling gg mk a) (Vm.Alike.refl U.vm) b3, va_Zq.moved (u := U) (U := U.calling gg mk a) (Vm.Alike.refl U.vm) b4⟩
/-- the texts of exceptions, by their places -/
def SRX : List (String × Nat × String) := [(RX11, 92, "the tape has not so many bytes"), (RX11, 360, "no such what"), (RX11, 365, "no such street"), (RX11, 367, "no such person"), (RX11, 369, "no such place"), (RX11, 363, "not as many as that"), (RX11, 334, "both are one")]
/-- what holds of the tables and texts at every state -/
def TS (g : WC) (A : Nat → Prop) (U : State) (H : Heap) : Prop := (∀ i : Nat, i < 38 → va_O "java/lang/String" (g_sa g i) A U H ∧ va_OF "java/lang/String" "coder" "B" (.int 0) (g_sa g i) A U H ∧ va_OF "java/lang/String" "value" "[B" (.ref (g_sv g i)) (g_sa g i) A U H ∧ va_T .byte (g_sv g i) (TXL.getD i 0) (fun j => .int ((TXB.getD i []).getD j 0)) A U H) ∧ True
theorem TS.moved {g : WC} {A : Nat → Prop} {u U : State} {H : Heap} (hvm : u.vm.Alike U.vm) (h : TS g A u H) : TS g A U H := ⟨fun i hi => ⟨va_O.moved hvm (h.1 i hi).1, va_OF.moved hvm (h.1 i hi).2.1, va_OF.moved hvm (h.1 i hi).2.2.1, va_T.moved hvm (h.1 i hi).2.2.2⟩, trivial⟩
theorem TS.kept {g : WC} {A : Nat → Prop} {U : State} {H H1 : Heap} (h : TS g A U H) (hq : ∀ a : Nat, a < H.size → ¬ A a → H1[a]? = H[a]?) : TS g A U H1 := ⟨fun i hi => ⟨(h.1 i hi).1.kept hq, (h.1 i hi).2.1.kept hq, (h.1 i hi).2.2.1.kept hq, (h.1 i hi).2.2.2.kept hq⟩, trivial⟩
def AX (g : WC) (U : State) : Prop := (∀ w ∈ NLW, va_Nw w U) ∧ (∀ q ∈ SRL, vk_R q.1 q.2.1 q.2.2.1 (g_sa g q.2.2.2) U) ∧ TS g (fun q => g_N g ≤ q) U U.heap ∧ (∀ q ∈ SRX, ∃ a, vk_R q.1 q.2.1 q.2.2 a U) ∧ AY (fun q => g_N g ≤ q) U ∧ (g_l g).stackTraces = false
theorem AX.at {g : WC} {s U : State} {H : Heap} {locs : List Loc} (h : AX g s) (hS : va_S (fun q => g_N g ≤ q) s.heap H locs) (hU : U.heap = H) (hW : s.WarmedH U.vm) : AX g U := by
  have hq : ∀ a : Nat, a < s.heap.size → ¬ g_N g ≤ a → U.heap[a]? = s.heap[a]? := fun a h1 h2 => by rw [hU]; exact hS.2.1 a h1 h2
  refine ⟨fun w hw => ?_, fun q hq => (h.2.1 q hq).warm hW, (h.2.2.1.moved hW.alike).kept hq, fun q hq => ?_, h.2.2.2.2.1.at hq hW, h.2.2.2.2.2⟩
  · obtain ⟨a, i, x, hh, rfl⟩ := NLW_nest w hw
    exact va_Nw.warmM hW (h.1 _ hw)
  · obtain ⟨a, ha⟩ := h.2.2.2.1 q hq
    exact ⟨a, ha.warm hW⟩
theorem AX.calling {g : WC} {U : State} (gg : JFrame) (mk : MethodId) (a : Array Value) (h : AX g U) : AX g (U.calling gg mk a) := by
  refine ⟨fun w hw => ?_, fun q hq => vk_R.same (u := U) (U := U.calling gg mk a) rfl (h.2.1 q hq), TS.moved (u := U) (U := U.calling gg mk a) (Vm.Alike.refl U.vm) h.2.2.1, fun q hq => ?_, h.2.2.2.2.1.calling gg mk a, h.2.2.2.2.2⟩
  · obtain ⟨b, i, x, hh, rfl⟩ := NLW_nest w hw
    exact va_Nw.same (u := U) (U := U.calling gg mk a) rfl rfl (h.1 _ hw)
  · obtain ⟨b, hb⟩ := h.2.2.2.1 q hq
    exact ⟨b, vk_R.same (u := U) (U := U.calling gg mk a) rfl hb⟩
/-- a walk's constants -/
abbrev FX : Type := Program × Launch × Env × Room × State × MethodId × Array Value × List Frame × Method × Code × (State → Prop)
abbrev x_p (X : FX) : Program := X.1
abbrev x_l (X : FX) : Launch := X.2.1
abbrev x_e (X : FX) : Env := X.2.2.1
abbrev x_R (X : FX) : Room := X.2.2.2.1
abbrev x_s (X : FX) : State := X.2.2.2.2.1
abbrev x_m (X : FX) : MethodId := X.2.2.2.2.2.1
abbrev x_a (X : FX) : Array Value := X.2.2.2.2.2.2.1
abbrev x_b (X : FX) : List Frame := X.2.2.2.2.2.2.2.1
abbrev x_h (X : FX) : Method := X.2.2.2.2.2.2.2.2.1
abbrev x_c (X : FX) : Code := X.2.2.2.2.2.2.2.2.2.1
abbrev x_Q (X : FX) : State → Prop := X.2.2.2.2.2.2.2.2.2.2
def Cx (X : FX) (g : WC) (own : String) (cc : ByteArray) (nL : Nat) : Prop :=
  (x_p X).tables.exec = Jvm.exec ∧ (x_c X).code = cc ∧ (x_c X).maxLocals = nL ∧ (x_s X).vm.findClass own = some (x_m X).cls ∧ (∀ w ∈ TW, w.before (x_a X) (x_s X) = true) ∧ va_K (g_D g) vwCl (tysOf g) (x_s X) ∧ (x_h X).locks = false ∧ x_l X = g_l g ∧ AX g (x_s X)
/-- the machine at pc, the locals lv, the stack st, n cells as E says, the heap z cells large, k cells and sl fields made: it comes to its end -/
def EW (X : FX) (g : WC) (z n nL : Nat) (E : Nat → va_E) (k sl pc : Nat) (lv : List (Nat × Value)) (st : List Value) : Prop :=
  ∀ (H : Heap) (locs : List Loc) (ls : Array Slot), va_P (g_D g) vwCl (Wof (g_N g) n E) H → H.size = z → va_S (fun q => g_N g ≤ q) (x_s X).heap H locs → lv_has ls nL lv →
    W (x_p X) (x_l X) (x_e X) (x_R X) (x_s X) (x_m X) (x_a X) (x_b X) (x_h X) (x_c X) H locs k sl (x_Q X) (F0 (x_m X) pc ls st)
section EWR
variable {X : FX} {g : WC} {z n nL : Nat} {E : Nat → va_E} {k sl pc : Nat} {lv : List (Nat × Value)} {st : List Value} {own : String} {cc : ByteArray}
theorem e_iconst (C : Cx X g own cc nL) {a : Int} (v : Int32) (hd : decode cc pc = .ok (.iconst a, 1)) (hv : Int32.ofInt a = v) (kk : EW X g z n nL E k sl (pc + 1) lv (.int v :: st)) : EW X g z n nL E k sl pc lv st := fun H locs ls hP hz hS hl => lv_iconst C.1 C.2.1 hd hv (kk H locs ls hP hz hS hl)
theorem e_bipush (C : Cx X g own cc nL) {a : Int} (v : Int32) (hd : decode cc pc = .ok (.bipush a, 2)) (hv : (Int8.ofInt a).toInt32 = v) (kk : EW X g z n nL E k sl (pc + 2) lv (.int v :: st)) : EW X g z n nL E k sl pc lv st := fun H locs ls hP hz hS hl => lv_bipush C.1 C.2.1 hd hv (kk H locs ls hP hz hS hl)
theorem e_sipush (C : Cx X g own cc nL) {a : Int} (v : Int32) (hd : decode cc pc = .ok (.sipush a, 3)) (hv : (Int16.ofInt a).toInt32 = v) (kk : EW X g z n nL E k sl (pc + 3) lv (.int v :: st)) : EW X g z n nL E k sl pc lv st := fun H locs ls hP hz hS hl => lv_sipush C.1 C.2.1 hd hv (kk H locs ls hP hz hS hl)
theorem e_lconst (C : Cx X g own cc nL) {a : Fin 2} (v : Int64) (hd : decode cc pc = .ok (.lconst a, 1)) (hv : Int64.ofNat (a : Nat) = v) (kk : EW X g z n nL E k sl (pc + 1) lv (.long v :: st)) : EW X g z n nL E k sl pc lv st := fun H locs ls hP hz hS hl => lv_lconst C.1 C.2.1 hd hv (kk H locs ls hP hz hS hl)
theorem e_ldc (C : Cx X g own cc nL) {i : Nat} {v : Int32} (hc : Cond.constant own i v ∈ TW) (hd : decode cc pc = .ok (.ldc i, 2)) (kk : EW X g z n nL E k sl (pc + 2) lv (.int v :: st)) : EW X g z n nL E k sl pc lv st := fun H locs ls hP hz hS hl => lv_ldc C.1 C.2.1 C.2.2.2.1 (C.2.2.2.2.1 _ hc) hd (kk H locs ls hP hz hS hl)
theorem e_ldcw (C : Cx X g own cc nL) {i : Nat} {v : Int32} (hc : Cond.constant own i v ∈ TW) (hd : decode cc pc = .ok (.ldc_w i, 3)) (kk : EW X g z n nL E k sl (pc + 3) lv (.int v :: st)) : EW X g z n nL E k sl pc lv st := fun H locs ls hP hz hS hl => lv_ldcw C.1 C.2.1 C.2.2.2.1 (C.2.2.2.2.1 _ hc) hd (kk H locs ls hP hz hS hl)
theorem e_ldc2 (C : Cx X g own cc nL) {i : Nat} {v : Int64} (hc : Cond.constantLong own i v ∈ TW) (hd : decode cc pc = .ok (.ldc2_w i, 3)) (kk : EW X g z n nL E k sl (pc + 3) lv (.long v :: st)) : EW X g z n nL E k sl pc lv st := fun H locs ls hP hz hS hl => lv_ldc2 C.1 C.2.1 C.2.2.2.1 (C.2.2.2.2.1 _ hc) hd (kk H locs ls hP hz hS hl)
theorem e_iload_n (C : Cx X g own cc nL) (j : Nat) {i : Nat} {kf : Fin 4} {x : Int32} (hd : decode cc pc = .ok (.iload_n kf, 1)) (hi : (kf : Nat) = i) (hj : lv[j]? = some (i, .int x)) (kk : EW X g z n nL E k sl (pc + 1) lv (.int x :: st)) : EW X g z n nL E k sl pc lv st := fun H locs ls hP hz hS hl => lv_iload_n C.1 C.2.1 hd hi (lv_at hl j hj) (kk H locs ls hP hz hS hl)
theorem e_iload (C : Cx X g own cc nL) (j : Nat) {i : Nat} {x : Int32} (hd : decode cc pc = .ok (.iload i, 2)) (hj : lv[j]? = some (i, .int x)) (kk : EW X g z n nL E k sl (pc + 2) lv (.int x :: st)) : EW X g z n nL E k sl pc lv st := fun H locs ls hP hz hS hl => lv_iload C.1 C.2.1 hd (lv_at hl j hj) (kk H locs ls hP hz hS hl)
theorem e_lload_n (C : Cx X g own cc nL) (j : Nat) {i : Nat} {kf : Fin 4} {x : Int64} (hd : decode cc pc = .ok (.lload_n kf, 1)) (hi : (kf : Nat) = i) (hj : lv[j]? = some (i, .long x)) (kk : EW X g z n nL E k sl (pc + 1) lv (.long x :: st)) : EW X g z n nL E k sl pc lv st := fun H locs ls hP hz hS hl => lv_lload_n C.1 C.2.1 hd hi (lv_at hl j hj) (kk H locs ls hP hz hS hl)
theorem e_lload (C : Cx X g own cc nL) (j : Nat) {i : Nat} {x : Int64} (hd : decode cc pc = .ok (.lload i, 2)) (hj : lv[j]? = some (i, .long x)) (kk : EW X g z n nL E k sl (pc + 2) lv (.long x :: st)) : EW X g z n nL E k sl pc lv st := fun H locs ls hP hz hS hl => lv_lload C.1 C.2.1 hd (lv_at hl j hj) (kk H locs ls hP hz hS hl)
theorem e_aload_n (C : Cx X g own cc nL) (j : Nat) {i : Nat} {kf : Fin 4} {x : Nat} (hd : decode cc pc = .ok (.aload_n kf, 1)) (hi : (kf : Nat) = i) (hj : lv[j]? = some (i, .ref x)) (kk : EW X g z n nL E k sl (pc + 1) lv (.ref x :: st)) : EW X g z n nL E k sl pc lv st := fun H locs ls hP hz hS hl => lv_aload_n C.1 C.2.1 hd hi (lv_at hl j hj) (kk H locs ls hP hz hS hl)
theorem e_aload (C : Cx X g own cc nL) (j : Nat) {i : Nat} {x : Nat} (hd : decode cc pc = .ok (.aload i, 2)) (hj : lv[j]? = some (i, .ref x)) (kk : EW X g z n nL E k sl (pc + 2) lv (.ref x :: st)) : EW X g z n nL E k sl pc lv st := fun H locs ls hP hz hS hl => lv_aload C.1 C.2.1 hd (lv_at hl j hj) (kk H locs ls hP hz hS hl)
theorem e_istore_n (C : Cx X g own cc nL) (lv2 : List (Nat × Value)) {i : Nat} {kf : Fin 4} {x : Int32} (hd : decode cc pc = .ok (.istore_n kf, 1)) (hi : (kf : Nat) = i) (hn : i < nL) (hv : (i, Value.int x) :: lv.filter (fun q => !(q.1 == i) && !(q.1 + 1 == i && q.2.category == 2)) = lv2) (kk : EW X g z n nL E k sl (pc + 1) lv2 st) : EW X g z n nL E k sl pc lv (.int x :: st) := fun H locs ls hP hz hS hl => lv_istore_n C.1 C.2.1 hd hi hl hn hv (fun ls2 hl2 => kk H locs ls2 hP hz hS hl2)
theorem e_istore (C : Cx X g own cc nL) (lv2 : List (Nat × Value)) {i : Nat} {x : Int32} (hd : decode cc pc = .ok (.istore i, 2)) (hn : i < nL) (hv : (i, Value.int x) :: lv.filter (fun q => !(q.1 == i) && !(q.1 + 1 == i && q.2.category == 2)) = lv2) (kk : EW X g z n nL E k sl (pc + 2) lv2 st) : EW X g z n nL E k sl pc lv (.int x :: st) := fun H locs ls hP hz hS hl => lv_istore C.1 C.2.1 hd hl hn hv (fun ls2 hl2 => kk H locs ls2 hP hz hS hl2)
theorem e_astore_n (C : Cx X g own cc nL) (lv2 : List (Nat × Value)) {i : Nat} {kf : Fin 4} {x : Nat} (hd : decode cc pc = .ok (.astore_n kf, 1)) (hi : (kf : Nat) = i) (hn : i < nL) (hv : (i, Value.ref x) :: lv.filter (fun q => !(q.1 == i) && !(q.1 + 1 == i && q.2.category == 2)) = lv2) (kk : EW X g z n nL E k sl (pc + 1) lv2 st) : EW X g z n nL E k sl pc lv (.ref x :: st) := fun H locs ls hP hz hS hl => lv_astore_n C.1 C.2.1 hd hi hl hn hv (fun ls2 hl2 => kk H locs ls2 hP hz hS hl2)
theorem e_astore (C : Cx X g own cc nL) (lv2 : List (Nat × Value)) {i : Nat} {x : Nat} (hd : decode cc pc = .ok (.astore i, 2)) (hn : i < nL) (hv : (i, Value.ref x) :: lv.filter (fun q => !(q.1 == i) && !(q.1 + 1 == i && q.2.category == 2)) = lv2) (kk : EW X g z n nL E k sl (pc + 2) lv2 st) : EW X g z n nL E k sl pc lv (.ref x :: st) := fun H locs ls hP hz hS hl => lv_astore C.1 C.2.1 hd hl hn hv (fun ls2 hl2 => kk H locs ls2 hP hz hS hl2)
theorem e_iinc (C : Cx X g own cc nL) (lv2 : List (Nat × Value)) (j : Nat) {i : Nat} {a : Int} {x : Int32} (v : Int32) (hd : decode cc pc = .ok (.iinc i a, 3)) (hj : lv[j]? = some (i, .int x)) (hx : Int32.ofInt a = v) (hn : i < nL) (hv : (i, Value.int (x + v)) :: lv.filter (fun q => !(q.1 == i) && !(q.1 + 1 == i && q.2.category == 2)) = lv2) (kk : EW X g z n nL E k sl (pc + 3) lv2 st) : EW X g z n nL E k sl pc lv st := fun H locs ls hP hz hS hl => lv_iinc C.1 C.2.1 hd hl hj (by rw [hx]) hn hv (fun ls2 hl2 => kk H locs ls2 hP hz hS hl2)
theorem e_dup (C : Cx X g own cc nL) {v : Value} (hd : decode cc pc = .ok (.dup, 1)) (hv : v.category = 1) (kk : EW X g z n nL E k sl (pc + 1) lv (v :: v :: st)) : EW X g z n nL E k sl pc lv (v :: st) := fun H locs ls hP hz hS hl => lv_dup C.1 C.2.1 hd hv (kk H locs ls hP hz hS hl)
theorem e_dup2 (C : Cx X g own cc nL) {v w : Value} (hd : decode cc pc = .ok (.dup2, 1)) (hv : v.category = 1) (hw : w.category = 1) (kk : EW X g z n nL E k sl (pc + 1) lv (v :: w :: v :: w :: st)) : EW X g z n nL E k sl pc lv (v :: w :: st) := fun H locs ls hP hz hS hl => lv_dup2_11 C.1 C.2.1 hd hv hw (kk H locs ls hP hz hS hl)
theorem e_pop (C : Cx X g own cc nL) {v : Value} (hd : decode cc pc = .ok (.pop, 1)) (hv : v.category = 1) (kk : EW X g z n nL E k sl (pc + 1) lv st) : EW X g z n nL E k sl pc lv (v :: st) := fun H locs ls hP hz hS hl => lv_pop C.1 C.2.1 hd hv (kk H locs ls hP hz hS hl)
theorem e_iadd (C : Cx X g own cc nL) {x y : Int32} (hd : decode cc pc = .ok (.iadd, 1)) (kk : EW X g z n nL E k sl (pc + 1) lv (.int (x + y) :: st)) : EW X g z n nL E k sl pc lv (.int y :: .int x :: st) := fun H locs ls hP hz hS hl => lv_iadd C.1 C.2.1 hd (kk H locs ls hP hz hS hl)
theorem e_isub (C : Cx X g own cc nL) {x y : Int32} (hd : decode cc pc = .ok (.isub, 1)) (kk : EW X g z n nL E k sl (pc + 1) lv (.int (x - y) :: st)) : EW X g z n nL E k sl pc lv (.int y :: .int x :: st) := fun H locs ls hP hz hS hl => lv_isub C.1 C.2.1 hd (kk H locs ls hP hz hS hl)
theorem e_imul (C : Cx X g own cc nL) {x y : Int32} (hd : decode cc pc = .ok (.imul, 1)) (kk : EW X g z n nL E k sl (pc + 1) lv (.int (x * y) :: st)) : EW X g z n nL E k sl pc lv (.int y :: .int x :: st) := fun H locs ls hP hz hS hl => lv_imul C.1 C.2.1 hd (kk H locs ls hP hz hS hl)
theorem e_iand (C : Cx X g own cc nL) {x y : Int32} (hd : decode cc pc = .ok (.iand, 1)) (kk : EW X g z n nL E k sl (pc + 1) lv (.int (x &&& y) :: st)) : EW X g z n nL E k sl pc lv (.int y :: .int x :: st) := fun H locs ls hP hz hS hl => lv_iand C.1 C.2.1 hd (kk H locs ls hP hz hS hl)
theorem e_ior (C : Cx X g own cc nL) {x y : Int32} (hd : decode cc pc = .ok (.ior, 1)) (kk : EW X g z n nL E k sl (pc + 1) lv (.int (x ||| y) :: st)) : EW X g z n nL E k sl pc lv (.int y :: .int x :: st) := fun H locs ls hP hz hS hl => lv_ior C.1 C.2.1 hd (kk H locs ls hP hz hS hl)
theorem e_ixor (C : Cx X g own cc nL) {x y : Int32} (hd : decode cc pc = .ok (.ixor, 1)) (kk : EW X g z n nL E k sl (pc + 1) lv (.int (x ^^^ y) :: st)) : EW X g z n nL E k sl pc lv (.int y :: .int x :: st) := fun H locs ls hP hz hS hl => lv_ixor C.1 C.2.1 hd (kk H locs ls hP hz hS hl)
theorem e_ishl (C : Cx X g own cc nL) {x y : Int32} (hd : decode cc pc = .ok (.ishl, 1)) (kk : EW X g z n nL E k sl (pc + 1) lv (.int (x <<< (y &&& 31)) :: st)) : EW X g z n nL E k sl pc lv (.int y :: .int x :: st) := fun H locs ls hP hz hS hl => lv_ishl C.1 C.2.1 hd (kk H locs ls hP hz hS hl)
theorem e_ishr (C : Cx X g own cc nL) {x y : Int32} (hd : decode cc pc = .ok (.ishr, 1)) (kk : EW X g z n nL E k sl (pc + 1) lv (.int (x >>> (y &&& 31)) :: st)) : EW X g z n nL E k sl pc lv (.int y :: .int x :: st) := fun H locs ls hP hz hS hl => lv_ishr C.1 C.2.1 hd (kk H locs ls hP hz hS hl)
def iushr (x y : Int32) : Int32 := (x.toUInt32 >>> (y.toUInt32 &&& Int32.toUInt32 31)).toInt32
def irem (x y : Int32) : Int32 := x - x / y * y
theorem e_iushr (C : Cx X g own cc nL) {x y : Int32} (hd : decode cc pc = .ok (.iushr, 1)) (kk : EW X g z n nL E k sl (pc + 1) lv (.int (iushr x y) :: st)) : EW X g z n nL E k sl pc lv (.int y :: .int x :: st) := fun H locs ls hP hz hS hl => lv_iushr C.1 C.2.1 hd rfl (kk H locs ls hP hz hS hl)
theorem e_idiv (C : Cx X g own cc nL) {x y : Int32} (hd : decode cc pc = .ok (.idiv, 1)) (hy : ¬ y = 0) (kk : EW X g z n nL E k sl (pc + 1) lv (.int (x / y) :: st)) : EW X g z n nL E k sl pc lv (.int y :: .int x :: st) := fun H locs ls hP hz hS hl => lv_idiv C.1 C.2.1 hd hy (kk H locs ls hP hz hS hl)
theorem e_irem (C : Cx X g own cc nL) {x y : Int32} (hd : decode cc pc = .ok (.irem, 1)) (hy : ¬ y = 0) (kk : EW X g z n nL E k sl (pc + 1) lv (.int (irem x y) :: st)) : EW X g z n nL E k sl pc lv (.int y :: .int x :: st) := fun H locs ls hP hz hS hl => lv_irem C.1 C.2.1 hd hy (kk H locs ls hP hz hS hl)
theorem e_i2l (C : Cx X g own cc nL) {x : Int32} (hd : decode cc pc = .ok (.i2l, 1)) (kk : EW X g z n nL E k sl (pc + 1) lv (.long x.toInt64 :: st)) : EW X g z n nL E k sl pc lv (.int x :: st) := fun H locs ls hP hz hS hl => lv_i2l C.1 C.2.1 hd rfl (kk H locs ls hP hz hS hl)
theorem e_lcmp (C : Cx X g own cc nL) {x y : Int64} (hd : decode cc pc = .ok (.lcmp, 1)) (kk : EW X g z n nL E k sl (pc + 1) lv (.int (lg_cmp x y) :: st)) : EW X g z n nL E k sl pc lv (.long y :: .long x :: st) := fun H locs ls hP hz hS hl => W.lcmp C.1 C.2.1 hd (kk H locs ls hP hz hS hl)
theorem e_goto (C : Cx X g own cc nL) (tgt : Nat) {off : Int} (hd : decode cc pc = .ok (.goto off, 3)) (ht : (pc : Int) + off = (tgt : Int)) (kk : EW X g z n nL E k sl tgt lv st) : EW X g z n nL E k sl pc lv st := fun H locs ls hP hz hS hl => lv_goto C.1 C.2.1 hd ht (kk H locs ls hP hz hS hl)
theorem e_icmp_eq (C : Cx X g own cc nL) (tgt : Nat) {x y : Int32} {off : Int} (hd : decode cc pc = .ok (.if_icmp .eq off, 3)) (ht : (pc : Int) + off = (tgt : Int)) (kt : x = y → EW X g z n nL E k sl tgt lv st) (kf : ¬ x = y → EW X g z n nL E k sl (pc + 3) lv st) : EW X g z n nL E k sl pc lv (.int y :: .int x :: st) := fun H locs ls hP hz hS hl => lv_icmp_eq C.1 C.2.1 hd ht (fun h => kt h H locs ls hP hz hS hl) (fun h => kf h H locs ls hP hz hS hl)
theorem e_if_eq (C : Cx X g own cc nL) (tgt : Nat) {x : Int32} {off : Int} (hd : decode cc pc = .ok (.ifCond .eq off, 3)) (ht : (pc : Int) + off = (tgt : Int)) (kt : x = 0 → EW X g z n nL E k sl tgt lv st) (kf : ¬ x = 0 → EW X g z n nL E k sl (pc + 3) lv st) : EW X g z n nL E k sl pc lv (.int x :: st) := fun H locs ls hP hz hS hl => lv_if_eq C.1 C.2.1 hd ht (fun h => kt h H locs ls hP hz hS hl) (fun h => kf h H locs ls hP hz hS hl)
theorem e_icmp_ne (C : Cx X g own cc nL) (tgt : Nat) {x y : Int32} {off : Int} (hd : decode cc pc = .ok (.if_icmp .ne off, 3)) (ht : (pc : Int) + off = (tgt : Int)) (kt : ¬ x = y → EW X g z n nL E k sl tgt lv st) (kf : x = y → EW X g z n nL E k sl (pc + 3) lv st) : EW X g z n nL E k sl pc lv (.int y :: .int x :: st) := fun H locs ls hP hz hS hl => lv_icmp_ne C.1 C.2.1 hd ht (fun h => kt h H locs ls hP hz hS hl) (fun h => kf h H locs ls hP hz hS hl)
theorem e_if_ne (C : Cx X g own cc nL) (tgt : Nat) {x : Int32} {off : Int} (hd : decode cc pc = .ok (.ifCond .ne off, 3)) (ht : (pc : Int) + off = (tgt : Int)) (kt : ¬ x = 0 → EW X g z n nL E k sl tgt lv st) (kf : x = 0 → EW X g z n nL E k sl (pc + 3) lv st) : EW X g z n nL E k sl pc lv (.int x :: st) := fun H locs ls hP hz hS hl => lv_if_ne C.1 C.2.1 hd ht (fun h => kt h H locs ls hP hz hS hl) (fun h => kf h H locs ls hP hz hS hl)
theorem e_icmp_lt (C : Cx X g own cc nL) (tgt : Nat) {x y : Int32} {off : Int} (hd : decode cc pc = .ok (.if_icmp .lt off, 3)) (ht : (pc : Int) + off = (tgt : Int)) (kt : x < y → EW X g z n nL E k sl tgt lv st) (kf : ¬ x < y → EW X g z n nL E k sl (pc + 3) lv st) : EW X g z n nL E k sl pc lv (.int y :: .int x :: st) := fun H locs ls hP hz hS hl => lv_icmp_lt C.1 C.2.1 hd ht (fun h => kt h H locs ls hP hz hS hl) (fun h => kf h H locs ls hP hz hS hl)
theorem e_if_lt (C : Cx X g own cc nL) (tgt : Nat) {x : Int32} {off : Int} (hd : decode cc pc = .ok (.ifCond .lt off, 3)) (ht : (pc : Int) + off = (tgt : Int)) (kt : x < 0 → EW X g z n nL E k sl tgt lv st) (kf : ¬ x < 0 → EW X g z n nL E k sl (pc + 3) lv st) : EW X g z n nL E k sl pc lv (.int x :: st) := fun H locs ls hP hz hS hl => lv_if_lt C.1 C.2.1 hd ht (fun h => kt h H locs ls hP hz hS hl) (fun h => kf h H locs ls hP hz hS hl)
theorem e_icmp_ge (C : Cx X g own cc nL) (tgt : Nat) {x y : Int32} {off : Int} (hd : decode cc pc = .ok (.if_icmp .ge off, 3)) (ht : (pc : Int) + off = (tgt : Int)) (kt : y ≤ x → EW X g z n nL E k sl tgt lv st) (kf : ¬ y ≤ x → EW X g z n nL E k sl (pc + 3) lv st) : EW X g z n nL E k sl pc lv (.int y :: .int x :: st) := fun H locs ls hP hz hS hl => lv_icmp_ge C.1 C.2.1 hd ht (fun h => kt h H locs ls hP hz hS hl) (fun h => kf h H locs ls hP hz hS hl)
theorem e_if_ge (C : Cx X g own cc nL) (tgt : Nat) {x : Int32} {off : Int} (hd : decode cc pc = .ok (.ifCond .ge off, 3)) (ht : (pc : Int) + off = (tgt : Int)) (kt : 0 ≤ x → EW X g z n nL E k sl tgt lv st) (kf : ¬ 0 ≤ x → EW X g z n nL E k sl (pc + 3) lv st) : EW X g z n nL E k sl pc lv (.int x :: st) := fun H locs ls hP hz hS hl => lv_if_ge C.1 C.2.1 hd ht (fun h => kt h H locs ls hP hz hS hl) (fun h => kf h H locs ls hP hz hS hl)
theorem e_icmp_gt (C : Cx X g own cc nL) (tgt : Nat) {x y : Int32} {off : Int} (hd : decode cc pc = .ok (.if_icmp .gt off, 3)) (ht : (pc : Int) + off = (tgt : Int)) (kt : y < x → EW X g z n nL E k sl tgt lv st) (kf : ¬ y < x → EW X g z n nL E k sl (pc + 3) lv st) : EW X g z n nL E k sl pc lv (.int y :: .int x :: st) := fun H locs ls hP hz hS hl => lv_icmp_gt C.1 C.2.1 hd ht (fun h => kt h H locs ls hP hz hS hl) (fun h => kf h H locs ls hP hz hS hl)
theorem e_if_gt (C : Cx X g own cc nL) (tgt : Nat) {x : Int32} {off : Int} (hd : decode cc pc = .ok (.ifCond .gt off, 3)) (ht : (pc : Int) + off = (tgt : Int)) (kt : 0 < x → EW X g z n nL E k sl tgt lv st) (kf : ¬ 0 < x → EW X g z n nL E k sl (pc + 3) lv st) : EW X g z n nL E k sl pc lv (.int x :: st) := fun H locs ls hP hz hS hl => lv_if_gt C.1 C.2.1 hd ht (fun h => kt h H locs ls hP hz hS hl) (fun h => kf h H locs ls hP hz hS hl)
theorem e_icmp_le (C : Cx X g own cc nL) (tgt : Nat) {x y : Int32} {off : Int} (hd : decode cc pc = .ok (.if_icmp .le off, 3)) (ht : (pc : Int) + off = (tgt : Int)) (kt : x ≤ y → EW X g z n nL E k sl tgt lv st) (kf : ¬ x ≤ y → EW X g z n nL E k sl (pc + 3) lv st) : EW X g z n nL E k sl pc lv (.int y :: .int x :: st) := fun H locs ls hP hz hS hl => lv_icmp_le C.1 C.2.1 hd ht (fun h => kt h H locs ls hP hz hS hl) (fun h => kf h H locs ls hP hz hS hl)
theorem e_if_le (C : Cx X g own cc nL) (tgt : Nat) {x : Int32} {off : Int} (hd : decode cc pc = .ok (.ifCond .le off, 3)) (ht : (pc : Int) + off = (tgt : Int)) (kt : x ≤ 0 → EW X g z n nL E k sl tgt lv st) (kf : ¬ x ≤ 0 → EW X g z n nL E k sl (pc + 3) lv st) : EW X g z n nL E k sl pc lv (.int x :: st) := fun H locs ls hP hz hS hl => lv_if_le C.1 C.2.1 hd ht (fun h => kt h H locs ls hP hz hS hl) (fun h => kf h H locs ls hP hz hS hl)
theorem e_tsOut (C : Cx X g own cc nL) (tgt : Nat) {dflt lo hi : Int} {offs : Array Int} {len : Nat} {x : Int32} (hd : decode cc pc = .ok (.tableswitch dflt lo hi offs, len)) (h : x.toInt < lo ∨ hi < x.toInt) (ht : (pc : Int) + dflt = (tgt : Int)) (kk : EW X g z n nL E k sl tgt lv st) : EW X g z n nL E k sl pc lv (.int x :: st) := fun H locs ls hP hz hS hl => lv_tableOut C.1 C.2.1 hd h ht (kk H locs ls hP hz hS hl)
theorem e_tsIn (C : Cx X g own cc nL) (tgt : Nat) {dflt lo hi : Int} {offs : Array Int} {len : Nat} {x : Int32} {off : Int} (hd : decode cc pc = .ok (.tableswitch dflt lo hi offs, len)) (h1 : ¬ x.toInt < lo) (h2 : ¬ hi < x.toInt) (ho : offs[(x.toInt - lo).toNat]? = some off) (ht : (pc : Int) + off = (tgt : Int)) (kk : EW X g z n nL E k sl tgt lv st) : EW X g z n nL E k sl pc lv (.int x :: st) := fun H locs ls hP hz hS hl => lv_tableIn C.1 C.2.1 hd h1 h2 ho ht (kk H locs ls hP hz hS hl)
theorem e_lv (js : List Nat) {lv2 : List (Nat × Value)} (h : lv_pick lv js = lv2) (kk : EW X g z n nL E k sl pc lv2 st) : EW X g z n nL E k sl pc lv st := fun H locs ls hP hz hS hl => kk H locs ls hP hz hS (lv_sub hl js h)
theorem e_E {E2 : Nat → va_E} (h : ∀ i, i < n → E i = E2 i) (kk : EW X g z n nL E2 k sl pc lv st) : EW X g z n nL E k sl pc lv st := fun H locs ls hP hz hS hl => kk H locs ls (by rw [← Wof_congr h]; exact hP) hz hS hl
theorem e_wide {k2 sl2 : Nat} (h1 : k ≤ k2) (h2 : sl ≤ sl2) (kk : EW X g z n nL E k2 sl2 pc lv st) : EW X g z n nL E k sl pc lv st := fun H locs ls hP hz hS hl => W.widen h1 h2 (kk H locs ls hP hz hS hl)
/-- a field is read -/
theorem e_get (C : Cx X g own cc nL) {ref K : String} {T : u_T} {NF ci index i kf : Nat} {fs : List Value} {v : Value} (hin : ∀ w ∈ u_ws K T NF, w ∈ TW) (hc : vwCl[ci]? = some (K, T, NF)) (hk : kf < NF) (hl : Cond.fieldLink own index ref (T kf).2.1 (T kf).2.2.1 ∈ TW) (hr : (T kf).1 = ref) (hd : decode cc pc = .ok (.getfield index, 3)) (hi : i < n) (he : E i = .inr (ci, fs)) (hv : fs[kf]? = some v) (kk : EW X g z n nL E k sl (pc + 3) lv (v :: st)) : EW X g z n nL E k sl pc lv (.ref (g_N g + i) :: st) := fun H locs ls hP hz hS hlv =>
  va_get C.1 C.2.1 C.2.2.2.2.1 hin C.2.2.2.1 C.2.2.2.2.2.1 hP i (by rw [Wof_get hi, he]) hc kf hk (C.2.2.2.2.1 _ hl) (by subst hr; exact fun _ h => h) hv hd (kk H locs ls hP hz hS hlv)
theorem va_P_upE {N i : Nat} {D : va_G} {cl : List vw_C} {x : va_E} {H H1 : Heap} (hP : va_P D cl (Wof N n E) H) (hi : i < n) (he : va_at D cl (N + i, x) H1) (oq : ∀ q : Nat, q ≠ N + i → H1[q]? = H[q]?) : va_P D cl (Wof N n (upE E i x)) H1 := by
  rw [← Wof_set hi]
  exact hP.set Wof_D (Wof_get hi) he oq
/-- a field is written, not a final one -/
theorem e_put (C : Cx X g own cc nL) {ref K : String} {T : u_T} {NF ci index i kf : Nat} {fs : List Value} {v : Value} {ty : FieldType} (ty0 : Nat → FieldType) (hty : ∀ k, k < NF → parseFieldDescriptor (T k).2.2.1 = some (ty0 k)) (hnm : ∀ a, a < NF → ∀ b, b < NF → a ≠ b → (T a).2.1 ≠ (T b).2.1) (hin : ∀ w ∈ u_ws K T NF, w ∈ TW) (hc : vwCl[ci]? = some (K, T, NF)) (hk : kf < NF) (hl : Cond.fieldLink own index ref (T kf).2.1 (T kf).2.2.1 ∈ TW) (hr : (T kf).1 = ref) (hfin : (T kf).2.2.2 = false) (hdt : parseFieldDescriptor (T kf).2.2.1 = some ty) (hd : decode cc pc = .ok (.putfield index, 3)) (hnar : narrow ty v = v) (hfit : fits ty v = true) (hi : i < n) (he : E i = .inr (ci, fs)) (hlen : kf < fs.length) (kk : EW X g z n nL (upE E i (.inr (ci, fs.set kf v))) k sl (pc + 3) lv st) : EW X g z n nL E k sl pc lv (v :: .ref (g_N g + i) :: st) := fun H locs ls hP hz hS hlv => by
  have hts := C.2.2.2.2.1
  have hK := C.2.2.2.2.2.1
  have hap := va_apart (own := own) hts hin ty0 hty hnm hK hc
  obtain ⟨r, h1, cell, q1, q2, q3, q4⟩ := hP i _ (by rw [Wof_get hi, he])
  have hrr : r = (K, T, NF) := Option.some.inj (h1.symm.trans hc)
  subst hrr
  obtain ⟨hSl, hfc, kC, hkC, hkind⟩ := hK.1 ci _ hc
  obtain ⟨cf, kf2, fi, f, hfi, hsl⟩ := hSl kf hk
  have hlay := hts _ (hin _ (u_in_lay hk))
  unfold u_lay at hlay
  rw [if_neg (by rw [hfin]; decide)] at hlay
  have hst := (u_facts hfc hkC (u_lays hts hin hk) hfi).1
  have h6 := u_store hfc hkC hkind hlay hfi hdt hnar hfit
  subst hr
  refine W.putK C.1 C.2.1 (f := f) ⟨C.2.2.2.1, hts _ hl, ⟨_, _, _, hfi⟩, hst⟩ (by rw [q2]; exact h6) q1 q3 (by rw [hsl]; exact k2_hasslot (q4 kf hk)) rfl rfl hd fun H' e1 e2 e3 => ?_
  rw [hsl] at e1 ⊢
  exact kk H' _ ls (va_P_upE hP hi ⟨_, hc, t_OB.to (V := updV (vp_V fs) kf v) ⟨_, e1, q2, q3, t_set q4 hap hk v⟩ (fun j _ => vp_updV_set hlen v j)⟩ e3) (e2.trans hz) (hS.put e2 e3 (Nat.le_add_right _ _)) hlv
/-- a final field is written, in its constructor -/
theorem e_putF (C : Cx X g own cc nL) (hinit : (x_h X).name = "<init>") {ref K : String} {T : u_T} {NF ci index i kf : Nat} {fs : List Value} {v : Value} {ty : FieldType} (ty0 : Nat → FieldType) (hty : ∀ k, k < NF → parseFieldDescriptor (T k).2.2.1 = some (ty0 k)) (hnm : ∀ a, a < NF → ∀ b, b < NF → a ≠ b → (T a).2.1 ≠ (T b).2.1) (hin : ∀ w ∈ u_ws K T NF, w ∈ TW) (hc : vwCl[ci]? = some (K, T, NF)) (hk : kf < NF) (hl : Cond.fieldLink own index ref (T kf).2.1 (T kf).2.2.1 ∈ TW) (hr : (T kf).1 = ref) (hr2 : (T kf).1 = own) (hfin : (T kf).2.2.2 = true) (hdt : parseFieldDescriptor (T kf).2.2.1 = some ty) (hd : decode cc pc = .ok (.putfield index, 3)) (hnar : narrow ty v = v) (hfit : fits ty v = true) (hi : i < n) (he : E i = .inr (ci, fs)) (hlen : kf < fs.length) (kk : EW X g z n nL (upE E i (.inr (ci, fs.set kf v))) k sl (pc + 3) lv st) : EW X g z n nL E k sl pc lv (v :: .ref (g_N g + i) :: st) := fun H locs ls hP hz hS hlv => by
  have hts := C.2.2.2.2.1
  have hK := C.2.2.2.2.2.1
  have hap := va_apart (own := own) hts hin ty0 hty hnm hK hc
  obtain ⟨r, h1, cell, q1, q2, q3, q4⟩ := hP i _ (by rw [Wof_get hi, he])
  have hrr : r = (K, T, NF) := Option.some.inj (h1.symm.trans hc)
  subst hrr
  obtain ⟨hSl, hfc, kC, hkC, hkind⟩ := hK.1 ci _ hc
  obtain ⟨cf, kf2, fi, f, hfi, hsl⟩ := hSl kf hk
  have hlay := hts _ (hin _ (u_in_lay hk))
  unfold u_lay at hlay
  rw [if_pos hfin] at hlay
  have hst := (u_facts hfc hkC (u_lays hts hin hk) hfi).1
  have hcf : (x_m X).cls = cf := by
    obtain ⟨_, _, c', _, _, _, -, -, hf', -, -, -, hown2, -⟩ := Cond.laysFinal_spec hlay
    have e1 : c' = cf := by have := hfi.symm.trans hf'; simp at this; exact this.1.symm
    rw [hr2] at hown2
    rw [← e1]
    exact Option.some.inj (C.2.2.2.1.symm.trans hown2)
  have h6 := u_fits hfc hkC hkind (Or.inr hlay) hfi hdt hnar hfit
  subst hr
  refine W.putFinK C.1 C.2.1 C.2.2.2.1 (hts _ hl) hfi hst hcf hinit (by rw [q2]; exact h6) q1 q3 (by rw [hsl]; exact k2_hasslot (q4 kf hk)) rfl rfl hd fun H' e1 e2 e3 => ?_
  rw [hsl] at e1 ⊢
  exact kk H' _ ls (va_P_upE hP hi ⟨_, hc, t_OB.to (V := updV (vp_V fs) kf v) ⟨_, e1, q2, q3, t_set q4 hap hk v⟩ (fun j _ => vp_updV_set hlen v j)⟩ e3) (e2.trans hz) (hS.put e2 e3 (Nat.le_add_right _ _)) hlv
/-- arrays of ints, of booleans, of longs -/
theorem e_iald (C : Cx X g own cc nL) {i N : Nat} {f : Nat → Int32} {x : Int32} (hd : decode cc pc = .ok (.iaload, 1)) (hi : i < n) (he : E i = .inl (g_ac g 0, N, .inl f)) (hin : vp_in x N) (kk : EW X g z n nL E k sl (pc + 1) lv (.int (f x.toNatClampNeg) :: st)) : EW X g z n nL E k sl pc lv (.int x :: .ref (g_N g + i) :: st) := fun H locs ls hP hz hS hl =>
  va_iald C.1 C.2.1 C.2.2.2.2.2.1 hP i 0 (by rw [Wof_get hi, he]) rfl hin hd (kk H locs ls hP hz hS hl)
theorem e_zald (C : Cx X g own cc nL) {i N : Nat} {f : Nat → Int32} {x : Int32} (hd : decode cc pc = .ok (.baload, 1)) (hi : i < n) (he : E i = .inl (g_ac g 1, N, .inl f)) (hin : vp_in x N) (kk : EW X g z n nL E k sl (pc + 1) lv (.int (f x.toNatClampNeg) :: st)) : EW X g z n nL E k sl pc lv (.int x :: .ref (g_N g + i) :: st) := fun H locs ls hP hz hS hl =>
  va_zald C.1 C.2.1 C.2.2.2.2.2.1 hP i 1 (by rw [Wof_get hi, he]) rfl hin hd (kk H locs ls hP hz hS hl)
theorem e_lald (C : Cx X g own cc nL) {i N : Nat} {f : Nat → Int64} {x : Int32} (hd : decode cc pc = .ok (.laload, 1)) (hi : i < n) (he : E i = .inl (g_ac g 2, N, .inr (.inl f))) (hin : vp_in x N) (kk : EW X g z n nL E k sl (pc + 1) lv (.long (f x.toNatClampNeg) :: st)) : EW X g z n nL E k sl pc lv (.int x :: .ref (g_N g + i) :: st) := fun H locs ls hP hz hS hl =>
  va_lald C.1 C.2.1 C.2.2.2.2.2.1 hP i 2 (by rw [Wof_get hi, he]) rfl hin hd (kk H locs ls hP hz hS hl)
theorem e_alen (C : Cx X g own cc nL) {i t0 : Nat} {cA : ClassId} {x : vp_A} {ty : FieldType} (v : Int32) (hd : decode cc pc = .ok (.arraylength, 1)) (hi : i < n) (he : E i = .inl (cA, x)) (ht : (tysOf g)[t0]? = some (cA, ty)) (hv : Int32.ofNat x.1 = v) (kk : EW X g z n nL E k sl (pc + 1) lv (.int v :: st)) : EW X g z n nL E k sl pc lv (.ref (g_N g + i) :: st) := fun H locs ls hP hz hS hl =>
  va_alen C.1 C.2.1 C.2.2.2.2.2.1 hP i t0 (by rw [Wof_get hi, he]) ht hv hd (kk H locs ls hP hz hS hl)
theorem e_iast (C : Cx X g own cc nL) {i N : Nat} {f : Nat → Int32} {x v : Int32} (hd : decode cc pc = .ok (.iastore, 1)) (hi : i < n) (he : E i = .inl (g_ac g 0, N, .inl f)) (hin : vp_in x N) (kk : EW X g z n nL (upE E i (.inl (g_ac g 0, N, .inl (upd f x.toNatClampNeg v)))) k sl (pc + 1) lv st) : EW X g z n nL E k sl pc lv (.int v :: .int x :: .ref (g_N g + i) :: st) := fun H locs ls hP hz hS hl => by
  have hat : H[g_N g + i]? = some (vp_cell (g_ac g 0) (N, .inl f)) := hP i (g_N g + i, .inl (g_ac g 0, N, .inl f)) (by rw [Wof_get hi, he])
  refine W.iast C.1 C.2.1 hat ((C.2.2.2.2.2.1.2 0 _ rfl).1 N (fun j => .int (f j))) (fun q => by cases q) (by show ¬ (x < 0 ∨ (arrV _ _ _).slots.size ≤ _); rw [arrV_size]; exact hin) rfl rfl hd fun H1 e zz oq => ?_
  refine kk H1 _ ls (va_P_upE hP hi ?_ oq) (zz.trans hz) (hS.put zz oq (Nat.le_add_right _ _)) hl
  show H1[g_N g + i]? = some (vp_cell _ _)
  rw [e, vp_cell_i, vp_cell_i, arrV_store]
  congr 2
  funext q
  by_cases hq : q = x.toNatClampNeg
  · subst hq
    simp [updV, upd]
  · simp [updV, upd, hq]
theorem e_ldcS (C : Cx X g own cc nL) {i u : Nat} {tx : String} (hq : (own, i, tx, u) ∈ SRL) (hd : decode cc pc = .ok (.ldc i, 2)) (kk : EW X g z n nL E k sl (pc + 2) lv (.ref (g_sa g u) :: st)) : EW X g z n nL E k sl pc lv st := fun H locs ls hP hz hS hl =>
  va_ldcS C.1 C.2.1 C.2.2.2.1 (C.2.2.2.2.2.2.2.2.2.1 _ hq) hd (kk H locs ls hP hz hS hl)
end EWR
/-! ===== contracts: a method that returns, makes nothing ===== -/
def rm (d : Nat) : Room := { frames := d + 1, cells := 0, slots := 0, locals := 64 * (d + 1) }
/-- the end of such a method -/
def QM (g : WC) (n : Nat) (E2 : Nat → va_E) (r : Option Value) : Array Value → State → Outcome → State → Prop := fun _ st o t =>
  o = .returned r ∧ va_P (g_D g) vwCl (Wof (g_N g) n E2) t.heap ∧ t.heap.size = st.heap.size ∧ ∀ q : Nat, q < g_N g → t.heap[q]? = st.heap[q]?
def PM (g : WC) (n : Nat) (E : Nat → va_E) (as : List Value) : Array Value → State → Prop := fun a U =>
  a = as.toArray ∧ va_P (g_D g) vwCl (Wof (g_N g) n E) U.heap ∧ va_K (g_D g) vwCl (tysOf g) U ∧ AX g U
def FR (g : WC) : Addr → Prop := fun q => g_N g ≤ q
def MC (g : WC) (y : MethodName) (cc : ByteArray) (nL : Nat) (ret : Option FieldType) (d n : Nat) (as : List Value) (E : Nat → va_E) (r : Option Value) (E2 : Nat → va_E) : Prop :=
  Met (g_l g) y (.code y cc nL ret :: TW) (rm d) (PM g n E as) (QM g n E2 r) 0 0 (FR g)
theorem PM_blind {g : WC} {n : Nat} {E : Nat → va_E} {as : List Value} : FrameBlind (PM g n E as) := fun a U gg mk h =>
  ⟨h.1, h.2.1, va_K.moved (u := U) (U := U.calling gg mk a) (Vm.Alike.refl U.vm) h.2.2.1, h.2.2.2.calling gg mk a⟩
/-- what a body of such a method knows of its end -/
def Bx (X : FX) (g : WC) (ret : Option FieldType) (d n : Nat) (r : Option Value) (E2 : Nat → va_E) : Prop :=
  x_R X = rm d ∧ (x_h X).sig.returnType = ret ∧ x_Q X = MQ (x_b X) (QM g n E2 r) (x_a X) (x_s X) 0 0 (FR g)
theorem MC_of {g : WC} {y : MethodName} {cc : ByteArray} {nL : Nat} {ret : Option FieldType} {d n : Nat} {as : List Value} {E E2 : Nat → va_E} {r : Option Value} (hy : plainName y.cls = true) (hlen : (lg_sl as).length ≤ nL)
    (body : ∀ X : FX, Cx X g y.cls cc nL → Bx X g ret d n r E2 → EW X g (x_s X).heap.size n nL E 0 0 0 (lv_args 0 as) []) : MC g y cc nL ret d n as E r E2 := by
  refine Met.ofW (cc := cc) (maxL := nL) (ret := ret) hy rfl ?_
  intro p e s m args below meth c s₁ B hml hv
  obtain ⟨rfl, hP, hK, hA⟩ := hv
  have hts0 := atoms_spec (ws := .code y cc nL ret :: TW) B.pre
  have hts : ∀ w ∈ TW, w.before as.toArray s = true := fun w hw => hts0 w (List.mem_cons_of_mem _ hw)
  have hown : s.vm.findClass y.cls = some m.cls := findClass_of_methodNamed B.named
  rw [lg_entry_eq]
  have hl := lv_entry as (n := nL) hlen
  exact body (p, g_l g, e, (headSpec (.code y cc nL ret :: TW) (rm d)).room, s, m, as.toArray, below, meth, c, MQ below (QM g n E2 r) as.toArray s 0 0 (FR g)) ⟨B.exec, B.bytes, hml, hown, hts, hK, B.notSynchronized, rfl, hA⟩ ⟨rfl, B.returns, rfl⟩ s.heap [] _ hP rfl va_S.rf hl
theorem nar1 (v : Int32) : narrow .int (.int v) = .int v := rfl
section ENDS
variable {X : FX} {g : WC} {n nL : Nat} {E : Nat → va_E} {pc d : Nat} {lv : List (Nat × Value)} {own : String} {cc : ByteArray}
theorem QM_end {H : Heap} {locs : List Loc} {r : Option Value} {t : State} (hP : va_P (g_D g) vwCl (Wof (g_N g) n E) H) (hz : H.size = (x_s X).heap.size) (hS : va_S (fun q => g_N g ≤ q) (x_s X).heap H locs) (ht : t.heap = H) : QM g n E r (x_a X) (x_s X) (.returned r) t := by
  refine ⟨rfl, by rw [ht]; exact hP, by rw [ht]; exact hz, fun q hq => ?_⟩
  rw [ht]
  by_cases h : q < (x_s X).heap.size
  · exact hS.2.1 q h (Nat.not_le.mpr hq)
  · rw [Array.getElem?_eq_none (by omega), Array.getElem?_eq_none (by omega)]
theorem e_iret {ty : FieldType} {v : Int32} (C : Cx X g own cc nL) (B : Bx X g (some ty) d n (some (.int v)) E) (hn : narrow ty (.int v) = .int v) (hd : decode cc pc = .ok (.ireturn, 1)) : EW X g (x_s X).heap.size n nL E 0 0 pc lv [.int v] := fun H locs ls hP hz hS hl => by
  rw [B.2.2]
  exact W.zret C.1 C.2.1 B.2.1 hn (fun t ht _ => QM_end hP hz hS ht) hS.2.2 hd (hlocks := C.2.2.2.2.2.2.1)
theorem e_vret (C : Cx X g own cc nL) (B : Bx X g none d n none E) (hd : decode cc pc = .ok (.return_, 1)) : EW X g (x_s X).heap.size n nL E 0 0 pc lv [] := fun H locs ls hP hz hS hl => by
  rw [B.2.2]
  exact W.vret C.1 C.2.1 B.2.1 (fun t ht _ => QM_end hP hz hS ht) hS.2.2 hd (hlocks := C.2.2.2.2.2.2.1)
theorem e_aret {nm : String} {q : Nat} (C : Cx X g own cc nL) (B : Bx X g (some (.object nm)) d n (some (.ref q)) E) (hd : decode cc pc = .ok (.areturn, 1)) : EW X g (x_s X).heap.size n nL E 0 0 pc lv [.ref q] := fun H locs ls hP hz hS hl => by
  rw [B.2.2]
  exact W.aret C.1 C.2.1 B.2.1 (Or.inl ⟨nm, rfl⟩) (Or.inr ⟨q, rfl⟩) (fun t ht _ => QM_end hP hz hS ht) hS.2.2 hd (hlocks := C.2.2.2.2.2.2.1)
end ENDS
/-! ===== calls ===== -/
section CALLS
variable {X : FX} {g : WC} {z n nL : Nat} {E E2 : Nat → va_E} {k sl pc : Nat} {lv : List (Nat × Value)} {st st0 as : List Value} {own : String} {cc bytes : ByteArray} {y : MethodName} {maxL d d2 idx : Nat} {ret : Option FieldType} {r : Option Value}
theorem e_run (hr : ∀ (H : Heap) (locs : List Loc) (ls : Array Slot), va_P (g_D g) vwCl (Wof (g_N g) n E) H → va_S (fun q => g_N g ≤ q) (x_s X).heap H locs → lv_has ls nL lv → ∃ aa, va_Run (x_p X) (x_l X) (x_e X) (x_R X) (x_s X) (x_m X) (x_a X) (x_b X) (x_h X) (x_c X) H locs k sl 0 0 (F0 (x_m X) pc ls st0) st (QM g n E2 r aa) (FR g))
    (kk : EW X g z n nL E2 k sl (pc + 3) lv (r.toList ++ st)) : EW X g z n nL E k sl pc lv st0 := fun H locs ls hP hz hS hl => by
  obtain ⟨aa, hr⟩ := hr H locs ls hP hS hl
  intro T hT X1
  obtain ⟨v, s0, t, T2, L, h0, X2, hL, e1, e2, ⟨q1, q2, q3, q4⟩, stp⟩ := hr T hT X1
  cases q1
  obtain ⟨t2, a1, b1⟩ := kk T2.heap (locs ++ L) ls (by rw [e1]; exact q2) (by rw [e1, q3, h0]; exact hz)
    ⟨by rw [e1, q3, h0]; exact hS.1, fun q h1 h2 => by rw [e1, q4 q (Nat.not_le.mp h2), h0]; exact hS.2.1 q h1 h2, fun q hq => by
      rcases List.mem_append.mp hq with h | h
      · exact hS.2.2 q h
      · exact hL q h⟩ hl T2 rfl X2
  exact ⟨t2, stp t2 a1, b1⟩
theorem pm_at (C : Cx X g own cc nL) {H : Heap} {locs : List Loc} (hP : va_P (g_D g) vwCl (Wof (g_N g) n E) H) (hS : va_S (fun q => g_N g ≤ q) (x_s X).heap H locs) (U : State) (hU : U.heap = H) (hW : (x_s X).WarmedH U.vm) : PM g n E as as.toArray U :=
  ⟨rfl, by rw [hU]; exact hP, va_K.moved hW.alike C.2.2.2.2.2.1, C.2.2.2.2.2.2.2.2.at hS hU hW⟩
theorem good_code (h : Cond.code y bytes maxL ret ∈ TW) : GoodIn TW (.code y bytes maxL ret :: TW) := fun w hw => by
  rcases List.mem_cons.mp hw with rfl | hw
  · exact tw_good _ h
  · exact tw_good _ hw
theorem rm_room (h : x_R X = rm d) (hdd : d2 < d) (hm : maxL ≤ 45) : (rm d2).frames + 1 ≤ (x_R X).frames ∧ 8 + (maxL + 11) + (rm d2).locals ≤ (x_R X).locals := by
  rw [h]
  simp only [rm]
  omega
/-- what a caller must know of a callee's name -/
def CalP (y : MethodName) (bytes : ByteArray) (maxL : Nat) (ret : Option FieldType) (a : Nat) : Prop :=
  Cond.code y bytes maxL ret ∈ TW ∧ Cond.initialized y.cls ∈ TW ∧ maxL ≤ 45 ∧ y.cls ≠ "java/lang/invoke/MethodHandle" ∧ y.cls ≠ "java/lang/invoke/VarHandle" ∧ (parseMethodDescriptor y.desc).map (fun d => d.parameters.length) = some a
theorem callB_tw (C : Cx X g own cc nL) (P : CalP y bytes maxL ret as.length) (hl : Cond.methodLink own idx y ∈ TW) (hR : (rm d2).frames + 1 ≤ (x_R X).frames ∧ 8 + (maxL + 11) + (rm d2).locals ≤ (x_R X).locals) :
    CallB (x_R X) (x_s X) (x_a X) own idx y bytes maxL ret (.code y bytes maxL ret :: TW) (rm d2) 0 0 as.length :=
  callB_of as.length C.2.2.2.2.1 (good_code P.1) rfl rfl rfl (C.2.2.2.2.1 _ P.2.1) (C.2.2.2.2.1 _ hl) P.2.2.2 hR
theorem cn_tw {host : String} (C : Cx X g own cc nL) (P : CalP y bytes maxL ret as.length) (hl : Cond.methodLinkNest own idx y host ∈ NLW) (hR : (rm d2).frames + 1 ≤ (x_R X).frames ∧ 8 + (maxL + 11) + (rm d2).locals ≤ (x_R X).locals) :
    va_CN (x_R X) (x_s X) (x_a X) own idx y host bytes maxL ret (.code y bytes maxL ret :: TW) (rm d2) 0 0 as.length :=
  va_cnB as.length C.2.2.2.2.1 (good_code P.1) rfl rfl rfl (C.2.2.2.2.2.2.2.2.1 _ hl) (C.2.2.2.2.1 _ P.2.1) P.2.2.2 hR
theorem fix (C : Cx X g own cc nL) : CallFix (x_p X) (x_m X) (x_c X) cc nL (x_s X) (x_a X) TW own := ⟨C.1, C.2.1, C.2.2.1, C.2.2.2.1, C.2.2.2.2.1⟩
theorem recv_tw (C : Cx X g own cc nL) {i ci NF : Nat} {K : String} {T : u_T} {fs : List Value} {H : Heap} (hP : va_P (g_D g) vwCl (Wof (g_N g) n E) H) (hi : i < n) (he : E i = .inr (ci, fs)) (hc : vwCl[ci]? = some (K, T, NF)) : ∃ cell : Cell, H[g_N g + i]? = some cell ∧ cell.vm.isStatics = false ∧ (x_s X).vm.findClass K = some cell.cls :=
  va_recv C.2.2.2.2.2.1 hP hc (q0 := i) (fs := fs) (by rw [Wof_get hi, he])
/-- a virtual call -/
theorem e_callV {i ci NF : Nat} {K : String} {T : u_T} {fs : List Value} (C : Cx X g own cc nL) (P : CalP y bytes maxL ret as.length) (him : Cond.instanceMethod y ∈ TW) (hse : Cond.selects K y y ∈ TW) (hl : Cond.methodLink own idx y ∈ TW) (hc : vwCl[ci]? = some (K, T, NF)) (hR : x_R X = rm d) (hdd : d2 < d) (hd : decode cc pc = .ok (.invokevirtual idx, 3)) (hi : i < n) (he : E i = .inr (ci, fs)) (hM : MC g y bytes maxL ret d2 n (.ref (g_N g + i) :: as) E r E2) (hk : k ≤ (x_R X).cells ∧ sl ≤ (x_R X).slots) (hs : (st.map fun v => v.category).sum ≤ 8)
    (hst : st0 = as.reverse ++ .ref (g_N g + i) :: st) (kk : EW X g z n nL E2 k sl (pc + 3) lv (r.toList ++ st)) : EW X g z n nL E k sl pc lv st0 :=
  e_run (fun H locs ls hP hS hlv => ⟨_, va_runV (As := as) (rest := st) (C := K) (fix C) (C.2.2.2.2.2.2.2.1 ▸ hM) ⟨callB_tw C P hl (rm_room hR hdd P.2.2.1), C.2.2.2.2.1 _ him, C.2.2.2.2.1 _ hse⟩ ⟨PM_blind, recv_tw C hP hi he hc, fun U hU hW => pm_at C hP hS U hU hW⟩ rfl rfl hlv.1 hst (lv_room hs) hd hk⟩) kk
/-- a call of a private method of a nest mate -/
theorem e_callVN {i ci NF : Nat} {K host : String} {T : u_T} {fs : List Value} (C : Cx X g own cc nL) (P : CalP y bytes maxL ret as.length) (him : Cond.instanceMethod y ∈ TW) (hse : Cond.selects K y y ∈ TW) (hl : Cond.methodLinkNest own idx y host ∈ NLW) (hc : vwCl[ci]? = some (K, T, NF)) (hR : x_R X = rm d) (hdd : d2 < d) (hd : decode cc pc = .ok (.invokevirtual idx, 3)) (hi : i < n) (he : E i = .inr (ci, fs)) (hM : MC g y bytes maxL ret d2 n (.ref (g_N g + i) :: as) E r E2) (hk : k ≤ (x_R X).cells ∧ sl ≤ (x_R X).slots) (hs : (st.map fun v => v.category).sum ≤ 8)
    (hst : st0 = as.reverse ++ .ref (g_N g + i) :: st) (kk : EW X g z n nL E2 k sl (pc + 3) lv (r.toList ++ st)) : EW X g z n nL E k sl pc lv st0 :=
  e_run (fun H locs ls hP hS hlv => ⟨_, va_runVN (As := as) (rest := st) (C := K) (fix C) (C.2.2.2.2.2.2.2.1 ▸ hM) ⟨cn_tw C P hl (rm_room hR hdd P.2.2.1), C.2.2.2.2.1 _ him, C.2.2.2.2.1 _ hse⟩ ⟨PM_blind, recv_tw C hP hi he hc, fun U hU hW => pm_at C hP hS U hU hW⟩ rfl rfl hlv.1 hst (lv_room hs) hd hk⟩) kk
/-- a static call -/
theorem e_callS (C : Cx X g own cc nL) (P : CalP y bytes maxL ret as.length) (hsm : Cond.static y ∈ TW) (hl : Cond.methodLink own idx y ∈ TW) (hR : x_R X = rm d) (hdd : d2 < d) (hd : decode cc pc = .ok (.invokestatic idx, 3)) (hM : MC g y bytes maxL ret d2 n as E r E2) (hk : k ≤ (x_R X).cells ∧ sl ≤ (x_R X).slots) (hs : (st.map fun v => v.category).sum ≤ 8)
    (hst : st0 = as.reverse ++ st) (kk : EW X g z n nL E2 k sl (pc + 3) lv (r.toList ++ st)) : EW X g z n nL E k sl pc lv st0 :=
  e_run (fun H locs ls hP hS hlv => ⟨_, va_runS (As := as) (rest := st) (fix C) (C.2.2.2.2.2.2.2.1 ▸ hM) ⟨callB_tw C P hl (rm_room hR hdd P.2.2.1), C.2.2.2.2.1 _ hsm⟩ ⟨PM_blind, fun U hU hW => pm_at C hP hS U hU hW⟩ rfl rfl hlv.1 hst (lv_room hs) hd hk⟩) kk
/-- a static call of a private method of a nest mate -/
theorem e_callSN {host : String} (C : Cx X g own cc nL) (P : CalP y bytes maxL ret as.length) (hsm : Cond.static y ∈ TW) (hl : Cond.methodLinkNest own idx y host ∈ NLW) (hR : x_R X = rm d) (hdd : d2 < d) (hd : decode cc pc = .ok (.invokestatic idx, 3)) (hM : MC g y bytes maxL ret d2 n as E r E2) (hk : k ≤ (x_R X).cells ∧ sl ≤ (x_R X).slots) (hs : (st.map fun v => v.category).sum ≤ 8)
    (hst : st0 = as.reverse ++ st) (kk : EW X g z n nL E2 k sl (pc + 3) lv (r.toList ++ st)) : EW X g z n nL E k sl pc lv st0 :=
  e_run (fun H locs ls hP hS hlv => ⟨_, va_runSN (As := as) (rest := st) (fix C) (C.2.2.2.2.2.2.2.1 ▸ hM) ⟨cn_tw C P hl (rm_room hR hdd P.2.2.1), C.2.2.2.2.1 _ hsm, trivial⟩ ⟨PM_blind, fun U hU hW => pm_at C hP hS U hU hW⟩ rfl rfl hlv.1 hst (lv_room hs) hd hk⟩) kk
/-- (the room given) a virtual call -/
theorem e_callV2 {i ci NF : Nat} {K : String} {T : u_T} {fs : List Value} (C : Cx X g own cc nL) (P : CalP y bytes maxL ret as.length) (him : Cond.instanceMethod y ∈ TW) (hse : Cond.selects K y y ∈ TW) (hl : Cond.methodLink own idx y ∈ TW) (hc : vwCl[ci]? = some (K, T, NF)) (hroom : (rm d2).frames + 1 ≤ (x_R X).frames ∧ 8 + (maxL + 11) + (rm d2).locals ≤ (x_R X).locals) (hd : decode cc pc = .ok (.invokevirtual idx, 3)) (hi : i < n) (he : E i = .inr (ci, fs)) (hM : MC g y bytes maxL ret d2 n (.ref (g_N g + i) :: as) E r E2) (hk : k ≤ (x_R X).cells ∧ sl ≤ (x_R X).slots) (hs : (st.map fun v => v.category).sum ≤ 8)
    (hst : st0 = as.reverse ++ .ref (g_N g + i) :: st) (kk : EW X g z n nL E2 k sl (pc + 3) lv (r.toList ++ st)) : EW X g z n nL E k sl pc lv st0 :=
  e_run (fun H locs ls hP hS hlv => ⟨_, va_runV (As := as) (rest := st) (C := K) (fix C) (C.2.2.2.2.2.2.2.1 ▸ hM) ⟨callB_tw C P hl hroom, C.2.2.2.2.1 _ him, C.2.2.2.2.1 _ hse⟩ ⟨PM_blind, recv_tw C hP hi he hc, fun U hU hW => pm_at C hP hS U hU hW⟩ rfl rfl hlv.1 hst (lv_room hs) hd hk⟩) kk
/-- (the room given) a call of a private method of a nest mate -/
theorem e_callVN2 {i ci NF : Nat} {K host : String} {T : u_T} {fs : List Value} (C : Cx X g own cc nL) (P : CalP y bytes maxL ret as.length) (him : Cond.instanceMethod y ∈ TW) (hse : Cond.selects K y y ∈ TW) (hl : Cond.methodLinkNest own idx y host ∈ NLW) (hc : vwCl[ci]? = some (K, T, NF)) (hroom : (rm d2).frames + 1 ≤ (x_R X).frames ∧ 8 + (maxL + 11) + (rm d2).locals ≤ (x_R X).locals) (hd : decode cc pc = .ok (.invokevirtual idx, 3)) (hi : i < n) (he : E i = .inr (ci, fs)) (hM : MC g y bytes maxL ret d2 n (.ref (g_N g + i) :: as) E r E2) (hk : k ≤ (x_R X).cells ∧ sl ≤ (x_R X).slots) (hs : (st.map fun v => v.category).sum ≤ 8)
    (hst : st0 = as.reverse ++ .ref (g_N g + i) :: st) (kk : EW X g z n nL E2 k sl (pc + 3) lv (r.toList ++ st)) : EW X g z n nL E k sl pc lv st0 :=
  e_run (fun H locs ls hP hS hlv => ⟨_, va_runVN (As := as) (rest := st) (C := K) (fix C) (C.2.2.2.2.2.2.2.1 ▸ hM) ⟨cn_tw C P hl hroom, C.2.2.2.2.1 _ him, C.2.2.2.2.1 _ hse⟩ ⟨PM_blind, recv_tw C hP hi he hc, fun U hU hW => pm_at C hP hS U hU hW⟩ rfl rfl hlv.1 hst (lv_room hs) hd hk⟩) kk
/-- (the room given) a static call -/
theorem e_callS2 (C : Cx X g own cc nL) (P : CalP y bytes maxL ret as.length) (hsm : Cond.static y ∈ TW) (hl : Cond.methodLink own idx y ∈ TW) (hroom : (rm d2).frames + 1 ≤ (x_R X).frames ∧ 8 + (maxL + 11) + (rm d2).locals ≤ (x_R X).locals) (hd : decode cc pc = .ok (.invokestatic idx, 3)) (hM : MC g y bytes maxL ret d2 n as E r E2) (hk : k ≤ (x_R X).cells ∧ sl ≤ (x_R X).slots) (hs : (st.map fun v => v.category).sum ≤ 8)
    (hst : st0 = as.reverse ++ st) (kk : EW X g z n nL E2 k sl (pc + 3) lv (r.toList ++ st)) : EW X g z n nL E k sl pc lv st0 :=
  e_run (fun H locs ls hP hS hlv => ⟨_, va_runS (As := as) (rest := st) (fix C) (C.2.2.2.2.2.2.2.1 ▸ hM) ⟨callB_tw C P hl hroom, C.2.2.2.2.1 _ hsm⟩ ⟨PM_blind, fun U hU hW => pm_at C hP hS U hU hW⟩ rfl rfl hlv.1 hst (lv_room hs) hd hk⟩) kk
/-- (the room given) a static call of a private method of a nest mate -/
theorem e_callSN2 {host : String} (C : Cx X g own cc nL) (P : CalP y bytes maxL ret as.length) (hsm : Cond.static y ∈ TW) (hl : Cond.methodLinkNest own idx y host ∈ NLW) (hroom : (rm d2).frames + 1 ≤ (x_R X).frames ∧ 8 + (maxL + 11) + (rm d2).locals ≤ (x_R X).locals) (hd : decode cc pc = .ok (.invokestatic idx, 3)) (hM : MC g y bytes maxL ret d2 n as E r E2) (hk : k ≤ (x_R X).cells ∧ sl ≤ (x_R X).slots) (hs : (st.map fun v => v.category).sum ≤ 8)
    (hst : st0 = as.reverse ++ st) (kk : EW X g z n nL E2 k sl (pc + 3) lv (r.toList ++ st)) : EW X g z n nL E k sl pc lv st0 :=
  e_run (fun H locs ls hP hS hlv => ⟨_, va_runSN (As := as) (rest := st) (fix C) (C.2.2.2.2.2.2.2.1 ▸ hM) ⟨cn_tw C P hl hroom, C.2.2.2.2.1 _ hsm, trivial⟩ ⟨PM_blind, fun U hU hW => pm_at C hP hS U hU hW⟩ rfl rfl hlv.1 hst (lv_room hs) hd hk⟩) kk
end CALLS
