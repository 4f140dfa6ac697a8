/-! ===== the law's entry: what its machine and its heap are ===== -/
theorem lw_kn {s : State} {args : Array Value} (hT : ∀ w ∈ TW, w.before args s = true) : ∃ D : va_G, ∀ (c : Nat) (q : vw_C), vwCl[c]? = some q → u_Kn s q.1 q.2.1 q.2.2 (D.1 c) (D.2 c) := by
  obtain ⟨a0, b0, h0⟩ := u_known hT tw_X0 (hT _ it_X0)
  obtain ⟨a1, b1, h1⟩ := u_known hT tw_X1 (hT _ it_X1)
  obtain ⟨a2, b2, h2⟩ := u_known hT tw_X2 (hT _ it_X2)
  obtain ⟨a3, b3, h3⟩ := u_known hT tw_X3 (hT _ it_X3)
  obtain ⟨a4, b4, h4⟩ := u_known hT tw_X4 (hT _ it_X4)
  obtain ⟨a5, b5, h5⟩ := u_known hT tw_X5 (hT _ it_X5)
  obtain ⟨a6, b6, h6⟩ := u_known hT tw_X6 (hT _ it_X6)
  obtain ⟨a7, b7, h7⟩ := u_known hT tw_X7 (hT _ it_X7)
  obtain ⟨a8, b8, h8⟩ := u_known hT tw_X8 (hT _ it_X8)
  obtain ⟨a9, b9, h9⟩ := u_known hT tw_X9 (hT _ it_X9)
  obtain ⟨a10, b10, h10⟩ := u_known hT tw_X10 (hT _ it_X10)
  obtain ⟨a11, b11, h11⟩ := u_known hT tw_X11 (hT _ it_X11)
  obtain ⟨a12, b12, h12⟩ := u_known hT tw_X12 (hT _ it_X12)
  have h : ∀ c : Nat, ∃ p : ClassId × (Nat → Nat), ∀ q : vw_C, vwCl[c]? = some q → u_Kn s q.1 q.2.1 q.2.2 p.1 p.2 := by
    intro c
    match c with
    | 0 => exact ⟨(a0, b0), fun q hq => by have e : some ((RX0, TX0, 4) : vw_C) = some q := hq; obtain rfl := Option.some.inj e; exact h0⟩
    | 1 => exact ⟨(a1, b1), fun q hq => by have e : some ((RX1, TX1, 2) : vw_C) = some q := hq; obtain rfl := Option.some.inj e; exact h1⟩
    | 2 => exact ⟨(a2, b2), fun q hq => by have e : some ((RX2, TX2, 1) : vw_C) = some q := hq; obtain rfl := Option.some.inj e; exact h2⟩
    | 3 => exact ⟨(a3, b3), fun q hq => by have e : some ((RX3, TX3, 3) : vw_C) = some q := hq; obtain rfl := Option.some.inj e; exact h3⟩
    | 4 => exact ⟨(a4, b4), fun q hq => by have e : some ((RX4, TX4, 5) : vw_C) = some q := hq; obtain rfl := Option.some.inj e; exact h4⟩
    | 5 => exact ⟨(a5, b5), fun q hq => by have e : some ((RX5, TX5, 12) : vw_C) = some q := hq; obtain rfl := Option.some.inj e; exact h5⟩
    | 6 => exact ⟨(a6, b6), fun q hq => by have e : some ((RX6, TX6, 6) : vw_C) = some q := hq; obtain rfl := Option.some.inj e; exact h6⟩
    | 7 => exact ⟨(a7, b7), fun q hq => by have e : some ((RX7, TX7, 4) : vw_C) = some q := hq; obtain rfl := Option.some.inj e; exact h7⟩
    | 8 => exact ⟨(a8, b8), fun q hq => by have e : some ((RX8, TX8, 7) : vw_C) = some q := hq; obtain rfl := Option.some.inj e; exact h8⟩
    | 9 => exact ⟨(a9, b9), fun q hq => by have e : some ((RX9, TX9, 14) : vw_C) = some q := hq; obtain rfl := Option.some.inj e; exact h9⟩
    | 10 => exact ⟨(a10, b10), fun q hq => by have e : some ((RX10, TX10, 4) : vw_C) = some q := hq; obtain rfl := Option.some.inj e; exact h10⟩
    | 11 => exact ⟨(a11, b11), fun q hq => by have e : some ((RX11, TX11, 13) : vw_C) = some q := hq; obtain rfl := Option.some.inj e; exact h11⟩
    | 12 => exact ⟨(a12, b12), fun q hq => by have e : some ((RX12, TX12, 64) : vw_C) = some q := hq; obtain rfl := Option.some.inj e; exact h12⟩
    | n + 13 => exact ⟨(a0, b0), fun q hq => by cases hq⟩
  exact ⟨(fun c => (Classical.choose (h c)).1, fun c => (Classical.choose (h c)).2), fun c q hq => Classical.choose_spec (h c) q hq⟩
theorem lw_ar {s : State} {args : Array Value} (hT : ∀ w ∈ lw_tbl, w.before args s = true) : ∃ ac : Nat → ClassId, ∀ (k : Nat) (q : ClassId × FieldType), [(ac 0, FieldType.int), (ac 1, .boolean), (ac 2, .long), (ac 3, .object "java/lang/String")][k]? = some q → ArrOfT s q.1 q.2 ∧ va_RA s q.1 q.2 := by
  have hW : ∀ w ∈ TW, w.before args s = true := fun w hw => hT w (List.mem_filter.mp hw).1
  obtain ⟨c0, k0, m0, f0, e0, g0⟩ := Cond.arrayClass_spec (args := args) (first := s) (o := none) (s := s) (idx := []) (type := .int) (hW _ ac_int)
  obtain ⟨c1, k1, m1, f1, e1, g1⟩ := Cond.arrayClass_spec (args := args) (first := s) (o := none) (s := s) (idx := []) (type := .boolean) (hW _ ac_boolean)
  obtain ⟨c2, k2, m2, f2, e2, g2⟩ := Cond.arrayClass_spec (args := args) (first := s) (o := none) (s := s) (idx := []) (type := .long) (hW _ ac_long)
  obtain ⟨m3, c3, k3, u3, -, e3, g3, f3⟩ := Cond.arrayOver_spec (args := args) (first := s) (o := none) (s := s) (idx := []) (n := "java/lang/String") (hT _ ao_str)
  refine ⟨fun i => match i with | 0 => c0 | 1 => c1 | 2 => c2 | _ => c3, fun k q hq => ?_⟩
  match k with
  | 0 => have e : some ((c0, FieldType.int) : ClassId × FieldType) = some q := hq; obtain rfl := Option.some.inj e; exact ⟨fun n z => ⟨fun k h => (by cases h), k0, e0, m0, g0⟩, f0⟩
  | 1 => have e : some ((c1, FieldType.boolean) : ClassId × FieldType) = some q := hq; obtain rfl := Option.some.inj e; exact ⟨fun n z => ⟨fun k h => (by cases h), k1, e1, m1, g1⟩, f1⟩
  | 2 => have e : some ((c2, FieldType.long) : ClassId × FieldType) = some q := hq; obtain rfl := Option.some.inj e; exact ⟨fun n z => ⟨fun k h => (by cases h), k2, e2, m2, g2⟩, f2⟩
  | 3 => have e : some ((c3, FieldType.object "java/lang/String") : ClassId × FieldType) = some q := hq; obtain rfl := Option.some.inj e; exact ⟨fun n z => ⟨fun k h => (by cases h), k3, e3, m3, g3⟩, k3, m3, e3, g3, u3, f3⟩
  | n + 4 => cases hq
def txo : Nat → String × Nat := fun i => match i with
  | 0 => (RX5, 111)
  | 1 => (RX5, 119)
  | 2 => (RX5, 124)
  | 3 => (RX5, 129)
  | 4 => (RX5, 135)
  | 5 => (RX5, 137)
  | 6 => (RX5, 142)
  | 7 => (RX5, 147)
  | 8 => (RX5, 215)
  | 9 => (RX5, 235)
  | 10 => (RX5, 237)
  | 11 => (RX5, 239)
  | 12 => (RX5, 241)
  | 13 => (RX5, 243)
  | 14 => (RX5, 245)
  | 15 => (RX5, 246)
  | 16 => (RX5, 248)
  | 17 => (RX5, 213)
  | 18 => (RX5, 199)
  | 19 => (RX12, 11)
  | 20 => (RX12, 13)
  | 21 => (RX12, 19)
  | 22 => (RX12, 21)
  | 23 => (RX12, 23)
  | 24 => (RX12, 25)
  | 25 => (RX12, 27)
  | 26 => (RX12, 29)
  | 27 => (RX12, 31)
  | 28 => (RX12, 33)
  | 29 => (RX12, 297)
  | 30 => (RX12, 299)
  | 31 => (RX12, 301)
  | 32 => (RX12, 303)
  | 33 => (RX12, 305)
  | 34 => (RX12, 265)
  | 35 => (RX12, 273)
  | 36 => (RX12, 278)
  | 37 => (RX12, 313)
  | _ => (RX5, 0)
theorem lw_tx {args : Array Value} {s : State} {A : Nat → Prop} (hs : ∀ w ∈ flatC (Cond.and given_1 narrow_1), w.before args s = true) (hA : ∀ a : Nat, a < s.heap.size → ¬ A a) :
    ∃ sa sv : Nat → Nat, ∀ i : Nat, i < 38 → (Term.string (txo i).1 (txo i).2).eval args s none [] s = some (.ref (sa i)) ∧ va_O "java/lang/String" (sa i) A s s.heap ∧ va_OF "java/lang/String" "coder" "B" (.int 0) (sa i) A s s.heap ∧ va_OF "java/lang/String" "value" "[B" (.ref (sv i)) (sa i) A s s.heap ∧ va_T .byte (sv i) (TXL.getD i 0) (fun j => .int ((TXB.getD i []).getD j 0)) A s s.heap := by
  have h : ∀ i : Nat, ∃ q : Nat × Nat, i < 38 → (Term.string (txo i).1 (txo i).2).eval args s none [] s = some (.ref q.1) ∧ va_O "java/lang/String" q.1 A s s.heap ∧ va_OF "java/lang/String" "coder" "B" (.int 0) q.1 A s s.heap ∧ va_OF "java/lang/String" "value" "[B" (.ref q.2) q.1 A s s.heap ∧ va_T .byte q.2 (TXL.getD i 0) (fun j => .int ((TXB.getD i []).getD j 0)) A s s.heap := by
    intro i
    match i with
    | 0 => obtain ⟨q, h⟩ := en_0 hs hA; exact ⟨q, fun _ => h⟩
    | 1 => obtain ⟨q, h⟩ := en_1 hs hA; exact ⟨q, fun _ => h⟩
    | 2 => obtain ⟨q, h⟩ := en_2 hs hA; exact ⟨q, fun _ => h⟩
    | 3 => obtain ⟨q, h⟩ := en_3 hs hA; exact ⟨q, fun _ => h⟩
    | 4 => obtain ⟨q, h⟩ := en_4 hs hA; exact ⟨q, fun _ => h⟩
    | 5 => obtain ⟨q, h⟩ := en_5 hs hA; exact ⟨q, fun _ => h⟩
    | 6 => obtain ⟨q, h⟩ := en_6 hs hA; exact ⟨q, fun _ => h⟩
    | 7 => obtain ⟨q, h⟩ := en_7 hs hA; exact ⟨q, fun _ => h⟩
    | 8 => obtain ⟨q, h⟩ := en_8 hs hA; exact ⟨q, fun _ => h⟩
    | 9 => obtain ⟨q, h⟩ := en_9 hs hA; exact ⟨q, fun _ => h⟩
    | 10 => obtain ⟨q, h⟩ := en_10 hs hA; exact ⟨q, fun _ => h⟩
    | 11 => obtain ⟨q, h⟩ := en_11 hs hA; exact ⟨q, fun _ => h⟩
    | 12 => obtain ⟨q, h⟩ := en_12 hs hA; exact ⟨q, fun _ => h⟩
    | 13 => obtain ⟨q, h⟩ := en_13 hs hA; exact ⟨q, fun _ => h⟩
    | 14 => obtain ⟨q, h⟩ := en_14 hs hA; exact ⟨q, fun _ => h⟩
    | 15 => obtain ⟨q, h⟩ := en_15 hs hA; exact ⟨q, fun _ => h⟩
    | 16 => obtain ⟨q, h⟩ := en_16 hs hA; exact ⟨q, fun _ => h⟩
    | 17 => obtain ⟨q, h⟩ := en_17 hs hA; exact ⟨q, fun _ => h⟩
    | 18 => obtain ⟨q, h⟩ := en_18 hs hA; exact ⟨q, fun _ => h⟩
    | 19 => obtain ⟨q, h⟩ := en_19 hs hA; exact ⟨q, fun _ => h⟩
    | 20 => obtain ⟨q, h⟩ := en_20 hs hA; exact ⟨q, fun _ => h⟩
    | 21 => obtain ⟨q, h⟩ := en_21 hs hA; exact ⟨q, fun _ => h⟩
    | 22 => obtain ⟨q, h⟩ := en_22 hs hA; exact ⟨q, fun _ => h⟩
    | 23 => obtain ⟨q, h⟩ := en_23 hs hA; exact ⟨q, fun _ => h⟩
    | 24 => obtain ⟨q, h⟩ := en_24 hs hA; exact ⟨q, fun _ => h⟩
    | 25 => obtain ⟨q, h⟩ := en_25 hs hA; exact ⟨q, fun _ => h⟩
    | 26 => obtain ⟨q, h⟩ := en_26 hs hA; exact ⟨q, fun _ => h⟩
    | 27 => obtain ⟨q, h⟩ := en_27 hs hA; exact ⟨q, fun _ => h⟩
    | 28 => obtain ⟨q, h⟩ := en_28 hs hA; exact ⟨q, fun _ => h⟩
    | 29 => obtain ⟨q, h⟩ := en_29 hs hA; exact ⟨q, fun _ => h⟩
    | 30 => obtain ⟨q, h⟩ := en_30 hs hA; exact ⟨q, fun _ => h⟩
    | 31 => obtain ⟨q, h⟩ := en_31 hs hA; exact ⟨q, fun _ => h⟩
    | 32 => obtain ⟨q, h⟩ := en_32 hs hA; exact ⟨q, fun _ => h⟩
    | 33 => obtain ⟨q, h⟩ := en_33 hs hA; exact ⟨q, fun _ => h⟩
    | 34 => obtain ⟨q, h⟩ := en_34 hs hA; exact ⟨q, fun _ => h⟩
    | 35 => obtain ⟨q, h⟩ := en_35 hs hA; exact ⟨q, fun _ => h⟩
    | 36 => obtain ⟨q, h⟩ := en_36 hs hA; exact ⟨q, fun _ => h⟩
    | 37 => obtain ⟨q, h⟩ := en_37 hs hA; exact ⟨q, fun _ => h⟩
    | n + 38 => exact ⟨(0, 0), fun h => absurd h (by omega)⟩
  exact ⟨fun i => (Classical.choose (h i)).1, fun i => (Classical.choose (h i)).2, fun i hi => Classical.choose_spec (h i) hi⟩
theorem lw_AX {args : Array Value} {s : State} {l : Launch} {D : va_G} {ac sa sv : Nat → Nat} (hflags : l.flags = flags0) (hT : ∀ w ∈ lw_tbl, w.before args s = true) (hs : ∀ w ∈ flatC (Cond.and given_1 narrow_1), w.before args s = true)
    (hD : ∀ (c : Nat) (q : vw_C), vwCl[c]? = some q → u_Kn s q.1 q.2.1 q.2.2 (D.1 c) (D.2 c))
    (hx : ∀ i : Nat, i < 38 → (Term.string (txo i).1 (txo i).2).eval args s none [] s = some (.ref (sa i)) ∧ va_O "java/lang/String" (sa i) (fun q => s.heap.size ≤ q) s s.heap ∧ va_OF "java/lang/String" "coder" "B" (.int 0) (sa i) (fun q => s.heap.size ≤ q) s s.heap ∧ va_OF "java/lang/String" "value" "[B" (.ref (sv i)) (sa i) (fun q => s.heap.size ≤ q) s s.heap ∧ va_T .byte (sv i) (TXL.getD i 0) (fun j => .int ((TXB.getD i []).getD j 0)) (fun q => s.heap.size ≤ q) s s.heap) :
    AX (l, s.heap.size, D, ac, sa, sv) s := by
  have hA : ∀ a : Nat, a < s.heap.size → ¬ (fun q => s.heap.size ≤ q) a := fun a h => Nat.not_le.mpr h
  have hon : ∀ w ∈ NLW, w.onTables = true := List.all_eq_true.mp rfl
  refine ⟨fun w hw => va_Nw.of (hon w hw) (hT w (NLW_tbl w hw)), ?_, ⟨fun i hi => (hx i hi).2, trivial⟩, ?_, ⟨⟨?_, ?_, ?_, ?_, ?_, ?_, ?_, ?_⟩, ?_, ?_, ?_, ?_⟩, ?_⟩
  · exact List.forall_mem_cons.mpr ⟨vk_R.of (hT _ (SRL_tbl (RX5, 111, "streets", 0) (List.mem_of_getElem? (i := 0) rfl))) (hx 0 (by decide)).1,
    List.forall_mem_cons.mpr ⟨vk_R.of (hT _ (SRL_tbl (RX5, 119, "path", 1) (List.mem_of_getElem? (i := 1) rfl))) (hx 1 (by decide)).1,
    List.forall_mem_cons.mpr ⟨vk_R.of (hT _ (SRL_tbl (RX5, 124, "round", 2) (List.mem_of_getElem? (i := 2) rfl))) (hx 2 (by decide)).1,
    List.forall_mem_cons.mpr ⟨vk_R.of (hT _ (SRL_tbl (RX5, 129, "person", 3) (List.mem_of_getElem? (i := 3) rfl))) (hx 3 (by decide)).1,
    List.forall_mem_cons.mpr ⟨vk_R.of (hT _ (SRL_tbl (RX5, 135, "bishop", 4) (List.mem_of_getElem? (i := 4) rfl))) (hx 4 (by decide)).1,
    List.forall_mem_cons.mpr ⟨vk_R.of (hT _ (SRL_tbl (RX5, 137, "fog", 5) (List.mem_of_getElem? (i := 5) rfl))) (hx 5 (by decide)).1,
    List.forall_mem_cons.mpr ⟨vk_R.of (hT _ (SRL_tbl (RX5, 142, "reserve", 6) (List.mem_of_getElem? (i := 6) rfl))) (hx 6 (by decide)).1,
    List.forall_mem_cons.mpr ⟨vk_R.of (hT _ (SRL_tbl (RX5, 147, "worth", 7) (List.mem_of_getElem? (i := 7) rfl))) (hx 7 (by decide)).1,
    List.forall_mem_cons.mpr ⟨vk_R.of (hT _ (SRL_tbl (RX5, 215, "not", 8) (List.mem_of_getElem? (i := 8) rfl))) (hx 8 (by decide)).1,
    List.forall_mem_cons.mpr ⟨vk_R.of (hT _ (SRL_tbl (RX5, 235, "own", 9) (List.mem_of_getElem? (i := 9) rfl))) (hx 9 (by decide)).1,
    List.forall_mem_cons.mpr ⟨vk_R.of (hT _ (SRL_tbl (RX5, 237, "coins", 10) (List.mem_of_getElem? (i := 10) rfl))) (hx 10 (by decide)).1,
    List.forall_mem_cons.mpr ⟨vk_R.of (hT _ (SRL_tbl (RX5, 239, "theirs", 11) (List.mem_of_getElem? (i := 11) rfl))) (hx 11 (by decide)).1,
    List.forall_mem_cons.mpr ⟨vk_R.of (hT _ (SRL_tbl (RX5, 241, "knows", 12) (List.mem_of_getElem? (i := 12) rfl))) (hx 12 (by decide)).1,
    List.forall_mem_cons.mpr ⟨vk_R.of (hT _ (SRL_tbl (RX5, 243, "hours", 13) (List.mem_of_getElem? (i := 13) rfl))) (hx 13 (by decide)).1,
    List.forall_mem_cons.mpr ⟨vk_R.of (hT _ (SRL_tbl (RX5, 245, "street", 14) (List.mem_of_getElem? (i := 14) rfl))) (hx 14 (by decide)).1,
    List.forall_mem_cons.mpr ⟨vk_R.of (hT _ (SRL_tbl (RX5, 246, "lots", 15) (List.mem_of_getElem? (i := 15) rfl))) (hx 15 (by decide)).1,
    List.forall_mem_cons.mpr ⟨vk_R.of (hT _ (SRL_tbl (RX5, 248, "night", 16) (List.mem_of_getElem? (i := 16) rfl))) (hx 16 (by decide)).1,
    List.forall_mem_cons.mpr ⟨vk_R.of (hT _ (SRL_tbl (RX5, 213, "and", 17) (List.mem_of_getElem? (i := 17) rfl))) (hx 17 (by decide)).1,
    List.forall_mem_cons.mpr ⟨vk_R.of (hT _ (SRL_tbl (RX5, 199, "or", 18) (List.mem_of_getElem? (i := 18) rfl))) (hx 18 (by decide)).1,
    List.forall_mem_cons.mpr ⟨vk_R.of (hT _ (SRL_tbl (RX12, 11, "person", 19) (List.mem_of_getElem? (i := 19) rfl))) (hx 19 (by decide)).1,
    List.forall_mem_cons.mpr ⟨vk_R.of (hT _ (SRL_tbl (RX12, 13, "bishop", 20) (List.mem_of_getElem? (i := 20) rfl))) (hx 20 (by decide)).1,
    List.forall_mem_cons.mpr ⟨vk_R.of (hT _ (SRL_tbl (RX12, 19, "own", 21) (List.mem_of_getElem? (i := 21) rfl))) (hx 21 (by decide)).1,
    List.forall_mem_cons.mpr ⟨vk_R.of (hT _ (SRL_tbl (RX12, 21, "coins", 22) (List.mem_of_getElem? (i := 22) rfl))) (hx 22 (by decide)).1,
    List.forall_mem_cons.mpr ⟨vk_R.of (hT _ (SRL_tbl (RX12, 23, "theirs", 23) (List.mem_of_getElem? (i := 23) rfl))) (hx 23 (by decide)).1,
    List.forall_mem_cons.mpr ⟨vk_R.of (hT _ (SRL_tbl (RX12, 25, "knows", 24) (List.mem_of_getElem? (i := 24) rfl))) (hx 24 (by decide)).1,
    List.forall_mem_cons.mpr ⟨vk_R.of (hT _ (SRL_tbl (RX12, 27, "hours", 25) (List.mem_of_getElem? (i := 25) rfl))) (hx 25 (by decide)).1,
    List.forall_mem_cons.mpr ⟨vk_R.of (hT _ (SRL_tbl (RX12, 29, "street", 26) (List.mem_of_getElem? (i := 26) rfl))) (hx 26 (by decide)).1,
    List.forall_mem_cons.mpr ⟨vk_R.of (hT _ (SRL_tbl (RX12, 31, "lots", 27) (List.mem_of_getElem? (i := 27) rfl))) (hx 27 (by decide)).1,
    List.forall_mem_cons.mpr ⟨vk_R.of (hT _ (SRL_tbl (RX12, 33, "night", 28) (List.mem_of_getElem? (i := 28) rfl))) (hx 28 (by decide)).1,
    List.forall_mem_cons.mpr ⟨vk_R.of (hT _ (SRL_tbl (RX12, 297, "streets", 29) (List.mem_of_getElem? (i := 29) rfl))) (hx 29 (by decide)).1,
    List.forall_mem_cons.mpr ⟨vk_R.of (hT _ (SRL_tbl (RX12, 299, "round", 30) (List.mem_of_getElem? (i := 30) rfl))) (hx 30 (by decide)).1,
    List.forall_mem_cons.mpr ⟨vk_R.of (hT _ (SRL_tbl (RX12, 301, "fog", 31) (List.mem_of_getElem? (i := 31) rfl))) (hx 31 (by decide)).1,
    List.forall_mem_cons.mpr ⟨vk_R.of (hT _ (SRL_tbl (RX12, 303, "reserve", 32) (List.mem_of_getElem? (i := 32) rfl))) (hx 32 (by decide)).1,
    List.forall_mem_cons.mpr ⟨vk_R.of (hT _ (SRL_tbl (RX12, 305, "worth", 33) (List.mem_of_getElem? (i := 33) rfl))) (hx 33 (by decide)).1,
    List.forall_mem_cons.mpr ⟨vk_R.of (hT _ (SRL_tbl (RX12, 265, "not", 34) (List.mem_of_getElem? (i := 34) rfl))) (hx 34 (by decide)).1,
    List.forall_mem_cons.mpr ⟨vk_R.of (hT _ (SRL_tbl (RX12, 273, "and", 35) (List.mem_of_getElem? (i := 35) rfl))) (hx 35 (by decide)).1,
    List.forall_mem_cons.mpr ⟨vk_R.of (hT _ (SRL_tbl (RX12, 278, "or", 36) (List.mem_of_getElem? (i := 36) rfl))) (hx 36 (by decide)).1,
    List.forall_mem_cons.mpr ⟨vk_R.of (hT _ (SRL_tbl (RX12, 313, "path", 37) (List.mem_of_getElem? (i := 37) rfl))) (hx 37 (by decide)).1,
    fun _ h => absurd h List.not_mem_nil⟩⟩⟩⟩⟩⟩⟩⟩⟩⟩⟩⟩⟩⟩⟩⟩⟩⟩⟩⟩⟩⟩⟩⟩⟩⟩⟩⟩⟩⟩⟩⟩⟩⟩⟩⟩⟩⟩
  · have sx : ∀ (k : Nat) (t : String), (Cond.stringRef RX11 k t).before args s = true → ∃ a, vk_R RX11 k t a s := fun k t h => by
      obtain ⟨_, _, _, a, -, -, -, -, -, h5⟩ := Cond.stringRef_spec (args := args) (first := s) (o := none) (s := s) (idx := []) (hD 11 _ rfl).2.1 h
      exact ⟨a, vk_R.of h h5⟩
    exact List.forall_mem_cons.mpr ⟨sx 92 "the tape has not so many bytes" (hT _ (in_tables_1_3 (List.mem_of_getElem? (i := 197) rfl))),
    List.forall_mem_cons.mpr ⟨sx 360 "no such what" (hT _ (in_tables_1_4 (List.mem_of_getElem? (i := 218) rfl))),
    List.forall_mem_cons.mpr ⟨sx 365 "no such street" (hT _ (in_tables_1_5 (List.mem_of_getElem? (i := 0) rfl))),
    List.forall_mem_cons.mpr ⟨sx 367 "no such person" (hT _ (in_tables_1_5 (List.mem_of_getElem? (i := 12) rfl))),
    List.forall_mem_cons.mpr ⟨sx 369 "no such place" (hT _ (in_tables_1_5 (List.mem_of_getElem? (i := 24) rfl))),
    List.forall_mem_cons.mpr ⟨sx 363 "not as many as that" (hT _ (in_tables_1_5 (List.mem_of_getElem? (i := 76) rfl))),
    List.forall_mem_cons.mpr ⟨sx 334 "both are one" (hT _ (in_tables_1_6 (List.mem_of_getElem? (i := 122) rfl))),
    fun _ h => absurd h List.not_mem_nil⟩⟩⟩⟩⟩⟩⟩
  · exact va_Nw.of rfl (hT _ (in_tables_1_3 (List.mem_of_getElem? (i := 159) rfl)))
  · exact va_Nw.of rfl (hT _ (in_tables_1_4 (List.mem_of_getElem? (i := 211) rfl)))
  · exact va_Nc.of (hs _ (List.mem_of_getElem? (i := 38) rfl))
  · exact va_Nc.of (hs _ (List.mem_of_getElem? (i := 24) rfl))
  · exact va_Nw.of rfl (hT _ (in_tables_1_3 (List.mem_of_getElem? (i := 161) rfl)))
  · exact va_Nw.of rfl (hT _ (in_tables_1_3 (List.mem_of_getElem? (i := 163) rfl)))
  · exact va_Nw.of rfl (hT _ (in_tables_1_3 (List.mem_of_getElem? (i := 165) rfl)))
  · exact va_AO.of (hT _ ao_str)
  · exact vx_Zqof (hT _ (in_tables_1_3 (List.mem_of_getElem? (i := 184) rfl))) (hT _ (in_tables_1_1 (List.mem_of_getElem? (i := 14) rfl))) (hs _ (List.mem_of_getElem? (i := 4) rfl)) hA
  · exact vx_Zqof (hT _ (in_tables_1_3 (List.mem_of_getElem? (i := 186) rfl))) (hT _ (in_tables_1_1 (List.mem_of_getElem? (i := 14) rfl))) (hs _ (List.mem_of_getElem? (i := 5) rfl)) hA
  · exact va_Zof (hT _ (in_tables_1_4 (List.mem_of_getElem? (i := 28) rfl))) (hT _ (in_tables_1_1 (List.mem_of_getElem? (i := 18) rfl))) (va_eqt (hs _ (List.mem_of_getElem? (i := 6) rfl))) hA
  · exact va_Zqof (hT _ (in_tables_1_4 (List.mem_of_getElem? (i := 44) rfl))) (hT _ (in_tables_1_1 (List.mem_of_getElem? (i := 20) rfl))) (hs _ (List.mem_of_getElem? (i := 7) rfl)) hA
  · show l.stackTraces = false
    unfold Launch.stackTraces
    rw [hflags]
    decide
theorem lw_enter {p : Program} {e : Env} {s : State} {m : MethodId} {below : List Frame} {meth : Method} {c : Code} (l : Launch) (hflags : l.flags = flags0) {b L : Nat} {xs : Nat → Int32} (C0 : lw_At p s m meth c b L xs) : ∃ g : WC, g_N g = s.heap.size ∧
    Cx (p, l, e, room_1, s, m, #[Value.ref b], below, meth, c, lw_Z below #[Value.ref b] s) g R_law code 7 ∧ (room_1 = room_1 ∧ va_X b L xs s s.heap ∧ b < s.heap.size ∧ ¬ g_N g ≤ b) := by
  obtain ⟨h1, h2, h3, h4, h5, hT, h7, h8, h9, hpre⟩ := C0
  have hs := flat_of_before _ hpre
  have hW : ∀ w ∈ TW, w.before #[Value.ref b] s = true := fun w hw => hT w (List.mem_filter.mp hw).1
  obtain ⟨D, hD⟩ := lw_kn hW
  obtain ⟨ac, hac⟩ := lw_ar hT
  obtain ⟨sa, sv, hx⟩ := lw_tx (A := fun q => s.heap.size ≤ q) hs (fun a h => Nat.not_le.mpr h)
  exact ⟨(l, s.heap.size, D, ac, sa, sv), rfl, ⟨h1, h2, h4, h5, hW, ⟨hD, hac⟩, h9, rfl, lw_AX hflags hT hs hD hx⟩, rfl, h7, h8, Nat.not_le.mpr h8⟩
