/-! ===== at the law's entry ===== -/
theorem tsx {args : Array Value} {s : State} {tm : Term} {N : Nat} {byt : List Int32} {A : Nat → Prop} (hN : N < 2 ^ 31) (hex : (Cond.exactly tm "java/lang/String").before args s = true) (hco : (Cond.eq (.field tm "java/lang/String" "coder" "B") (.int 0)).before args s = true)
    (har : (Cond.arrayOf (.field tm "java/lang/String" "value" "[B") .byte).before args s = true) (hle : (Cond.eq (.length (.field tm "java/lang/String" "value" "[B")) (.int (Int32.ofNat N))).before args s = true)
    (hel : ∀ j : Nat, j < N → (Cond.eq (.elem (.field tm "java/lang/String" "value" "[B") (.int (Int32.ofNat j))) (.int (byt.getD j 0))).before args s = true) (hA : ∀ a : Nat, a < s.heap.size → ¬ A a) :
    ∃ q : Nat × Nat, tm.eval args s none [] s = some (.ref q.1) ∧ va_O "java/lang/String" q.1 A s s.heap ∧ va_OF "java/lang/String" "coder" "B" (.int 0) q.1 A s s.heap ∧ va_OF "java/lang/String" "value" "[B" (.ref q.2) q.1 A s s.heap ∧ va_T .byte q.2 N (fun j => .int (byt.getD j 0)) A s s.heap := by
  obtain ⟨a, c, cA, kA, q1, q2, q3, q4, q5, q6, -⟩ := Cond.exactly_spec (args := args) (first := s) (o := none) (s := s) (idx := []) (t := tm) (cls := "java/lang/String") hex
  obtain ⟨t, ht, hT⟩ := va_Tof (f := fun j => .int (byt.getD j 0)) (A := A) hN har (va_eqt hle) (fun j hj => va_eqt (hel j hj)) hA
  exact ⟨(a, t), q1, ⟨cA, q3, q5, by rw [q6]; exact q2, hA a (Array.getElem?_eq_some_iff.mp q3).1⟩, vk_OFof q1 (va_eqt hco) hA, vk_OFof q1 ht hA, hT⟩
set_option maxRecDepth 20000 in
theorem en_0 {args : Array Value} {s : State} {A : Nat → Prop} (hs : ∀ w ∈ flatC (Cond.and given_1 narrow_1), w.before args s = true) (hA : ∀ a : Nat, a < s.heap.size → ¬ A a) : ∃ q : Nat × Nat, (Term.string RX5 111).eval args s none [] s = some (.ref q.1) ∧ va_O "java/lang/String" q.1 A s s.heap ∧ va_OF "java/lang/String" "coder" "B" (.int 0) q.1 A s s.heap ∧ va_OF "java/lang/String" "value" "[B" (.ref q.2) q.1 A s s.heap ∧ va_T .byte q.2 7 (fun j => .int (([115, 116, 114, 101, 101, 116, 115] : List Int32).getD j 0)) A s s.heap :=
  tsx (by decide) (hs _ (List.mem_of_getElem? (i := 73) rfl)) (hs _ (List.mem_of_getElem? (i := 74) rfl)) (hs _ (List.mem_of_getElem? (i := 75) rfl)) (hs _ (List.mem_of_getElem? (i := 76) rfl)) (fun j hj => by
    have h9 : j = 0 ∨ j = 1 ∨ j = 2 ∨ j = 3 ∨ j = 4 ∨ j = 5 ∨ j = 6 := by omega
    rcases h9 with rfl | rfl | rfl | rfl | rfl | rfl | rfl
    · exact hs _ (List.mem_of_getElem? (i := 77) rfl)
    · exact hs _ (List.mem_of_getElem? (i := 78) rfl)
    · exact hs _ (List.mem_of_getElem? (i := 79) rfl)
    · exact hs _ (List.mem_of_getElem? (i := 80) rfl)
    · exact hs _ (List.mem_of_getElem? (i := 81) rfl)
    · exact hs _ (List.mem_of_getElem? (i := 82) rfl)
    · exact hs _ (List.mem_of_getElem? (i := 83) rfl)) hA
set_option maxRecDepth 20000 in
theorem en_1 {args : Array Value} {s : State} {A : Nat → Prop} (hs : ∀ w ∈ flatC (Cond.and given_1 narrow_1), w.before args s = true) (hA : ∀ a : Nat, a < s.heap.size → ¬ A a) : ∃ q : Nat × Nat, (Term.string RX5 119).eval args s none [] s = some (.ref q.1) ∧ va_O "java/lang/String" q.1 A s s.heap ∧ va_OF "java/lang/String" "coder" "B" (.int 0) q.1 A s s.heap ∧ va_OF "java/lang/String" "value" "[B" (.ref q.2) q.1 A s s.heap ∧ va_T .byte q.2 4 (fun j => .int (([112, 97, 116, 104] : List Int32).getD j 0)) A s s.heap :=
  tsx (by decide) (hs _ (List.mem_of_getElem? (i := 84) rfl)) (hs _ (List.mem_of_getElem? (i := 85) rfl)) (hs _ (List.mem_of_getElem? (i := 86) rfl)) (hs _ (List.mem_of_getElem? (i := 87) rfl)) (fun j hj => by
    have h9 : j = 0 ∨ j = 1 ∨ j = 2 ∨ j = 3 := by omega
    rcases h9 with rfl | rfl | rfl | rfl
    · exact hs _ (List.mem_of_getElem? (i := 88) rfl)
    · exact hs _ (List.mem_of_getElem? (i := 89) rfl)
    · exact hs _ (List.mem_of_getElem? (i := 90) rfl)
    · exact hs _ (List.mem_of_getElem? (i := 91) rfl)) hA
set_option maxRecDepth 20000 in
theorem en_2 {args : Array Value} {s : State} {A : Nat → Prop} (hs : ∀ w ∈ flatC (Cond.and given_1 narrow_1), w.before args s = true) (hA : ∀ a : Nat, a < s.heap.size → ¬ A a) : ∃ q : Nat × Nat, (Term.string RX5 124).eval args s none [] s = some (.ref q.1) ∧ va_O "java/lang/String" q.1 A s s.heap ∧ va_OF "java/lang/String" "coder" "B" (.int 0) q.1 A s s.heap ∧ va_OF "java/lang/String" "value" "[B" (.ref q.2) q.1 A s s.heap ∧ va_T .byte q.2 5 (fun j => .int (([114, 111, 117, 110, 100] : List Int32).getD j 0)) A s s.heap :=
  tsx (by decide) (hs _ (List.mem_of_getElem? (i := 92) rfl)) (hs _ (List.mem_of_getElem? (i := 93) rfl)) (hs _ (List.mem_of_getElem? (i := 94) rfl)) (hs _ (List.mem_of_getElem? (i := 95) rfl)) (fun j hj => by
    have h9 : j = 0 ∨ j = 1 ∨ j = 2 ∨ j = 3 ∨ j = 4 := by omega
    rcases h9 with rfl | rfl | rfl | rfl | rfl
    · exact hs _ (List.mem_of_getElem? (i := 96) rfl)
    · exact hs _ (List.mem_of_getElem? (i := 97) rfl)
    · exact hs _ (List.mem_of_getElem? (i := 98) rfl)
    · exact hs _ (List.mem_of_getElem? (i := 99) rfl)
    · exact hs _ (List.mem_of_getElem? (i := 100) rfl)) hA
set_option maxRecDepth 20000 in
theorem en_3 {args : Array Value} {s : State} {A : Nat → Prop} (hs : ∀ w ∈ flatC (Cond.and given_1 narrow_1), w.before args s = true) (hA : ∀ a : Nat, a < s.heap.size → ¬ A a) : ∃ q : Nat × Nat, (Term.string RX5 129).eval args s none [] s = some (.ref q.1) ∧ va_O "java/lang/String" q.1 A s s.heap ∧ va_OF "java/lang/String" "coder" "B" (.int 0) q.1 A s s.heap ∧ va_OF "java/lang/String" "value" "[B" (.ref q.2) q.1 A s s.heap ∧ va_T .byte q.2 6 (fun j => .int (([112, 101, 114, 115, 111, 110] : List Int32).getD j 0)) A s s.heap :=
  tsx (by decide) (hs _ (List.mem_of_getElem? (i := 101) rfl)) (hs _ (List.mem_of_getElem? (i := 102) rfl)) (hs _ (List.mem_of_getElem? (i := 103) rfl)) (hs _ (List.mem_of_getElem? (i := 104) rfl)) (fun j hj => by
    have h9 : j = 0 ∨ j = 1 ∨ j = 2 ∨ j = 3 ∨ j = 4 ∨ j = 5 := by omega
    rcases h9 with rfl | rfl | rfl | rfl | rfl | rfl
    · exact hs _ (List.mem_of_getElem? (i := 105) rfl)
    · exact hs _ (List.mem_of_getElem? (i := 106) rfl)
    · exact hs _ (List.mem_of_getElem? (i := 107) rfl)
    · exact hs _ (List.mem_of_getElem? (i := 108) rfl)
    · exact hs _ (List.mem_of_getElem? (i := 109) rfl)
    · exact hs _ (List.mem_of_getElem? (i := 110) rfl)) hA
set_option maxRecDepth 20000 in
theorem en_4 {args : Array Value} {s : State} {A : Nat → Prop} (hs : ∀ w ∈ flatC (Cond.and given_1 narrow_1), w.before args s = true) (hA : ∀ a : Nat, a < s.heap.size → ¬ A a) : ∃ q : Nat × Nat, (Term.string RX5 135).eval args s none [] s = some (.ref q.1) ∧ va_O "java/lang/String" q.1 A s s.heap ∧ va_OF "java/lang/String" "coder" "B" (.int 0) q.1 A s s.heap ∧ va_OF "java/lang/String" "value" "[B" (.ref q.2) q.1 A s s.heap ∧ va_T .byte q.2 6 (fun j => .int (([98, 105, 115, 104, 111, 112] : List Int32).getD j 0)) A s s.heap :=
  tsx (by decide) (hs _ (List.mem_of_getElem? (i := 111) rfl)) (hs _ (List.mem_of_getElem? (i := 112) rfl)) (hs _ (List.mem_of_getElem? (i := 113) rfl)) (hs _ (List.mem_of_getElem? (i := 114) rfl)) (fun j hj => by
    have h9 : j = 0 ∨ j = 1 ∨ j = 2 ∨ j = 3 ∨ j = 4 ∨ j = 5 := by omega
    rcases h9 with rfl | rfl | rfl | rfl | rfl | rfl
    · exact hs _ (List.mem_of_getElem? (i := 115) rfl)
    · exact hs _ (List.mem_of_getElem? (i := 116) rfl)
    · exact hs _ (List.mem_of_getElem? (i := 117) rfl)
    · exact hs _ (List.mem_of_getElem? (i := 118) rfl)
    · exact hs _ (List.mem_of_getElem? (i := 119) rfl)
    · exact hs _ (List.mem_of_getElem? (i := 120) rfl)) hA
set_option maxRecDepth 20000 in
theorem en_5 {args : Array Value} {s : State} {A : Nat → Prop} (hs : ∀ w ∈ flatC (Cond.and given_1 narrow_1), w.before args s = true) (hA : ∀ a : Nat, a < s.heap.size → ¬ A a) : ∃ q : Nat × Nat, (Term.string RX5 137).eval args s none [] s = some (.ref q.1) ∧ va_O "java/lang/String" q.1 A s s.heap ∧ va_OF "java/lang/String" "coder" "B" (.int 0) q.1 A s s.heap ∧ va_OF "java/lang/String" "value" "[B" (.ref q.2) q.1 A s s.heap ∧ va_T .byte q.2 3 (fun j => .int (([102, 111, 103] : List Int32).getD j 0)) A s s.heap :=
  tsx (by decide) (hs _ (List.mem_of_getElem? (i := 121) rfl)) (hs _ (List.mem_of_getElem? (i := 122) rfl)) (hs _ (List.mem_of_getElem? (i := 123) rfl)) (hs _ (List.mem_of_getElem? (i := 124) rfl)) (fun j hj => by
    have h9 : j = 0 ∨ j = 1 ∨ j = 2 := by omega
    rcases h9 with rfl | rfl | rfl
    · exact hs _ (List.mem_of_getElem? (i := 125) rfl)
    · exact hs _ (List.mem_of_getElem? (i := 126) rfl)
    · exact hs _ (List.mem_of_getElem? (i := 127) rfl)) hA
set_option maxRecDepth 20000 in
theorem en_6 {args : Array Value} {s : State} {A : Nat → Prop} (hs : ∀ w ∈ flatC (Cond.and given_1 narrow_1), w.before args s = true) (hA : ∀ a : Nat, a < s.heap.size → ¬ A a) : ∃ q : Nat × Nat, (Term.string RX5 142).eval args s none [] s = some (.ref q.1) ∧ va_O "java/lang/String" q.1 A s s.heap ∧ va_OF "java/lang/String" "coder" "B" (.int 0) q.1 A s s.heap ∧ va_OF "java/lang/String" "value" "[B" (.ref q.2) q.1 A s s.heap ∧ va_T .byte q.2 7 (fun j => .int (([114, 101, 115, 101, 114, 118, 101] : List Int32).getD j 0)) A s s.heap :=
  tsx (by decide) (hs _ (List.mem_of_getElem? (i := 128) rfl)) (hs _ (List.mem_of_getElem? (i := 129) rfl)) (hs _ (List.mem_of_getElem? (i := 130) rfl)) (hs _ (List.mem_of_getElem? (i := 131) rfl)) (fun j hj => by
    have h9 : j = 0 ∨ j = 1 ∨ j = 2 ∨ j = 3 ∨ j = 4 ∨ j = 5 ∨ j = 6 := by omega
    rcases h9 with rfl | rfl | rfl | rfl | rfl | rfl | rfl
    · exact hs _ (List.mem_of_getElem? (i := 132) rfl)
    · exact hs _ (List.mem_of_getElem? (i := 133) rfl)
    · exact hs _ (List.mem_of_getElem? (i := 134) rfl)
    · exact hs _ (List.mem_of_getElem? (i := 135) rfl)
    · exact hs _ (List.mem_of_getElem? (i := 136) rfl)
    · exact hs _ (List.mem_of_getElem? (i := 137) rfl)
    · exact hs _ (List.mem_of_getElem? (i := 138) rfl)) hA
set_option maxRecDepth 20000 in
theorem en_7 {args : Array Value} {s : State} {A : Nat → Prop} (hs : ∀ w ∈ flatC (Cond.and given_1 narrow_1), w.before args s = true) (hA : ∀ a : Nat, a < s.heap.size → ¬ A a) : ∃ q : Nat × Nat, (Term.string RX5 147).eval args s none [] s = some (.ref q.1) ∧ va_O "java/lang/String" q.1 A s s.heap ∧ va_OF "java/lang/String" "coder" "B" (.int 0) q.1 A s s.heap ∧ va_OF "java/lang/String" "value" "[B" (.ref q.2) q.1 A s s.heap ∧ va_T .byte q.2 5 (fun j => .int (([119, 111, 114, 116, 104] : List Int32).getD j 0)) A s s.heap :=
  tsx (by decide) (hs _ (List.mem_of_getElem? (i := 139) rfl)) (hs _ (List.mem_of_getElem? (i := 140) rfl)) (hs _ (List.mem_of_getElem? (i := 141) rfl)) (hs _ (List.mem_of_getElem? (i := 142) rfl)) (fun j hj => by
    have h9 : j = 0 ∨ j = 1 ∨ j = 2 ∨ j = 3 ∨ j = 4 := by omega
    rcases h9 with rfl | rfl | rfl | rfl | rfl
    · exact hs _ (List.mem_of_getElem? (i := 143) rfl)
    · exact hs _ (List.mem_of_getElem? (i := 144) rfl)
    · exact hs _ (List.mem_of_getElem? (i := 145) rfl)
    · exact hs _ (List.mem_of_getElem? (i := 146) rfl)
    · exact hs _ (List.mem_of_getElem? (i := 147) rfl)) hA
set_option maxRecDepth 20000 in
theorem en_8 {args : Array Value} {s : State} {A : Nat → Prop} (hs : ∀ w ∈ flatC (Cond.and given_1 narrow_1), w.before args s = true) (hA : ∀ a : Nat, a < s.heap.size → ¬ A a) : ∃ q : Nat × Nat, (Term.string RX5 215).eval args s none [] s = some (.ref q.1) ∧ va_O "java/lang/String" q.1 A s s.heap ∧ va_OF "java/lang/String" "coder" "B" (.int 0) q.1 A s s.heap ∧ va_OF "java/lang/String" "value" "[B" (.ref q.2) q.1 A s s.heap ∧ va_T .byte q.2 3 (fun j => .int (([110, 111, 116] : List Int32).getD j 0)) A s s.heap :=
  tsx (by decide) (hs _ (List.mem_of_getElem? (i := 148) rfl)) (hs _ (List.mem_of_getElem? (i := 149) rfl)) (hs _ (List.mem_of_getElem? (i := 150) rfl)) (hs _ (List.mem_of_getElem? (i := 151) rfl)) (fun j hj => by
    have h9 : j = 0 ∨ j = 1 ∨ j = 2 := by omega
    rcases h9 with rfl | rfl | rfl
    · exact hs _ (List.mem_of_getElem? (i := 152) rfl)
    · exact hs _ (List.mem_of_getElem? (i := 153) rfl)
    · exact hs _ (List.mem_of_getElem? (i := 154) rfl)) hA
set_option maxRecDepth 20000 in
theorem en_9 {args : Array Value} {s : State} {A : Nat → Prop} (hs : ∀ w ∈ flatC (Cond.and given_1 narrow_1), w.before args s = true) (hA : ∀ a : Nat, a < s.heap.size → ¬ A a) : ∃ q : Nat × Nat, (Term.string RX5 235).eval args s none [] s = some (.ref q.1) ∧ va_O "java/lang/String" q.1 A s s.heap ∧ va_OF "java/lang/String" "coder" "B" (.int 0) q.1 A s s.heap ∧ va_OF "java/lang/String" "value" "[B" (.ref q.2) q.1 A s s.heap ∧ va_T .byte q.2 3 (fun j => .int (([111, 119, 110] : List Int32).getD j 0)) A s s.heap :=
  tsx (by decide) (hs _ (List.mem_of_getElem? (i := 155) rfl)) (hs _ (List.mem_of_getElem? (i := 156) rfl)) (hs _ (List.mem_of_getElem? (i := 157) rfl)) (hs _ (List.mem_of_getElem? (i := 158) rfl)) (fun j hj => by
    have h9 : j = 0 ∨ j = 1 ∨ j = 2 := by omega
    rcases h9 with rfl | rfl | rfl
    · exact hs _ (List.mem_of_getElem? (i := 159) rfl)
    · exact hs _ (List.mem_of_getElem? (i := 160) rfl)
    · exact hs _ (List.mem_of_getElem? (i := 161) rfl)) hA
set_option maxRecDepth 20000 in
theorem en_10 {args : Array Value} {s : State} {A : Nat → Prop} (hs : ∀ w ∈ flatC (Cond.and given_1 narrow_1), w.before args s = true) (hA : ∀ a : Nat, a < s.heap.size → ¬ A a) : ∃ q : Nat × Nat, (Term.string RX5 237).eval args s none [] s = some (.ref q.1) ∧ va_O "java/lang/String" q.1 A s s.heap ∧ va_OF "java/lang/String" "coder" "B" (.int 0) q.1 A s s.heap ∧ va_OF "java/lang/String" "value" "[B" (.ref q.2) q.1 A s s.heap ∧ va_T .byte q.2 5 (fun j => .int (([99, 111, 105, 110, 115] : List Int32).getD j 0)) A s s.heap :=
  tsx (by decide) (hs _ (List.mem_of_getElem? (i := 162) rfl)) (hs _ (List.mem_of_getElem? (i := 163) rfl)) (hs _ (List.mem_of_getElem? (i := 164) rfl)) (hs _ (List.mem_of_getElem? (i := 165) rfl)) (fun j hj => by
    have h9 : j = 0 ∨ j = 1 ∨ j = 2 ∨ j = 3 ∨ j = 4 := by omega
    rcases h9 with rfl | rfl | rfl | rfl | rfl
    · exact hs _ (List.mem_of_getElem? (i := 166) rfl)
    · exact hs _ (List.mem_of_getElem? (i := 167) rfl)
    · exact hs _ (List.mem_of_getElem? (i := 168) rfl)
    · exact hs _ (List.mem_of_getElem? (i := 169) rfl)
    · exact hs _ (List.mem_of_getElem? (i := 170) rfl)) hA
set_option maxRecDepth 20000 in
theorem en_11 {args : Array Value} {s : State} {A : Nat → Prop} (hs : ∀ w ∈ flatC (Cond.and given_1 narrow_1), w.before args s = true) (hA : ∀ a : Nat, a < s.heap.size → ¬ A a) : ∃ q : Nat × Nat, (Term.string RX5 239).eval args s none [] s = some (.ref q.1) ∧ va_O "java/lang/String" q.1 A s s.heap ∧ va_OF "java/lang/String" "coder" "B" (.int 0) q.1 A s s.heap ∧ va_OF "java/lang/String" "value" "[B" (.ref q.2) q.1 A s s.heap ∧ va_T .byte q.2 6 (fun j => .int (([116, 104, 101, 105, 114, 115] : List Int32).getD j 0)) A s s.heap :=
  tsx (by decide) (hs _ (List.mem_of_getElem? (i := 171) rfl)) (hs _ (List.mem_of_getElem? (i := 172) rfl)) (hs _ (List.mem_of_getElem? (i := 173) rfl)) (hs _ (List.mem_of_getElem? (i := 174) rfl)) (fun j hj => by
    have h9 : j = 0 ∨ j = 1 ∨ j = 2 ∨ j = 3 ∨ j = 4 ∨ j = 5 := by omega
    rcases h9 with rfl | rfl | rfl | rfl | rfl | rfl
    · exact hs _ (List.mem_of_getElem? (i := 175) rfl)
    · exact hs _ (List.mem_of_getElem? (i := 176) rfl)
    · exact hs _ (List.mem_of_getElem? (i := 177) rfl)
    · exact hs _ (List.mem_of_getElem? (i := 178) rfl)
    · exact hs _ (List.mem_of_getElem? (i := 179) rfl)
    · exact hs _ (List.mem_of_getElem? (i := 180) rfl)) hA
set_option maxRecDepth 20000 in
theorem en_12 {args : Array Value} {s : State} {A : Nat → Prop} (hs : ∀ w ∈ flatC (Cond.and given_1 narrow_1), w.before args s = true) (hA : ∀ a : Nat, a < s.heap.size → ¬ A a) : ∃ q : Nat × Nat, (Term.string RX5 241).eval args s none [] s = some (.ref q.1) ∧ va_O "java/lang/String" q.1 A s s.heap ∧ va_OF "java/lang/String" "coder" "B" (.int 0) q.1 A s s.heap ∧ va_OF "java/lang/String" "value" "[B" (.ref q.2) q.1 A s s.heap ∧ va_T .byte q.2 5 (fun j => .int (([107, 110, 111, 119, 115] : List Int32).getD j 0)) A s s.heap :=
  tsx (by decide) (hs _ (List.mem_of_getElem? (i := 181) rfl)) (hs _ (List.mem_of_getElem? (i := 182) rfl)) (hs _ (List.mem_of_getElem? (i := 183) rfl)) (hs _ (List.mem_of_getElem? (i := 184) rfl)) (fun j hj => by
    have h9 : j = 0 ∨ j = 1 ∨ j = 2 ∨ j = 3 ∨ j = 4 := by omega
    rcases h9 with rfl | rfl | rfl | rfl | rfl
    · exact hs _ (List.mem_of_getElem? (i := 185) rfl)
    · exact hs _ (List.mem_of_getElem? (i := 186) rfl)
    · exact hs _ (List.mem_of_getElem? (i := 187) rfl)
    · exact hs _ (List.mem_of_getElem? (i := 188) rfl)
    · exact hs _ (List.mem_of_getElem? (i := 189) rfl)) hA
set_option maxRecDepth 20000 in
theorem en_13 {args : Array Value} {s : State} {A : Nat → Prop} (hs : ∀ w ∈ flatC (Cond.and given_1 narrow_1), w.before args s = true) (hA : ∀ a : Nat, a < s.heap.size → ¬ A a) : ∃ q : Nat × Nat, (Term.string RX5 243).eval args s none [] s = some (.ref q.1) ∧ va_O "java/lang/String" q.1 A s s.heap ∧ va_OF "java/lang/String" "coder" "B" (.int 0) q.1 A s s.heap ∧ va_OF "java/lang/String" "value" "[B" (.ref q.2) q.1 A s s.heap ∧ va_T .byte q.2 5 (fun j => .int (([104, 111, 117, 114, 115] : List Int32).getD j 0)) A s s.heap :=
  tsx (by decide) (hs _ (List.mem_of_getElem? (i := 190) rfl)) (hs _ (List.mem_of_getElem? (i := 191) rfl)) (hs _ (List.mem_of_getElem? (i := 192) rfl)) (hs _ (List.mem_of_getElem? (i := 193) rfl)) (fun j hj => by
    have h9 : j = 0 ∨ j = 1 ∨ j = 2 ∨ j = 3 ∨ j = 4 := by omega
    rcases h9 with rfl | rfl | rfl | rfl | rfl
    · exact hs _ (List.mem_of_getElem? (i := 194) rfl)
    · exact hs _ (List.mem_of_getElem? (i := 195) rfl)
    · exact hs _ (List.mem_of_getElem? (i := 196) rfl)
    · exact hs _ (List.mem_of_getElem? (i := 197) rfl)
    · exact hs _ (List.mem_of_getElem? (i := 198) rfl)) hA
set_option maxRecDepth 20000 in
theorem en_14 {args : Array Value} {s : State} {A : Nat → Prop} (hs : ∀ w ∈ flatC (Cond.and given_1 narrow_1), w.before args s = true) (hA : ∀ a : Nat, a < s.heap.size → ¬ A a) : ∃ q : Nat × Nat, (Term.string RX5 245).eval args s none [] s = some (.ref q.1) ∧ va_O "java/lang/String" q.1 A s s.heap ∧ va_OF "java/lang/String" "coder" "B" (.int 0) q.1 A s s.heap ∧ va_OF "java/lang/String" "value" "[B" (.ref q.2) q.1 A s s.heap ∧ va_T .byte q.2 6 (fun j => .int (([115, 116, 114, 101, 101, 116] : List Int32).getD j 0)) A s s.heap :=
  tsx (by decide) (hs _ (List.mem_of_getElem? (i := 199) rfl)) (hs _ (List.mem_of_getElem? (i := 200) rfl)) (hs _ (List.mem_of_getElem? (i := 201) rfl)) (hs _ (List.mem_of_getElem? (i := 202) rfl)) (fun j hj => by
    have h9 : j = 0 ∨ j = 1 ∨ j = 2 ∨ j = 3 ∨ j = 4 ∨ j = 5 := by omega
    rcases h9 with rfl | rfl | rfl | rfl | rfl | rfl
    · exact hs _ (List.mem_of_getElem? (i := 203) rfl)
    · exact hs _ (List.mem_of_getElem? (i := 204) rfl)
    · exact hs _ (List.mem_of_getElem? (i := 205) rfl)
    · exact hs _ (List.mem_of_getElem? (i := 206) rfl)
    · exact hs _ (List.mem_of_getElem? (i := 207) rfl)
    · exact hs _ (List.mem_of_getElem? (i := 208) rfl)) hA
set_option maxRecDepth 20000 in
theorem en_15 {args : Array Value} {s : State} {A : Nat → Prop} (hs : ∀ w ∈ flatC (Cond.and given_1 narrow_1), w.before args s = true) (hA : ∀ a : Nat, a < s.heap.size → ¬ A a) : ∃ q : Nat × Nat, (Term.string RX5 246).eval args s none [] s = some (.ref q.1) ∧ va_O "java/lang/String" q.1 A s s.heap ∧ va_OF "java/lang/String" "coder" "B" (.int 0) q.1 A s s.heap ∧ va_OF "java/lang/String" "value" "[B" (.ref q.2) q.1 A s s.heap ∧ va_T .byte q.2 4 (fun j => .int (([108, 111, 116, 115] : List Int32).getD j 0)) A s s.heap :=
  tsx (by decide) (hs _ (List.mem_of_getElem? (i := 209) rfl)) (hs _ (List.mem_of_getElem? (i := 210) rfl)) (hs _ (List.mem_of_getElem? (i := 211) rfl)) (hs _ (List.mem_of_getElem? (i := 212) rfl)) (fun j hj => by
    have h9 : j = 0 ∨ j = 1 ∨ j = 2 ∨ j = 3 := by omega
    rcases h9 with rfl | rfl | rfl | rfl
    · exact hs _ (List.mem_of_getElem? (i := 213) rfl)
    · exact hs _ (List.mem_of_getElem? (i := 214) rfl)
    · exact hs _ (List.mem_of_getElem? (i := 215) rfl)
    · exact hs _ (List.mem_of_getElem? (i := 216) rfl)) hA
set_option maxRecDepth 20000 in
theorem en_16 {args : Array Value} {s : State} {A : Nat → Prop} (hs : ∀ w ∈ flatC (Cond.and given_1 narrow_1), w.before args s = true) (hA : ∀ a : Nat, a < s.heap.size → ¬ A a) : ∃ q : Nat × Nat, (Term.string RX5 248).eval args s none [] s = some (.ref q.1) ∧ va_O "java/lang/String" q.1 A s s.heap ∧ va_OF "java/lang/String" "coder" "B" (.int 0) q.1 A s s.heap ∧ va_OF "java/lang/String" "value" "[B" (.ref q.2) q.1 A s s.heap ∧ va_T .byte q.2 5 (fun j => .int (([110, 105, 103, 104, 116] : List Int32).getD j 0)) A s s.heap :=
  tsx (by decide) (hs _ (List.mem_of_getElem? (i := 217) rfl)) (hs _ (List.mem_of_getElem? (i := 218) rfl)) (hs _ (List.mem_of_getElem? (i := 219) rfl)) (hs _ (List.mem_of_getElem? (i := 220) rfl)) (fun j hj => by
    have h9 : j = 0 ∨ j = 1 ∨ j = 2 ∨ j = 3 ∨ j = 4 := by omega
    rcases h9 with rfl | rfl | rfl | rfl | rfl
    · exact hs _ (List.mem_of_getElem? (i := 221) rfl)
    · exact hs _ (List.mem_of_getElem? (i := 222) rfl)
    · exact hs _ (List.mem_of_getElem? (i := 223) rfl)
    · exact hs _ (List.mem_of_getElem? (i := 224) rfl)
    · exact hs _ (List.mem_of_getElem? (i := 225) rfl)) hA
set_option maxRecDepth 20000 in
theorem en_17 {args : Array Value} {s : State} {A : Nat → Prop} (hs : ∀ w ∈ flatC (Cond.and given_1 narrow_1), w.before args s = true) (hA : ∀ a : Nat, a < s.heap.size → ¬ A a) : ∃ q : Nat × Nat, (Term.string RX5 213).eval args s none [] s = some (.ref q.1) ∧ va_O "java/lang/String" q.1 A s s.heap ∧ va_OF "java/lang/String" "coder" "B" (.int 0) q.1 A s s.heap ∧ va_OF "java/lang/String" "value" "[B" (.ref q.2) q.1 A s s.heap ∧ va_T .byte q.2 3 (fun j => .int (([97, 110, 100] : List Int32).getD j 0)) A s s.heap :=
  tsx (by decide) (hs _ (List.mem_of_getElem? (i := 226) rfl)) (hs _ (List.mem_of_getElem? (i := 227) rfl)) (hs _ (List.mem_of_getElem? (i := 228) rfl)) (hs _ (List.mem_of_getElem? (i := 229) rfl)) (fun j hj => by
    have h9 : j = 0 ∨ j = 1 ∨ j = 2 := by omega
    rcases h9 with rfl | rfl | rfl
    · exact hs _ (List.mem_of_getElem? (i := 230) rfl)
    · exact hs _ (List.mem_of_getElem? (i := 231) rfl)
    · exact hs _ (List.mem_of_getElem? (i := 232) rfl)) hA
set_option maxRecDepth 20000 in
theorem en_18 {args : Array Value} {s : State} {A : Nat → Prop} (hs : ∀ w ∈ flatC (Cond.and given_1 narrow_1), w.before args s = true) (hA : ∀ a : Nat, a < s.heap.size → ¬ A a) : ∃ q : Nat × Nat, (Term.string RX5 199).eval args s none [] s = some (.ref q.1) ∧ va_O "java/lang/String" q.1 A s s.heap ∧ va_OF "java/lang/String" "coder" "B" (.int 0) q.1 A s s.heap ∧ va_OF "java/lang/String" "value" "[B" (.ref q.2) q.1 A s s.heap ∧ va_T .byte q.2 2 (fun j => .int (([111, 114] : List Int32).getD j 0)) A s s.heap :=
  tsx (by decide) (hs _ (List.mem_of_getElem? (i := 233) rfl)) (hs _ (List.mem_of_getElem? (i := 234) rfl)) (hs _ (List.mem_of_getElem? (i := 235) rfl)) (hs _ (List.mem_of_getElem? (i := 236) rfl)) (fun j hj => by
    have h9 : j = 0 ∨ j = 1 := by omega
    rcases h9 with rfl | rfl
    · exact hs _ (List.mem_of_getElem? (i := 237) rfl)
    · exact hs _ (List.mem_of_getElem? (i := 238) rfl)) hA
set_option maxRecDepth 20000 in
theorem en_19 {args : Array Value} {s : State} {A : Nat → Prop} (hs : ∀ w ∈ flatC (Cond.and given_1 narrow_1), w.before args s = true) (hA : ∀ a : Nat, a < s.heap.size → ¬ A a) : ∃ q : Nat × Nat, (Term.string RX12 11).eval args s none [] s = some (.ref q.1) ∧ va_O "java/lang/String" q.1 A s s.heap ∧ va_OF "java/lang/String" "coder" "B" (.int 0) q.1 A s s.heap ∧ va_OF "java/lang/String" "value" "[B" (.ref q.2) q.1 A s s.heap ∧ va_T .byte q.2 6 (fun j => .int (([112, 101, 114, 115, 111, 110] : List Int32).getD j 0)) A s s.heap :=
  tsx (by decide) (hs _ (List.mem_of_getElem? (i := 347) rfl)) (hs _ (List.mem_of_getElem? (i := 348) rfl)) (hs _ (List.mem_of_getElem? (i := 349) rfl)) (hs _ (List.mem_of_getElem? (i := 350) rfl)) (fun j hj => by
    have h9 : j = 0 ∨ j = 1 ∨ j = 2 ∨ j = 3 ∨ j = 4 ∨ j = 5 := by omega
    rcases h9 with rfl | rfl | rfl | rfl | rfl | rfl
    · exact hs _ (List.mem_of_getElem? (i := 351) rfl)
    · exact hs _ (List.mem_of_getElem? (i := 352) rfl)
    · exact hs _ (List.mem_of_getElem? (i := 353) rfl)
    · exact hs _ (List.mem_of_getElem? (i := 354) rfl)
    · exact hs _ (List.mem_of_getElem? (i := 355) rfl)
    · exact hs _ (List.mem_of_getElem? (i := 356) rfl)) hA
set_option maxRecDepth 20000 in
theorem en_20 {args : Array Value} {s : State} {A : Nat → Prop} (hs : ∀ w ∈ flatC (Cond.and given_1 narrow_1), w.before args s = true) (hA : ∀ a : Nat, a < s.heap.size → ¬ A a) : ∃ q : Nat × Nat, (Term.string RX12 13).eval args s none [] s = some (.ref q.1) ∧ va_O "java/lang/String" q.1 A s s.heap ∧ va_OF "java/lang/String" "coder" "B" (.int 0) q.1 A s s.heap ∧ va_OF "java/lang/String" "value" "[B" (.ref q.2) q.1 A s s.heap ∧ va_T .byte q.2 6 (fun j => .int (([98, 105, 115, 104, 111, 112] : List Int32).getD j 0)) A s s.heap :=
  tsx (by decide) (hs _ (List.mem_of_getElem? (i := 358) rfl)) (hs _ (List.mem_of_getElem? (i := 359) rfl)) (hs _ (List.mem_of_getElem? (i := 360) rfl)) (hs _ (List.mem_of_getElem? (i := 361) rfl)) (fun j hj => by
    have h9 : j = 0 ∨ j = 1 ∨ j = 2 ∨ j = 3 ∨ j = 4 ∨ j = 5 := by omega
    rcases h9 with rfl | rfl | rfl | rfl | rfl | rfl
    · exact hs _ (List.mem_of_getElem? (i := 362) rfl)
    · exact hs _ (List.mem_of_getElem? (i := 363) rfl)
    · exact hs _ (List.mem_of_getElem? (i := 364) rfl)
    · exact hs _ (List.mem_of_getElem? (i := 365) rfl)
    · exact hs _ (List.mem_of_getElem? (i := 366) rfl)
    · exact hs _ (List.mem_of_getElem? (i := 367) rfl)) hA
set_option maxRecDepth 20000 in
theorem en_21 {args : Array Value} {s : State} {A : Nat → Prop} (hs : ∀ w ∈ flatC (Cond.and given_1 narrow_1), w.before args s = true) (hA : ∀ a : Nat, a < s.heap.size → ¬ A a) : ∃ q : Nat × Nat, (Term.string RX12 19).eval args s none [] s = some (.ref q.1) ∧ va_O "java/lang/String" q.1 A s s.heap ∧ va_OF "java/lang/String" "coder" "B" (.int 0) q.1 A s s.heap ∧ va_OF "java/lang/String" "value" "[B" (.ref q.2) q.1 A s s.heap ∧ va_T .byte q.2 3 (fun j => .int (([111, 119, 110] : List Int32).getD j 0)) A s s.heap :=
  tsx (by decide) (hs _ (List.mem_of_getElem? (i := 369) rfl)) (hs _ (List.mem_of_getElem? (i := 370) rfl)) (hs _ (List.mem_of_getElem? (i := 371) rfl)) (hs _ (List.mem_of_getElem? (i := 372) rfl)) (fun j hj => by
    have h9 : j = 0 ∨ j = 1 ∨ j = 2 := by omega
    rcases h9 with rfl | rfl | rfl
    · exact hs _ (List.mem_of_getElem? (i := 373) rfl)
    · exact hs _ (List.mem_of_getElem? (i := 374) rfl)
    · exact hs _ (List.mem_of_getElem? (i := 375) rfl)) hA
set_option maxRecDepth 20000 in
theorem en_22 {args : Array Value} {s : State} {A : Nat → Prop} (hs : ∀ w ∈ flatC (Cond.and given_1 narrow_1), w.before args s = true) (hA : ∀ a : Nat, a < s.heap.size → ¬ A a) : ∃ q : Nat × Nat, (Term.string RX12 21).eval args s none [] s = some (.ref q.1) ∧ va_O "java/lang/String" q.1 A s s.heap ∧ va_OF "java/lang/String" "coder" "B" (.int 0) q.1 A s s.heap ∧ va_OF "java/lang/String" "value" "[B" (.ref q.2) q.1 A s s.heap ∧ va_T .byte q.2 5 (fun j => .int (([99, 111, 105, 110, 115] : List Int32).getD j 0)) A s s.heap :=
  tsx (by decide) (hs _ (List.mem_of_getElem? (i := 377) rfl)) (hs _ (List.mem_of_getElem? (i := 378) rfl)) (hs _ (List.mem_of_getElem? (i := 379) rfl)) (hs _ (List.mem_of_getElem? (i := 380) rfl)) (fun j hj => by
    have h9 : j = 0 ∨ j = 1 ∨ j = 2 ∨ j = 3 ∨ j = 4 := by omega
    rcases h9 with rfl | rfl | rfl | rfl | rfl
    · exact hs _ (List.mem_of_getElem? (i := 381) rfl)
    · exact hs _ (List.mem_of_getElem? (i := 382) rfl)
    · exact hs _ (List.mem_of_getElem? (i := 383) rfl)
    · exact hs _ (List.mem_of_getElem? (i := 384) rfl)
    · exact hs _ (List.mem_of_getElem? (i := 385) rfl)) hA
set_option maxRecDepth 20000 in
theorem en_23 {args : Array Value} {s : State} {A : Nat → Prop} (hs : ∀ w ∈ flatC (Cond.and given_1 narrow_1), w.before args s = true) (hA : ∀ a : Nat, a < s.heap.size → ¬ A a) : ∃ q : Nat × Nat, (Term.string RX12 23).eval args s none [] s = some (.ref q.1) ∧ va_O "java/lang/String" q.1 A s s.heap ∧ va_OF "java/lang/String" "coder" "B" (.int 0) q.1 A s s.heap ∧ va_OF "java/lang/String" "value" "[B" (.ref q.2) q.1 A s s.heap ∧ va_T .byte q.2 6 (fun j => .int (([116, 104, 101, 105, 114, 115] : List Int32).getD j 0)) A s s.heap :=
  tsx (by decide) (hs _ (List.mem_of_getElem? (i := 387) rfl)) (hs _ (List.mem_of_getElem? (i := 388) rfl)) (hs _ (List.mem_of_getElem? (i := 389) rfl)) (hs _ (List.mem_of_getElem? (i := 390) rfl)) (fun j hj => by
    have h9 : j = 0 ∨ j = 1 ∨ j = 2 ∨ j = 3 ∨ j = 4 ∨ j = 5 := by omega
    rcases h9 with rfl | rfl | rfl | rfl | rfl | rfl
    · exact hs _ (List.mem_of_getElem? (i := 391) rfl)
    · exact hs _ (List.mem_of_getElem? (i := 392) rfl)
    · exact hs _ (List.mem_of_getElem? (i := 393) rfl)
    · exact hs _ (List.mem_of_getElem? (i := 394) rfl)
    · exact hs _ (List.mem_of_getElem? (i := 395) rfl)
    · exact hs _ (List.mem_of_getElem? (i := 396) rfl)) hA
set_option maxRecDepth 20000 in
theorem en_24 {args : Array Value} {s : State} {A : Nat → Prop} (hs : ∀ w ∈ flatC (Cond.and given_1 narrow_1), w.before args s = true) (hA : ∀ a : Nat, a < s.heap.size → ¬ A a) : ∃ q : Nat × Nat, (Term.string RX12 25).eval args s none [] s = some (.ref q.1) ∧ va_O "java/lang/String" q.1 A s s.heap ∧ va_OF "java/lang/String" "coder" "B" (.int 0) q.1 A s s.heap ∧ va_OF "java/lang/String" "value" "[B" (.ref q.2) q.1 A s s.heap ∧ va_T .byte q.2 5 (fun j => .int (([107, 110, 111, 119, 115] : List Int32).getD j 0)) A s s.heap :=
  tsx (by decide) (hs _ (List.mem_of_getElem? (i := 398) rfl)) (hs _ (List.mem_of_getElem? (i := 399) rfl)) (hs _ (List.mem_of_getElem? (i := 400) rfl)) (hs _ (List.mem_of_getElem? (i := 401) rfl)) (fun j hj => by
    have h9 : j = 0 ∨ j = 1 ∨ j = 2 ∨ j = 3 ∨ j = 4 := by omega
    rcases h9 with rfl | rfl | rfl | rfl | rfl
    · exact hs _ (List.mem_of_getElem? (i := 402) rfl)
    · exact hs _ (List.mem_of_getElem? (i := 403) rfl)
    · exact hs _ (List.mem_of_getElem? (i := 404) rfl)
    · exact hs _ (List.mem_of_getElem? (i := 405) rfl)
    · exact hs _ (List.mem_of_getElem? (i := 406) rfl)) hA
set_option maxRecDepth 20000 in
theorem en_25 {args : Array Value} {s : State} {A : Nat → Prop} (hs : ∀ w ∈ flatC (Cond.and given_1 narrow_1), w.before args s = true) (hA : ∀ a : Nat, a < s.heap.size → ¬ A a) : ∃ q : Nat × Nat, (Term.string RX12 27).eval args s none [] s = some (.ref q.1) ∧ va_O "java/lang/String" q.1 A s s.heap ∧ va_OF "java/lang/String" "coder" "B" (.int 0) q.1 A s s.heap ∧ va_OF "java/lang/String" "value" "[B" (.ref q.2) q.1 A s s.heap ∧ va_T .byte q.2 5 (fun j => .int (([104, 111, 117, 114, 115] : List Int32).getD j 0)) A s s.heap :=
  tsx (by decide) (hs _ (List.mem_of_getElem? (i := 408) rfl)) (hs _ (List.mem_of_getElem? (i := 409) rfl)) (hs _ (List.mem_of_getElem? (i := 410) rfl)) (hs _ (List.mem_of_getElem? (i := 411) rfl)) (fun j hj => by
    have h9 : j = 0 ∨ j = 1 ∨ j = 2 ∨ j = 3 ∨ j = 4 := by omega
    rcases h9 with rfl | rfl | rfl | rfl | rfl
    · exact hs _ (List.mem_of_getElem? (i := 412) rfl)
    · exact hs _ (List.mem_of_getElem? (i := 413) rfl)
    · exact hs _ (List.mem_of_getElem? (i := 414) rfl)
    · exact hs _ (List.mem_of_getElem? (i := 415) rfl)
    · exact hs _ (List.mem_of_getElem? (i := 416) rfl)) hA
set_option maxRecDepth 20000 in
theorem en_26 {args : Array Value} {s : State} {A : Nat → Prop} (hs : ∀ w ∈ flatC (Cond.and given_1 narrow_1), w.before args s = true) (hA : ∀ a : Nat, a < s.heap.size → ¬ A a) : ∃ q : Nat × Nat, (Term.string RX12 29).eval args s none [] s = some (.ref q.1) ∧ va_O "java/lang/String" q.1 A s s.heap ∧ va_OF "java/lang/String" "coder" "B" (.int 0) q.1 A s s.heap ∧ va_OF "java/lang/String" "value" "[B" (.ref q.2) q.1 A s s.heap ∧ va_T .byte q.2 6 (fun j => .int (([115, 116, 114, 101, 101, 116] : List Int32).getD j 0)) A s s.heap :=
  tsx (by decide) (hs _ (List.mem_of_getElem? (i := 418) rfl)) (hs _ (List.mem_of_getElem? (i := 419) rfl)) (hs _ (List.mem_of_getElem? (i := 420) rfl)) (hs _ (List.mem_of_getElem? (i := 421) rfl)) (fun j hj => by
    have h9 : j = 0 ∨ j = 1 ∨ j = 2 ∨ j = 3 ∨ j = 4 ∨ j = 5 := by omega
    rcases h9 with rfl | rfl | rfl | rfl | rfl | rfl
    · exact hs _ (List.mem_of_getElem? (i := 422) rfl)
    · exact hs _ (List.mem_of_getElem? (i := 423) rfl)
    · exact hs _ (List.mem_of_getElem? (i := 424) rfl)
    · exact hs _ (List.mem_of_getElem? (i := 425) rfl)
    · exact hs _ (List.mem_of_getElem? (i := 426) rfl)
    · exact hs _ (List.mem_of_getElem? (i := 427) rfl)) hA
set_option maxRecDepth 20000 in
theorem en_27 {args : Array Value} {s : State} {A : Nat → Prop} (hs : ∀ w ∈ flatC (Cond.and given_1 narrow_1), w.before args s = true) (hA : ∀ a : Nat, a < s.heap.size → ¬ A a) : ∃ q : Nat × Nat, (Term.string RX12 31).eval args s none [] s = some (.ref q.1) ∧ va_O "java/lang/String" q.1 A s s.heap ∧ va_OF "java/lang/String" "coder" "B" (.int 0) q.1 A s s.heap ∧ va_OF "java/lang/String" "value" "[B" (.ref q.2) q.1 A s s.heap ∧ va_T .byte q.2 4 (fun j => .int (([108, 111, 116, 115] : List Int32).getD j 0)) A s s.heap :=
  tsx (by decide) (hs _ (List.mem_of_getElem? (i := 429) rfl)) (hs _ (List.mem_of_getElem? (i := 430) rfl)) (hs _ (List.mem_of_getElem? (i := 431) rfl)) (hs _ (List.mem_of_getElem? (i := 432) rfl)) (fun j hj => by
    have h9 : j = 0 ∨ j = 1 ∨ j = 2 ∨ j = 3 := by omega
    rcases h9 with rfl | rfl | rfl | rfl
    · exact hs _ (List.mem_of_getElem? (i := 433) rfl)
    · exact hs _ (List.mem_of_getElem? (i := 434) rfl)
    · exact hs _ (List.mem_of_getElem? (i := 435) rfl)
    · exact hs _ (List.mem_of_getElem? (i := 436) rfl)) hA
set_option maxRecDepth 20000 in
theorem en_28 {args : Array Value} {s : State} {A : Nat → Prop} (hs : ∀ w ∈ flatC (Cond.and given_1 narrow_1), w.before args s = true) (hA : ∀ a : Nat, a < s.heap.size → ¬ A a) : ∃ q : Nat × Nat, (Term.string RX12 33).eval args s none [] s = some (.ref q.1) ∧ va_O "java/lang/String" q.1 A s s.heap ∧ va_OF "java/lang/String" "coder" "B" (.int 0) q.1 A s s.heap ∧ va_OF "java/lang/String" "value" "[B" (.ref q.2) q.1 A s s.heap ∧ va_T .byte q.2 5 (fun j => .int (([110, 105, 103, 104, 116] : List Int32).getD j 0)) A s s.heap :=
  tsx (by decide) (hs _ (List.mem_of_getElem? (i := 438) rfl)) (hs _ (List.mem_of_getElem? (i := 439) rfl)) (hs _ (List.mem_of_getElem? (i := 440) rfl)) (hs _ (List.mem_of_getElem? (i := 441) rfl)) (fun j hj => by
    have h9 : j = 0 ∨ j = 1 ∨ j = 2 ∨ j = 3 ∨ j = 4 := by omega
    rcases h9 with rfl | rfl | rfl | rfl | rfl
    · exact hs _ (List.mem_of_getElem? (i := 442) rfl)
    · exact hs _ (List.mem_of_getElem? (i := 443) rfl)
    · exact hs _ (List.mem_of_getElem? (i := 444) rfl)
    · exact hs _ (List.mem_of_getElem? (i := 445) rfl)
    · exact hs _ (List.mem_of_getElem? (i := 446) rfl)) hA
set_option maxRecDepth 20000 in
theorem en_29 {args : Array Value} {s : State} {A : Nat → Prop} (hs : ∀ w ∈ flatC (Cond.and given_1 narrow_1), w.before args s = true) (hA : ∀ a : Nat, a < s.heap.size → ¬ A a) : ∃ q : Nat × Nat, (Term.string RX12 297).eval args s none [] s = some (.ref q.1) ∧ va_O "java/lang/String" q.1 A s s.heap ∧ va_OF "java/lang/String" "coder" "B" (.int 0) q.1 A s s.heap ∧ va_OF "java/lang/String" "value" "[B" (.ref q.2) q.1 A s s.heap ∧ va_T .byte q.2 7 (fun j => .int (([115, 116, 114, 101, 101, 116, 115] : List Int32).getD j 0)) A s s.heap :=
  tsx (by decide) (hs _ (List.mem_of_getElem? (i := 448) rfl)) (hs _ (List.mem_of_getElem? (i := 449) rfl)) (hs _ (List.mem_of_getElem? (i := 450) rfl)) (hs _ (List.mem_of_getElem? (i := 451) rfl)) (fun j hj => by
    have h9 : j = 0 ∨ j = 1 ∨ j = 2 ∨ j = 3 ∨ j = 4 ∨ j = 5 ∨ j = 6 := by omega
    rcases h9 with rfl | rfl | rfl | rfl | rfl | rfl | rfl
    · exact hs _ (List.mem_of_getElem? (i := 452) rfl)
    · exact hs _ (List.mem_of_getElem? (i := 453) rfl)
    · exact hs _ (List.mem_of_getElem? (i := 454) rfl)
    · exact hs _ (List.mem_of_getElem? (i := 455) rfl)
    · exact hs _ (List.mem_of_getElem? (i := 456) rfl)
    · exact hs _ (List.mem_of_getElem? (i := 457) rfl)
    · exact hs _ (List.mem_of_getElem? (i := 458) rfl)) hA
set_option maxRecDepth 20000 in
theorem en_30 {args : Array Value} {s : State} {A : Nat → Prop} (hs : ∀ w ∈ flatC (Cond.and given_1 narrow_1), w.before args s = true) (hA : ∀ a : Nat, a < s.heap.size → ¬ A a) : ∃ q : Nat × Nat, (Term.string RX12 299).eval args s none [] s = some (.ref q.1) ∧ va_O "java/lang/String" q.1 A s s.heap ∧ va_OF "java/lang/String" "coder" "B" (.int 0) q.1 A s s.heap ∧ va_OF "java/lang/String" "value" "[B" (.ref q.2) q.1 A s s.heap ∧ va_T .byte q.2 5 (fun j => .int (([114, 111, 117, 110, 100] : List Int32).getD j 0)) A s s.heap :=
  tsx (by decide) (hs _ (List.mem_of_getElem? (i := 460) rfl)) (hs _ (List.mem_of_getElem? (i := 461) rfl)) (hs _ (List.mem_of_getElem? (i := 462) rfl)) (hs _ (List.mem_of_getElem? (i := 463) rfl)) (fun j hj => by
    have h9 : j = 0 ∨ j = 1 ∨ j = 2 ∨ j = 3 ∨ j = 4 := by omega
    rcases h9 with rfl | rfl | rfl | rfl | rfl
    · exact hs _ (List.mem_of_getElem? (i := 464) rfl)
    · exact hs _ (List.mem_of_getElem? (i := 465) rfl)
    · exact hs _ (List.mem_of_getElem? (i := 466) rfl)
    · exact hs _ (List.mem_of_getElem? (i := 467) rfl)
    · exact hs _ (List.mem_of_getElem? (i := 468) rfl)) hA
set_option maxRecDepth 20000 in
theorem en_31 {args : Array Value} {s : State} {A : Nat → Prop} (hs : ∀ w ∈ flatC (Cond.and given_1 narrow_1), w.before args s = true) (hA : ∀ a : Nat, a < s.heap.size → ¬ A a) : ∃ q : Nat × Nat, (Term.string RX12 301).eval args s none [] s = some (.ref q.1) ∧ va_O "java/lang/String" q.1 A s s.heap ∧ va_OF "java/lang/String" "coder" "B" (.int 0) q.1 A s s.heap ∧ va_OF "java/lang/String" "value" "[B" (.ref q.2) q.1 A s s.heap ∧ va_T .byte q.2 3 (fun j => .int (([102, 111, 103] : List Int32).getD j 0)) A s s.heap :=
  tsx (by decide) (hs _ (List.mem_of_getElem? (i := 470) rfl)) (hs _ (List.mem_of_getElem? (i := 471) rfl)) (hs _ (List.mem_of_getElem? (i := 472) rfl)) (hs _ (List.mem_of_getElem? (i := 473) rfl)) (fun j hj => by
    have h9 : j = 0 ∨ j = 1 ∨ j = 2 := by omega
    rcases h9 with rfl | rfl | rfl
    · exact hs _ (List.mem_of_getElem? (i := 474) rfl)
    · exact hs _ (List.mem_of_getElem? (i := 475) rfl)
    · exact hs _ (List.mem_of_getElem? (i := 476) rfl)) hA
set_option maxRecDepth 20000 in
theorem en_32 {args : Array Value} {s : State} {A : Nat → Prop} (hs : ∀ w ∈ flatC (Cond.and given_1 narrow_1), w.before args s = true) (hA : ∀ a : Nat, a < s.heap.size → ¬ A a) : ∃ q : Nat × Nat, (Term.string RX12 303).eval args s none [] s = some (.ref q.1) ∧ va_O "java/lang/String" q.1 A s s.heap ∧ va_OF "java/lang/String" "coder" "B" (.int 0) q.1 A s s.heap ∧ va_OF "java/lang/String" "value" "[B" (.ref q.2) q.1 A s s.heap ∧ va_T .byte q.2 7 (fun j => .int (([114, 101, 115, 101, 114, 118, 101] : List Int32).getD j 0)) A s s.heap :=
  tsx (by decide) (hs _ (List.mem_of_getElem? (i := 478) rfl)) (hs _ (List.mem_of_getElem? (i := 479) rfl)) (hs _ (List.mem_of_getElem? (i := 480) rfl)) (hs _ (List.mem_of_getElem? (i := 481) rfl)) (fun j hj => by
    have h9 : j = 0 ∨ j = 1 ∨ j = 2 ∨ j = 3 ∨ j = 4 ∨ j = 5 ∨ j = 6 := by omega
    rcases h9 with rfl | rfl | rfl | rfl | rfl | rfl | rfl
    · exact hs _ (List.mem_of_getElem? (i := 482) rfl)
    · exact hs _ (List.mem_of_getElem? (i := 483) rfl)
    · exact hs _ (List.mem_of_getElem? (i := 484) rfl)
    · exact hs _ (List.mem_of_getElem? (i := 485) rfl)
    · exact hs _ (List.mem_of_getElem? (i := 486) rfl)
    · exact hs _ (List.mem_of_getElem? (i := 487) rfl)
    · exact hs _ (List.mem_of_getElem? (i := 488) rfl)) hA
set_option maxRecDepth 20000 in
theorem en_33 {args : Array Value} {s : State} {A : Nat → Prop} (hs : ∀ w ∈ flatC (Cond.and given_1 narrow_1), w.before args s = true) (hA : ∀ a : Nat, a < s.heap.size → ¬ A a) : ∃ q : Nat × Nat, (Term.string RX12 305).eval args s none [] s = some (.ref q.1) ∧ va_O "java/lang/String" q.1 A s s.heap ∧ va_OF "java/lang/String" "coder" "B" (.int 0) q.1 A s s.heap ∧ va_OF "java/lang/String" "value" "[B" (.ref q.2) q.1 A s s.heap ∧ va_T .byte q.2 5 (fun j => .int (([119, 111, 114, 116, 104] : List Int32).getD j 0)) A s s.heap :=
  tsx (by decide) (hs _ (List.mem_of_getElem? (i := 490) rfl)) (hs _ (List.mem_of_getElem? (i := 491) rfl)) (hs _ (List.mem_of_getElem? (i := 492) rfl)) (hs _ (List.mem_of_getElem? (i := 493) rfl)) (fun j hj => by
    have h9 : j = 0 ∨ j = 1 ∨ j = 2 ∨ j = 3 ∨ j = 4 := by omega
    rcases h9 with rfl | rfl | rfl | rfl | rfl
    · exact hs _ (List.mem_of_getElem? (i := 494) rfl)
    · exact hs _ (List.mem_of_getElem? (i := 495) rfl)
    · exact hs _ (List.mem_of_getElem? (i := 496) rfl)
    · exact hs _ (List.mem_of_getElem? (i := 497) rfl)
    · exact hs _ (List.mem_of_getElem? (i := 498) rfl)) hA
set_option maxRecDepth 20000 in
theorem en_34 {args : Array Value} {s : State} {A : Nat → Prop} (hs : ∀ w ∈ flatC (Cond.and given_1 narrow_1), w.before args s = true) (hA : ∀ a : Nat, a < s.heap.size → ¬ A a) : ∃ q : Nat × Nat, (Term.string RX12 265).eval args s none [] s = some (.ref q.1) ∧ va_O "java/lang/String" q.1 A s s.heap ∧ va_OF "java/lang/String" "coder" "B" (.int 0) q.1 A s s.heap ∧ va_OF "java/lang/String" "value" "[B" (.ref q.2) q.1 A s s.heap ∧ va_T .byte q.2 3 (fun j => .int (([110, 111, 116] : List Int32).getD j 0)) A s s.heap :=
  tsx (by decide) (hs _ (List.mem_of_getElem? (i := 500) rfl)) (hs _ (List.mem_of_getElem? (i := 501) rfl)) (hs _ (List.mem_of_getElem? (i := 502) rfl)) (hs _ (List.mem_of_getElem? (i := 503) rfl)) (fun j hj => by
    have h9 : j = 0 ∨ j = 1 ∨ j = 2 := by omega
    rcases h9 with rfl | rfl | rfl
    · exact hs _ (List.mem_of_getElem? (i := 504) rfl)
    · exact hs _ (List.mem_of_getElem? (i := 505) rfl)
    · exact hs _ (List.mem_of_getElem? (i := 506) rfl)) hA
set_option maxRecDepth 20000 in
theorem en_35 {args : Array Value} {s : State} {A : Nat → Prop} (hs : ∀ w ∈ flatC (Cond.and given_1 narrow_1), w.before args s = true) (hA : ∀ a : Nat, a < s.heap.size → ¬ A a) : ∃ q : Nat × Nat, (Term.string RX12 273).eval args s none [] s = some (.ref q.1) ∧ va_O "java/lang/String" q.1 A s s.heap ∧ va_OF "java/lang/String" "coder" "B" (.int 0) q.1 A s s.heap ∧ va_OF "java/lang/String" "value" "[B" (.ref q.2) q.1 A s s.heap ∧ va_T .byte q.2 3 (fun j => .int (([97, 110, 100] : List Int32).getD j 0)) A s s.heap :=
  tsx (by decide) (hs _ (List.mem_of_getElem? (i := 508) rfl)) (hs _ (List.mem_of_getElem? (i := 509) rfl)) (hs _ (List.mem_of_getElem? (i := 510) rfl)) (hs _ (List.mem_of_getElem? (i := 511) rfl)) (fun j hj => by
    have h9 : j = 0 ∨ j = 1 ∨ j = 2 := by omega
    rcases h9 with rfl | rfl | rfl
    · exact hs _ (List.mem_of_getElem? (i := 512) rfl)
    · exact hs _ (List.mem_of_getElem? (i := 513) rfl)
    · exact hs _ (List.mem_of_getElem? (i := 514) rfl)) hA
set_option maxRecDepth 20000 in
theorem en_36 {args : Array Value} {s : State} {A : Nat → Prop} (hs : ∀ w ∈ flatC (Cond.and given_1 narrow_1), w.before args s = true) (hA : ∀ a : Nat, a < s.heap.size → ¬ A a) : ∃ q : Nat × Nat, (Term.string RX12 278).eval args s none [] s = some (.ref q.1) ∧ va_O "java/lang/String" q.1 A s s.heap ∧ va_OF "java/lang/String" "coder" "B" (.int 0) q.1 A s s.heap ∧ va_OF "java/lang/String" "value" "[B" (.ref q.2) q.1 A s s.heap ∧ va_T .byte q.2 2 (fun j => .int (([111, 114] : List Int32).getD j 0)) A s s.heap :=
  tsx (by decide) (hs _ (List.mem_of_getElem? (i := 516) rfl)) (hs _ (List.mem_of_getElem? (i := 517) rfl)) (hs _ (List.mem_of_getElem? (i := 518) rfl)) (hs _ (List.mem_of_getElem? (i := 519) rfl)) (fun j hj => by
    have h9 : j = 0 ∨ j = 1 := by omega
    rcases h9 with rfl | rfl
    · exact hs _ (List.mem_of_getElem? (i := 520) rfl)
    · exact hs _ (List.mem_of_getElem? (i := 521) rfl)) hA
set_option maxRecDepth 20000 in
theorem en_37 {args : Array Value} {s : State} {A : Nat → Prop} (hs : ∀ w ∈ flatC (Cond.and given_1 narrow_1), w.before args s = true) (hA : ∀ a : Nat, a < s.heap.size → ¬ A a) : ∃ q : Nat × Nat, (Term.string RX12 313).eval args s none [] s = some (.ref q.1) ∧ va_O "java/lang/String" q.1 A s s.heap ∧ va_OF "java/lang/String" "coder" "B" (.int 0) q.1 A s s.heap ∧ va_OF "java/lang/String" "value" "[B" (.ref q.2) q.1 A s s.heap ∧ va_T .byte q.2 4 (fun j => .int (([112, 97, 116, 104] : List Int32).getD j 0)) A s s.heap :=
  tsx (by decide) (hs _ (List.mem_of_getElem? (i := 523) rfl)) (hs _ (List.mem_of_getElem? (i := 524) rfl)) (hs _ (List.mem_of_getElem? (i := 525) rfl)) (hs _ (List.mem_of_getElem? (i := 526) rfl)) (fun j hj => by
    have h9 : j = 0 ∨ j = 1 ∨ j = 2 ∨ j = 3 := by omega
    rcases h9 with rfl | rfl | rfl | rfl
    · exact hs _ (List.mem_of_getElem? (i := 527) rfl)
    · exact hs _ (List.mem_of_getElem? (i := 528) rfl)
    · exact hs _ (List.mem_of_getElem? (i := 529) rfl)
    · exact hs _ (List.mem_of_getElem? (i := 530) rfl)) hA
