/-! ===== the walk of the law's body ===== -/
theorem whole_end {p : Program} {e : Env} {s : State} {m : MethodId} {below : List Frame} {meth : Method} {c : Code} {l : Launch} {b L : Nat} {xs : Nat → Int32} {g : WC} {E0 : Nat → va_E} {q : Mem} (C0 : lw_At p s m meth c b L xs) (hN : g_N g = s.heap.size) (C : Cx (p, l, e, room_1, s, m, #[Value.ref b], below, meth, c, lw_Z below #[Value.ref b] s) g RL cL_law 7) : ∀ (z k sl : Nat) (x4 : Int32), k ≤ 601024 → sl ≤ 7293033 → EW (p, l, e, room_1, s, m, #[Value.ref b], below, meth, c, lw_Z below #[Value.ref b] s) g z 107 7 (ent g E0 KDf q) k sl 2483 [(0, .ref b), (1, .ref (g_N g + 0)), (2, .ref (g_N g + 67)), (3, .ref (g_N g + 106)), (4, .int x4)] [] := by
  intro z k sl x4 hk hsl
  refine e_iconst C 1 (dk dL_law_24 54 rfl) (by decide) ?_
  intro H locs ls hP hz hS hl
  refine va_forget (fun q hq => by have := hS.2.2 q hq; rw [← hN]; exact this) ?_
  refine W.widen hk hsl ?_
  exact lw_ret C0.1 C0.2.1 C0.2.2.1 C0.2.2.2.2.2.2.2.2.1 (dk dL_law_24 55 rfl)
theorem whole_start {p : Program} {e : Env} {s : State} {m : MethodId} {below : List Frame} {meth : Method} {c : Code} (l : Launch) (hflags : l.flags = flags0) {b L : Nat} {xs : Nat → Int32} (hL : L ≤ 3072) (C0 : lw_At p s m meth c b L xs) : W p l e room_1 s m #[Value.ref b] below meth c s.heap [] 0 0 (lw_Z below #[Value.ref b] s) (entryFrame m ([Value.ref b] : List Value).toArray 7) := by
  obtain ⟨g, hN, C, S⟩ := lw_enter (below := below) (e := e) l hflags C0
  obtain ⟨q, hq⟩ := law_all L xs hL
  have h := law_start (E0 := fun _ => .inr (0, [])) C S (whole_end C0 hN C) hq
  have hl := lv_entry ([.ref b]) (n := 7) (Nat.le_of_ble_eq_true rfl)
  rw [lg_entry_eq]
  exact h s.heap [] _ (fun k q h => by simp [Wof] at h) hN.symm va_S.rf hl
