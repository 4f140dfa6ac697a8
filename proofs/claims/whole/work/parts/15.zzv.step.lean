/-! ===== a step of the law, the law's loop ===== -/
section STEP
variable {L : Nat} {xs : Nat → Int32} {rec : Int32 → Mem → Option Mem} {m : Nat} {M : Mem}
theorem rd_at {i : Nat} (h : m + i < L) (hL : L ≤ 3072) : rd L xs (nI m + nI i) = some (xs (m + i)) := by
  unfold rd
  rw [nI_add, nI_clamp (by omega), if_pos]
  intro z
  rcases z with z | z
  · exact nI_pos (by omega) z
  · omega
theorem lgc0 (x : Int64) : lg_cmp x x = 0 := by
  unfold lg_cmp
  rw [if_neg (fun z => Int64.lt_irrefl z), if_pos rfl]
theorem law_agr {FL FM : Mem → Option (Int32 × Mem)} (h : Agr FL FM) (hM : RR M) (K : Mem → Option Mem) : ∃ M', RR M' ∧ ((FL M).bind fun q2 => (FM q2.2).bind fun q4 => if F_X12_thrown 67 q4.2 = q2.1 then (if q2.1 = 0 then (if lg_cmp ((q4.2 106 0).toInt64) q4.1.toInt64 = 0 then K q4.2 else none) else K q4.2) else none) = K M' := by
  obtain ⟨kc, b, M1, M2, e1, e2, e3, e4, e5⟩ := h M hM
  refine ⟨M2, e5, ?_⟩
  rw [e1, zbs rfl, show FM ((kc, M1) : Int32 × Mem).2 = some (b, M2) from e2, zbs rfl]
  unfold F_X12_thrown
  rw [if_pos (show (M2 67 2 : Int32) = kc from e3)]
  by_cases q : kc = 0
  · rw [if_pos (show ((kc, M1) : Int32 × Mem).1 = 0 from q), if_pos (show lg_cmp ((M2 106 0).toInt64) b.toInt64 = 0 by rw [e4 q]; exact lgc0 _)]
  · rw [if_neg (show ¬ ((kc, M1) : Int32 × Mem).1 = 0 from q)]
theorem law_ag3 {FX FM : Mem → Option (Int32 × Mem)} (h : Ag3 FX FM) (hM : RR M) (K : Mem → Option Mem) : ∃ M', RR M' ∧ ((FX M).bind fun q2 => (FM q2.2).bind fun q4 => if q2.1 = q4.1 then K q4.2 else none) = K M' := by
  obtain ⟨v, M1, M2, e1, e2, e5⟩ := h M hM
  refine ⟨M2, e5, ?_⟩
  rw [e1, zbs rfl, show FM ((v, M1) : Int32 × Mem).2 = some (v, M2) from e2, zbs rfl]
  exact if_pos rfl
theorem tbi (v : Int32) : (if v = 0 then (0 : Int32) else 1) = bi (!decide (v = 0)) := by
  by_cases h : v = 0
  · rw [if_pos h, decide_eq_true h]; rfl
  · rw [if_neg h, decide_eq_false h]; rfl
theorem sl_0 (hm : m + 6 ≤ L) (hL : L ≤ 3072) (hM : RR M) : ∃ M', RR M' ∧ J_law_0 L xs rec (nI m) M = rec (nI (m + 6)) M' := by
  unfold J_law_0
  rw [show nI m + 6 = nI (m + 6) from nI_add m 6]
  rw [show rd L xs (nI m + 1) = some (xs (m + 1)) from rd_at (i := 1) (by omega) hL]
  rw [show rd L xs (nI m + 2) = some (xs (m + 2)) from rd_at (i := 2) (by omega) hL]
  rw [show rd L xs (nI m + 3) = some (xs (m + 3)) from rd_at (i := 3) (by omega) hL]
  rw [show rd L xs (nI m + 4) = some (xs (m + 4)) from rd_at (i := 4) (by omega) hL]
  rw [show rd L xs (nI m + 5) = some (xs (m + 5)) from rd_at (i := 5) (by omega) hL]
  simp only [Option.bind_some]
  exact law_ag3 (agr_feed _ _ _ _ _) hM _
theorem sl_1 (hm : m + 6 ≤ L) (hL : L ≤ 3072) (hM : RR M) : ∃ M', RR M' ∧ J_law_1 L xs rec (nI m) M = rec (nI (m + 6)) M' := by
  unfold J_law_1
  rw [show nI m + 6 = nI (m + 6) from nI_add m 6]
  rw [show rd L xs (nI m + 1) = some (xs (m + 1)) from rd_at (i := 1) (by omega) hL]
  simp only [Option.bind_some]
  exact law_agr (agr_ward _) hM _
theorem sl_2 (hm : m + 6 ≤ L) (hL : L ≤ 3072) (hM : RR M) : ∃ M', RR M' ∧ J_law_2 L xs rec (nI m) M = rec (nI (m + 6)) M' := by
  unfold J_law_2
  rw [show nI m + 6 = nI (m + 6) from nI_add m 6]
  obtain ⟨e, h⟩ := agr_fault M hM
  rw [if_pos e]
  exact ⟨_, h, rfl⟩
theorem sl_3 (hm : m + 6 ≤ L) (hL : L ≤ 3072) (hM : RR M) : ∃ M', RR M' ∧ J_law_3 L xs rec (nI m) M = rec (nI (m + 6)) M' := by
  unfold J_law_3
  rw [show nI m + 6 = nI (m + 6) from nI_add m 6]
  rw [show rd L xs (nI m + 1) = some (xs (m + 1)) from rd_at (i := 1) (by omega) hL]
  simp only [Option.bind_some]
  exact law_agr (agr_count _) hM _
theorem sl_4 (hm : m + 6 ≤ L) (hL : L ≤ 3072) (hM : RR M) : ∃ M', RR M' ∧ J_law_4 L xs rec (nI m) M = rec (nI (m + 6)) M' := by
  unfold J_law_4
  rw [show nI m + 6 = nI (m + 6) from nI_add m 6]
  rw [show rd L xs (nI m + 1) = some (xs (m + 1)) from rd_at (i := 1) (by omega) hL]
  simp only [Option.bind_some]
  exact law_agr (agr_paths _) hM _
theorem sl_5 (hm : m + 6 ≤ L) (hL : L ≤ 3072) (hM : RR M) : ∃ M', RR M' ∧ J_law_5 L xs rec (nI m) M = rec (nI (m + 6)) M' := by
  unfold J_law_5
  rw [show nI m + 6 = nI (m + 6) from nI_add m 6]
  rw [show rd L xs (nI m + 1) = some (xs (m + 1)) from rd_at (i := 1) (by omega) hL]
  rw [show rd L xs (nI m + 2) = some (xs (m + 2)) from rd_at (i := 2) (by omega) hL]
  simp only [Option.bind_some]
  exact law_agr (agr_person _ _) hM _
theorem sl_6 (hm : m + 6 ≤ L) (hL : L ≤ 3072) (hM : RR M) : ∃ M', RR M' ∧ J_law_6 L xs rec (nI m) M = rec (nI (m + 6)) M' := by
  unfold J_law_6
  rw [show nI m + 6 = nI (m + 6) from nI_add m 6]
  rw [show rd L xs (nI m + 1) = some (xs (m + 1)) from rd_at (i := 1) (by omega) hL]
  rw [show rd L xs (nI m + 2) = some (xs (m + 2)) from rd_at (i := 2) (by omega) hL]
  simp only [Option.bind_some]
  exact law_agr (agr_walk _ _) hM _
theorem sl_7 (hm : m + 6 ≤ L) (hL : L ≤ 3072) (hM : RR M) : ∃ M', RR M' ∧ J_law_7 L xs rec (nI m) M = rec (nI (m + 6)) M' := by
  unfold J_law_7
  rw [show nI m + 6 = nI (m + 6) from nI_add m 6]
  rw [show rd L xs (nI m + 1) = some (xs (m + 1)) from rd_at (i := 1) (by omega) hL]
  simp only [Option.bind_some]
  exact law_ag3 (agr_nights _) hM _
theorem sl_8 (hm : m + 6 ≤ L) (hL : L ≤ 3072) (hM : RR M) : ∃ M', RR M' ∧ J_law_8 L xs rec (nI m) M = rec (nI (m + 6)) M' := by
  unfold J_law_8
  rw [show nI m + 6 = nI (m + 6) from nI_add m 6]
  rw [show rd L xs (nI m + 1) = some (xs (m + 1)) from rd_at (i := 1) (by omega) hL]
  simp only [Option.bind_some]
  exact law_agr (agr_bribe _) hM _
theorem sl_9 (hm : m + 6 ≤ L) (hL : L ≤ 3072) (hM : RR M) : ∃ M', RR M' ∧ J_law_9 L xs rec (nI m) M = rec (nI (m + 6)) M' := by
  unfold J_law_9
  rw [show nI m + 6 = nI (m + 6) from nI_add m 6]
  rw [show rd L xs (nI m + 1) = some (xs (m + 1)) from rd_at (i := 1) (by omega) hL]
  rw [show rd L xs (nI m + 2) = some (xs (m + 2)) from rd_at (i := 2) (by omega) hL]
  rw [show rd L xs (nI m + 3) = some (xs (m + 3)) from rd_at (i := 3) (by omega) hL]
  simp only [Option.bind_some]
  exact law_agr (agr_wander _ _ _) hM _
theorem sl_10 (hm : m + 6 ≤ L) (hL : L ≤ 3072) (hM : RR M) : ∃ M', RR M' ∧ J_law_10 L xs rec (nI m) M = rec (nI (m + 6)) M' := by
  unfold J_law_10
  rw [show nI m + 6 = nI (m + 6) from nI_add m 6]
  rw [show rd L xs (nI m + 1) = some (xs (m + 1)) from rd_at (i := 1) (by omega) hL]
  rw [show rd L xs (nI m + 2) = some (xs (m + 2)) from rd_at (i := 2) (by omega) hL]
  simp only [Option.bind_some]
  exact law_agr (agr_earn _ _) hM _
theorem sl_11 (hm : m + 6 ≤ L) (hL : L ≤ 3072) (hM : RR M) : ∃ M', RR M' ∧ J_law_11 L xs rec (nI m) M = rec (nI (m + 6)) M' := by
  unfold J_law_11
  rw [show nI m + 6 = nI (m + 6) from nI_add m 6]
  rw [show rd L xs (nI m + 1) = some (xs (m + 1)) from rd_at (i := 1) (by omega) hL]
  simp only [Option.bind_some]
  exact law_ag3 (agr_reserve _) hM _
theorem sl_12 (hm : m + 6 ≤ L) (hL : L ≤ 3072) (hM : RR M) : ∃ M', RR M' ∧ J_law_12 L xs rec (nI m) M = rec (nI (m + 6)) M' := by
  unfold J_law_12
  rw [show nI m + 6 = nI (m + 6) from nI_add m 6]
  exact law_ag3 (agr_undo) hM _
theorem sl_13 (hm : m + 6 ≤ L) (hL : L ≤ 3072) (hM : RR M) : ∃ M', RR M' ∧ J_law_13 L xs rec (nI m) M = rec (nI (m + 6)) M' := by
  unfold J_law_13
  rw [show nI m + 6 = nI (m + 6) from nI_add m 6]
  rw [show rd L xs (nI m + 1) = some (xs (m + 1)) from rd_at (i := 1) (by omega) hL]
  simp only [Option.bind_some]
  exact law_agr (agr_lots _) hM _
theorem sl_14 (hm : m + 6 ≤ L) (hL : L ≤ 3072) (hM : RR M) : ∃ M', RR M' ∧ J_law_14 L xs rec (nI m) M = rec (nI (m + 6)) M' := by
  unfold J_law_14
  rw [show nI m + 6 = nI (m + 6) from nI_add m 6]
  rw [show rd L xs (nI m + 1) = some (xs (m + 1)) from rd_at (i := 1) (by omega) hL]
  rw [show rd L xs (nI m + 2) = some (xs (m + 2)) from rd_at (i := 2) (by omega) hL]
  rw [show rd L xs (nI m + 3) = some (xs (m + 3)) from rd_at (i := 3) (by omega) hL]
  simp only [Option.bind_some]
  exact law_agr (agr_sold _ _ _) hM _
theorem sl_15 (hm : m + 6 ≤ L) (hL : L ≤ 3072) (hM : RR M) : ∃ M', RR M' ∧ J_law_15 L xs rec (nI m) M = rec (nI (m + 6)) M' := by
  unfold J_law_15
  rw [show nI m + 6 = nI (m + 6) from nI_add m 6]
  rw [show rd L xs (nI m + 1) = some (xs (m + 1)) from rd_at (i := 1) (by omega) hL]
  rw [show rd L xs (nI m + 2) = some (xs (m + 2)) from rd_at (i := 2) (by omega) hL]
  rw [show rd L xs (nI m + 3) = some (xs (m + 3)) from rd_at (i := 3) (by omega) hL]
  simp only [Option.bind_some]
  exact law_agr (agr_then _ _ _) hM _
theorem sl_16 (hm : m + 6 ≤ L) (hL : L ≤ 3072) (hM : RR M) : ∃ M', RR M' ∧ J_law_16 L xs rec (nI m) M = rec (nI (m + 6)) M' := by
  unfold J_law_16
  rw [show nI m + 6 = nI (m + 6) from nI_add m 6]
  rw [show rd L xs (nI m + 1) = some (xs (m + 1)) from rd_at (i := 1) (by omega) hL]
  simp only [Option.bind_some]
  exact law_agr (agr_dark _) hM _
theorem sl_17 (hm : m + 6 ≤ L) (hL : L ≤ 3072) (hM : RR M) : ∃ M', RR M' ∧ J_law_17 L xs rec (nI m) M = rec (nI (m + 6)) M' := by
  unfold J_law_17
  rw [show nI m + 6 = nI (m + 6) from nI_add m 6]
  rw [show rd L xs (nI m + 1) = some (xs (m + 1)) from rd_at (i := 1) (by omega) hL]
  simp only [Option.bind_some]
  exact law_agr (agr_first _) hM _
theorem sl_18 (hm : m + 6 ≤ L) (hL : L ≤ 3072) (hM : RR M) : ∃ M', RR M' ∧ J_law_18 L xs rec (nI m) M = rec (nI (m + 6)) M' := by
  unfold J_law_18
  rw [show nI m + 6 = nI (m + 6) from nI_add m 6]
  obtain ⟨a, M2, e1, e2, h⟩ := agr_secret M hM
  rw [e1, e2, zbs rfl, zbs rfl, if_pos rfl]
  exact ⟨_, h, rfl⟩
theorem sl_19 (hm : m + 6 ≤ L) (hL : L ≤ 3072) (hM : RR M) : ∃ M', RR M' ∧ J_law_19 L xs rec (nI m) M = rec (nI (m + 6)) M' := by
  unfold J_law_19
  rw [show nI m + 6 = nI (m + 6) from nI_add m 6]
  rw [show rd L xs (nI m + 1) = some (xs (m + 1)) from rd_at (i := 1) (by omega) hL]
  simp only [Option.bind_some]
  exact law_agr (agr_haunt _) hM _
theorem sl_20 (hm : m + 6 ≤ L) (hL : L ≤ 3072) (hM : RR M) : ∃ M', RR M' ∧ J_law_20 L xs rec (nI m) M = rec (nI (m + 6)) M' := by
  unfold J_law_20
  rw [show nI m + 6 = nI (m + 6) from nI_add m 6]
  rw [show rd L xs (nI m + 1) = some (xs (m + 1)) from rd_at (i := 1) (by omega) hL]
  rw [show rd L xs (nI m + 2) = some (xs (m + 2)) from rd_at (i := 2) (by omega) hL]
  simp only [Option.bind_some]
  exact law_agr (agr_watch _ _) hM _
theorem sl_21 (hm : m + 6 ≤ L) (hL : L ≤ 3072) (hM : RR M) : ∃ M', RR M' ∧ J_law_21 L xs rec (nI m) M = rec (nI (m + 6)) M' := by
  unfold J_law_21
  rw [show nI m + 6 = nI (m + 6) from nI_add m 6]
  rw [show rd L xs (nI m + 1) = some (xs (m + 1)) from rd_at (i := 1) (by omega) hL]
  rw [show rd L xs (nI m + 2) = some (xs (m + 2)) from rd_at (i := 2) (by omega) hL]
  simp only [Option.bind_some]
  exact law_agr (agr_way _ _) hM _
theorem sl_22 (hm : m + 6 ≤ L) (hL : L ≤ 3072) (hM : RR M) : ∃ M', RR M' ∧ J_law_22 L xs rec (nI m) M = rec (nI (m + 6)) M' := by
  unfold J_law_22
  rw [show nI m + 6 = nI (m + 6) from nI_add m 6]
  rw [show rd L xs (nI m + 1) = some (xs (m + 1)) from rd_at (i := 1) (by omega) hL]
  rw [show rd L xs (nI m + 2) = some (xs (m + 2)) from rd_at (i := 2) (by omega) hL]
  simp only [Option.bind_some]
  exact law_agr (agr_sneak _ _) hM _
theorem sl_23 (hm : m + 6 ≤ L) (hL : L ≤ 3072) (hM : RR M) : ∃ M', RR M' ∧ J_law_23 L xs rec (nI m) M = rec (nI (m + 6)) M' := by
  unfold J_law_23
  rw [show nI m + 6 = nI (m + 6) from nI_add m 6]
  rw [show rd L xs (nI m + 1) = some (xs (m + 1)) from rd_at (i := 1) (by omega) hL]
  simp only [Option.bind_some]
  exact law_agr (agr_safe _) hM _
theorem sl_24 (hm : m + 6 ≤ L) (hL : L ≤ 3072) (hM : RR M) : ∃ M', RR M' ∧ J_law_24 L xs rec (nI m) M = rec (nI (m + 6)) M' := by
  unfold J_law_24
  rw [show nI m + 6 = nI (m + 6) from nI_add m 6]
  rw [show rd L xs (nI m + 1) = some (xs (m + 1)) from rd_at (i := 1) (by omega) hL]
  simp only [Option.bind_some]
  exact law_agr (agr_toHide _) hM _
theorem sl_25 (hm : m + 6 ≤ L) (hL : L ≤ 3072) (hM : RR M) : ∃ M', RR M' ∧ J_law_25 L xs rec (nI m) M = rec (nI (m + 6)) M' := by
  unfold J_law_25
  rw [show nI m + 6 = nI (m + 6) from nI_add m 6]
  rw [show rd L xs (nI m + 1) = some (xs (m + 1)) from rd_at (i := 1) (by omega) hL]
  rw [show rd L xs (nI m + 2) = some (xs (m + 2)) from rd_at (i := 2) (by omega) hL]
  simp only [Option.bind_some]
  exact law_agr (agr_toWin _ _) hM _
theorem sl_26 (hm : m + 6 ≤ L) (hL : L ≤ 3072) (hM : RR M) : ∃ M', RR M' ∧ J_law_26 L xs rec (nI m) M = rec (nI (m + 6)) M' := by
  unfold J_law_26
  rw [show nI m + 6 = nI (m + 6) from nI_add m 6]
  rw [show rd L xs (nI m + 1) = some (xs (m + 1)) from rd_at (i := 1) (by omega) hL]
  simp only [Option.bind_some]
  exact law_agr (agr_given _) hM _
theorem sl_27 (hm : m + 6 ≤ L) (hL : L ≤ 3072) (hM : RR M) : ∃ M', RR M' ∧ J_law_27 L xs rec (nI m) M = rec (nI (m + 6)) M' := by
  unfold J_law_27
  rw [show nI m + 6 = nI (m + 6) from nI_add m 6]
  rw [show rd L xs (nI m + 1) = some (xs (m + 1)) from rd_at (i := 1) (by omega) hL]
  simp only [Option.bind_some]
  exact law_agr (agr_gossip _) hM _
theorem sl_28 (hm : m + 6 ≤ L) (hL : L ≤ 3072) (hM : RR M) : ∃ M', RR M' ∧ J_law_28 L xs rec (nI m) M = rec (nI (m + 6)) M' := by
  unfold J_law_28
  rw [show nI m + 6 = nI (m + 6) from nI_add m 6]
  rw [show rd L xs (nI m + 1) = some (xs (m + 1)) from rd_at (i := 1) (by omega) hL]
  simp only [Option.bind_some]
  exact law_agr (agr_most _) hM _
theorem sl_29 (hm : m + 6 ≤ L) (hL : L ≤ 3072) (hM : RR M) : ∃ M', RR M' ∧ J_law_29 L xs rec (nI m) M = rec (nI (m + 6)) M' := by
  unfold J_law_29
  rw [show nI m + 6 = nI (m + 6) from nI_add m 6]
  rw [show rd L xs (nI m + 1) = some (xs (m + 1)) from rd_at (i := 1) (by omega) hL]
  simp only [Option.bind_some]
  exact law_agr (agr_lantern _) hM _
theorem sl_30 (hm : m + 6 ≤ L) (hL : L ≤ 3072) (hM : RR M) : ∃ M', RR M' ∧ J_law_30 L xs rec (nI m) M = rec (nI (m + 6)) M' := by
  unfold J_law_30
  rw [show nI m + 6 = nI (m + 6) from nI_add m 6]
  rw [show rd L xs (nI m + 1) = some (xs (m + 1)) from rd_at (i := 1) (by omega) hL]
  rw [show rd L xs (nI m + 2) = some (xs (m + 2)) from rd_at (i := 2) (by omega) hL]
  simp only [Option.bind_some]
  exact law_agr (agr_meet _ _) hM _
theorem sl_31 (hm : m + 6 ≤ L) (hL : L ≤ 3072) (hM : RR M) : ∃ M', RR M' ∧ J_law_31 L xs rec (nI m) M = rec (nI (m + 6)) M' := by
  unfold J_law_31
  rw [show nI m + 6 = nI (m + 6) from nI_add m 6]
  rw [show rd L xs (nI m + 1) = some (xs (m + 1)) from rd_at (i := 1) (by omega) hL]
  rw [show rd L xs (nI m + 2) = some (xs (m + 2)) from rd_at (i := 2) (by omega) hL]
  simp only [Option.bind_some]
  exact law_agr (agr_spends _ _) hM _
theorem sl_32 (hm : m + 6 ≤ L) (hL : L ≤ 3072) (hM : RR M) : ∃ M', RR M' ∧ J_law_32 L xs rec (nI m) M = rec (nI (m + 6)) M' := by
  unfold J_law_32
  rw [show nI m + 6 = nI (m + 6) from nI_add m 6]
  rw [show rd L xs (nI m + 1) = some (xs (m + 1)) from rd_at (i := 1) (by omega) hL]
  simp only [Option.bind_some]
  exact law_agr (agr_unknown _) hM _
theorem sl_33 (hm : m + 6 ≤ L) (hL : L ≤ 3072) (hM : RR M) : ∃ M', RR M' ∧ J_law_33 L xs rec (nI m) M = rec (nI (m + 6)) M' := by
  unfold J_law_33
  rw [show nI m + 6 = nI (m + 6) from nI_add m 6]
  rw [show rd L xs (nI m + 1) = some (xs (m + 1)) from rd_at (i := 1) (by omega) hL]
  rw [show rd L xs (nI m + 2) = some (xs (m + 2)) from rd_at (i := 2) (by omega) hL]
  rw [show rd L xs (nI m + 3) = some (xs (m + 3)) from rd_at (i := 3) (by omega) hL]
  simp only [Option.bind_some]
  rw [tbi]
  exact law_agr (agr_tell _ _ _) hM _
theorem sl_34 (hm : m + 6 ≤ L) (hL : L ≤ 3072) (hM : RR M) : ∃ M', RR M' ∧ J_law_34 L xs rec (nI m) M = rec (nI (m + 6)) M' := by
  unfold J_law_34
  rw [show nI m + 6 = nI (m + 6) from nI_add m 6]
  rw [show rd L xs (nI m + 1) = some (xs (m + 1)) from rd_at (i := 1) (by omega) hL]
  simp only [Option.bind_some]
  exact law_agr (agr_otherwise _) hM _
theorem sl_35 (hm : m + 6 ≤ L) (hL : L ≤ 3072) (hM : RR M) : ∃ M', RR M' ∧ J_law_35 L xs rec (nI m) M = rec (nI (m + 6)) M' := by
  unfold J_law_35
  rw [show nI m + 6 = nI (m + 6) from nI_add m 6]
  rw [show rd L xs (nI m + 1) = some (xs (m + 1)) from rd_at (i := 1) (by omega) hL]
  simp only [Option.bind_some]
  exact law_agr (agr_look _) hM _
theorem sl_36 (hm : m + 6 ≤ L) (hL : L ≤ 3072) (hM : RR M) : ∃ M', RR M' ∧ J_law_36 L xs rec (nI m) M = rec (nI (m + 6)) M' := by
  unfold J_law_36
  rw [show nI m + 6 = nI (m + 6) from nI_add m 6]
  exact ⟨_, agr_forget M hM, rfl⟩
theorem sl_37 (hm : m + 6 ≤ L) (hL : L ≤ 3072) (hM : RR M) : ∃ M', RR M' ∧ J_law_37 L xs rec (nI m) M = rec (nI (m + 6)) M' := by
  unfold J_law_37
  rw [show nI m + 6 = nI (m + 6) from nI_add m 6]
  rw [show rd L xs (nI m + 1) = some (xs (m + 1)) from rd_at (i := 1) (by omega) hL]
  rw [show rd L xs (nI m + 2) = some (xs (m + 2)) from rd_at (i := 2) (by omega) hL]
  rw [show rd L xs (nI m + 3) = some (xs (m + 3)) from rd_at (i := 3) (by omega) hL]
  simp only [Option.bind_some]
  exact law_agr (agr_game _ _ _) hM _
theorem sl_38 (hm : m + 6 ≤ L) (hL : L ≤ 3072) (hM : RR M) : ∃ M', RR M' ∧ J_law_38 L xs rec (nI m) M = rec (nI (m + 6)) M' := by
  unfold J_law_38
  rw [show nI m + 6 = nI (m + 6) from nI_add m 6]
  rw [show rd L xs (nI m + 1) = some (xs (m + 1)) from rd_at (i := 1) (by omega) hL]
  rw [show rd L xs (nI m + 2) = some (xs (m + 2)) from rd_at (i := 2) (by omega) hL]
  rw [show rd L xs (nI m + 3) = some (xs (m + 3)) from rd_at (i := 3) (by omega) hL]
  simp only [Option.bind_some]
  exact law_agr (agr_years _ _ _) hM _
theorem sl_39 (hm : m + 6 ≤ L) (hL : L ≤ 3072) (hM : RR M) : ∃ M', RR M' ∧ J_law_39 L xs rec (nI m) M = rec (nI (m + 6)) M' := by
  unfold J_law_39
  rw [show nI m + 6 = nI (m + 6) from nI_add m 6]
  obtain ⟨M1, M2, e1, e2, h⟩ := agr_image M hM
  rw [e1, zbs rfl, e2, zbs rfl]
  exact ⟨_, h, rfl⟩
theorem sl_40 (hm : m + 6 ≤ L) (hL : L ≤ 3072) (hM : RR M) : ∃ M', RR M' ∧ J_law_40 L xs rec (nI m) M = rec (nI (m + 6)) M' := by
  unfold J_law_40
  rw [show nI m + 6 = nI (m + 6) from nI_add m 6]
  obtain ⟨b, M1, M2, e1, e2, h⟩ := agr_restore M hM
  rw [e1, zbs rfl, show F_X12_restore 67 ((b, M1) : Bool × Mem).2 = some (b, M2) from e2, zbs rfl, if_pos rfl]
  exact ⟨_, h, rfl⟩
theorem st_ok (hm : m + 6 ≤ L) (hL : L ≤ 3072) (hM : RR M) : ∃ M', RR M' ∧ ST_law L xs rec (nI m) M = rec (nI (m + 6)) M' := by
  unfold ST_law
  rw [show rd L xs (nI m) = some (xs m) from by have := rd_at (xs := xs) (m := m) (i := 0) (by omega) hL; rw [nI_add] at this; exact this, zbs rfl]
  generalize xs m &&& 63 = v
  by_cases h0 : v = 0
  · rw [if_pos h0]; exact sl_0 hm hL hM
  rw [if_neg h0]
  by_cases h1 : v = 1
  · rw [if_pos h1]; exact sl_1 hm hL hM
  rw [if_neg h1]
  by_cases h2 : v = 2
  · rw [if_pos h2]; exact sl_2 hm hL hM
  rw [if_neg h2]
  by_cases h3 : v = 3
  · rw [if_pos h3]; exact sl_3 hm hL hM
  rw [if_neg h3]
  by_cases h4 : v = 4
  · rw [if_pos h4]; exact sl_4 hm hL hM
  rw [if_neg h4]
  by_cases h5 : v = 5
  · rw [if_pos h5]; exact sl_5 hm hL hM
  rw [if_neg h5]
  by_cases h6 : v = 6
  · rw [if_pos h6]; exact sl_6 hm hL hM
  rw [if_neg h6]
  by_cases h7 : v = 7
  · rw [if_pos h7]; exact sl_7 hm hL hM
  rw [if_neg h7]
  by_cases h8 : v = 8
  · rw [if_pos h8]; exact sl_8 hm hL hM
  rw [if_neg h8]
  by_cases h9 : v = 9
  · rw [if_pos h9]; exact sl_9 hm hL hM
  rw [if_neg h9]
  by_cases h10 : v = 10
  · rw [if_pos h10]; exact sl_10 hm hL hM
  rw [if_neg h10]
  by_cases h11 : v = 11
  · rw [if_pos h11]; exact sl_11 hm hL hM
  rw [if_neg h11]
  by_cases h12 : v = 12
  · rw [if_pos h12]; exact sl_12 hm hL hM
  rw [if_neg h12]
  by_cases h13 : v = 13
  · rw [if_pos h13]; exact sl_13 hm hL hM
  rw [if_neg h13]
  by_cases h14 : v = 14
  · rw [if_pos h14]; exact sl_14 hm hL hM
  rw [if_neg h14]
  by_cases h15 : v = 15
  · rw [if_pos h15]; exact sl_15 hm hL hM
  rw [if_neg h15]
  by_cases h16 : v = 16
  · rw [if_pos h16]; exact sl_16 hm hL hM
  rw [if_neg h16]
  by_cases h17 : v = 17
  · rw [if_pos h17]; exact sl_17 hm hL hM
  rw [if_neg h17]
  by_cases h18 : v = 18
  · rw [if_pos h18]; exact sl_18 hm hL hM
  rw [if_neg h18]
  by_cases h19 : v = 19
  · rw [if_pos h19]; exact sl_19 hm hL hM
  rw [if_neg h19]
  by_cases h20 : v = 20
  · rw [if_pos h20]; exact sl_20 hm hL hM
  rw [if_neg h20]
  by_cases h21 : v = 21
  · rw [if_pos h21]; exact sl_21 hm hL hM
  rw [if_neg h21]
  by_cases h22 : v = 22
  · rw [if_pos h22]; exact sl_22 hm hL hM
  rw [if_neg h22]
  by_cases h23 : v = 23
  · rw [if_pos h23]; exact sl_23 hm hL hM
  rw [if_neg h23]
  by_cases h24 : v = 24
  · rw [if_pos h24]; exact sl_24 hm hL hM
  rw [if_neg h24]
  by_cases h25 : v = 25
  · rw [if_pos h25]; exact sl_25 hm hL hM
  rw [if_neg h25]
  by_cases h26 : v = 26
  · rw [if_pos h26]; exact sl_26 hm hL hM
  rw [if_neg h26]
  by_cases h27 : v = 27
  · rw [if_pos h27]; exact sl_27 hm hL hM
  rw [if_neg h27]
  by_cases h28 : v = 28
  · rw [if_pos h28]; exact sl_28 hm hL hM
  rw [if_neg h28]
  by_cases h29 : v = 29
  · rw [if_pos h29]; exact sl_29 hm hL hM
  rw [if_neg h29]
  by_cases h30 : v = 30
  · rw [if_pos h30]; exact sl_30 hm hL hM
  rw [if_neg h30]
  by_cases h31 : v = 31
  · rw [if_pos h31]; exact sl_31 hm hL hM
  rw [if_neg h31]
  by_cases h32 : v = 32
  · rw [if_pos h32]; exact sl_32 hm hL hM
  rw [if_neg h32]
  by_cases h33 : v = 33
  · rw [if_pos h33]; exact sl_33 hm hL hM
  rw [if_neg h33]
  by_cases h34 : v = 34
  · rw [if_pos h34]; exact sl_34 hm hL hM
  rw [if_neg h34]
  by_cases h35 : v = 35
  · rw [if_pos h35]; exact sl_35 hm hL hM
  rw [if_neg h35]
  by_cases h36 : v = 36
  · rw [if_pos h36]; exact sl_36 hm hL hM
  rw [if_neg h36]
  by_cases h37 : v = 37
  · rw [if_pos h37]; exact sl_37 hm hL hM
  rw [if_neg h37]
  by_cases h38 : v = 38
  · rw [if_pos h38]; exact sl_38 hm hL hM
  rw [if_neg h38]
  by_cases h39 : v = 39
  · rw [if_pos h39]; exact sl_39 hm hL hM
  rw [if_neg h39]
  by_cases h40 : v = 40
  · rw [if_pos h40]; exact sl_40 hm hL hM
  rw [if_neg h40]
  exact ⟨M, hM, by rw [show nI m + 6 = nI (m + 6) from nI_add m 6]⟩
theorem law_lt (hL : L ≤ 3072) (hm : m ≤ 3072) : (nI L - 6 < nI m) ↔ L < m + 6 := by
  rw [Int32.lt_iff_toInt_lt, nI_toInt (by omega), Int32.toInt_sub, nI_toInt (by omega)]
  have e6 : (6 : Int32).toInt = 6 := by decide
  rw [e6, Int.bmod_eq_of_le (by omega) (by omega)]
  omega
theorem law_ok (hL : L ≤ 3072) : ∀ f m M, L + 6 ≤ m + 6 * f → m ≤ L → RR M → ∃ q, L_law L xs f (nI m) M = some q := by
  intro f
  induction f with
  | zero =>
    intro m M h1 h2 hM
    omega
  | succ f ih =>
    intro m M h1 h2 hM
    rw [L_law]
    by_cases q : L < m + 6
    · rw [if_pos ((law_lt hL (by omega)).mpr q)]
      exact ⟨M, rfl⟩
    · rw [if_neg (fun z => q ((law_lt hL (by omega)).mp z))]
      obtain ⟨M', h, e⟩ := st_ok (xs := xs) (rec := L_law L xs f) (m := m) (M := M) (by omega) hL hM
      rw [e]
      exact ih (m + 6) M' (by omega) (by omega) h
theorem RR_M0 : RR M0 := by
  refine ⟨14, (yP0, ((0, 0, 5, 0, (fun _ => 0), (fun _ => 0), fun _ _ => 0), 0, (fun _ => (0, 0, 5, 0, (fun _ => 0), (fun _ => 0), fun _ _ => 0)), 0, (fun _ => 0), (fun _ => 0), (fun _ => false), fun _ => 0), none, 0, (fun _ => 0), -1), ?_, ?_, ?_⟩
  · refine ⟨⟨⟨show 2 ≤ 4 by omega, show 4 ≤ 8 by omega⟩, ⟨show 1 ≤ 1 by omega, show 1 ≤ 8 by omega⟩, Nat.zero_le _, Nat.zero_le _, Nat.zero_le _, show 5 ≤ 99 by omega, fun k hk => show 0 < 4 by omega, fun p hp => absurd hp (Nat.not_lt_zero p), fun p hp => absurd hp (Nat.not_lt_zero p), fun h => absurd h (Nat.lt_irrefl 0)⟩, ⟨⟨⟨Nat.zero_le _, fun p i => show 0 < 4 by omega, fun p hp => rfl, fun p i _ _ => b_0 i⟩, fun p => ⟨show (0 : Int32) ≤ 0 by decide, show (0 : Int32) ≤ 999 by decide⟩, Nat.zero_le _⟩, Nat.zero_le _, fun i hi' => absurd hi' (Nat.not_lt_zero i), Nat.zero_le _, fun i hi' => absurd hi' (Nat.not_lt_zero i)⟩, fun B hB => (by cases hB), Nat.zero_le _, fun i hi' => absurd hi' (Nat.not_lt_zero i)⟩
  · refine ⟨Or.inr ⟨rfl, rfl, rfl⟩, ⟨⟨rfl, rfl, rfl, rfl, rfl, rfl, rfl⟩, fun p hp => absurd hp (Nat.not_lt_zero p), fun t ht => rfl, fun k hk => rfl, fun p hp => absurd hp (Nat.not_lt_zero p), fun k hk => rfl, fun p hp => absurd hp (Nat.not_lt_zero p)⟩, ⟨CT.of rfl rfl rfl rfl (fun p hp => rfl) (fun p hp => rfl) (fun p hp i hi => z_sin0 i hi), rfl, fun i hi' => absurd hi' (Nat.not_lt_zero i), rfl, fun i hi' => absurd hi' (Nat.not_lt_zero i), fun i hi' => rfl⟩, rfl, rfl, fun i hi' => absurd hi' (Nat.not_lt_zero i), fun _ => rfl, fun B hB => (by cases hB), fun t ht => rfl⟩
  · refine ⟨⟨⟨rfl, rfl, rfl, rfl, rfl, rfl, rfl⟩, fun p hp => absurd hp (Nat.not_lt_zero p), fun t ht => rfl, fun k hk => rfl, fun p hp => absurd hp (Nat.not_lt_zero p), fun p hp => absurd hp (Nat.not_lt_zero p), fun p hp => absurd hp (Nat.not_lt_zero p)⟩, ⟨MT.of rfl rfl rfl rfl (fun p hp => rfl) (fun p hp => rfl) (fun p hp i hi => rfl), rfl, fun i hi' => absurd hi' (Nat.not_lt_zero i), rfl, fun i hi' => absurd hi' (Nat.not_lt_zero i), fun i hi' => rfl⟩, rfl, rfl, fun i hi' => absurd hi' (Nat.not_lt_zero i), rfl, fun _ => rfl, fun B hB => (by cases hB)⟩
/-- the law, as a function, on every script -/
theorem law_all (L : Nat) (xs : Nat → Int32) (hL : L ≤ 3072) : ∃ q, L_law L xs 600 0 M0 = some q := law_ok hL 600 0 M0 (by omega) (by omega) RR_M0
end STEP
