/-! ===== a sign of the rule is laid ===== -/
def yPc (P : Pl) (l : Nat) (cd : Nat → Int32) : Pl := ((fun j => if j = 4 then l else P.1 j), P.2.1, P.2.2.1, P.2.2.2.1, P.2.2.2.2.1, P.2.2.2.2.2.1, cd)
def yad (s : St) (sg : Int32) : St := (s.1, yPc (s_P s) (znl (s_P s) + 1) (fun i => if i = znl (s_P s) then sg else p_cd (s_P s) i), s.2.2)
def ygr (s s' : St) (k : Nat) : Prop := ∃ l cd, s'.2 = (yPc (s_P s) l cd, s.2.2) ∧ znl (s_P s) < l ∧ l + s_a s ≤ znl (s_P s) + s_a s' ∧ ∀ h, zH (p_cd (s_P s)) (znl (s_P s)) = some h → h + k ≤ 40 → zH cd l = some (h + 1)
theorem yPc_2 (P : Pl) (l l' : Nat) (cd cd' : Nat → Int32) : yPc (yPc P l cd) l' cd' = yPc P l' cd' := by
  unfold yPc
  congr 1
  funext j
  show (if j = 4 then l' else if j = 4 then l else P.1 j) = _
  by_cases e : j = 4
  · rw [if_pos e, if_pos e]
  · rw [if_neg e, if_neg e, if_neg e]
theorem yPc_self (P : Pl) : yPc P (znl P) (p_cd P) = P := by
  unfold yPc
  have : (fun j => if j = 4 then znl P else P.1 j) = P.1 := by
    funext j
    by_cases e : j = 4
    · rw [if_pos e, e]
    · rw [if_neg e]
  rw [this]
theorem zH_cong {cd cd' : Nat → Int32} : ∀ k, (∀ i, i < k → cd i = cd' i) → zH cd k = zH cd' k
  | 0, _ => rfl
  | k + 1, h => by rw [zH, zH, zH_cong k (fun i hi => h i (by omega)), h k (by omega)]
theorem WP.pc {s s' : St} {l : Nat} {cd : Nat → Int32} (h : WP s) (e : s'.2 = (yPc (s_P s) l cd, s.2.2)) : WP s' := by
  obtain ⟨t', q⟩ := s'
  obtain ⟨t, q0⟩ := s
  have e' : q = (yPc q0.1 l cd, q0.2) := e
  subst e'
  exact h
section LAY
variable {M : Mem} {w n : Nat} {y : Nat → Nat} {s : St} {N Nm : Mem}
theorem yad_l {sg : Int32} : znl (s_P (yad s sg)) = znl (s_P s) + 1 := rfl
theorem zH_add {sg : Int32} {h : Nat} (e : zH (p_cd (s_P s)) (znl (s_P s)) = some h) : zH (p_cd (s_P (yad s sg))) (znl (s_P s) + 1) = zht sg h := by
  show zH (fun i => if i = znl (s_P s) then sg else p_cd (s_P s) i) (znl (s_P s) + 1) = _
  rw [zH, zH_cong (cd' := p_cd (s_P s)) _ (fun i hi => if_neg (by omega)), e, if_pos rfl]
  rfl
theorem xc_add (hw : w = 3 ∨ w = 14) (h : XC w y n s N) (hl : znl (s_P s) < 700) {sg v : Int32} (hv : v = zcv sg) : XC w y n (yad s sg) (F_X10_add (w + 7) v N) ∧ FW w N (F_X10_add (w + 7) v N) := by
  obtain ⟨h1, h2, h3, h4, ⟨⟨⟨a1, a2, a3, a4, a5, a6, a7⟩, b, c, d, e, f, g⟩, h5⟩⟩ := h
  have eq : F_X10_add (w + 7) v N = up (up N (w + 8) (znl (s_P s)) v) (w + 7) 1 (nI (znl (s_P s) + 1)) := by
    unfold F_X10_add
    rw [a7, show F_X11_put (w + 7 + 1) 700 (nI (znl (s_P s))) v N = up N (w + 8) (znl (s_P s)) v from zput_at hl (by omega), show (up N (w + 8) (znl (s_P s)) v) (w + 7) 1 = nI (znl (s_P s)) from by rw [up_ne (by omega)]; exact a7, nI_1]
  rw [eq]
  have k : ∀ c, c ≠ w + 7 → c ≠ w + 8 → (up (up N (w + 8) (znl (s_P s)) v) (w + 7) 1 (nI (znl (s_P s) + 1))) c = N c := fun c x1 x2 => by rw [up_ne x1, up_ne x2]
  refine ⟨⟨KC.of h1 (fun j _ => by rw [k 1 (by omega) (by omega)]) (k 2 (by omega) (by omega)), by rw [k 1 (by omega) (by omega)]; exact h2, by rw [k 1 (by omega) (by omega)]; exact h3, by rw [k 1 (by omega) (by omega)]; exact h4, ⟨⟨?_, ?_, ?_, ?_, ?_, ?_, ?_⟩, ?_⟩⟩, (FW.c hw (by omega)).tr (FW.c hw (by omega))⟩
  · rw [k w (by omega) (by omega)]
    exact ⟨a1, a2, a3, a4, a5, a6, up_at⟩
  · rw [k w (by omega) (by omega)]; exact b
  · rw [k (w + 1) (by omega) (by omega)]; exact c
  · rw [k (w + 2) (by omega) (by omega)]; exact d
  · rw [k (w + 4) (by omega) (by omega)]; exact e
  · rw [k (w + 6) (by omega) (by omega)]; exact f
  · intro i hi
    have hi' : i < znl (s_P s) + 1 := hi
    rw [up_ne (by omega), up_app]
    show _ = zcv (if i = znl (s_P s) then sg else p_cd (s_P s) i)
    by_cases q : i = znl (s_P s)
    · rw [if_pos ⟨rfl, q⟩, if_pos q, hv]
    · rw [if_neg (fun z => q z.2), if_neg q]; exact g i (by omega)
  · refine ⟨fun p hp => ?_, fun p x1 x2 => ?_⟩
    · rw [k (w + 3) (by omega) (by omega), k (w + 5) (by omega) (by omega)]
      exact h5.1 p hp
    · rw [k w (by omega) (by omega)]
      exact h5.2 p x1 x2
theorem xm_lay (h : XM y n s Nm) (hl : znl (s_P s) < 700) {sg : Int32} : Evs (F_X12_lay 67 sg Nm) (fun N' => XM y n (yad s sg) N' ∧ WG Nm N') := by
  obtain ⟨h1, h2, h3, ⟨a1, a2, a3, a4, a5, a6, a7⟩, b, c, d, e, f, g, h5⟩ := h
  unfold F_X12_lay
  rw [if_pos h2, show Nm (67 + 3) 13 = _ from a7, show (700 : Int32) + nI (znl (s_P s)) = nI (700 + znl (s_P s)) from nI_add 700 _, show ast Nm (67 + 11) 1400 (nI (700 + znl (s_P s))) sg = some (up Nm 78 (700 + znl (s_P s)) sg) from zast (by omega) (by omega), zbs rfl, show ald (up Nm 78 (700 + znl (s_P s)) sg) (67 + 3) 14 13 = some (nI (znl (s_P s))) from (zald (i := 13) (by omega) (by omega)).trans (congrArg some (by rw [up_ne (by omega)]; exact a7)), zbs rfl, nI_1, show ast (up Nm 78 (700 + znl (s_P s)) sg) (67 + 3) 14 13 (nI (znl (s_P s) + 1)) = some (up (up Nm 78 (700 + znl (s_P s)) sg) 70 13 (nI (znl (s_P s) + 1))) from zast (i := 13) (by omega) (by omega), zbs rfl]
  have k : ∀ c, c ≠ 70 → c ≠ 78 → (up (up Nm 78 (700 + znl (s_P s)) sg) 70 13 (nI (znl (s_P s) + 1))) c = Nm c := fun c x1 x2 => by rw [up_ne x1, up_ne x2]
  have k7 : ∀ j, j ≠ 13 → (up (up Nm 78 (700 + znl (s_P s)) sg) 70 13 (nI (znl (s_P s) + 1))) 70 j = Nm 70 j := fun j hj => by rw [up_nk hj, up_ne (by omega)]
  refine Evs.pure ⟨⟨KM.of h1 (fun j _ => by rw [k 67 (by omega) (by omega)]) (k 80 (by omega) (by omega)), by rw [k 67 (by omega) (by omega)]; exact h2, by rw [k 67 (by omega) (by omega)]; exact h3, ⟨⟨?_, ?_, ?_, ?_, ?_, ?_, up_at⟩, ?_, ?_, ?_, ?_, ?_, ?_, ?_⟩⟩, (GW.c (by omega)).tr (GW.c (by omega))⟩
  · rw [k7 7 (by omega)]; exact a1
  · rw [k7 8 (by omega)]; exact a2
  · rw [k7 9 (by omega)]; exact a3
  · rw [k7 10 (by omega)]; exact a4
  · rw [k7 11 (by omega)]; exact a5
  · rw [k7 12 (by omega)]; exact a6
  · rw [k 73 (by omega) (by omega)]; exact b
  · rw [k 71 (by omega) (by omega)]; exact c
  · rw [k 72 (by omega) (by omega)]; exact d
  · rw [k 75 (by omega) (by omega)]; exact e
  · rw [k 77 (by omega) (by omega)]; exact f
  · intro i hi
    have hi' : i < znl (s_P s) + 1 := hi
    rw [up_ne (by omega), up_app]
    show _ = (if i = znl (s_P s) then sg else p_cd (s_P s) i)
    by_cases q : i = znl (s_P s)
    · rw [if_pos ⟨rfl, by omega⟩, if_pos q]
    · rw [if_neg (by omega), if_neg q]; exact g i (by omega)
  · rw [k 74 (by omega) (by omega), k 76 (by omega) (by omega)]; exact h5
theorem xm_lay0 {sg : Int32} (h0 : ¬ Nm 67 21 = 0) : F_X12_lay 67 sg Nm = some Nm := by unfold F_X12_lay; rw [if_neg h0]
/-- both lay a sign -/
theorem SY.lay (hw : w = 3 ∨ w = 14) (h : SY w y n s N Nm) (hn : n ≤ 700) (hl : znl (s_P s) + 1 ≤ s_a s) {sg v : Int32} (hv : v = zcv sg) : Evs (F_X12_lay 67 sg Nm) (fun Nm' => SY w y n (yad s sg) (F_X10_add (w + 7) v N) Nm' ∧ FW w N (F_X10_add (w + 7) v N) ∧ WG Nm Nm') := by
  obtain ⟨⟨h1, h2⟩, h3, h4, h5⟩ := h
  have := h3.b
  have hl7 : znl (s_P s) < 700 := by omega
  have hc := xc_add hw h1 hl7 hv
  exact (xm_lay h2 hl7).mono (fun Nm' hm => ⟨⟨⟨hc.1, hm.1⟩, h3, h4.pc (s' := yad s sg) rfl, hl⟩, hc.2, hm.2⟩)
/-- an operand has been read, a sign for the two is laid -/
theorem ygr.op {s1 s3 : St} {k1 k2 k : Nat} {sg : Int32} (h1 : ygr s s1 k1) (ht1 : TK y n s1) (hk : s_k s1 ≠ 0) (h2 : ygr (ynx y n s1) s3 k2) (hz : ∀ h, zht sg (h + 2) = some (h + 1)) (hk1 : k1 ≤ k) (hk2 : 1 + k2 ≤ k) (hl : znl (s_P s1) ≤ s_a s1) : ygr s (yad s3 sg) k ∧ znl (s_P s3) + 1 ≤ s_a s3 := by
  obtain ⟨l1, cd1, e1, a1, b1, c1⟩ := h1
  obtain ⟨l3, cd3, e3, a3, b3, c3⟩ := h2
  have ha := ynx_a (y := y) (n := n) (s := s1)
  have hab := (ht1.ne hk).1
  have e1P : s_P s1 = yPc (s_P s) l1 cd1 := congrArg Prod.fst e1
  have e1l : znl (s_P s1) = l1 := by rw [e1P]; rfl
  have e3' : s3.2 = (yPc (s_P s1) l3 cd3, s1.2.2) := e3
  have e3P : s_P s3 = yPc (s_P s) l3 cd3 := by rw [show s_P s3 = yPc (s_P s1) l3 cd3 from congrArg Prod.fst e3', e1P, yPc_2]
  have e3l : znl (s_P s3) = l3 := by rw [e3P]; rfl
  have a3' : znl (s_P s1) < l3 := a3
  have b3' : l3 + s_a (ynx y n s1) ≤ znl (s_P s1) + s_a s3 := b3
  refine ⟨⟨l3 + 1, (fun i => if i = l3 then sg else cd3 i), ?_, by omega, by show l3 + 1 + s_a s ≤ znl (s_P s) + s_a s3; omega, fun h hh hle => ?_⟩, by omega⟩
  · show (yPc (s_P s3) (znl (s_P s3) + 1) (fun i => if i = znl (s_P s3) then sg else p_cd (s_P s3) i), s3.2.2) = _
    rw [e3P, yPc_2]
    rw [show s3.2.2 = s.2.2 from by rw [e3', e1]]
    rfl
  · have h2 := c1 h hh (by omega)
    have h3 := c3 (h + 1) (by show zH (p_cd (s_P s1)) (znl (s_P s1)) = _; rw [e1l, e1P]; exact h2) (by omega)
    rw [zH, zH_cong (cd' := cd3) _ (fun i hi => if_neg (by omega)), h3, if_pos rfl]
    exact hz h
theorem ygr.mono {s' : St} {k k' : Nat} (h : ygr s s' k) (hk : k ≤ k') : ygr s s' k' := by
  obtain ⟨l, cd, e, a, b, c⟩ := h
  exact ⟨l, cd, e, a, b, fun h0 x1 x2 => c h0 x1 (by omega)⟩
theorem ygr.push {sg : Int32} (ht : TK y n s) (hk : s_k s ≠ 0) (hz : ∀ h, h < 40 → zht sg h = some (h + 1)) : ygr s (ynx y n (yad s sg)) 1 := by
  have ha := ynx_a (y := y) (n := n) (s := yad s sg)
  have hab := (ht.ne hk).1
  have hb : s_b (yad s sg) = s_b s := rfl
  refine ⟨znl (s_P s) + 1, _, rfl, by omega, by omega, fun h hh hle => ?_⟩
  have := zH_add (s := s) (sg := sg) hh
  rw [hz h (by omega)] at this
  exact this
/-- through an advance ahead, and one behind -/
theorem ygr.pre {s' : St} {k : Nat} (h : ygr (ynx y n s) s' k) (ht : TK y n s) : ygr s s' k := by
  obtain ⟨l, cd, e, a, b, c⟩ := h
  have ha := ynx_a (y := y) (n := n) (s := s)
  have hab := ht.b
  have b' : l + s_a (ynx y n s) ≤ znl (s_P s) + s_a s' := b
  exact ⟨l, cd, e, a, by omega, c⟩
theorem ygr.post {s' : St} {k : Nat} (h : ygr s s' k) (ht : TK y n s') : ygr s (ynx y n s') k := by
  obtain ⟨l, cd, e, a, b, c⟩ := h
  have ha := ynx_a (y := y) (n := n) (s := s')
  have hab := ht.b
  exact ⟨l, cd, e, a, by omega, c⟩
end LAY
