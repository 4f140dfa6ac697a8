/-! ===== nights, undo, tell, forget, fault ===== -/
theorem znlel (k : Int32) (b : Nat) (e : k = nI b) {a : Nat} (h : b < a) (ha : a < 2147483648) : ¬ nI a ≤ k := by rw [e]; exact nI_ge h (by omega)
section NIGHTS
variable {M : Mem} {w : Nat} {Z : Zs}
theorem zc_nts (hz : ZW Z) (hc : RC w Z M) {n : Nat} (hn : n ≤ 40) : ∃ M', L_X11_nights_47 0 (nI n) FU 0 M = some M' ∧ RC w (zB Z (zT (z_B Z) (zgo (z_P Z) (b_t (z_B Z)) n))) M' ∧ ∀ a, 67 ≤ a → M' a = M a := by
  have hP := hz.1
  have hw := hc.ww
  obtain ⟨hTW, hTC, h9⟩ := hz.2.1.1
  have grd0 : ∀ M1 : Mem, Fp 25 w M M1 → grd (M1 0 1) = some w := fun M1 a => by rw [a.1 0 (by omega) (by omega) (by omega) (by omega)]; exact hc.grd
  have key : ∀ j i f (M1 : Mem), i + j = n → j < f → CT (crow M1 25) (zgo (z_P Z) (b_t (z_B Z)) i) → Fp 25 w M M1 →
      Evs (L_X11_nights_47 0 (nI n) f (nI i) M1) (fun M' => CT (crow M' 25) (zgo (z_P Z) (b_t (z_B Z)) n) ∧ Fp 25 w M M') := by
    intro j
    induction j with
    | zero =>
      intro i f M1 e hf a1 a3
      obtain ⟨f, rfl⟩ : ∃ f', f = f' + 1 := ⟨f - 1, by omega⟩
      obtain rfl : i = n := by omega
      rw [L_X11_nights_47, if_pos (nI_le (by omega) (by omega))]
      exact Evs.pure ⟨a1, a3⟩
    | succ j ih =>
      intro i f M1 e hf a1 a3
      obtain ⟨f, rfl⟩ : ∃ f', f = f' + 1 := ⟨f - 1, by omega⟩
      have C1 : CP M1 w (z_P Z) := hc.P.p hw (Or.inl rfl) a3
      have k := zgo_k (T := b_t (z_B Z)) hP i
      rw [L_X11_nights_47, if_neg (nI_ge (by omega) (by omega)), grd0 M1 a3, zbs rfl, zbs rfl, show (0 + 24 + 1 : Nat) = 25 from rfl, a1.n, k.1, zc_fog hP C1 (by omega), zbs rfl, nI_1]
      refine Evs.bind (zc_pass hP C1 hw (c := 25) a1 (k.2.2.2.2.1 hTW (by omega)) (by omega) (fog := zfog (z_P Z) (t_n (b_t (z_B Z)) + i)) (by have := zfog_le hP (t_n (b_t (z_B Z)) + i); omega)) (fun M2 h2 => ?_)
      exact ih (i + 1) f M2 (by omega) (by omega) h2.1.1 (a3.tr h2.2)
  obtain ⟨M', e, h1, F⟩ := key n 0 FU M (by omega) (by unfold FU; omega) hc.T Fp.rf
  exact ⟨M', e, hc.setB (fun a ha => F.1 a (by omega) (by omega) (by omega) (by omega)) (F.2 1 (by omega)) (hc.B.town h1 (fun a x1 x2 => F.1 a (by omega) (by omega) (by omega) (by omega))), fun a ha => F.1 a (by omega) (by omega) (by omega) (by omega)⟩
theorem zm_nts (hz : ZW Z) (hm : RM Z M) {n : Nat} (hn : n ≤ 40) : ∃ M', F_X12_goOn 67 (nI n) M = some M' ∧ RM (zB Z (zT (z_B Z) (zgo (z_P Z) (b_t (z_B Z)) n))) M' ∧ Gm M M' := by
  obtain ⟨hTW, hTC, h9⟩ := hz.2.1.1
  obtain ⟨M', e, h1, -, G⟩ := zm_go hz.1 hm.P hm.T hTW (by omega) hm.2.2.2.2.2.1 hn
  refine ⟨M', e, hm.setB (fun a ha => G.1 a (by omega) (by omega) (by omega) (by omega)) (fun k hk => G.2 k (by omega) (by omega) (by omega) (by omega) (by omega)) ⟨h1, ?_⟩, G⟩
  rw [G.2 33 (by omega) (by omega) (by omega) (by omega) (by omega), G.2 34 (by omega) (by omega) (by omega) (by omega) (by omega), G.1 84 (by omega) (by omega) (by omega) (by omega), G.1 93 (by omega) (by omega) (by omega) (by omega), G.1 94 (by omega) (by omega) (by omega) (by omega), G.1 96 (by omega) (by omega) (by omega) (by omega), G.1 79 (by omega) (by omega) (by omega) (by omega)]
  exact hm.2.1.2
end NIGHTS
theorem agr_nights (n : Int32) : Ag3 (F_X11_nights 0 n) (F_X12_nights 67 n) := by
  refine agr_set3 (fun w Z M hz hc => ?_)
  obtain ⟨hTW, hTC, h9⟩ := hz.2.1.1
  have no : (∀ M0, RC w Z M0 → F_X11_nights 0 n M0 = J_X11_nights_j29 0 M0) → (∀ M0, RM Z M0 → ∀ M1, F_X12_nights 67 n M1 = (if (bi (F_X12_isIn n.toInt64 1 20)) = 0 then J_X12_nights_j29 67 (up M1 67 2 0) else if (((up M1 67 2 0) 67 29) + n) ≤ 999 then (F_X12_keep 67 (up M1 67 2 0)).bind fun q4 => (F_X12_goOn 67 n q4).bind fun q5 => some ((q5 67 29), q5) else J_X12_nights_j29 67 (up M1 67 2 0)) → up M1 67 2 0 = M0 → F_X12_nights 67 n M1 = J_X12_nights_j29 67 M0) →
      ∃ (v : Int32) (Z' : Zs), ZW Z' ∧ (∃ M', F_X11_nights 0 n M = some (v, M') ∧ RC w Z' M' ∧ ∀ a, 67 ≤ a → M' a = M a) ∧ ∀ M1, RM Z M1 → Evs (F_X12_nights 67 n M1) (fun r => r.1 = v ∧ RM Z' r.2 ∧ ∀ a, a < 67 → r.2 a = M1 a) := by
    intro k1 k2
    refine ⟨-1, zB Z (zrf (z_B Z) 1), hz.B (hz.2.1.rf 1), ⟨_, ?_, (hc.refuse (k := 1) (by omega)).1, (hc.refuse (k := 1) (by omega)).2⟩, fun M1 hm => ?_⟩
    · rw [k1 M hc]
      unfold J_X11_nights_j29
      rw [show F_X0_refuse (0 + 24) 1 M = (-1, up M 35 1 (b_u (z_B Z) 1 + 1)) from (zc_refuse hc.B (k := 1) (by omega)).1]
    · obtain ⟨hm0, G0, c0⟩ := zm_0 hm
      obtain ⟨M2, e1, hm2, n2⟩ := zm_refuse hm0 (k := 1) (by omega)
      rw [k2 (up M1 67 2 0) hm0 M1 rfl rfl]
      unfold J_X12_nights_j29
      rw [zbs (show F_X12_refuse 67 1 (up M1 67 2 0) = some (-1, M2) from e1)]
      exact Evs.pure (sl_mk3 rfl hm2 (fun a ha => by show M2 a = _; rw [n2 a (by omega)]; exact G0.fr (Or.inl ha)))
  rcases zwin n 1 20 (by omega) (by omega) with ⟨n, hn1, hn2, rfl⟩ | hx
  · by_cases lim : t_n (b_t (z_B Z)) + n ≤ 999
    · have hz2 : ZW (zB Z (zkp (z_B Z))) := hz.B hz.2.1.kp
      have hk := zgo_k (P := z_P Z) (T := b_t (z_B Z)) hz.1 n
      have hT' : TSt (z_P Z) (zgo (z_P Z) (b_t (z_B Z)) n) := ⟨hk.2.2.2.2.1 hTW (by omega), hk.2.2.2.2.2 hTC, by rw [hk.1]; exact lim⟩
      refine ⟨nI (t_n (b_t (z_B Z)) + n), zB Z (zT (zkp (z_B Z)) (zgo (z_P Z) (b_t (z_B Z)) n)), hz.B (hz.2.1.kp.T hT'), ?_, fun M1 hm => ?_⟩
      · obtain ⟨M2, e1, hc2, n2⟩ := hc.kept hz
        obtain ⟨M3, e2, hc3, n3⟩ := zc_nts hz2 hc2 (n := n) (by omega)
        refine ⟨M3, ?_, hc3, fun a ha => (n3 a ha).trans (n2 a (by omega) (by omega))⟩
        unfold F_X11_nights
        rw [if_neg (zngl2 1 1 rfl hn1 (by omega)), if_neg (zngl 20 20 rfl hn2 (by omega)), show M (0 + 24 + 1) 0 = nI (t_n (b_t (z_B Z))) from hc.T.n, nI_add, if_pos (zlel 999 999 rfl lim (by omega)), zbs (show F_X0_keepAct (0 + 24) M = some M2 from e1), zbs e2, show M3 (0 + 24 + 1) 0 = nI (t_n (zgo (z_P Z) (b_t (z_B Z)) n)) from hc3.T.n, hk.1]
      · obtain ⟨hm0, G0, c0⟩ := zm_0 hm
        unfold F_X12_nights
        generalize up M1 67 2 0 = M0 at hm0 G0 c0 ⊢
        obtain ⟨M2, e1, hm2, n2, f2⟩ := zm_keep hm0 hz.2.1.2.1
        obtain ⟨M3, e2, hm3, G3⟩ := zm_nts hz2 hm2 (n := n) (by omega)
        rw [zisw1 (a := 1) (b := 20) (A := 1) (B := 20) rfl rfl hn1 hn2 (by omega), if_neg (by decide), hm0.T.n, nI_add, if_pos (zlel 999 999 rfl lim (by omega)), zbs e1, zbs e2, show M3 67 29 = nI (t_n (zgo (z_P Z) (b_t (z_B Z)) n)) from hm3.T.n, hk.1]
        exact Evs.pure (sl_mk3 rfl hm3 (fun a ha => by rw [G3.1 a (by omega) (by omega) (by omega) (by omega), n2 a (by omega) (by omega)]; exact G0.fr (Or.inl ha)))
    · refine no (fun M0 h0 => ?_) (fun M0 h0 M1 e eM => ?_)
      · unfold F_X11_nights
        rw [if_neg (zngl2 1 1 rfl hn1 (by omega)), if_neg (zngl 20 20 rfl hn2 (by omega)), show M0 (0 + 24 + 1) 0 = nI (t_n (b_t (z_B Z))) from h0.T.n, nI_add, if_neg (znlel 999 999 rfl (by omega) (by omega))]
      · rw [e, eM, zisw1 (a := 1) (b := 20) (A := 1) (B := 20) rfl rfl hn1 hn2 (by omega), if_neg (by decide), h0.T.n, nI_add, if_neg (znlel 999 999 rfl (by omega) (by omega))]
  · refine no (fun M0 h0 => ?_) (fun M0 h0 M1 e eM => ?_)
    · unfold F_X11_nights
      rcases hx with hx | ⟨hx, hx2⟩
      · rw [if_pos (show n < 1 from hx)]
      · rw [if_neg (show ¬ n < 1 from hx), if_pos (show (20 : Int32) < n from Int32.not_le.mp hx2)]
    · rw [e, eM, zisw0 (a := 1) (b := 20) (A := 1) (B := 20) rfl rfl hx, if_pos (by decide)]
/-- an act is taken back -/
def zun (B : Bk) : Bk := (b_p B (b_a B - 1), b_a B - 1, b_p B, b_m B, b_q B, b_i B, b_s B, b_u B)
theorem agr_undo : Ag3 (F_X11_undo 0) (F_X12_undo 67) := by
  refine agr_set3 (fun w Z M hz hc => ?_)
  have ha := hz.2.1.2.1
  have hw := hc.ww
  by_cases e0 : b_a (z_B Z) = 0
  · refine ⟨-1, Z, hz, ⟨M, ?_, hc, fun _ _ => rfl⟩, fun M1 hm => ?_⟩
    · unfold F_X11_undo F_X0_undoAct F_X1_takeBack
      rw [show M (0 + 24 + 5) 1 = nI 0 from by have h := hc.B.2.1; rw [e0] at h; exact h, if_pos (by decide)]
      rfl
    · obtain ⟨hm0, G0, c0⟩ := zm_0 hm
      unfold F_X12_undo
      generalize up M1 67 2 0 = M0 at hm0 G0 c0 ⊢
      rw [hm0.2.1.2.1, e0, if_pos (by decide)]
      exact Evs.pure (sl_mk3 rfl hm0 (fun a ha => G0.fr (Or.inl ha)))
  · have hun : BW (z_P Z) (zun (z_B Z)) := ⟨hz.2.1.2.2.1 (b_a (z_B Z) - 1) (by omega), by show b_a (z_B Z) - 1 ≤ 40; omega, fun i hi => hz.2.1.2.2.1 i (by have hi : i < b_a (z_B Z) - 1 := hi; omega), hz.2.1.2.2.2⟩
    refine ⟨nI (b_a (z_B Z) - 1), zB Z (zun (z_B Z)), hz.B hun, ?_, fun M1 hm => ?_⟩
    · obtain ⟨a1, a2, a3, a4, a5, a6⟩ := hc.B
      have e1 : up M 29 1 (M 29 1 - 1) = up M 29 1 (nI (b_a (z_B Z) - 1)) := by rw [show M 29 1 = nI (b_a (z_B Z)) from a2, zsub1 (by omega)]
      have e25 : nI (b_a (z_B Z) - 1) * 25 = nI (25 * (b_a (z_B Z) - 1)) := by rw [show (25 : Int32) = nI 25 from rfl, zmul, Nat.mul_comm]
      obtain ⟨M2, q1, q2⟩ := zc_readr (M := up M 29 1 (nI (b_a (z_B Z) - 1))) (t := 25) (a := 30) (n := 1000) (f := 25 * (b_a (z_B Z) - 1)) (by omega) (by omega) (by omega)
      have n2 : ∀ a, (a < 25 ∨ 28 < a) → M2 a = (up M 29 1 (nI (b_a (z_B Z) - 1))) a := fun a ha => q2.cell (fun k _ => by have := cloc_cell 25 k; omega)
      refine ⟨M2, ?_, hc.setB (fun a ha => by rw [n2 a (by omega), up_ne (by omega)]) (by rw [n2 _ (by omega), up_ne (by omega)]) ⟨?_, ?_, fun i hi => ?_, ?_⟩, fun a ha => by rw [n2 a (by omega), up_ne (by omega)]⟩
      · unfold F_X11_undo F_X0_undoAct F_X1_takeBack
        rw [show M (0 + 24 + 5) 1 = nI (b_a (z_B Z)) from a2, if_neg (zne 0 0 rfl e0 (by omega) (by omega)), show up M (0 + 24 + 5) 1 (nI (b_a (z_B Z)) - 1) = up M 29 1 (nI (b_a (z_B Z) - 1)) by rw [zsub1 (by omega)],
          show (up M 29 1 (nI (b_a (z_B Z) - 1))) (0 + 24 + 5) 1 = nI (b_a (z_B Z) - 1) by rw [up_app, if_pos ⟨rfl, rfl⟩], e25, zbs (show F_X8_readFrom (0 + 24 + 1) (0 + 24 + 5 + 1) 1000 (nI (25 * (b_a (z_B Z) - 1))) (up M 29 1 (nI (b_a (z_B Z) - 1))) = some M2 from q1)]
        show some (M2 29 1, M2) = _
        rw [n2 29 (by omega), up_app, if_pos ⟨rfl, rfl⟩]
      · refine (a3 (b_a (z_B Z) - 1) (by omega)).cong (fun k hk => ?_)
        rw [← cloc_row M2 (24 + 1) k]
        rw [q2.1 k hk trivial]
        show (up M 29 1 _) 30 _ = _
        rw [up_ne (by omega)]
      · rw [n2 (24 + 5) (by omega), up_app, if_pos ⟨rfl, rfl⟩]; rfl
      · rw [n2 (24 + 6) (by omega), up_ne (by omega)]
        exact a3 i (by have hi : i < b_a (z_B Z) - 1 := hi; omega)
      · rw [n2 (24 + 7) (by omega), n2 (24 + 8) (by omega), n2 (24 + 9) (by omega), n2 (24 + 10) (by omega), n2 (24 + 11) (by omega), up_ne (by omega), up_ne (by omega), up_ne (by omega), up_ne (by omega), up_ne (by omega)]
        exact ⟨a4, a5, a6⟩
    · obtain ⟨hm0, G0, c0⟩ := zm_0 hm
      unfold F_X12_undo
      generalize up M1 67 2 0 = M0 at hm0 G0 c0 ⊢
      obtain ⟨a1, a2, a3, a4, a5, a6⟩ := hm0.2.1
      rw [a2, if_neg (zne 0 0 rfl e0 (by omega) (by omega)), zsub1 (by omega), up_app, if_pos ⟨rfl, rfl⟩, show (60 : Int32) * nI (b_a (z_B Z) - 1) = nI (60 * (b_a (z_B Z) - 1)) from zmul 60 _]
      obtain ⟨M2, q1, q2⟩ := zm_unpack (M := up M0 67 33 (nI (b_a (z_B Z) - 1))) (a := 84) (n := 2400) (f := 60 * (b_a (z_B Z) - 1)) (by omega) (by omega) (by omega)
      have n2 : ∀ b, b ≠ 67 → b ≠ 81 → b ≠ 82 → b ≠ 83 → M2 b = (up M0 67 33 (nI (b_a (z_B Z) - 1))) b := fun b x1 x2 x3 x4 => q2.cell (fun k _ => by have := mloc_cell k; omega)
      have f2 : ∀ k, (k < 29 ∨ 32 < k) → M2 67 k = (up M0 67 33 (nI (b_a (z_B Z) - 1))) 67 k := fun k hk => q2.2 67 k (fun i hi e => by unfold mloc at e; (repeat' split at e) <;> simp at e <;> omega)
      rw [zbs (show F_X12_unpack 67 (67 + 17) 2400 (nI (60 * (b_a (z_B Z) - 1))) (up M0 67 33 (nI (b_a (z_B Z) - 1))) = some M2 from q1), f2 33 (by omega), up_app, if_pos ⟨rfl, rfl⟩]
      refine Evs.pure (sl_mk3 rfl (hm0.setB (fun a ha => by rw [n2 a (by omega) (by omega) (by omega) (by omega), up_ne (by omega)]) (fun k hk => by rw [f2 k (by omega), up_app, if_neg (by omega)]) ⟨?_, ?_, fun i hi => ?_, ?_⟩) (fun a ha => by rw [n2 a (by omega) (by omega) (by omega) (by omega), up_ne (by omega)]; exact G0.fr (Or.inl ha)))
      · refine (a3 (b_a (z_B Z) - 1) (by omega)).cong (fun k hk => ?_)
        rw [← mloc_row M2 k, q2.1 k hk trivial]
        show (up M0 67 33 _) 84 _ = _
        rw [up_ne (by omega)]
      · rw [f2 33 (by omega), up_app, if_pos ⟨rfl, rfl⟩]; rfl
      · rw [n2 84 (by omega) (by omega) (by omega) (by omega), up_ne (by omega)]
        exact a3 i (by have hi : i < b_a (z_B Z) - 1 := hi; omega)
      · rw [f2 34 (by omega), up_app, if_neg (by omega), n2 93 (by omega) (by omega) (by omega) (by omega), n2 94 (by omega) (by omega) (by omega) (by omega), n2 96 (by omega) (by omega) (by omega) (by omega), n2 79 (by omega) (by omega) (by omega) (by omega), up_ne (by omega), up_ne (by omega), up_ne (by omega), up_ne (by omega)]
        exact ⟨a4, a5, a6⟩
/-- nothing is told any more -/
def zfo (B : Bk) : Bk := (b_t B, b_a B, b_p B, 0, b_q B, b_i B, b_s B, b_u B)
theorem agr_forget : ∀ M, RR M → RR (F_X12_forget 67 (F_X11_forget 0 M)) := by
  intro M ⟨w, Z, hz, hc, hm⟩
  have hw := hc.ww
  have hb : BW (z_P Z) (zfo (z_B Z)) := ⟨hz.2.1.1, hz.2.1.2.1, hz.2.1.2.2.1, Nat.zero_le _, fun i hi => absurd hi (Nat.not_lt_zero i)⟩
  have hc1 : RC w (zB Z (zfo (z_B Z))) (up M 31 3 0) := by
    obtain ⟨a1, a2, a3, a4, a5, a6⟩ := hc.B
    refine hc.setB (fun a ha => up_ne (by omega)) (by rw [up_ne (by omega)]) ⟨?_, ?_, ?_, ?_, fun i hi => absurd hi (Nat.not_lt_zero i), ?_⟩
    · rw [crow_of (M := M) (fun a h1 h2 => up_ne (by omega))]; exact a1
    · rw [up_ne (by omega)]; exact a2
    · rw [up_ne (by omega)]; exact a3
    · rw [up_app, if_pos ⟨rfl, rfl⟩]; rfl
    · rw [up_ne (by omega)]; exact a6
  have hm1 : RM Z (up M 31 3 0) := hm.of (fun a h1 h2 => up_ne (by omega))
  obtain ⟨hm0, G0, c0⟩ := zm_0 hm1
  have hm2 : RM (zB Z (zfo (z_B Z))) (up (up (up M 31 3 0) 67 2 0) 67 34 0) := by
    generalize up (up M 31 3 0) 67 2 0 = M0 at hm0 G0
    obtain ⟨a1, a2, a3, a4, a5, a6⟩ := hm0.2.1
    refine hm0.setB (fun a ha => up_ne (by omega)) (fun k hk => by rw [up_app, if_neg (by omega)]) ⟨?_, ?_, ?_, ?_, fun i hi => absurd hi (Nat.not_lt_zero i), ?_⟩
    · rw [mrow_of (M := M0) (fun k _ _ => by rw [up_app, if_neg (by omega)]) (up_ne (by omega)) (up_ne (by omega)) (up_ne (by omega))]; exact a1
    · rw [up_app, if_neg (by omega)]; exact a2
    · rw [up_ne (by omega)]; exact a3
    · rw [up_app, if_pos ⟨rfl, rfl⟩]; rfl
    · rw [up_ne (by omega)]; exact a6
  show RR (up (up (up M 31 3 0) 67 2 0) 67 34 0)
  exact ⟨w, zB Z (zfo (z_B Z)), hz.B hb, (hc1.of (fun a h => by rw [up_ne (by omega), up_ne (by omega)])), hm2⟩
theorem agr_fault : ∀ M, RR M → F_X11_fault 0 M = (F_X12_fault 67 M).1 ∧ RR (F_X12_fault 67 M).2 := by
  intro M ⟨w, Z, hz, hc, hm⟩
  obtain ⟨hm0, G0, c0⟩ := zm_0 hm
  refine ⟨?_, w, Z, hz, hc.of (fun a h => G0.fr (Or.inl h)), hm0⟩
  show M 0 2 = (up M 67 2 0) 67 23
  rw [hc.2.2.2.1]; exact hm0.2.2.1.symm
/-- something is told -/
def zte (B : Bk) (p k : Nat) (s : Bool) : Bk := (b_t B, b_a B, b_p B, b_m B + 1, (fun j => if j = b_m B then p else b_q B j), (fun j => if j = b_m B then k else b_i B j), (fun j => if j = b_m B then s else b_s B j), b_u B)
