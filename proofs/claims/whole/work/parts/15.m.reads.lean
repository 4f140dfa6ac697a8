/-! ===== calls that read alone ===== -/
def zsum (c : Nat → Int32) : Nat → Int32
  | 0 => 0
  | k + 1 => zsum c k + c k
theorem zsum_more {c : Nat → Int32} {n : Nat} (h : ∀ k, n ≤ k → c k = 0) : ∀ j, zsum c (n + j) = zsum c n
  | 0 => rfl
  | j + 1 => by show zsum c (n + j) + c (n + j) = _; rw [zsum_more h j, h _ (by omega)]; exact Int32.add_zero _
section READS
variable {M : Mem} {w : Nat} {Z : Zs}
theorem zc_all {t : Nat} {T : Tn} (hT : CT (crow M t) T) : F_X8_coinsOfAll t M = some (zsum (t_c T) 7) := by
  have key : ∀ j k f, k + j = 7 → j < f → L_X8_coinsOfAll_4 t M f (zsum (t_c T) k) (nI k) = some (zsum (t_c T) 7) := by
    intro j
    induction j with
    | zero =>
      intro k f e hf
      obtain ⟨f, rfl⟩ : ∃ f', f = f' + 1 := ⟨f - 1, by omega⟩
      obtain rfl : k = 7 := by omega
      rw [L_X8_coinsOfAll_4, if_pos (by decide)]
    | succ j ih =>
      intro k f e hf
      obtain ⟨f, rfl⟩ : ∃ f', f = f' + 1 := ⟨f - 1, by omega⟩
      rw [L_X8_coinsOfAll_4, if_neg (znge 7 7 rfl (by omega) (by omega)), zald (by omega) (by omega), zbs rfl, nI_1, hT.c (by omega)]
      exact ih (k + 1) f (by omega) (by omega)
  unfold F_X8_coinsOfAll
  exact zbs (key 7 0 FU (by omega) (by decide))
theorem zm_all {P : Pl} {T : Tn} (hP : PW P) (C : MP M P) (hT : MT (mrow M) T) (hW : TW9 P T) : F_X12_allCoins 67 M = some (zsum (t_c T) 7) := by
  have h7 := hP.2.2.1
  have key : ∀ j k f, k + j = znp P → j < f → L_X12_allCoins_4 67 M f (zsum (t_c T) k) (nI k) = some (zsum (t_c T) (znp P)) := by
    intro j
    induction j with
    | zero =>
      intro k f e hf
      obtain ⟨f, rfl⟩ : ∃ f', f = f' + 1 := ⟨f - 1, by omega⟩
      obtain rfl : k = znp P := by omega
      rw [L_X12_allCoins_4, C.1.2.2.2.1, if_pos (nI_le (by omega) (by omega))]
    | succ j ih =>
      intro k f e hf
      obtain ⟨f, rfl⟩ : ∃ f', f = f' + 1 := ⟨f - 1, by omega⟩
      rw [L_X12_allCoins_4, C.1.2.2.2.1, if_neg (nI_ge (by omega) (by omega)), zald (by omega) (by omega), zbs rfl, nI_1, hT.c (by omega)]
      exact ih (k + 1) f (by omega) (by omega)
  have e : zsum (t_c T) 7 = zsum (t_c T) (znp P) := by
    have : 7 = znp P + (7 - znp P) := by omega
    rw [this]; exact zsum_more hW.2.2.1 _
  rw [e]
  unfold F_X12_allCoins
  exact zbs (key (znp P) 0 FU (by omega) (by unfold FU; omega))
end READS
theorem agr_paths (p : Int32) : Agr (F_L_paths 0 106 p) (F_X12_paths 67 p) := by
  refine agr_read (fun w Z M hz hc => ?_)
  have hP := hz.1
  have h8 := hP.1.2
  rcases znum p (zns (z_P Z)) (by omega) with ⟨i, hi, rfl⟩ | hx
  · refine ⟨.inr (p_nr (z_P Z) i), CL.val (M' := M) ?_ Fz.rf, fun M1 hm => ?_⟩
    · have e : F_X11_paths 0 (nI i) M = some (Sum.inr (p_nr (z_P Z) i)) := by
        unfold F_X11_paths
        rw [zc_ns hc hi h8, zbs rfl]
        show Option.bind _ _ = _
        rw [hc.grd, zbs rfl, zat_at (by omega) (by omega), hc.P.2.2.1 i (by omega)]
      unfold F_L_paths
      rw [zbs e]; rfl
    · obtain ⟨hm0, G0, c0⟩ := zm_0 hm
      unfold F_X12_paths
      generalize up M1 67 2 0 = M0 at hm0 G0 c0 ⊢
      rw [zm_is1 hm0 hi h8, if_neg (by decide), zald (by omega) (by omega), zbs rfl]
      exact Evs.pure (ML.val (hm0.P.2.2.1 i (by omega)) c0 G0)
  · refine ⟨.inl 1, CL.thr (Or.inl rfl) ?_, fun M1 hm => ?_⟩
    · have e : F_X11_paths 0 p M = some (Sum.inl 1) := by
        unfold F_X11_paths
        rw [zc_nsx hc hx, zbs rfl]; rfl
      unfold F_L_paths
      rw [zbs e]; rfl
    · obtain ⟨hm0, G0, c0⟩ := zm_0 hm
      unfold F_X12_paths
      generalize up M1 67 2 0 = M0 at hm0 G0 c0 ⊢
      rw [zm_is0 hm0 h8 hx, if_pos (by decide)]
      exact Evs.pure (zm_fail (k := 1) G0)
theorem agr_walk (p i : Int32) : Agr (F_L_walk 0 106 p i) (F_X12_walk 67 p i) := by
  refine agr_read (fun w Z M hz hc => ?_)
  have hP := hz.1
  have h7 := hP.2.2.1
  rcases znum p (znp (z_P Z)) (by omega) with ⟨p, hp, rfl⟩ | hx
  · have h6 := hP.2.2.2.2.2.2.2.1 p hp
    rcases znum i (p_ln (z_P Z) p) (by omega) with ⟨i, hi, rfl⟩ | hx
    · refine ⟨.inr (nI (t_w (b_t (z_B Z)) p i)), CL.val (M' := M) ?_ Fz.rf, fun M1 hm => ?_⟩
      · have e : F_X11_walk 0 (nI p) (nI i) M = some (Sum.inr (nI (t_w (b_t (z_B Z)) p i))) := by
          unfold F_X11_walk
          rw [zc_npl hc hp hP hi, zbs rfl]
          show some (Sum.inr _) = _
          rw [zat_at (by omega) (by omega), hc.T.w (by omega) (by omega)]
        unfold F_L_walk
        rw [zbs e]; rfl
      · obtain ⟨hm0, G0, c0⟩ := zm_0 hm
        unfold F_X12_walk
        generalize up M1 67 2 0 = M0 at hm0 G0 c0 ⊢
        rw [zm_ip1 hm0 hp h7, if_neg (by decide), zald (by omega) (by omega), zbs rfl, hm0.P.2.2.2.2.1 p hp, zisn1 hi (by omega), if_neg (by decide), z6, nI_add, zald (by omega) (by omega), zbs rfl]
        exact Evs.pure (ML.val (hm0.T.w (by omega) (by omega)) c0 G0)
    · refine ⟨.inl 1, CL.thr (Or.inl rfl) ?_, fun M1 hm => ?_⟩
      · have e : F_X11_walk 0 (nI p) i M = some (Sum.inl 1) := by
          unfold F_X11_walk
          rw [zc_nplx2 hc hp hP hx, zbs rfl]; rfl
        unfold F_L_walk
        rw [zbs e]; rfl
      · obtain ⟨hm0, G0, c0⟩ := zm_0 hm
        unfold F_X12_walk
        generalize up M1 67 2 0 = M0 at hm0 G0 c0 ⊢
        rw [zm_ip1 hm0 hp h7, if_neg (by decide), zald (by omega) (by omega), zbs rfl, hm0.P.2.2.2.2.1 p hp, zisn0 (by omega) hx, if_pos (by decide)]
        exact Evs.pure (zm_fail (k := 1) G0)
  · refine ⟨.inl 1, CL.thr (Or.inl rfl) ?_, fun M1 hm => ?_⟩
    · have e : F_X11_walk 0 p i M = some (Sum.inl 1) := by
        unfold F_X11_walk
        rw [zc_nplx1 hc hx, zbs rfl]; rfl
      unfold F_L_walk
      rw [zbs e]; rfl
    · obtain ⟨hm0, G0, c0⟩ := zm_0 hm
      unfold F_X12_walk
      generalize up M1 67 2 0 = M0 at hm0 G0 c0 ⊢
      rw [zm_ip0 hm0 h7 hx, if_pos (by decide)]
      exact Evs.pure (zm_fail (k := 1) G0)
theorem zsk_1 {P : Pl} {T : Tn} {p : Nat} : zsk P T (t_w T p) 1 p = zseen P T (zfog P (t_n T)) p := by
  unfold zsk zseen
  rw [Nat.add_sub_cancel]
  simp
theorem RM.fog {M : Mem} {Z : Zs} (hm : RM Z M) (hz : ZW Z) : F_X12_fogOf 67 M = some (nI (zfog (z_P Z) (t_n (b_t (z_B Z))))) := zm_fog hz.1 hm.P hm.T (by have := hz.2.1.1.2.2; omega) hm.2.2.2.2.2.1

theorem znot {p : Int32} {n : Nat} (h : p < 0 ∨ (¬ p < 0 ∧ ¬ p < nI n)) (hn : n < 100000 := by omega) : ∀ j, j < n → ¬ p = nI j := fun j hj e => by
  subst e
  rcases h with h | ⟨_, h⟩
  · exact nI_pos (by omega) h
  · exact h (nI_lt hj (by omega))
theorem agr_person (p i : Int32) : Agr (F_L_person 0 106 p i) (F_X12_person 67 p i) := by
  refine agr_read (fun w Z M hz hc => ?_)
  have hP := hz.1
  have h7 := hP.2.2.1
  have hTS := hz.2.1.1
  have hn9 := hTS.2.2
  rcases znum p (znp (z_P Z)) (by omega) with ⟨p, hp, rfl⟩ | hx
  · rcases znum i 5 (by omega) with ⟨i, hi, rfl⟩ | hx
    · have h9 : i = 0 ∨ i = 1 ∨ i = 2 ∨ i = 3 ∨ i = 4 := by omega
      rcases h9 with rfl | rfl | rfl | rfl | rfl
      · refine ⟨.inr (t_c (b_t (z_B Z)) p), CL.val (M' := M) ?_ Fz.rf, fun M1 hm => ?_⟩
        · have e : F_X11_person 0 (nI p) (nI 0) M = some (Sum.inr (t_c (b_t (z_B Z)) p)) := by
            unfold F_X11_person
            rw [zc_np hc hp h7, zbs rfl, show (5 : Int32) = nI 5 from rfl, zwhat1 (by omega) (by omega)]
            simp only [Sum.elim_inr]
            rw [if_pos (by decide), zat_at (by omega) (by omega), hc.T.c (by omega)]
          unfold F_L_person
          rw [zbs e]; rfl
        · obtain ⟨hm0, G0, c0⟩ := zm_0 hm
          unfold F_X12_person
          generalize up M1 67 2 0 = M0 at hm0 G0 c0 ⊢
          rw [zm_ip1 hm0 hp h7, if_neg (by decide), if_pos (by decide), zald (by omega) (by omega), zbs rfl]
          exact Evs.pure (ML.val (hm0.T.c (by omega)) c0 G0)
      · refine ⟨.inr (nI (p_ln (z_P Z) p)), CL.val (M' := M) ?_ Fz.rf, fun M1 hm => ?_⟩
        · have e : F_X11_person 0 (nI p) (nI 1) M = some (Sum.inr (nI (p_ln (z_P Z) p))) := by
            unfold F_X11_person
            rw [zc_np hc hp h7, zbs rfl, show (5 : Int32) = nI 5 from rfl, zwhat1 (by omega) (by omega)]
            simp only [Sum.elim_inr]
            rw [if_neg (by decide), if_pos (by decide), hc.grd, zbs rfl, zat_at (by omega) (by omega), hc.P.2.2.2.2.1 p hp]
          unfold F_L_person
          rw [zbs e]; rfl
        · obtain ⟨hm0, G0, c0⟩ := zm_0 hm
          unfold F_X12_person
          generalize up M1 67 2 0 = M0 at hm0 G0 c0 ⊢
          rw [zm_ip1 hm0 hp h7, if_neg (by decide), if_neg (by decide), if_pos (by decide), zald (by omega) (by omega), zbs rfl]
          exact Evs.pure (ML.val (hm0.P.2.2.2.2.1 p hp) c0 G0)
      · refine ⟨.inr (t_k (b_t (z_B Z)) p), CL.val (M' := M) ?_ Fz.rf, fun M1 hm => ?_⟩
        · have e : F_X11_person 0 (nI p) (nI 2) M = some (Sum.inr (t_k (b_t (z_B Z)) p)) := by
            unfold F_X11_person
            rw [zc_np hc hp h7, zbs rfl, show (5 : Int32) = nI 5 from rfl, zwhat1 (by omega) (by omega)]
            simp only [Sum.elim_inr]
            rw [if_neg (by decide), if_neg (by decide), if_pos (by decide), zat_at (by omega) (by omega), hc.T.k (by omega)]
          unfold F_L_person
          rw [zbs e]; rfl
        · obtain ⟨hm0, G0, c0⟩ := zm_0 hm
          unfold F_X12_person
          generalize up M1 67 2 0 = M0 at hm0 G0 c0 ⊢
          rw [zm_ip1 hm0 hp h7, if_neg (by decide), if_neg (by decide), if_neg (by decide), if_pos (by decide), zald (by omega) (by omega), zbs rfl]
          exact Evs.pure (ML.val (hm0.T.k (by omega)) c0 G0)
      · refine ⟨.inr ((if p_bi (z_P Z) p then 1 else 0)), CL.val (M' := M) ?_ Fz.rf, fun M1 hm => ?_⟩
        · have e : F_X11_person 0 (nI p) (nI 3) M = some (Sum.inr ((if p_bi (z_P Z) p then 1 else 0))) := by
            unfold F_X11_person
            rw [zc_np hc hp h7, zbs rfl, show (5 : Int32) = nI 5 from rfl, zwhat1 (by omega) (by omega)]
            simp only [Sum.elim_inr]
            rw [if_neg (by decide), if_neg (by decide), if_neg (by decide), if_pos (by decide), hc.grd, zbs rfl, zbit (by omega), hc.P.2.1 p hp]
          unfold F_L_person
          rw [zbs e]; rfl
        · obtain ⟨hm0, G0, c0⟩ := zm_0 hm
          unfold F_X12_person
          generalize up M1 67 2 0 = M0 at hm0 G0 c0 ⊢
          rw [zm_ip1 hm0 hp h7, if_neg (by decide), if_neg (by decide), if_neg (by decide), if_neg (by decide), if_pos (by decide), zald (by omega) (by omega), zbs rfl]
          exact Evs.pure (ML.val (hm0.P.2.1 p hp) c0 G0)
      · refine ⟨.inr (zseen (z_P Z) (b_t (z_B Z)) (zfog (z_P Z) (t_n (b_t (z_B Z)))) p), CL.val (M' := M) ?_ Fz.rf, fun M1 hm => ?_⟩
        · have e : F_X11_person 0 (nI p) (nI 4) M = some (Sum.inr (zseen (z_P Z) (b_t (z_B Z)) (zfog (z_P Z) (t_n (b_t (z_B Z)))) p)) := by
            unfold F_X11_person
            rw [zc_np hc hp h7, zbs rfl, show (5 : Int32) = nI 5 from rfl, zwhat1 (by omega) (by omega)]
            simp only [Sum.elim_inr]
            rw [if_neg (by decide), if_neg (by decide), if_neg (by decide), if_neg (by decide), hc.grd, zbs rfl, zat_at (by omega) (by omega), show (1 : Int32) = nI 1 from rfl, zc_seen hP hc.P hc.T.n hc.T.b (by omega) hp (by omega) (by omega) (fun i hi => hc.T.w (by omega) hi) (fun i => Nat.lt_of_lt_of_le (hTS.1.2.1 p i) hP.1.2), zbs rfl, zsk_1]
          unfold F_L_person
          rw [zbs e]; rfl
        · obtain ⟨hm0, G0, c0⟩ := zm_0 hm
          unfold F_X12_person
          generalize up M1 67 2 0 = M0 at hm0 G0 c0 ⊢
          rw [zm_ip1 hm0 hp h7, if_neg (by decide), if_neg (by decide), if_neg (by decide), if_neg (by decide), if_neg (by decide), if_pos (by decide), zm_seen hP hm0.P hm0.T hTS.1 (hm0.fog hz) (by have := zfog_le hP (t_n (b_t (z_B Z))); omega) hp, zbs rfl]
          exact Evs.pure (ML.val (rfl) c0 G0)
    · refine ⟨.inl 1, CL.thr (Or.inl rfl) ?_, fun M1 hm => ?_⟩
      · have e : F_X11_person 0 (nI p) i M = some (Sum.inl 1) := by
          unfold F_X11_person
          rw [zc_np hc hp h7, zbs rfl, show (5 : Int32) = nI 5 from rfl, zwhat0 hx]; rfl
        unfold F_L_person
        rw [zbs e]; rfl
      · obtain ⟨hm0, G0, c0⟩ := zm_0 hm
        have hne := znot hx
        unfold F_X12_person
        generalize up M1 67 2 0 = M0 at hm0 G0 c0 ⊢
        rw [zm_ip1 hm0 hp h7, if_neg (by decide), if_neg (show ¬ i = 0 from hne 0 (by omega)), if_neg (show ¬ i = 1 from hne 1 (by omega)), if_neg (show ¬ i = 2 from hne 2 (by omega)), if_neg (show ¬ i = 3 from hne 3 (by omega)), if_neg (show ¬ i = 4 from hne 4 (by omega))]
        exact Evs.pure (zm_fail (k := 1) G0)
  · refine ⟨.inl 1, CL.thr (Or.inl rfl) ?_, fun M1 hm => ?_⟩
    · have e : F_X11_person 0 p i M = some (Sum.inl 1) := by
        unfold F_X11_person
        rw [zc_npx hc hx, zbs rfl]; rfl
      unfold F_L_person
      rw [zbs e]; rfl
    · obtain ⟨hm0, G0, c0⟩ := zm_0 hm
      unfold F_X12_person
      generalize up M1 67 2 0 = M0 at hm0 G0 c0 ⊢
      rw [zm_ip0 hm0 h7 hx, if_pos (by decide)]
      exact Evs.pure (zm_fail (k := 1) G0)
theorem agr_count (i : Int32) : Agr (F_L_count 0 106 i) (F_X12_count 67 i) := by
  refine agr_read (fun w Z M hz hc => ?_)
  have hP := hz.1
  have h7 := hP.2.2.1
  have hTS := hz.2.1.1
  have hn9 := hTS.2.2
  rcases znum i 16 (by omega) with ⟨i, hi, rfl⟩ | hx
  · have h9 : i = 0 ∨ i = 1 ∨ i = 2 ∨ i = 3 ∨ i = 4 ∨ i = 5 ∨ i = 6 ∨ i = 7 ∨ i = 8 ∨ i = 9 ∨ i = 10 ∨ i = 11 ∨ i = 12 ∨ i = 13 ∨ i = 14 ∨ i = 15 := by omega
    rcases h9 with rfl | rfl | rfl | rfl | rfl | rfl | rfl | rfl | rfl | rfl | rfl | rfl | rfl | rfl | rfl | rfl
    · refine ⟨.inr (nI (zns (z_P Z))), CL.val (M' := M) ?_ Fz.rf, fun M1 hm => ?_⟩
      · have e : F_X11_count 0 (nI 0) M = some (Sum.inr (nI (zns (z_P Z)))) := by
          unfold F_X11_count
          rw [show (16 : Int32) = nI 16 from rfl, zwhat1 (by omega) (by omega)]
          simp only [Sum.elim_inr]
          rw [if_pos (by decide), hc.grd, zbs rfl, hc.P.1.1]
        unfold F_L_count
        rw [zbs e]; rfl
      · obtain ⟨hm0, G0, c0⟩ := zm_0 hm
        unfold F_X12_count
        generalize up M1 67 2 0 = M0 at hm0 G0 c0 ⊢
        rw [if_pos (by decide)]
        unfold J_X12_count_j84
        rw [zald (by omega) (by omega), zbs rfl]
        exact Evs.pure (ML.val (hm0.P.1.1) c0 G0)
    · refine ⟨.inr (nI (zpa (z_P Z))), CL.val (M' := M) ?_ Fz.rf, fun M1 hm => ?_⟩
      · have e : F_X11_count 0 (nI 1) M = some (Sum.inr (nI (zpa (z_P Z)))) := by
          unfold F_X11_count
          rw [show (16 : Int32) = nI 16 from rfl, zwhat1 (by omega) (by omega)]
          simp only [Sum.elim_inr]
          rw [if_neg (by decide), if_pos (by decide), hc.grd, zbs rfl, hc.P.1.2.1]
        unfold F_L_count
        rw [zbs e]; rfl
      · obtain ⟨hm0, G0, c0⟩ := zm_0 hm
        unfold F_X12_count
        generalize up M1 67 2 0 = M0 at hm0 G0 c0 ⊢
        rw [if_neg (by decide), if_pos (by decide)]
        unfold J_X12_count_j84
        rw [zald (by omega) (by omega), zbs rfl]
        exact Evs.pure (ML.val (hm0.P.1.2.1) c0 G0)
    · refine ⟨.inr (nI (znp (z_P Z))), CL.val (M' := M) ?_ Fz.rf, fun M1 hm => ?_⟩
      · have e : F_X11_count 0 (nI 2) M = some (Sum.inr (nI (znp (z_P Z)))) := by
          unfold F_X11_count
          rw [show (16 : Int32) = nI 16 from rfl, zwhat1 (by omega) (by omega)]
          simp only [Sum.elim_inr]
          rw [if_neg (by decide), if_neg (by decide), if_pos (by decide), hc.grd, zbs rfl, hc.P.1.2.2.2.1]
        unfold F_L_count
        rw [zbs e]; rfl
      · obtain ⟨hm0, G0, c0⟩ := zm_0 hm
        unfold F_X12_count
        generalize up M1 67 2 0 = M0 at hm0 G0 c0 ⊢
        rw [if_neg (by decide), if_neg (by decide), if_pos (by decide)]
        exact Evs.pure (ML.val (hm0.P.1.2.2.2.1) c0 G0)
    · refine ⟨.inr (nI (znr (z_P Z))), CL.val (M' := M) ?_ Fz.rf, fun M1 hm => ?_⟩
      · have e : F_X11_count 0 (nI 3) M = some (Sum.inr (nI (znr (z_P Z)))) := by
          unfold F_X11_count
          rw [show (16 : Int32) = nI 16 from rfl, zwhat1 (by omega) (by omega)]
          simp only [Sum.elim_inr]
          rw [if_neg (by decide), if_neg (by decide), if_neg (by decide), if_pos (by decide), hc.grd, zbs rfl, hc.P.1.2.2.1]
        unfold F_L_count
        rw [zbs e]; rfl
      · obtain ⟨hm0, G0, c0⟩ := zm_0 hm
        unfold F_X12_count
        generalize up M1 67 2 0 = M0 at hm0 G0 c0 ⊢
        rw [if_neg (by decide), if_neg (by decide), if_neg (by decide), if_pos (by decide)]
        exact Evs.pure (ML.val (hm0.P.1.2.2.1) c0 G0)
    · refine ⟨.inr (nI (t_n (b_t (z_B Z)))), CL.val (M' := M) ?_ Fz.rf, fun M1 hm => ?_⟩
      · have e : F_X11_count 0 (nI 4) M = some (Sum.inr (nI (t_n (b_t (z_B Z))))) := by
          unfold F_X11_count
          rw [show (16 : Int32) = nI 16 from rfl, zwhat1 (by omega) (by omega)]
          simp only [Sum.elim_inr]
          rw [if_neg (by decide), if_neg (by decide), if_neg (by decide), if_neg (by decide), if_pos (by decide), hc.T.n]
        unfold F_L_count
        rw [zbs e]; rfl
      · obtain ⟨hm0, G0, c0⟩ := zm_0 hm
        unfold F_X12_count
        generalize up M1 67 2 0 = M0 at hm0 G0 c0 ⊢
        rw [if_neg (by decide), if_neg (by decide), if_neg (by decide), if_neg (by decide), if_pos (by decide)]
        exact Evs.pure (ML.val (hm0.T.n) c0 G0)
    · refine ⟨.inr (nI (zfog (z_P Z) (t_n (b_t (z_B Z))))), CL.val (M' := M) ?_ Fz.rf, fun M1 hm => ?_⟩
      · have e : F_X11_count 0 (nI 5) M = some (Sum.inr (nI (zfog (z_P Z) (t_n (b_t (z_B Z)))))) := by
          unfold F_X11_count
          rw [show (16 : Int32) = nI 16 from rfl, zwhat1 (by omega) (by omega)]
          simp only [Sum.elim_inr]
          rw [if_neg (by decide), if_neg (by decide), if_neg (by decide), if_neg (by decide), if_neg (by decide), if_pos (by decide), hc.grd, zbs rfl, hc.T.n, zc_fog hP hc.P (by omega), zbs rfl]
        unfold F_L_count
        rw [zbs e]; rfl
      · obtain ⟨hm0, G0, c0⟩ := zm_0 hm
        unfold F_X12_count
        generalize up M1 67 2 0 = M0 at hm0 G0 c0 ⊢
        rw [if_neg (by decide), if_neg (by decide), if_neg (by decide), if_neg (by decide), if_neg (by decide), if_pos (by decide), hm0.fog hz, zbs rfl]
        exact Evs.pure (ML.val (rfl) c0 G0)
    · refine ⟨.inr (t_h (b_t (z_B Z))), CL.val (M' := M) ?_ Fz.rf, fun M1 hm => ?_⟩
      · have e : F_X11_count 0 (nI 6) M = some (Sum.inr (t_h (b_t (z_B Z)))) := by
          unfold F_X11_count
          rw [show (16 : Int32) = nI 16 from rfl, zwhat1 (by omega) (by omega)]
          simp only [Sum.elim_inr]
          rw [if_neg (by decide), if_neg (by decide), if_neg (by decide), if_neg (by decide), if_neg (by decide), if_neg (by decide), if_pos (by decide), hc.T.h]
        unfold F_L_count
        rw [zbs e]; rfl
      · obtain ⟨hm0, G0, c0⟩ := zm_0 hm
        unfold F_X12_count
        generalize up M1 67 2 0 = M0 at hm0 G0 c0 ⊢
        rw [if_neg (by decide), if_neg (by decide), if_neg (by decide), if_neg (by decide), if_neg (by decide), if_neg (by decide), if_pos (by decide)]
        exact Evs.pure (ML.val (hm0.T.h) c0 G0)
    · refine ⟨.inr (t_d (b_t (z_B Z))), CL.val (M' := M) ?_ Fz.rf, fun M1 hm => ?_⟩
      · have e : F_X11_count 0 (nI 7) M = some (Sum.inr (t_d (b_t (z_B Z)))) := by
          unfold F_X11_count
          rw [show (16 : Int32) = nI 16 from rfl, zwhat1 (by omega) (by omega)]
          simp only [Sum.elim_inr]
          rw [if_neg (by decide), if_neg (by decide), if_neg (by decide), if_neg (by decide), if_neg (by decide), if_neg (by decide), if_neg (by decide), if_pos (by decide), hc.T.d]
        unfold F_L_count
        rw [zbs e]; rfl
      · obtain ⟨hm0, G0, c0⟩ := zm_0 hm
        unfold F_X12_count
        generalize up M1 67 2 0 = M0 at hm0 G0 c0 ⊢
        rw [if_neg (by decide), if_neg (by decide), if_neg (by decide), if_neg (by decide), if_neg (by decide), if_neg (by decide), if_neg (by decide), if_pos (by decide)]
        exact Evs.pure (ML.val (hm0.T.d) c0 G0)
    · refine ⟨.inr (t_b (b_t (z_B Z))), CL.val (M' := M) ?_ Fz.rf, fun M1 hm => ?_⟩
      · have e : F_X11_count 0 (nI 8) M = some (Sum.inr (t_b (b_t (z_B Z)))) := by
          unfold F_X11_count
          rw [show (16 : Int32) = nI 16 from rfl, zwhat1 (by omega) (by omega)]
          simp only [Sum.elim_inr]
          rw [if_neg (by decide), if_neg (by decide), if_neg (by decide), if_neg (by decide), if_neg (by decide), if_neg (by decide), if_neg (by decide), if_neg (by decide), if_pos (by decide), hc.T.b]
        unfold F_L_count
        rw [zbs e]; rfl
      · obtain ⟨hm0, G0, c0⟩ := zm_0 hm
        unfold F_X12_count
        generalize up M1 67 2 0 = M0 at hm0 G0 c0 ⊢
        rw [if_neg (by decide), if_neg (by decide), if_neg (by decide), if_neg (by decide), if_neg (by decide), if_neg (by decide), if_neg (by decide), if_neg (by decide), if_pos (by decide)]
        exact Evs.pure (ML.val (hm0.T.b) c0 G0)
    · refine ⟨.inr (zsum (t_c (b_t (z_B Z))) 7), CL.val (M' := M) ?_ Fz.rf, fun M1 hm => ?_⟩
      · have e : F_X11_count 0 (nI 9) M = some (Sum.inr (zsum (t_c (b_t (z_B Z))) 7)) := by
          unfold F_X11_count
          rw [show (16 : Int32) = nI 16 from rfl, zwhat1 (by omega) (by omega)]
          simp only [Sum.elim_inr]
          rw [if_neg (by decide), if_neg (by decide), if_neg (by decide), if_neg (by decide), if_neg (by decide), if_neg (by decide), if_neg (by decide), if_neg (by decide), if_neg (by decide), if_pos (by decide), zc_all hc.T, zbs rfl]
        unfold F_L_count
        rw [zbs e]; rfl
      · obtain ⟨hm0, G0, c0⟩ := zm_0 hm
        unfold F_X12_count
        generalize up M1 67 2 0 = M0 at hm0 G0 c0 ⊢
        rw [if_neg (by decide), if_neg (by decide), if_neg (by decide), if_neg (by decide), if_neg (by decide), if_neg (by decide), if_neg (by decide), if_neg (by decide), if_neg (by decide), if_pos (by decide), zm_all hP hm0.P hm0.T hTS.1, zbs rfl]
        exact Evs.pure (ML.val (rfl) c0 G0)
    · refine ⟨.inr (nI (b_a (z_B Z))), CL.val (M' := M) ?_ Fz.rf, fun M1 hm => ?_⟩
      · have e : F_X11_count 0 (nI 10) M = some (Sum.inr (nI (b_a (z_B Z)))) := by
          unfold F_X11_count
          rw [show (16 : Int32) = nI 16 from rfl, zwhat1 (by omega) (by omega)]
          simp only [Sum.elim_inr]
          rw [if_neg (by decide), if_neg (by decide), if_neg (by decide), if_neg (by decide), if_neg (by decide), if_neg (by decide), if_neg (by decide), if_neg (by decide), if_neg (by decide), if_neg (by decide), if_pos (by decide), hc.B.2.1]
        unfold F_L_count
        rw [zbs e]; rfl
      · obtain ⟨hm0, G0, c0⟩ := zm_0 hm
        unfold F_X12_count
        generalize up M1 67 2 0 = M0 at hm0 G0 c0 ⊢
        rw [if_neg (by decide), if_neg (by decide), if_neg (by decide), if_neg (by decide), if_neg (by decide), if_neg (by decide), if_neg (by decide), if_neg (by decide), if_neg (by decide), if_neg (by decide), if_pos (by decide)]
        exact Evs.pure (ML.val (hm0.2.1.2.1) c0 G0)
    · refine ⟨.inr (nI (b_m (z_B Z))), CL.val (M' := M) ?_ Fz.rf, fun M1 hm => ?_⟩
      · have e : F_X11_count 0 (nI 11) M = some (Sum.inr (nI (b_m (z_B Z)))) := by
          unfold F_X11_count
          rw [show (16 : Int32) = nI 16 from rfl, zwhat1 (by omega) (by omega)]
          simp only [Sum.elim_inr]
          rw [if_neg (by decide), if_neg (by decide), if_neg (by decide), if_neg (by decide), if_neg (by decide), if_neg (by decide), if_neg (by decide), if_neg (by decide), if_neg (by decide), if_neg (by decide), if_neg (by decide), if_pos (by decide), hc.B.2.2.2.1]
        unfold F_L_count
        rw [zbs e]; rfl
      · obtain ⟨hm0, G0, c0⟩ := zm_0 hm
        unfold F_X12_count
        generalize up M1 67 2 0 = M0 at hm0 G0 c0 ⊢
        rw [if_neg (by decide), if_neg (by decide), if_neg (by decide), if_neg (by decide), if_neg (by decide), if_neg (by decide), if_neg (by decide), if_neg (by decide), if_neg (by decide), if_neg (by decide), if_neg (by decide), if_pos (by decide)]
        exact Evs.pure (ML.val (hm0.2.1.2.2.2.1) c0 G0)
    · refine ⟨.inr (nI (z_n Z)), CL.val (M' := M) ?_ Fz.rf, fun M1 hm => ?_⟩
      · have e : F_X11_count 0 (nI 12) M = some (Sum.inr (nI (z_n Z))) := by
          unfold F_X11_count
          rw [show (16 : Int32) = nI 16 from rfl, zwhat1 (by omega) (by omega)]
          simp only [Sum.elim_inr]
          rw [if_neg (by decide), if_neg (by decide), if_neg (by decide), if_neg (by decide), if_neg (by decide), if_neg (by decide), if_neg (by decide), if_neg (by decide), if_neg (by decide), if_neg (by decide), if_neg (by decide), if_neg (by decide), if_pos (by decide), hc.2.2.2.2.1]
        unfold F_L_count
        rw [zbs e]; rfl
      · obtain ⟨hm0, G0, c0⟩ := zm_0 hm
        unfold F_X12_count
        generalize up M1 67 2 0 = M0 at hm0 G0 c0 ⊢
        rw [if_neg (by decide), if_neg (by decide), if_neg (by decide), if_neg (by decide), if_neg (by decide), if_neg (by decide), if_neg (by decide), if_neg (by decide), if_neg (by decide), if_neg (by decide), if_neg (by decide), if_neg (by decide), if_pos (by decide)]
        exact Evs.pure (ML.val (hm0.2.2.2.1) c0 G0)
    · refine ⟨.inr (b_u (z_B Z) 0), CL.val (M' := M) ?_ Fz.rf, fun M1 hm => ?_⟩
      · have e : F_X11_count 0 (nI 13) M = some (Sum.inr (b_u (z_B Z) 0)) := by
          unfold F_X11_count
          rw [show (16 : Int32) = nI 16 from rfl, zwhat1 (by omega) (by omega)]
          simp only [Sum.elim_inr]
          rw [if_neg (by decide), if_neg (by decide), if_neg (by decide), if_neg (by decide), if_neg (by decide), if_neg (by decide), if_neg (by decide), if_neg (by decide), if_neg (by decide), if_neg (by decide), if_neg (by decide), if_neg (by decide), if_neg (by decide), show nI 13 - 13 = nI 0 from by decide, zat_at (by omega) (by omega), hc.B.2.2.2.2.2 0 (by omega)]
        unfold F_L_count
        rw [zbs e]; rfl
      · obtain ⟨hm0, G0, c0⟩ := zm_0 hm
        unfold F_X12_count
        generalize up M1 67 2 0 = M0 at hm0 G0 c0 ⊢
        rw [if_neg (by decide), if_neg (by decide), if_neg (by decide), if_neg (by decide), if_neg (by decide), if_neg (by decide), if_neg (by decide), if_neg (by decide), if_neg (by decide), if_neg (by decide), if_neg (by decide), if_neg (by decide), if_neg (by decide), if_pos (by decide)]
        unfold J_X12_count_j150
        rw [show nI 13 - 13 = nI 0 from by decide, zald (by omega) (by omega), zbs rfl]
        exact Evs.pure (ML.val (hm0.2.1.2.2.2.2.2 0 (by omega)) c0 G0)
    · refine ⟨.inr (b_u (z_B Z) 1), CL.val (M' := M) ?_ Fz.rf, fun M1 hm => ?_⟩
      · have e : F_X11_count 0 (nI 14) M = some (Sum.inr (b_u (z_B Z) 1)) := by
          unfold F_X11_count
          rw [show (16 : Int32) = nI 16 from rfl, zwhat1 (by omega) (by omega)]
          simp only [Sum.elim_inr]
          rw [if_neg (by decide), if_neg (by decide), if_neg (by decide), if_neg (by decide), if_neg (by decide), if_neg (by decide), if_neg (by decide), if_neg (by decide), if_neg (by decide), if_neg (by decide), if_neg (by decide), if_neg (by decide), if_neg (by decide), show nI 14 - 13 = nI 1 from by decide, zat_at (by omega) (by omega), hc.B.2.2.2.2.2 1 (by omega)]
        unfold F_L_count
        rw [zbs e]; rfl
      · obtain ⟨hm0, G0, c0⟩ := zm_0 hm
        unfold F_X12_count
        generalize up M1 67 2 0 = M0 at hm0 G0 c0 ⊢
        rw [if_neg (by decide), if_neg (by decide), if_neg (by decide), if_neg (by decide), if_neg (by decide), if_neg (by decide), if_neg (by decide), if_neg (by decide), if_neg (by decide), if_neg (by decide), if_neg (by decide), if_neg (by decide), if_neg (by decide), if_neg (by decide), if_pos (by decide)]
        unfold J_X12_count_j150
        rw [show nI 14 - 13 = nI 1 from by decide, zald (by omega) (by omega), zbs rfl]
        exact Evs.pure (ML.val (hm0.2.1.2.2.2.2.2 1 (by omega)) c0 G0)
    · refine ⟨.inr (b_u (z_B Z) 2), CL.val (M' := M) ?_ Fz.rf, fun M1 hm => ?_⟩
      · have e : F_X11_count 0 (nI 15) M = some (Sum.inr (b_u (z_B Z) 2)) := by
          unfold F_X11_count
          rw [show (16 : Int32) = nI 16 from rfl, zwhat1 (by omega) (by omega)]
          simp only [Sum.elim_inr]
          rw [if_neg (by decide), if_neg (by decide), if_neg (by decide), if_neg (by decide), if_neg (by decide), if_neg (by decide), if_neg (by decide), if_neg (by decide), if_neg (by decide), if_neg (by decide), if_neg (by decide), if_neg (by decide), if_neg (by decide), show nI 15 - 13 = nI 2 from by decide, zat_at (by omega) (by omega), hc.B.2.2.2.2.2 2 (by omega)]
        unfold F_L_count
        rw [zbs e]; rfl
      · obtain ⟨hm0, G0, c0⟩ := zm_0 hm
        unfold F_X12_count
        generalize up M1 67 2 0 = M0 at hm0 G0 c0 ⊢
        rw [if_neg (by decide), if_neg (by decide), if_neg (by decide), if_neg (by decide), if_neg (by decide), if_neg (by decide), if_neg (by decide), if_neg (by decide), if_neg (by decide), if_neg (by decide), if_neg (by decide), if_neg (by decide), if_neg (by decide), if_neg (by decide), if_neg (by decide), if_pos (by decide)]
        unfold J_X12_count_j150
        rw [show nI 15 - 13 = nI 2 from by decide, zald (by omega) (by omega), zbs rfl]
        exact Evs.pure (ML.val (hm0.2.1.2.2.2.2.2 2 (by omega)) c0 G0)
  · refine ⟨.inl 1, CL.thr (Or.inl rfl) ?_, fun M1 hm => ?_⟩
    · have e : F_X11_count 0 i M = some (Sum.inl 1) := by
        unfold F_X11_count
        rw [show (16 : Int32) = nI 16 from rfl, zwhat0 hx]; rfl
      unfold F_L_count
      rw [zbs e]; rfl
    · obtain ⟨hm0, G0, c0⟩ := zm_0 hm
      have hne := znot hx
      unfold F_X12_count
      generalize up M1 67 2 0 = M0 at hm0 G0 c0 ⊢
      rw [if_neg (show ¬ i = 0 from hne 0 (by omega)), if_neg (show ¬ i = 1 from hne 1 (by omega)), if_neg (show ¬ i = 2 from hne 2 (by omega)), if_neg (show ¬ i = 3 from hne 3 (by omega)), if_neg (show ¬ i = 4 from hne 4 (by omega)), if_neg (show ¬ i = 5 from hne 5 (by omega)), if_neg (show ¬ i = 6 from hne 6 (by omega)), if_neg (show ¬ i = 7 from hne 7 (by omega)), if_neg (show ¬ i = 8 from hne 8 (by omega)), if_neg (show ¬ i = 9 from hne 9 (by omega)), if_neg (show ¬ i = 10 from hne 10 (by omega)), if_neg (show ¬ i = 11 from hne 11 (by omega)), if_neg (show ¬ i = 12 from hne 12 (by omega)), if_neg (show ¬ i = 13 from hne 13 (by omega)), if_neg (show ¬ i = 14 from hne 14 (by omega)), if_neg (show ¬ i = 15 from hne 15 (by omega))]
      exact Evs.pure (zm_fail (k := 1) G0)
