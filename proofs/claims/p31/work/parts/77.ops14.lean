/-! mean, error, residual -/
theorem wg_th {m : Nat → Nat → Int32} {t : Int32} {nr c r : Nat} {d span : Int32} : wg (thM m t) nr c d span r = wg m nr c d span r := by
  unfold wg wgt
  rw [thM_o (show (41 : Nat) ≠ 22 by decide), thM_o (show (40 : Nat) ≠ 22 by decide), flg_th]
theorem wsm_th {m : Nat → Nat → Int32} {t : Int32} {nr c : Nat} {d span : Int32} {wo : Option Nat} {n : Nat} : wsm (thM m t) nr c d span wo n = wsm m nr c d span wo n := by
  unfold wsm
  exact fo_congr (fun i _ z => by rw [wg_th])
theorem wsl_th {m : Nat → Nat → Int32} {t : Int32} {nr c : Nat} {d span : Int32} {wo : Option Nat} {n : Nat} : wsl (thM m t) nr c d span wo n = wsl m nr c d span wo n := by
  unfold wsl
  exact fo_congr (fun i _ z => by rw [wg_th, cor_th])
theorem mnv_th {m : Nat → Nat → Int32} {t : Int32} {nr c : Nat} {d span : Int32} {wo : Option Nat} : mnv (thM m t) nr c d span wo = mnv m nr c d span wo := by
  unfold mnv
  rw [wsm_th, wsl_th]
theorem Rel.ce {h : MH} {K m : Nat → Nat → Int32} {B nb nr ns np nsm d : Nat} {S : STy} (R : Rel h K m B nb nr ns np nsm d S) : ∀ r, r < nr → ∃ a, a < 60 ∧ m 41 r = nI a := fun r hr1 => (R.2.2.2.2.1 r hr1).2.1
theorem s_meanW {h : MH} {K m mm : Nat → Nat → Int32} {B nb nr ns np nsm d0 c : Nat} {S : STy} (R : Rel h K m B nb nr ns np nsm d0 S) (hc : c < 60) (d span : Int32) {wo : Option Nat} (hw : ∀ q, wo = some q → q < nr) : M_X8_meanWithout (some 1) (wo.map (rd h)) (nI c) d span (st h K mm) = if wsm m nr c d span wo nr = 0 then some (.inr 3, exc (st h K mm)) else rtI (mnv m nr c d span wo) (st h K mm) := by
  have F := R.1.1
  have hbd : K 14 2 = m 22 29 := R.2.2.1.2.2.2.2.2.2.1
  obtain ⟨s, hs, e⟩ := wsm_nI (m := m) (nr := nr) (d := d) (span := span) (wo := wo) hc R.ce nr (Nat.le_refl _)
  have hn := R.1.2.1.2.1
  unfold M_X8_meanWithout
  rw [r1_2 F, c14 F, s_cWeights F R.1.2.2.1 R.1.2.2.2.1 R.1.2.1.1 hn R.2.2.2.1 R.2.2.2.2.1 R.2.2.2.2.2.1 hbd hc d span hw, x_rtI]
  by_cases q : wsm m nr c d span wo nr = 0
  · rw [if_pos q, q, if_neg (by decide)]
  · have h0 : s ≠ 0 := fun z => q (by rw [e, z]; rfl)
    rw [if_neg q, if_pos (show (0 : Int32) < wsm m nr c d span wo nr by rw [e]; exact (nI_ltI (a := 0) (by omega) (by omega)).mpr (by omega)), r1_2 F, c14 F, s_cValues F R.1.2.2.1 R.1.2.2.2.1 R.1.2.1.1 hn R.2.2.2.1 R.2.2.2.2.1 R.2.2.2.2.2.1 hbd hc d span hw, x_rtQ, x_bnd]
    unfold dvL
    rw [if_neg (toL_ne q)]
    rfl
