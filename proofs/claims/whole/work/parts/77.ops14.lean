/-! mean, error, residual -/
theorem wg_th {m : Nat → Nat → Int32} {t : Int32} {nr c r : Nat} {d span : Int32} : wg (thM m t) nr c d span r = wg m nr c d span r := by
  unfold wg wgt
  rw [thM_o (show (41 : Nat) ≠ 22 by decide), thM_o (show (40 : Nat) ≠ 22 by decide), flg_th]
theorem wsm_th {m : Nat → Nat → Int32} {t : Int32} {nr c : Nat} {d span : Int32} {wo : Option Nat} {n : Nat} : wsm (thM m t) nr c d span wo n = wsm m nr c d span wo n := by
  unfold wsm
  exact fo_congr (fun i _ z => by rw [wg_th])
theorem wsl_th {m : Nat → Nat → Int32} {t : Int32} {nr c : Nat} {d span : Int32} {wo : Option Nat} {n : Nat} : wsl (thM m t) nr c d span wo n = wsl m nr c d span wo n := by
  unfold wsl
  exact fo_congr (fun i _ z => by rw [wg_th, cor_th])
theorem mnv_th {m : Nat → Nat → Int32} {t : Int32} {nr c : Nat} {d span : Int32} {wo : Option Nat} : mnv (thM m t) nr c d span wo = mnv m nr c d span wo := by
  unfold mnv
  rw [wsm_th, wsl_th]
theorem Rel.ce {h : MH} {K m : Nat → Nat → Int32} {B nb nr ns np nsm d : Nat} {S : STy} (R : Rel h K m B nb nr ns np nsm d S) : ∀ r, r < nr → ∃ a, a < 60 ∧ m 41 r = nI a := fun r hr1 => (R.2.2.2.2.1 r hr1).2.1
theorem s_need3 {h : MH} {K m : Nat → Nat → Int32} (hl : K 11 = m 23) (F : Fix h) (x y z : Int32) : (∃ c, c < 60 ∧ x = nI c ∧ (∀ h' K', Fix h' → M_X9_misses (some 22) x y z (st h' K' m) = rtI 0 (st h' K' m)) ∧ M_X8_needMap x y z (st h K m) = rtV (st h K m) ∧ M_X8_needSea (some 1) x (st h K m) = rtV (st h K m)) ∨ (∃ (k : Nat) (t : Int32), t ≠ 0 ∧ ¬ t ≤ 0 ∧ eLAY k = some t ∧ (∀ h' K', Fix h' → M_X9_misses (some 22) x y z (st h' K' m) = rtI t (st h' K' m)) ∧ (M_X8_needMap x y z (st h K m) = some (.inr k, exc (st h K m)) ∨ (M_X8_needMap x y z (st h K m) = rtV (st h K m) ∧ M_X8_needSea (some 1) x (st h K m) = some (.inr k, exc (st h K m))))) := by
  rcases cell_or x with hx | ⟨c, hc, rfl⟩
  · refine Or.inr ⟨1, 1, by decide, by decide, rfl, fun h' K' F' => ?_, Or.inl ?_⟩
    · unfold M_X9_misses
      rw [s_mCell_f hx, x_rtI, if_neg (fun z => z rfl)]
    · unfold M_X8_needMap
      rw [s_needCell_f hx, x_thr]
  · by_cases h1 : (0 : Int32) ≤ y ∧ y ≤ (1000 : Int32)
    · by_cases h2 : (0 : Int32) ≤ z ∧ z ≤ (1000 : Int32)
      · have hm : M_X8_needMap (nI c) y z (st h K m) = rtV (st h K m) := by
          unfold M_X8_needMap
          rw [s_needCell_t hc, x_rtV, s_needRange_t h1, x_rtV, s_needRange_t h2, x_rtV]
        have hs : M_X8_needSea (some 1) (nI c) (st h K m) = if m 23 c = 0 then rtV (st h K m) else some (.inr 3, exc (st h K m)) := by
          unfold M_X8_needSea
          rw [r1_0 F, c2 F, s_isLand F hc, x_rtI, hl]
          by_cases q : m 23 c = 0
          · rw [bI_f (fun z => z q), if_pos rfl, if_pos q]
          · rw [bI_t q, if_neg (by decide), if_neg q]
        have hmi : ∀ h' K', Fix h' → M_X9_misses (some 22) (nI c) y z (st h' K' m) = if m 23 c = 0 then rtI 0 (st h' K' m) else rtI 3 (st h' K' m) := by
          intro h' K' F'
          unfold M_X9_misses
          rw [s_mCell_t hc, x_rtI, if_pos (by decide), s_in, x_rtI, bI_t h1, if_neg (by decide), s_in, x_rtI, bI_t h2, if_pos (by decide), r22_3 F', d23 F' hc]
        by_cases q : m 23 c = 0
        · rw [if_pos q] at hs
          exact Or.inl ⟨c, hc, rfl, fun h' K' F' => by rw [hmi h' K' F', if_pos q], hm, hs⟩
        · rw [if_neg q] at hs
          exact Or.inr ⟨3, 3, by decide, by decide, rfl, fun h' K' F' => by rw [hmi h' K' F', if_neg q], Or.inr ⟨hm, hs⟩⟩
      · refine Or.inr ⟨2, 2, by decide, by decide, rfl, fun h' K' F' => ?_, Or.inl ?_⟩
        · unfold M_X9_misses B_X9_misses_33
          rw [s_mCell_t hc, x_rtI, if_pos (by decide), s_in, x_rtI, bI_t h1, if_neg (by decide), s_in, x_rtI, bI_f h2, if_neg (fun z => z rfl)]
        · unfold M_X8_needMap
          rw [s_needCell_t hc, x_rtV, s_needRange_t h1, x_rtV, s_needRange_f h2, x_thr]
    · refine Or.inr ⟨2, 2, by decide, by decide, rfl, fun h' K' F' => ?_, Or.inl ?_⟩
      · unfold M_X9_misses B_X9_misses_33
        rw [s_mCell_t hc, x_rtI, if_pos (by decide), s_in, x_rtI, bI_f h1, if_pos rfl]
      · unfold M_X8_needMap
        rw [s_needCell_t hc, x_rtV, s_needRange_f h1, x_thr]
theorem s_meanW {h : MH} {K m mm : Nat → Nat → Int32} {B nb nr ns np nsm d0 c : Nat} {S : STy} (R : Rel h K m B nb nr ns np nsm d0 S) (hc : c < 60) (d span : Int32) {wo : Option Nat} (hw : ∀ q, wo = some q → q < nr) : M_X8_meanWithout (some 1) (wo.map (rd h)) (nI c) d span (st h K mm) = if wsm m nr c d span wo nr = 0 then some (.inr 3, exc (st h K mm)) else rtI (mnv m nr c d span wo) (st h K mm) := by
  have F := R.1.1
  have hbd : K 14 2 = m 22 29 := R.2.2.1.2.2.2.2.2.2.1
  obtain ⟨s, hs, e⟩ := wsm_nI (m := m) (nr := nr) (d := d) (span := span) (wo := wo) hc R.ce nr (Nat.le_refl _)
  have hn := R.1.2.1.2.1
  unfold M_X8_meanWithout
  rw [r1_2 F, c14 F, s_cWeights F R.1.2.2.1 R.1.2.2.2.1 R.1.2.1.1 hn R.2.2.2.1 R.2.2.2.2.1 R.2.2.2.2.2.1 hbd hc d span hw, x_rtI]
  by_cases q : wsm m nr c d span wo nr = 0
  · rw [if_pos q, q, if_neg (by decide)]
  · have h0 : s ≠ 0 := fun z => q (by rw [e, z]; rfl)
    rw [if_neg q, if_pos (show (0 : Int32) < wsm m nr c d span wo nr by rw [e]; exact (nI_ltI (a := 0) (by omega) (by omega)).mpr (by omega)), r1_2 F, c14 F, s_cValues F R.1.2.2.1 R.1.2.2.2.1 R.1.2.1.1 hn R.2.2.2.1 R.2.2.2.2.1 R.2.2.2.2.2.1 hbd hc d span hw, x_rtQ, x_bnd]
    unfold dvL
    rw [if_neg (toL_ne q)]
    rfl
theorem op_mean (x y z : Int32) : OpR eLAY (M_X8_mean (some 1) x y z) (M_X9_mean (some 22) x y z) := by
  intro B h K m I
  have F := I.F
  have I0 := I
  obtain ⟨nb, nr, ns, np, nsm, nst, d, R, L⟩ := I
  have hm23 : m 22 23 = nI nr := R.2.2.1.2.2.2.1.2
  have nb8 := R.1.2.1.1
  have nr100 := R.1.2.1.2.1
  rcases s_need3 R.2.1.1.1 F x y z with ⟨c, hc, rfl, hM, h1, h2⟩ | ⟨k, t, t0, t1, ek, hM, hC⟩
  · have h3 := s_meanW (mm := m) R hc y z (wo := none) (fun q w => by cases w)
    rw [show (none : Option Nat).map (rd h) = none from rfl] at h3
    have hCl : M_X8_mean (some 1) (nI c) y z (st h K m) = if wsm m nr c y z none nr = 0 then some (.inr 3, exc (st h K m)) else rtI (mnv m nr c y z none) (st h K m) := by
      unfold M_X8_mean
      rw [h1, x_rtV, c1 F, h2, x_rtV, c1 F, h3]
      split <;> rfl
    have hw : ∀ h' K' t, Fix h' → M_X9_weights (some 22) (nI c) y z (-1) (st h' K' (thM m t)) = rtI (wsm m nr c y z none nr) (st h' K' (thM m t)) := by
      intro h' K' t F'
      have := s_weights (K := K') (m := thM m t) (nb := nb) (nr := nr) (c := c) F' (by rw [thM_22 (by decide)]; exact hm23) nr100 nb8 (by rw [thM_o (by decide)]; exact R.by) (by rw [thM_o (by decide)]; exact R.ce) hc y z (wo := none) (fun q w => by cases w)
      rw [wsm_th] at this
      exact this
    have h38 : ∀ h' K' t, Fix h' → ¬ t ≤ 0 → B_X9_mean_38 (some 22) (nI c) y z (some 22) t (st h' K' (thM m 0)) = rtI 0 (st h' K' (thM m t)) := by
      intro h' K' t F' ht
      unfold B_X9_mean_38
      rw [p22 F', thM_thM, g22 F', thM_0, if_neg ht]
    by_cases q : wsm m nr c y z none nr = 0
    · rw [if_pos q] at hCl
      refine OpR_t I0 3 3 (by decide) rfl hCl (fun h' F' => ?_)
      unfold M_X9_mean
      rw [c22 F', hM h' K F', x_rtI, p22 F', thM_eq, g22 F', thM_0, if_neg (fun z => z rfl), c22 F', hw h' K 0 F', x_rtI, if_neg (fun z => z q), h38 h' K 3 F' (by decide)]
    · rw [if_neg q] at hCl
      refine OpR_v I0 _ hCl (fun h' F' => ?_)
      have hmo := s_meanOf (K := K) (m := thM m 0) (nb := nb) (nr := nr) (c := c) F' (by rw [thM_22 (by decide)]; exact hm23) nr100 nb8 (by rw [thM_o (by decide)]; exact R.by) (by rw [thM_o (by decide)]; exact R.ce) hc y z (wo := none) (fun q w => by cases w) (by rw [wsm_th]; exact q)
      rw [mnv_th, oI_n] at hmo
      unfold M_X9_mean
      rw [c22 F', hM h' K F', x_rtI, p22 F', thM_eq, g22 F', thM_0, if_neg (fun z => z rfl), c22 F', hw h' K 0 F', x_rtI, if_pos q]
      unfold B_X9_mean_34 B_X9_mean_38
      rw [g22 F', thM_0, p22 F', thM_thM, g22 F', thM_0, if_pos (by decide), c22 F', hmo, x_rtI]
  · refine OpR_t I0 k t t0 ek ?_ (fun h' F' => ?_)
    · unfold M_X8_mean
      rcases hC with hC | ⟨hC1, hC2⟩
      · rw [hC, x_thr]
      · rw [hC1, x_rtV, c1 F, hC2, x_thr]
    · unfold M_X9_mean B_X9_mean_34 B_X9_mean_38
      rw [c22 F', hM h' K F', x_rtI, p22 F', thM_eq, g22 F', thM_0, if_pos t0, g22 F', thM_0, p22 F', thM_thM, g22 F', thM_0, if_neg t1]
theorem op_error (x y z : Int32) : OpR eLAY (M_X8_error (some 1) x y z) (M_X9_error (some 22) x y z) := by
  intro B h K m I
  have F := I.F
  have I0 := I
  obtain ⟨nb, nr, ns, np, nsm, nst, d, R, L⟩ := I
  have hm23 : m 22 23 = nI nr := R.2.2.1.2.2.2.1.2
  have nb8 := R.1.2.1.1
  have nr100 := R.1.2.1.2.1
  have hbd : K 14 2 = m 22 29 := R.2.2.1.2.2.2.2.2.2.1
  rcases s_need3 R.2.1.1.1 F x y z with ⟨c, hc, rfl, hM, h1, h2⟩ | ⟨k, t, t0, t1, ek, hM, hC⟩
  · obtain ⟨s, hs, e⟩ := wsm_nI (m := m) (nr := nr) (d := y) (span := z) (wo := none) hc R.ce nr (Nat.le_refl _)
    have h3 := s_cWeights (mm := m) F R.1.2.2.1 R.1.2.2.2.1 R.1.2.1.1 nr100 R.2.2.2.1 R.2.2.2.2.1 R.2.2.2.2.2.1 hbd hc y z (wo := none) (fun q w => by cases w)
    rw [show (none : Option Nat).map (rd h) = none from rfl] at h3
    have e1 : (1 : Int32) + nI s = nI (1 + s) := by rw [show (1 : Int32) = nI 1 from rfl, nI_add]
    have hne : ¬ nI (1 + s) = 0 := fun w => by have := (nI_eq (by omega) (by omega)).mp (show nI (1 + s) = nI 0 from w); omega
    refine OpR_v I0 ((1000 : Int32) / nI (1 + s)) ?_ (fun h' F' => ?_)
    · unfold M_X8_error
      rw [h1, x_rtV, c1 F, h2, x_rtV, r1_2 F, c14 F, h3, x_rtI, e, e1, x_bnd, if_neg (show ¬ nI (1 + s) ≤ 0 from nI_ge (a := 0) (by omega) (by omega)), q_dv hne]
    · have hw := s_weights (K := K) (m := thM m 0) (nb := nb) (nr := nr) (c := c) F' (by rw [thM_22 (by decide)]; exact hm23) nr100 nb8 (by rw [thM_o (by decide)]; exact R.by) (by rw [thM_o (by decide)]; exact R.ce) hc y z (wo := none) (fun q w => by cases w)
      rw [wsm_th, oI_n] at hw
      unfold M_X9_error
      rw [c22 F', hM h' K F', x_rtI, p22 F', thM_eq, g22 F', thM_0, if_pos (by decide), c22 F', hw, x_rtI, e, e1, x_bnd, q_dv hne]
  · refine OpR_t I0 k t t0 ek ?_ (fun h' F' => ?_)
    · unfold M_X8_error
      rcases hC with hC | ⟨hC1, hC2⟩
      · rw [hC, x_thr]
      · rw [hC1, x_rtV, c1 F, hC2, x_thr]
    · unfold M_X9_error
      rw [c22 F', hM h' K F', x_rtI, p22 F', thM_eq, g22 F', thM_0, if_neg t1]
theorem op_residual (x y : Int32) : OpR eLAY (M_X8_residual (some 1) x y) (M_X9_residual (some 22) x y) := by
  intro B h K m I
  have F := I.F
  have I0 := I
  obtain ⟨nb, nr, ns, np, nsm, nst, d, R, L⟩ := I
  have hm23 : m 22 23 = nI nr := R.2.2.1.2.2.2.1.2
  have nb8 := R.1.2.1.1
  have nr100 := R.1.2.1.2.1
  have R13 := R.1.2.2.1
  have R15 := R.1.2.2.2.1
  have h29n : ∀ h' K' t, Fix h' → t ≠ 0 → ¬ t ≤ 0 → B_X9_residual_29 (some 22) x y (some 22) t (st h' K' m) = rtI 0 (st h' K' (thM m t)) := by
    intro h' K' t F' t0 t1
    unfold B_X9_residual_29 B_X9_residual_65 B_X9_residual_69
    rw [p22 F', thM_eq, g22 F', thM_0, if_pos t0, g22 F', thM_0, p22 F', thM_thM, g22 F', thM_0, if_neg t1]
  by_cases hx : ∃ j, j < nr ∧ x = nI j
  · have hx2 := (idx_iff (by omega)).mpr hx
    obtain ⟨r, hr1, rfl⟩ := hx
    have q := row_rd R15 hr1
    have hA : cA (rd h r) := Or.inr (by omega)
    obtain ⟨⟨x0, x1, x2, x3⟩, ⟨a, ha, ea⟩, -⟩ := R.2.2.2.2.1 r hr1
    by_cases hy : (0 : Int32) ≤ y ∧ y ≤ (1000 : Int32)
    · have hr2 : r < 100 := by omega
      have h3 := s_meanW (mm := m) R ha (m 40 r) y (wo := some r) (fun p w => by cases w; exact hr1)
      rw [show (some r).map (rd h) = some (rd h r) from rfl] at h3
      have hCl : M_X8_residual (some 1) (nI r) y (st h K m) = if wsm m nr a (m 40 r) y (some r) nr = 0 then some (.inr 3, exc (st h K m)) else rtI (cor m r - mnv m nr a (m 40 r) y (some r)) (st h K m) := by
        unfold M_X8_residual
        rw [c1 F, s_rdg_t F R15 nr100 hr1, x_rtR, s_needRange_t hy, x_rtV, K_ck q.2.1, s_cor R13 R15 nb8 R.2.2.2.1 R.2.2.2.2.1 hr1, x_rtI, K_gf q.2.1 hA, K_gf q.2.1 hA, x1, x0, ea, c1 F, h3]
        split <;> rfl
      have hMo : ∀ h' K', Fix h' → M_X9_residual (some 22) (nI r) y (st h' K' m) = if wsm m nr a (m 40 r) y (some r) nr = 0 then rtI 0 (st h' K' (thM m 3)) else rtI (cor m r - mnv m nr a (m 40 r) y (some r)) (st h' K' (thM m 0)) := by
        intro h' K' F'
        have hby : ∀ r, r < nr → thM m 0 43 r = -1 ∨ ∃ f, f < nb ∧ thM m 0 43 r = nI f := by rw [thM_o (by decide)]; exact R.by
        have hw := s_weights (K := K') (m := thM m 0) (nb := nb) (nr := nr) (c := a) F' (by rw [thM_22 (by decide)]; exact hm23) nr100 nb8 hby (by rw [thM_o (by decide)]; exact R.ce) ha (m 40 r) y (wo := some r) (fun p w => by cases w; exact hr2)
        rw [wsm_th, oI_s] at hw
        unfold M_X9_residual B_X9_residual_29
        rw [c22 F', s_isReading F' hm23, x_rtI, bI_t hx2, if_pos (by decide), s_in, x_rtI, bI_t hy, if_pos (by decide), p22 F', thM_eq, g22 F', thM_0, if_neg (fun z => z rfl), r22_25 F', d41 F' hr2, r22_24 F', d40 F' hr2, thM_o (show (41 : Nat) ≠ 22 by decide), thM_o (show (40 : Nat) ≠ 22 by decide), ea, c22 F', hw, x_rtI]
        by_cases q0 : wsm m nr a (m 40 r) y (some r) nr = 0
        · rw [if_neg (fun z => z q0), if_pos q0]
          unfold B_X9_residual_69
          rw [p22 F', thM_thM, g22 F', thM_0, if_neg (by decide)]
        · have hmo := s_meanOf (K := K') (m := thM m 0) (nb := nb) (nr := nr) (c := a) F' (by rw [thM_22 (by decide)]; exact hm23) nr100 nb8 hby (by rw [thM_o (by decide)]; exact R.ce) ha (m 40 r) y (wo := some r) (fun p w => by cases w; exact hr2) (by rw [wsm_th]; exact q0)
          rw [mnv_th, oI_s] at hmo
          have hco := s_mCor (K := K') (m := thM m 0) F' hr2 nb8 (hby r hr1)
          rw [cor_th] at hco
          rw [if_pos q0, if_neg q0]
          unfold B_X9_residual_65 B_X9_residual_69
          rw [g22 F', thM_0, p22 F', thM_thM, g22 F', thM_0, if_pos (by decide), c22 F', hco, x_rtI, r22_25 F', d41 F' hr2, r22_24 F', d40 F' hr2, thM_o (show (41 : Nat) ≠ 22 by decide), thM_o (show (40 : Nat) ≠ 22 by decide), ea, c22 F', hmo, x_rtI, x_bnd]
      by_cases q0 : wsm m nr a (m 40 r) y (some r) nr = 0
      · rw [if_pos q0] at hCl
        refine OpR_t I0 3 3 (by decide) rfl hCl (fun h' F' => ?_)
        rw [hMo h' K F', if_pos q0]
      · rw [if_neg q0] at hCl
        refine OpR_v I0 _ hCl (fun h' F' => ?_)
        rw [hMo h' K F', if_neg q0]
    · refine OpR_t I0 2 2 (by decide) rfl ?_ (fun h' F' => ?_)
      · unfold M_X8_residual
        rw [c1 F, s_rdg_t F R15 nr100 hr1, x_rtR, s_needRange_f hy, x_thr]
      · unfold M_X9_residual
        rw [c22 F', s_isReading F' hm23, x_rtI, bI_t hx2, if_pos (by decide), s_in, x_rtI, bI_f hy, if_neg (fun z => z rfl), h29n h' K 2 F' (by decide) (by decide)]
  · have hx2 : ¬ (0 ≤ x ∧ x ≤ nI nr - 1) := fun z => hx ((idx_iff (by omega)).mp z)
    refine OpR_t I0 1 1 (by decide) rfl ?_ (fun h' F' => ?_)
    · unfold M_X8_residual
      rw [c1 F, s_rdg_f F R15 hx, x_thrR]
    · unfold M_X9_residual
      rw [c22 F', s_isReading F' hm23, x_rtI, bI_f hx2, if_neg (fun z => z rfl), h29n h' K 1 F' (by decide) (by decide)]
