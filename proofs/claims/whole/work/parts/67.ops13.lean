/-! a reading is asked -/
theorem cor_th {m : Nat → Nat → Int32} {t : Int32} {q : Nat} : cor (thM m t) q = cor m q := by
  unfold cor
  rw [thM_o (by decide), thM_o (by decide), thM_o (by decide)]
theorem op_ofReading (x y : Int32) : OpR eLG (M_X8_ofReading (some 1) x y) (M_X9_ofReading (some 22) x y) := by
  intro B h K m I
  have F := I.F
  have I0 := I
  obtain ⟨nb, nr, ns, np, nsm, nst, d, R, L⟩ := I
  have nb8 := R.1.2.1.1
  have nr100 := R.1.2.1.2.1
  have R13 := R.1.2.2.1
  have R15 := R.1.2.2.2.1
  have hm23 : m 22 23 = nI nr := R.2.2.1.2.2.2.1.2
  have hbd : K 14 2 = m 22 29 := R.2.2.1.2.2.2.2.2.2.1
  by_cases hx : ∃ j, j < nr ∧ x = nI j
  · have hx2 := (idx_iff (by omega)).mpr hx
    obtain ⟨r, hr1, rfl⟩ := hx
    have q := row_rd R15 hr1
    have hA : cA (rd h r) := Or.inr (by omega)
    have r100 : r < 100 := by omega
    obtain ⟨⟨x0, x1, x2, x3⟩, -, x4⟩ := R.2.2.2.2.1 r hr1
    by_cases hy : (0 : Int32) ≤ y ∧ y ≤ (5 : Int32)
    · obtain ⟨w, hw, rfl⟩ := nI_rng (x := y) (n := 5) (by decide) hy.1 hy.2
      refine OpR_v I0 (if w = 0 then m 40 r else if w = 1 then m 41 r else if w = 2 then m 42 r else if w = 3 then cor m r else if w = 4 then flg m nr r else m 43 r) ?_ (fun h' F' => ?_)
      · unfold M_X8_ofReading
        rw [c1 F, s_rdg_t F R15 nr100 hr1, x_rtR, s_needRange_t hy, x_rtV]
        rcases (show w = 0 ∨ w = 1 ∨ w = 2 ∨ w = 3 ∨ w = 4 ∨ w = 5 by omega) with rfl | rfl | rfl | rfl | rfl | rfl
        · rw [if_neg (by decide), if_pos (by decide), K_gf q.2.1 hA, x0]; rfl
        · rw [if_neg (by decide), if_neg (by decide), if_pos (by decide), K_gf q.2.1 hA, x1]; rfl
        · rw [if_neg (by decide), if_neg (by decide), if_neg (by decide), if_pos (by decide), K_gf q.2.1 hA, x2]; rfl
        · rw [if_neg (by decide), if_neg (by decide), if_neg (by decide), if_neg (by decide), if_pos (by decide), K_ck q.2.1, s_cor R13 R15 nb8 R.2.2.2.1 R.2.2.2.2.1 hr1, x_rtI]; rfl
        · rw [if_neg (by decide), if_neg (by decide), if_neg (by decide), if_neg (by decide), if_neg (by decide), if_pos (by decide), r1_2 F, g14 F, K_ck q.2.1, hbd, s_flagBy R13 R15 nb8 R.2.2.2.1 R.2.2.2.2.1 R.2.2.2.2.2.1 hr1, x_rtI]; rfl
        · rw [if_neg (by decide), if_neg (by decide), if_neg (by decide), if_neg (by decide), if_neg (by decide), if_neg (by decide), K_gr q.2.1]
          rcases x4 with ⟨y1, y2⟩ | ⟨f, f1, f2, f3⟩
          · rw [y2, if_neg (fun z => z rfl)]
            show rtI (-1) _ = rtI (m 43 r) _
            rw [y1]
          · have qf := row_bu R13 f1
            rw [f3, if_pos (by intro z; cases z), K_gr q.2.1, f3, K_gf qf.2.1 (Or.inr (by omega)), (R.2.2.2.1.1 f f1).1.1]
            show rtI (nI f) _ = rtI (m 43 r) _
            rw [f2]
      · have e1 := s_flagOf (K := K) (m := thM m 0) (nb := nb) (nr := nr) (r := r) F' (by rw [thM_22 (by decide)]; exact hm23) nr100 hr1 nb8 (by rw [thM_o (by decide)]; exact R.by)
        have e2 := s_mCor (K := K) (m := thM m 0) (nb := nb) (r := r) F' r100 nb8 (by rw [thM_o (by decide)]; exact R.by r hr1)
        rw [flg_th] at e1
        rw [cor_th] at e2
        unfold M_X9_ofReading B_X9_ofReading_27
        rw [c22 F', s_isReading F' hm23, x_rtI, bI_t hx2, if_pos (by decide), s_in, x_rtI, bI_t hy, if_pos (by decide), p22 F', thM_eq, g22 F', thM_0, if_pos (by decide)]
        rcases (show w = 0 ∨ w = 1 ∨ w = 2 ∨ w = 3 ∨ w = 4 ∨ w = 5 by omega) with rfl | rfl | rfl | rfl | rfl | rfl
        · rw [if_neg (fun z => z rfl), r22_24 F', d40 F' r100, thM_o (by decide)]; rfl
        · rw [if_pos (by decide), if_neg (fun z => z rfl), r22_25 F', d41 F' r100, thM_o (by decide)]; rfl
        · rw [if_pos (by decide), if_pos (by decide), if_neg (fun z => z rfl), r22_26 F', d42 F' r100, thM_o (by decide)]; rfl
        · rw [if_pos (by decide), if_pos (by decide), if_pos (by decide), if_neg (fun z => z rfl), c22 F', e2, x_rtI]; rfl
        · rw [if_pos (by decide), if_pos (by decide), if_pos (by decide), if_pos (by decide), if_neg (fun z => z rfl), c22 F', e1, x_rtI]; rfl
        · rw [if_pos (by decide), if_pos (by decide), if_pos (by decide), if_pos (by decide), if_pos (by decide), r22_27 F', d43 F' r100, thM_o (by decide)]; rfl
    · refine OpR_t I0 2 2 (by decide) rfl ?_ (fun h' F' => ?_)
      · unfold M_X8_ofReading
        rw [c1 F, s_rdg_t F R15 nr100 hr1, x_rtR, s_needRange_f hy, x_thr]
      · unfold M_X9_ofReading B_X9_ofReading_27
        rw [c22 F', s_isReading F' hm23, x_rtI, bI_t hx2, if_pos (by decide), s_in, x_rtI, bI_f hy, if_neg (fun z => z rfl), p22 F', thM_eq, g22 F', thM_0, if_neg (by decide)]
  · have hx2 : ¬ (0 ≤ x ∧ x ≤ nI nr - 1) := fun z => hx ((idx_iff (by omega)).mp z)
    refine OpR_t I0 1 1 (by decide) rfl ?_ (fun h' F' => ?_)
    · unfold M_X8_ofReading
      rw [c1 F, s_rdg_f F R15 hx, x_thrR]
    · unfold M_X9_ofReading B_X9_ofReading_27
      rw [c22 F', s_isReading F' hm23, x_rtI, bI_f hx2, if_neg (fun z => z rfl), p22 F', thM_eq, g22 F', thM_0, if_neg (by decide)]
