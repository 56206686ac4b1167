def eLAY : Nat → Option Int32 := fun q => if q = 1 then some 1 else if q = 2 then some 2 else if q = 3 then some 3 else none
theorem op_lay (x its po mo : Int32) : OpR eLAY (M_X8_lay (some 1) x its po mo) (M_X9_lay (some 22) x its po mo) := by
  intro B h K m I
  have F := I.F
  have I0 := I
  obtain ⟨nb, nr, ns, np, nsm, nst, d, R, L⟩ := I
  have nb8 := R.1.2.1.1
  have hK6 : K 1 6 = nI nb := R.2.2.1.1.1
  have hm10 : m 22 10 = nI nb := R.2.2.1.1.2
  have C1 := R.2.1
  rcases cell_or x with hx | ⟨c, hc, rfl⟩
  · refine OpR_t I0 1 1 (by decide) rfl ?_ (fun h' F' => ?_)
    · unfold M_X8_lay
      rw [s_needCell_f hx, x_thr]
    · unfold M_X9_lay
      rw [s_mCell_f hx, x_rtI, if_neg (fun z => z rfl), s_lay_no F' (by decide) (by decide)]
  · by_cases h1 : (1 : Int32) ≤ its ∧ its ≤ (20 : Int32)
    · by_cases h2 : (1 : Int32) ≤ po ∧ po ≤ (100 : Int32)
      · by_cases h3 : (-50 : Int32) ≤ mo ∧ mo ≤ (50 : Int32)
        · have hCl : ∀ Q, M_X8_lay (some 1) (nI c) its po mo (st h K m) = Q ↔ (calI (M_X5_isLand (some 2) (nI c) (st h K m)) fun z7 h8 => if z7 ≠ 0 then (some (.inr 3, exc h8)) else (gfR h8 (some 1) 8 1 fun r9 => aln h8 r9 fun z10 => calI (M_X8_isIndex (nI nb) z10 h8) fun z11 h12 => if z11 ≠ 0 then (gfR h12 (some 1) 8 1 fun r13 => nwO h12 0 fun r14 h15 => nnl r14 <| calV (M_X0_init r14 (nI nb) (nI c) its po mo h15) fun h16 => wrR h16 r13 (nI nb) r14 fun h17 => bnd (nI nb + (1 : Int32)) fun z18 => pfI h17 (some 1) 8 6 z18 fun h19 => rtI (nI nb) h19) else (some (.inr 3, exc h12)))) = Q := by
            intro Q
            unfold M_X8_lay
            rw [s_needCell_t hc, x_rtV, s_needRange_t h1, x_rtV, s_needRange_t h2, x_rtV, s_needRange_t h3, x_rtV, g1 F, hK6, r1_0 F, c2 F]
          have hMo : ∀ h' K', Fix h' → M_X9_lay (some 22) (nI c) its po mo (st h' K' m) = if m 23 c ≠ 0 then B_X9_lay_78 (some 22) (nI c) its po mo (some 22) (st h' K' (thM m 0)) else if nI nb ≠ (8 : Int32) then B_X9_lay_82 (some 22) (nI c) its po mo (some 22) (st h' K' (thM m 0)) else B_X9_lay_78 (some 22) (nI c) its po mo (some 22) (st h' K' (thM m 0)) := by
            intro h' K' F'
            unfold M_X9_lay B_X9_lay_49
            rw [s_mCell_t hc, x_rtI, if_pos (by decide), s_in, x_rtI, bI_t h1, if_neg (by decide), s_in, x_rtI, bI_t h2, if_neg (by decide), s_in, x_rtI, bI_t h3, if_pos (by decide), p22 F', thM_eq, g22 F', thM_0, if_neg (fun z => z rfl), r22_3 F', d23 F' hc, thM_o (by decide)]
            by_cases q : m 23 c = 0
            · rw [if_neg (fun z => z q), if_neg (fun z => z q), g22 F', thM_22 (by decide), hm10]
            · rw [if_pos q, if_pos q]
          have h78 : ∀ h' K', Fix h' → B_X9_lay_78 (some 22) (nI c) its po mo (some 22) (st h' K' (thM m 0)) = rtI 0 (st h' K' (thM m 3)) := by
            intro h' K' F'
            unfold B_X9_lay_78 B_X9_lay_86
            rw [p22 F', thM_thM, g22 F', thM_0, if_neg (by decide)]
          by_cases hl : m 23 c = 0
          · have hland : K 11 c = 0 := by rw [C1.1.1]; exact hl
            by_cases hnb : nb < 8
            · obtain ⟨i, hi1, hi2, rfl⟩ := rng1 (x := its) (a := 1) (n := 20) (by decide) (by decide) h1.1 h1.2
              obtain ⟨p, hp1, hp2, rfl⟩ := rng1 (x := po) (a := 1) (n := 100) (by decide) (by decide) h2.1 h2.2
              obtain ⟨w1, w2⟩ := laid (mo := mo) R L hnb hc ⟨hi1, hi2⟩ ⟨hp1, hp2⟩
              refine ⟨0, nI nb, nI nb, _, _, _, Or.inl ⟨rfl, rfl, (hCl _).mpr ?_⟩, fun h' F' => ?_, ?_, ⟨nb + 1, nr, ns, np, nsm, nst, d, w1, w2⟩⟩
              · rw [s_isLand F hc, x_rtI, bI_f (fun z => z hland), if_neg (fun z => z rfl), r1_1 F, a13 F, s_isIndex_t hnb (by decide), x_rtI, if_pos (by decide), r1_1 F]
                exact s_layNew F hnb
              · rw [hMo h' _ F', if_neg (fun z => z hl), if_pos (show nI nb ≠ (8 : Int32) from fun z => by have := (nI_eq (by omega) (by omega)).mp (show nI nb = nI 8 from z); omega)]
                unfold B_X9_lay_82
                rw [g22 F', thM_0]
                exact s_lay_yes F' hnb hm10
              · unfold layM; rw [upw_s, upd_o (by decide), thM_0]
            · refine OpR_t I0 3 3 (by decide) rfl ((hCl _).mpr ?_) (fun h' F' => ?_)
              · rw [s_isLand F hc, x_rtI, bI_f (fun z => z hland), if_neg (fun z => z rfl), r1_1 F, a13 F, s_isIndex_f (Or.inr (nI_le (by omega) (by omega))), x_rtI, if_neg (fun z => z rfl)]
              · rw [hMo h' _ F', if_neg (fun z => z hl), show nb = 8 by omega, if_neg (fun z => z rfl), h78 h' _ F']
          · have hland : K 11 c ≠ 0 := by rw [C1.1.1]; exact hl
            refine OpR_t I0 3 3 (by decide) rfl ((hCl _).mpr ?_) (fun h' F' => ?_)
            · rw [s_isLand F hc, x_rtI, bI_t hland, if_pos (by decide)]
            · rw [hMo h' _ F', if_pos hl, h78 h' _ F']
        · refine OpR_t I0 2 2 (by decide) rfl ?_ (fun h' F' => ?_)
          · unfold M_X8_lay
            rw [s_needCell_t hc, x_rtV, s_needRange_t h1, x_rtV, s_needRange_t h2, x_rtV, s_needRange_f h3, x_thr]
          · unfold M_X9_lay B_X9_lay_44
            rw [s_mCell_t hc, x_rtI, if_pos (by decide), s_in, x_rtI, bI_t h1, if_neg (by decide), s_in, x_rtI, bI_t h2, if_neg (by decide), s_in, x_rtI, bI_f h3, if_neg (fun z => z rfl), s_lay_no F' (by decide) (by decide)]
      · refine OpR_t I0 2 2 (by decide) rfl ?_ (fun h' F' => ?_)
        · unfold M_X8_lay
          rw [s_needCell_t hc, x_rtV, s_needRange_t h1, x_rtV, s_needRange_f h2, x_thr]
        · unfold M_X9_lay B_X9_lay_44
          rw [s_mCell_t hc, x_rtI, if_pos (by decide), s_in, x_rtI, bI_t h1, if_neg (by decide), s_in, x_rtI, bI_f h2, if_pos rfl, s_lay_no F' (by decide) (by decide)]
    · refine OpR_t I0 2 2 (by decide) rfl ?_ (fun h' F' => ?_)
      · unfold M_X8_lay
        rw [s_needCell_t hc, x_rtV, s_needRange_f h1, x_thr]
      · unfold M_X9_lay B_X9_lay_44
        rw [s_mCell_t hc, x_rtI, if_pos (by decide), s_in, x_rtI, bI_f h1, if_pos rfl, s_lay_no F' (by decide) (by decide)]
