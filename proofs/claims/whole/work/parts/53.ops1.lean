/-! calls that touch the sea alone, and calls that only ask -/
theorem Rel.seaX {h : MH} {K m K1 m1 : Nat → Nat → Int32} {B nb nr ns np nsm d : Nat} {S : STy} (R : Rel h K m B nb nr ns np nsm d S) (hK : ∀ a, a ∉ [2, 4, 5, 7, 8, 9, 10, 11] → K1 a = K a) (hm : ∀ a, a ∉ [22, 23, 24, 25, 26, 27] → m1 a = m a) (h22 : ∀ j, j ∉ [0, 2] → m1 22 j = m 22 j) (C : Csea K1 m1) : Rel h K1 m1 B nb nr ns np nsm d S := by
  obtain ⟨⟨F, hN, R13, R15, R20, R21, RS⟩, C1, C2, C3, C4, C5, C6, C7, C8, C9⟩ := R
  have kd : ∀ a, 50 < a → K1 a = K a := fun a ha => hK a (by simp; omega)
  refine ⟨⟨F, hN, R13, R15, R20, R21, RS⟩, C, ?_, ?_, ?_, ?_, ?_, ?_, ?_, C9⟩
  · unfold Cct
    rw [hK 1 (by decide), hK 14 (by decide), hK 16 (by decide), h22 10 (by decide), h22 30 (by decide), h22 33 (by decide), h22 23 (by decide), h22 20 (by decide), h22 1 (by decide), h22 29 (by decide)]
    exact C2
  · exact C3.fr R13 (fun b _ hb => kd b hb) (fun b hb => hm b (by simp at hb ⊢; omega))
  · exact C4.fr R15 (fun b _ hb => kd b hb) (fun b hb => hm b (by simp at hb ⊢; omega))
  · exact C5.fr (hm 43 (by decide))
  · exact C6.fr (fun b hb => hK b (by simp at hb ⊢; omega)) (fun b hb => hm b (by simp at hb ⊢; omega)) (by rw [hK 16 (by decide)]) (h22 17 (by decide))
  · exact C7.fr R20 RS (fun b hb _ => kd b hb) ⟨hm 45 (by decide), hm 46 (by decide)⟩
  · exact C8.fr R21 (fun b _ hb => kd b hb) (fun b hb => hm b (by simp at hb ⊢; omega))
theorem op_current (x y : Int32) : OpR (fun q => if q = 1 then some 1 else if q = 2 then some 2 else none) (M_X8_current (some 1) x y) (M_X9_current (some 22) x y) := by
  intro B h K m I
  have F := I.F
  rcases cell_or x with hx | ⟨j, hj, rfl⟩
  · refine OpR_t I 1 1 (by decide) rfl ?_ (fun h' F' => ?_)
    · unfold M_X8_current
      rw [s_needCell_f hx, x_thr]
    · unfold M_X9_current
      rw [s_mCell_f hx, x_rtI, if_neg (fun z => z rfl)]
      unfold B_X9_current_26
      rw [p22 F', thM_eq, g22 F', thM_0, if_neg (by decide)]
  · by_cases hy : (0 : Int32) ≤ y ∧ y ≤ (4 : Int32)
    · obtain ⟨q, hq, rfl⟩ := nI_rng (x := y) (n := 4) (by decide) hy.1 hy.2
      have I0 := I.th 0
      obtain ⟨nb, nr, ns, np, nsm, nst, d, R, L⟩ := I0
      have C := R.2.1
      have e9 : K 9 = thM m 0 24 := C.1.2.1
      refine ⟨0, K 9 j, K 9 j, h, upw K 9 (upd (K 9) j (nI q)), upw (thM m 0) 24 (upd (m 24) j (nI q)), Or.inl ⟨rfl, rfl, ?_⟩, fun h' F' => ?_, by rw [upw_o (by decide), thM_0], ?_⟩
      · unfold M_X8_current
        rw [s_needCell_t hj, x_rtV, s_needRange_t hy, x_rtV, r1_0 F, r2_2 F, d9 F hj, r1_0 F, r2_2 F, w9 F hj]
      · unfold M_X9_current
        rw [s_mCell_t hj, x_rtI, if_pos (by decide), s_in, x_rtI, bI_t hy, if_pos (by decide)]
        unfold B_X9_current_26
        rw [p22 F', thM_eq, g22 F', thM_0, if_pos (by decide), r22_4 F', d24 F' hj, r22_4 F', w24 F' hj, ← e9, e9, thM_o (by decide)]
      · refine ⟨nb, nr, ns, np, nsm, nst, d, (R.seaX (K1 := upw K 9 (upd (K 9) j (nI q))) (m1 := upw (thM m 0) 24 (upd (m 24) j (nI q))) (fun a ha => upw_o (by simp at ha; omega)) (fun a ha => upw_o (by simp at ha; omega)) (fun j hj => by rw [upw_o (by decide)]) ?_).up, fun k hk1 h1 => ?_⟩
        · have e24 : thM m 0 24 = m 24 := thM_o (by decide)
          obtain ⟨⟨c1, c2, c3⟩, c4, c5, c6, c7, c8⟩ := C
          refine ⟨⟨?_, ?_, ?_⟩, ?_, ?_, ?_, ?_, ?_⟩
          · rw [upw_o (by decide), upw_o (by decide)]; exact c1
          · rw [upw_s, upw_s, c2, e24]
          · rw [upw_o (by decide), upw_o (by decide)]; exact c3
          · intro i hi
            rw [upw_o (by decide), upw_o (by decide), upw_o (by decide), upw_o (by decide), upw_o (by decide), upw_o (by decide)]
            exact c4 i hi
          · rw [upw_o (by decide), upw_o (by decide)]; exact c5
          · rw [upw_o (by decide), upw_o (by decide)]; exact c6
          · intro i hi
            rw [upw_o (by decide), upw_o (by decide), upw_o (by decide)]
            exact c7 i hi
          · rw [upw_s]
            intro i hi
            unfold upd
            split
            · exact ⟨q, hq, rfl⟩
            · rw [← e24]; exact c8 i hi
        · rw [upw_o (by decide)] at h1 ⊢
          exact L k hk1 h1
    · refine OpR_t I 2 2 (by decide) rfl ?_ (fun h' F' => ?_)
      · unfold M_X8_current
        rw [s_needCell_t hj, x_rtV, s_needRange_f hy, x_thr]
      · unfold M_X9_current
        rw [s_mCell_t hj, x_rtI, if_pos (by decide), s_in, x_rtI, bI_f hy, if_neg (fun z => z rfl)]
        unfold B_X9_current_26
        rw [p22 F', thM_eq, g22 F', thM_0, if_neg (by decide)]
theorem op_sun (x y : Int32) : OpR (fun q => if q = 2 then some 1 else none) (M_X8_sun (some 1) x y) (M_X9_sun (some 22) x y) := by
  intro B h K m I
  have F := I.F
  by_cases hx : (0 : Int32) ≤ x ∧ x ≤ (5 : Int32)
  · by_cases hy : (-50 : Int32) ≤ y ∧ y ≤ (50 : Int32)
    · obtain ⟨j, hj5, rfl⟩ := nI_rng (x := x) (n := 5) (by decide) hx.1 hx.2
      have hj : j < 6 := by omega
      have I0 := I.th 0
      obtain ⟨nb, nr, ns, np, nsm, nst, d, R, L⟩ := I0
      have C := R.2.1
      have e10 : K 10 = thM m 0 25 := C.1.2.2
      refine ⟨0, K 10 j, K 10 j, h, upw K 10 (upd (K 10) j y), upw (thM m 0) 25 (upd (m 25) j y), Or.inl ⟨rfl, rfl, ?_⟩, fun h' F' => ?_, by rw [upw_o (by decide), thM_0], ?_⟩
      · unfold M_X8_sun
        rw [s_needRange_t hx, x_rtV, s_needRange_t hy, x_rtV, r1_0 F, r2_3 F, d10 F hj, r1_0 F, r2_3 F, w10 F hj]
      · unfold M_X9_sun
        rw [s_in, x_rtI, bI_t hx, if_neg (by decide), s_in, x_rtI, bI_t hy, if_neg (by decide)]
        unfold B_X9_sun_26
        rw [p22 F', thM_eq, g22 F', thM_0, if_pos (by decide), r22_5 F', d25 F' hj, r22_5 F', w25 F' hj, e10, thM_o (by decide)]
      · refine ⟨nb, nr, ns, np, nsm, nst, d, (R.seaX (K1 := upw K 10 (upd (K 10) j y)) (m1 := upw (thM m 0) 25 (upd (m 25) j y)) (fun a ha => upw_o (by simp at ha; omega)) (fun a ha => upw_o (by simp at ha; omega)) (fun j hj => by rw [upw_o (by decide)]) ?_).up, fun k hk1 h1 => ?_⟩
        · have e25 : thM m 0 25 = m 25 := thM_o (by decide)
          obtain ⟨⟨c1, c2, c3⟩, c4, c5, c6, c7, c8⟩ := C
          refine ⟨⟨?_, ?_, ?_⟩, ?_, ?_, ?_, ?_, ?_⟩
          · rw [upw_o (by decide), upw_o (by decide)]; exact c1
          · rw [upw_o (by decide), upw_o (by decide)]; exact c2
          · rw [upw_s, upw_s, c3, e25]
          · intro i hi
            rw [upw_o (by decide), upw_o (by decide), upw_o (by decide), upw_o (by decide), upw_o (by decide), upw_o (by decide)]
            exact c4 i hi
          · rw [upw_o (by decide), upw_o (by decide)]; exact c5
          · rw [upw_o (by decide), upw_o (by decide)]; exact c6
          · intro i hi
            rw [upw_o (by decide), upw_o (by decide), upw_o (by decide)]
            exact c7 i hi
          · rw [upw_o (by decide)]; exact c8
        · rw [upw_o (by decide)] at h1 ⊢
          exact L k hk1 h1
    · refine OpR_t I 2 1 (by decide) rfl ?_ (fun h' F' => ?_)
      · unfold M_X8_sun
        rw [s_needRange_t hx, x_rtV, s_needRange_f hy, x_thr]
      · unfold M_X9_sun
        rw [s_in, x_rtI, bI_t hx, if_neg (by decide), s_in, x_rtI, bI_f hy, if_pos rfl]
        unfold B_X9_sun_25 B_X9_sun_26
        rw [p22 F', thM_eq, g22 F', thM_0, if_neg (by decide)]
  · refine OpR_t I 2 1 (by decide) rfl ?_ (fun h' F' => ?_)
    · unfold M_X8_sun
      rw [s_needRange_f hx, x_thr]
    · unfold M_X9_sun
      rw [s_in, x_rtI, bI_f hx, if_pos rfl]
      unfold B_X9_sun_25 B_X9_sun_26
      rw [p22 F', thM_eq, g22 F', thM_0, if_neg (by decide)]
theorem Inv.g {B : Nat} {h : MH} {K m : Nat → Nat → Int32} (I : Inv B h K m) : K 1 9 = m 22 1 ∧ K 16 0 = m 22 17 ∧ K 14 1 = m 22 23 ∧ K 14 2 = m 22 29 := by
  obtain ⟨nb, nr, ns, np, nsm, nst, d, R, L⟩ := I
  have c := R.2.2.1
  have s := R.2.2.2.2.2.2.1.1
  exact ⟨c.2.2.2.2.2.1.1.trans c.2.2.2.2.2.1.2.symm, s.1.trans s.2.1.symm, c.2.2.2.1.1.trans c.2.2.2.1.2.symm, c.2.2.2.2.2.2.1⟩
theorem op_day : OpR (fun _ => none) (M_X8_day (some 1)) (M_X9_day (some 22)) := by
  intro B h K m I
  have F := I.F
  refine OpR_v I (K 1 9) ?_ (fun h' F' => ?_)
  · unfold M_X8_day; rw [g1 F]
  · unfold M_X9_day; rw [p22 F', thM_eq, g22 F', thM_22 (by decide), I.g.1]
theorem op_stations : OpR (fun _ => none) (M_X8_stations (some 1)) (M_X9_stations (some 22)) := by
  intro B h K m I
  have F := I.F
  refine OpR_v I (K 16 0) ?_ (fun h' F' => ?_)
  · unfold M_X8_stations; rw [r1_3 F, g16 F]
  · unfold M_X9_stations; rw [p22 F', thM_eq, g22 F', thM_22 (by decide), I.g.2.1]
theorem op_readings : OpR (fun _ => none) (M_X8_readings (some 1)) (M_X9_readings (some 22)) := by
  intro B h K m I
  have F := I.F
  refine OpR_v I (K 14 1) ?_ (fun h' F' => ?_)
  · unfold M_X8_readings; rw [r1_2 F, g14 F]
  · unfold M_X9_readings; rw [p22 F', thM_eq, g22 F', thM_22 (by decide), I.g.2.2.1]
theorem op_bound (x : Int32) : OpR (fun q => if q = 2 then some 1 else none) (M_X8_bound (some 1) x) (M_X9_bound (some 22) x) := by
  intro B h K m I
  have F := I.F
  by_cases hx : (0 : Int32) ≤ x ∧ x ≤ (1000 : Int32)
  · have I0 := I.th 0
    obtain ⟨nb, nr, ns, np, nsm, nst, d, R, L⟩ := I0
    refine ⟨0, K 14 2, K 14 2, h, upw K 14 (upd (K 14) 2 x), upw (thM m 0) 22 (upd (thM m 0 22) 29 x), Or.inl ⟨rfl, rfl, ?_⟩, fun h' F' => ?_, by rw [upw_s, upd_o (by decide), thM_0], ?_⟩
    · unfold M_X8_bound
      rw [s_needRange_t hx, x_rtV, r1_2 F, g14 F, r1_2 F, p14 F]
    · unfold M_X9_bound
      rw [s_in, x_rtI, bI_t hx, if_neg (by decide)]
      unfold B_X9_bound_17
      rw [p22 F', thM_eq, g22 F', thM_0, if_pos (by decide), g22 F', p22 F', thM_22 (by decide), I.g.2.2.2]
    · refine ⟨nb, nr, ns, np, nsm, nst, d, Rel.up ?_, fun k hk1 h1 => ?_⟩
      · obtain ⟨⟨F, hN, R13, R15, R20, R21, RS⟩, C1, C2, C3, C4, C5, C6, C7, C8, C9⟩ := R
        have kd : ∀ a, a ≠ 14 → upw K 14 (upd (K 14) 2 x) a = K a := fun a ha => upw_o ha
        have md : ∀ a, a ≠ 22 → upw (thM m 0) 22 (upd (thM m 0 22) 29 x) a = thM m 0 a := fun a ha => upw_o ha
        have m22 : ∀ j, j ≠ 29 → upw (thM m 0) 22 (upd (thM m 0 22) 29 x) 22 j = thM m 0 22 j := fun j hj => by rw [upw_s, upd_o hj]
        refine ⟨⟨F, hN, R13, R15, R20, R21, RS⟩, ?_, ?_, ?_, ?_, ?_, ?_, ?_, ?_, C9⟩
        · exact C1.fr (fun b hb => kd b (by simp at hb; omega)) (fun b hb => md b (by simp at hb; omega)) (m22 2 (by decide))
        · obtain ⟨a1, a2, a3, a4, a6, a7, a8, a9, a10⟩ := C2
          unfold Cct
          rw [kd 1 (by decide), kd 16 (by decide), upw_s (f := K), upd_o (show (1 : Nat) ≠ 2 by decide), upd_s, m22 10 (by decide), m22 30 (by decide), m22 33 (by decide), m22 23 (by decide), m22 20 (by decide), m22 1 (by decide), upw_s (f := thM m 0), upd_s]
          exact ⟨a1, a2, a3, a4, a6, a7, rfl, a9, a10⟩
        · exact C3.fr R13 (fun b _ hb => kd b (by omega)) (fun b hb => md b (by simp at hb; omega))
        · exact C4.fr R15 (fun b _ hb => kd b (by omega)) (fun b hb => md b (by simp at hb; omega))
        · exact C5.fr (md 43 (by decide))
        · exact C6.fr (fun b hb => kd b (by simp at hb; omega)) (fun b hb => md b (by simp at hb; omega)) (by rw [kd 16 (by decide)]) (m22 17 (by decide))
        · exact C7.fr R20 RS (fun b hb _ => kd b (by omega)) ⟨md 45 (by decide), md 46 (by decide)⟩
        · exact C8.fr R21 (fun b _ hb => kd b (by omega)) (fun b hb => md b (by simp at hb; omega))
      · rw [upw_o (by decide)] at h1 ⊢
        exact L k hk1 h1
  · refine OpR_t I 2 1 (by decide) rfl ?_ (fun h' F' => ?_)
    · unfold M_X8_bound
      rw [s_needRange_f hx, x_thr]
    · unfold M_X9_bound
      rw [s_in, x_rtI, bI_f hx, if_pos rfl]
      unfold B_X9_bound_17
      rw [p22 F', thM_eq, g22 F', thM_0, if_neg (by decide)]
theorem op_ofLayer (x y z : Int32) : OpR (fun q => if q = 1 then some 1 else if q = 2 then some 2 else none) (M_X8_ofLayer (some 1) x y z) (M_X9_ofLayer (some 22) x y z) := by
  intro B h K m I
  have F := I.F
  rcases cell_or x with hx | ⟨j, hj, rfl⟩
  · refine OpR_t I 1 1 (by decide) rfl ?_ (fun h' F' => ?_)
    · unfold M_X8_ofLayer
      rw [s_needCell_f hx, x_thr]
    · unfold M_X9_ofLayer
      rw [s_mCell_f hx, x_rtI, if_neg (fun z => z rfl)]
      unfold B_X9_ofLayer_35
      rw [p22 F', thM_eq, g22 F', thM_0, if_pos (by decide)]
  · by_cases hy : (0 : Int32) ≤ y ∧ y ≤ (1 : Int32)
    · by_cases hz : (0 : Int32) ≤ z ∧ z ≤ (2 : Int32)
      · obtain ⟨l, hl, rfl⟩ := nI_rng (x := y) (n := 1) (by decide) hy.1 hy.2
        obtain ⟨w, hw, rfl⟩ := nI_rng (x := z) (n := 2) (by decide) hz.1 hz.2
        obtain ⟨nb, nr, ns, np, nsm, nst, d, R, L⟩ := I.th 0
        have C := R.2.1
        have hK : ∀ i, i < 60 → K 4 i = m 26 i ∧ K 7 i = m 26 (60 + i) ∧ K 5 i = m 27 i ∧ K 8 i = m 27 (60 + i) := fun i hi => by
          have := C.2.1 i hi
          rw [thM_o (by decide), thM_o (by decide)] at this
          exact this
        have hz0 : m 23 j ≠ 0 → m 26 j = 0 ∧ m 26 (60 + j) = 0 ∧ m 27 j = 0 ∧ m 27 (60 + j) = 0 := fun q => by
          have := C.2.2.2.2.1 j hj
          rw [thM_o (by decide), thM_o (by decide), thM_o (by decide)] at this
          exact this q
        obtain ⟨a1, a2, a3, a4⟩ := hK j hj
        have j1 : j < 120 := by omega
        have j2 : 60 + j < 120 := by omega
        refine OpR_v I (if l = 0 then (if w = 0 then K 4 j else if w = 1 then K 5 j else 5 * K 5 j - K 4 j) else (if w = 0 then K 7 j else if w = 1 then K 8 j else 5 * K 8 j - K 7 j)) ?_ (fun h' F' => ?_)
        · unfold M_X8_ofLayer
          rw [s_needCell_t hj, x_rtV, s_needRange_t hy, x_rtV, s_needRange_t hz, x_rtV]
          unfold B_X8_ofLayer_37
          rcases (show l = 0 ∨ l = 1 by omega) with rfl | rfl
          · rw [if_neg (fun q => q rfl), r1_0 F, r2_0 F]
            rcases (show w = 0 ∨ w = 1 ∨ w = 2 by omega) with rfl | rfl | rfl
            · rw [if_pos (by decide), r3_0 F, d4 F hj]; rfl
            · rw [if_neg (by decide), if_pos (by decide), r3_1 F, d5 F hj]; rfl
            · rw [if_neg (by decide), if_neg (by decide), c3 F, s_weightU F hj, x_rtI]; rfl
          · rw [if_pos (by decide), r1_0 F, r2_1 F]
            rcases (show w = 0 ∨ w = 1 ∨ w = 2 by omega) with rfl | rfl | rfl
            · rw [if_pos (by decide), r6_0 F, d7 F hj]; rfl
            · rw [if_neg (by decide), if_pos (by decide), r6_1 F, d8 F hj]; rfl
            · rw [if_neg (by decide), if_neg (by decide), c6 F, s_weightL F hj, x_rtI]; rfl
        · unfold M_X9_ofLayer
          rw [s_mCell_t hj, x_rtI, if_pos (by decide), s_in, x_rtI, bI_t hy, if_neg (by decide), s_in, x_rtI, bI_t hz, if_pos (by decide)]
          unfold B_X9_ofLayer_35
          rw [p22 F', thM_eq, g22 F', thM_0, if_neg (by decide), r22_3 F', d23 F' hj, thM_o (by decide)]
          by_cases hla : m 23 j = 0
          · rw [if_pos hla, x_bnd, x_bnd]
            rcases (show l = 0 ∨ l = 1 by omega) with rfl | rfl
            · rw [show (60 : Int32) * nI 0 + nI j = nI j by rw [show (60 : Int32) * nI 0 = nI 0 from by decide, nI_add, Nat.zero_add]]
              rcases (show w = 0 ∨ w = 1 ∨ w = 2 by omega) with rfl | rfl | rfl
              · rw [if_neg (fun q => q rfl), r22_6 F', d26 F' j1, thM_o (by decide), ← a1]; rfl
              · rw [if_pos (by decide), if_neg (fun q => q rfl), r22_7 F', d27 F' j1, thM_o (by decide), ← a3]; rfl
              · rw [if_pos (by decide), if_pos (by decide), r22_7 F', d27 F' j1, x_bnd, r22_6 F', d26 F' j1, x_bnd, thM_o (by decide), thM_o (by decide), ← a1, ← a3]; rfl
            · rw [show (60 : Int32) * nI 1 + nI j = nI (60 + j) by rw [show (60 : Int32) * nI 1 = nI 60 from by decide, nI_add]]
              rcases (show w = 0 ∨ w = 1 ∨ w = 2 by omega) with rfl | rfl | rfl
              · rw [if_neg (fun q => q rfl), r22_6 F', d26 F' j2, thM_o (by decide), ← a2]; rfl
              · rw [if_pos (by decide), if_neg (fun q => q rfl), r22_7 F', d27 F' j2, thM_o (by decide), ← a4]; rfl
              · rw [if_pos (by decide), if_pos (by decide), r22_7 F', d27 F' j2, x_bnd, r22_6 F', d26 F' j2, x_bnd, thM_o (by decide), thM_o (by decide), ← a2, ← a4]; rfl
          · obtain ⟨z1, z2, z3, z4⟩ := hz0 hla
            rw [if_neg hla, a1, a2, a3, a4, z1, z2, z3, z4]
            rcases (show l = 0 ∨ l = 1 by omega) with rfl | rfl
            · rcases (show w = 0 ∨ w = 1 ∨ w = 2 by omega) with rfl | rfl | rfl <;> rfl
            · rcases (show w = 0 ∨ w = 1 ∨ w = 2 by omega) with rfl | rfl | rfl <;> rfl
      · refine OpR_t I 2 2 (by decide) rfl ?_ (fun h' F' => ?_)
        · unfold M_X8_ofLayer
          rw [s_needCell_t hj, x_rtV, s_needRange_t hy, x_rtV, s_needRange_f hz, x_thr]
        · unfold M_X9_ofLayer
          rw [s_mCell_t hj, x_rtI, if_pos (by decide), s_in, x_rtI, bI_t hy, if_neg (by decide), s_in, x_rtI, bI_f hz, if_neg (fun z => z rfl)]
          unfold B_X9_ofLayer_30 B_X9_ofLayer_35
          rw [p22 F', thM_eq, g22 F', thM_0, if_pos (by decide)]
    · refine OpR_t I 2 2 (by decide) rfl ?_ (fun h' F' => ?_)
      · unfold M_X8_ofLayer
        rw [s_needCell_t hj, x_rtV, s_needRange_f hy, x_thr]
      · unfold M_X9_ofLayer
        rw [s_mCell_t hj, x_rtI, if_pos (by decide), s_in, x_rtI, bI_f hy, if_pos rfl]
        unfold B_X9_ofLayer_30 B_X9_ofLayer_35
        rw [p22 F', thM_eq, g22 F', thM_0, if_pos (by decide)]
