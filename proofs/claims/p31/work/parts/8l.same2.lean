/-! the law's comparison, the first half -/
section
variable {h : MH} {K g M : Nat → Nat → Int32} {B nb nr ns nsm nst d : Nat}
theorem Ok.r35 {K2 M2 : Nat → Nat → Int32} (O : Ok B h K g M nb nr ns nsm nst d) (R2 : Rel h K2 g B nb nr ns 0 nsm d (Sst nst d)) (hM : ∀ a, a ≠ 35 → M2 a = M a) : Ok B h K2 g M2 nb nr ns nsm nst d := by
  obtain ⟨R, L, ⟨A1, A2, A3, A4, A5, A6, A7, A8⟩, O2⟩ := O
  refine ⟨R2, L, ⟨?_, ?_, ?_, ?_, ?_, ?_, ?_, ?_⟩, O2⟩
  · rw [hM 22 (by decide)]; exact A1
  · rw [hM 23 (by decide), hM 24 (by decide), hM 25 (by decide), hM 26 (by decide)]; exact A2
  · rw [hM 37 (by decide)]; exact A3
  · rw [hM 27 (by decide)]; exact A4
  · rw [hM 30 (by decide), hM 31 (by decide), hM 32 (by decide)]; exact A5
  · rw [hM 33 (by decide), hM 34 (by decide)]; exact A6
  · rw [hM 28 (by decide), hM 29 (by decide)]; exact A7
  · rw [hM 37 (by decide)]; exact A8
theorem s_same370 {y : Int32} (O : Ok B h K g M nb nr ns nsm nst d) : ∃ h2 K2 M2, B_L_same_370 (some 1) y (some 22) (some 27) (some 30) (some 31) (some 32) (some 33) (some 34) (some 35) (some 36) (some 37) 1 (st h K M) = rtI 1 (st h2 K2 M2) ∧ Ok (B + 3) h2 K2 g M2 nb nr ns nsm nst d := by
  have F := O.F
  obtain ⟨R, L, A, hns, hn, hd⟩ := id O
  have h6 : M 37 6 = nI ns := A.2.2.2.2.2.2.2.1.2.2.2.2.2
  unfold B_L_same_370 B_L_same_420 B_L_same_425
  rw [rq6 F, h6]
  by_cases q : ns = 0
  · rw [if_pos (by rw [q]; decide)]
    obtain ⟨h2, M2, w1, w2⟩ := s_same427 (y := y) O
    exact ⟨h2, K, M2, w1, w2⟩
  · obtain ⟨K2, M2, a1, a2, a3⟩ := s_lsearch (y := y) (s := 0) (p := 33) R A (by omega) (Or.inl ⟨rfl, rfl⟩)
    have O2 := O.r35 a2 a3
    rw [if_neg (nI_nle (by omega) (by omega)), if_neg (by decide), show (0 : Int32) = nI 0 from rfl, a1, x_rtI, if_neg (by decide), rq6 F, a3 37 (by decide), h6]
    by_cases q1 : ns = 1
    · rw [if_pos (by rw [q1]; rfl)]
      obtain ⟨h2, M3, w1, w2⟩ := s_same427 (y := y) O2
      exact ⟨h2, K2, M3, w1, w2⟩
    · obtain ⟨K3, M3, b1, b2, b3⟩ := s_lsearch (y := y >>> ((2 : Int32) &&& 31)) (s := 1) (p := 34) O2.1 O2.2.2.1 (by omega) (Or.inr ⟨rfl, rfl⟩)
      have O3 := O2.r35 b2 b3
      obtain ⟨h2, M4, w1, w2⟩ := s_same427 (y := y) O3
      rw [if_neg (show ¬ nI ns = 1 from fun z => q1 ((nI_eq (by omega) (by omega)).mp (show nI ns = nI 1 from z))), x_bnd, show (1 : Int32) = nI 1 from rfl, b1, x_rtI, if_neg (by decide)]
      exact ⟨h2, K3, M4, w1, w2⟩
theorem s_same265 {y : Int32} (O : Ok B h K g M nb nr ns nsm nst d) : ∃ h2 K2 M2, L_L_same_265 fuel (some 1) y (some 22) (some 27) (some 30) (some 31) (some 32) (some 33) (some 34) (some 35) (some 36) (some 37) 1 0 (st h K M) = rtI 1 (st h2 K2 M2) ∧ Ok (B + 3) h2 K2 g M2 nb nr ns nsm nst d := by
  have F := O.F
  obtain ⟨R, L, A, hns, hn, hd⟩ := id O
  have nb8 := O.nb8
  have h2' : M 37 2 = nI nb := A.2.2.2.2.2.2.2.1.2.1
  obtain ⟨h2, K2, M2, w1, w2⟩ := s_same370 (y := y) O
  refine ⟨h2, K2, M2, ?_, w2⟩
  have hG := zlp0 (G := fun n i => L_L_same_265 n (some 1) y (some 22) (some 27) (some 30) (some 31) (some 32) (some 33) (some 34) (some 35) (some 36) (some 37) 1 (nI i) (st h K M)) (N := nb) (r := rtI 1 (st h2 K2 M2)) (by have : fuel = 1000 := rfl; omega) ?_ ?_
  · exact hG
  · intro n i hi
    obtain ⟨⟨f0, f1, f2, f3, f4, f5⟩, -⟩ := A.2.2.2.1.1 i hi
    have rr := fun w (hw : w < 4) => kk_ofFloat (mm := M) R hi hw
    have r0 := rr 0 (by decide)
    have r1 := rr 1 (by decide)
    have r2 := rr 2 (by decide)
    have r3 := rr 3 (by decide)
    rw [if_pos rfl] at r0
    rw [if_neg (by decide), if_pos rfl] at r1
    rw [if_neg (by decide), if_neg (by decide), if_pos rfl] at r2
    rw [if_neg (by decide), if_neg (by decide), if_neg (by decide)] at r3
    have e8 : (8 : Int32) * nI i = nI (8 * i) := pk_mul 8 i
    show B_L_same_265 (L_L_same_265 n) (some 1) y (some 22) (some 27) (some 30) (some 31) (some 32) (some 33) (some 34) (some 35) (some 36) (some 37) 1 (nI i) (st h K M) = L_L_same_265 n (some 1) y (some 22) (some 27) (some 30) (some 31) (some 32) (some 33) (some 34) (some 35) (some 36) (some 37) 1 (nI (i + 1)) (st h K M)
    unfold B_L_same_265 B_L_same_362
    rw [rq2 F, h2', if_neg (nI_ge hi (by omega)), if_neg (by decide), c1 F, show M_X8_ofFloat (some 1) (nI i) 0 (st h K M) = M_X8_ofFloat (some 1) (nI i) (nI 0) (st h K M) from rfl, r0, x_rtI, e8, x_bnd, d27 F (by omega), f0, if_neg (fun z => z rfl), c1 F, show M_X8_ofFloat (some 1) (nI i) 1 (st h K M) = M_X8_ofFloat (some 1) (nI i) (nI 1) (st h K M) from rfl, r1, x_rtI, x_bnd, show nI (8 * i) + 2 = nI (8 * i + 2) from nI_add _ 2, x_bnd, d27 F (by omega), f2, if_neg (fun z => z rfl), c1 F, show M_X8_ofFloat (some 1) (nI i) 2 (st h K M) = M_X8_ofFloat (some 1) (nI i) (nI 2) (st h K M) from rfl, r2, x_rtI, x_bnd, show nI (8 * i) + 3 = nI (8 * i + 3) from nI_add _ 3, x_bnd, d27 F (by omega), f3, if_neg (fun z => z rfl), c1 F, show M_X8_ofFloat (some 1) (nI i) 3 (st h K M) = M_X8_ofFloat (some 1) (nI i) (nI 3) (st h K M) from rfl, r3, x_rtI, x_bnd, show nI (8 * i) + 5 = nI (8 * i + 5) from nI_add _ 5, x_bnd, d27 F (by omega), f5, if_neg (fun z => z rfl), x_bnd, nIs]
  · intro n
    show B_L_same_265 (L_L_same_265 n) (some 1) y (some 22) (some 27) (some 30) (some 31) (some 32) (some 33) (some 34) (some 35) (some 36) (some 37) 1 (nI nb) (st h K M) = _
    unfold B_L_same_265
    rw [rq2 F, h2', if_pos (nI_le (Nat.le_refl _) (by omega))]
    exact w1
theorem s_same128 {y : Int32} (O : Ok B h K g M nb nr ns nsm nst d) : ∃ h2 K2 M2, L_L_same_128 fuel (some 1) y (some 22) (some 23) (some 24) (some 25) (some 26) (some 27) (some 30) (some 31) (some 32) (some 33) (some 34) (some 35) (some 36) (some 37) 1 0 (st h K M) = rtI 1 (st h2 K2 M2) ∧ Ok (B + 3) h2 K2 g M2 nb nr ns nsm nst d := by
  have F := O.F
  obtain ⟨R, L, A, hns, hn, hd⟩ := id O
  obtain ⟨h2, K2, M2, w1, w2⟩ := s_same265 (y := y) O
  refine ⟨h2, K2, M2, ?_, w2⟩
  have hG := zlp0 (G := fun n i => L_L_same_128 n (some 1) y (some 22) (some 23) (some 24) (some 25) (some 26) (some 27) (some 30) (some 31) (some 32) (some 33) (some 34) (some 35) (some 36) (some 37) 1 (nI i) (st h K M)) (N := 10) (r := rtI 1 (st h2 K2 M2)) (by decide) ?_ ?_
  · exact hG
  · intro n i hi
    have hc := lw_lt (v := y + (13 : Int32) * nI i) (n := 60) (by decide)
    have hl2 := lw_lt (v := y >>> ((3 : Int32) &&& 31)) (n := 2) (by decide)
    obtain ⟨c, ec⟩ : ∃ c, c = lw (y + (13 : Int32) * nI i) 60 := ⟨_, rfl⟩
    obtain ⟨l, el⟩ : ∃ l, l = lw (y >>> ((3 : Int32) &&& 31)) 2 := ⟨_, rfl⟩
    rw [← ec] at hc
    rw [← el] at hl2
    obtain ⟨t1, t2, t3, t4⟩ := A.2.1.1 c hc
    have rr := fun w (hw : w < 3) => kk_ofLayer (mm := M) R hc hl2 hw
    have r0 := rr 0 (by decide)
    have r1 := rr 1 (by decide)
    have r2 := rr 2 (by decide)
    rw [if_pos rfl] at r0
    rw [if_neg (by decide), if_pos rfl] at r1
    rw [if_neg (by decide), if_neg (by decide)] at r2
    have h200 : B_L_same_200 (L_L_same_128 n) (some 1) y (some 22) (some 23) (some 24) (some 25) (some 26) (some 27) (some 30) (some 31) (some 32) (some 33) (some 34) (some 35) (some 36) (some 37) (nI i) (nI c) (nI l) (g 26 (60 * l + c)) (g 27 (60 * l + c)) (st h K M) = L_L_same_128 n (some 1) y (some 22) (some 23) (some 24) (some 25) (some 26) (some 27) (some 30) (some 31) (some 32) (some 33) (some 34) (some 35) (some 36) (some 37) 1 (nI (i + 1)) (st h K M) := by
      unfold B_L_same_200 B_L_same_254
      rw [c1 F, show M_X8_ofLayer (some 1) (nI c) (nI l) 0 (st h K M) = M_X8_ofLayer (some 1) (nI c) (nI l) (nI 0) (st h K M) from rfl, r0, x_rtI, if_neg (fun z => z rfl), c1 F, show M_X8_ofLayer (some 1) (nI c) (nI l) 1 (st h K M) = M_X8_ofLayer (some 1) (nI c) (nI l) (nI 1) (st h K M) from rfl, r1, x_rtI, if_neg (fun z => z rfl), c1 F, show M_X8_ofLayer (some 1) (nI c) (nI l) 2 (st h K M) = M_X8_ofLayer (some 1) (nI c) (nI l) (nI 2) (st h K M) from rfl, r2, x_rtI, x_bnd, x_bnd, if_neg (fun z => z rfl), x_bnd, nIs]
    show B_L_same_128 (L_L_same_128 n) (some 1) y (some 22) (some 23) (some 24) (some 25) (some 26) (some 27) (some 30) (some 31) (some 32) (some 33) (some 34) (some 35) (some 36) (some 37) 1 (nI i) (st h K M) = L_L_same_128 n (some 1) y (some 22) (some 23) (some 24) (some 25) (some 26) (some 27) (some 30) (some 31) (some 32) (some 33) (some 34) (some 35) (some 36) (some 37) 1 (nI (i + 1)) (st h K M)
    unfold B_L_same_128 B_L_same_180
    rw [if_neg (show ¬ (10 : Int32) ≤ nI i from nI_ge (b := 10) hi (by decide)), if_neg (by decide), x_bnd, x_bnd, s_low (x := (60 : Int32)) (n := 60) rfl (by decide) (by decide), x_rtI, ← ec, x_bnd, s_low (x := (2 : Int32)) (n := 2) rfl (by decide) (by decide), x_rtI, ← el]
    rcases (show l = 0 ∨ l = 1 by omega) with z | z
    · rw [z] at h200 ⊢
      rw [show 60 * 0 + c = c by omega] at h200
      rw [if_neg (show ¬ nI 0 ≠ 0 from fun z => z rfl), d23 F hc, if_neg (show ¬ nI 0 ≠ 0 from fun z => z rfl), d25 F hc, t1, t3]
      exact h200
    · rw [z] at h200 ⊢
      rw [show 60 * 1 + c = 60 + c by omega] at h200
      rw [if_pos (show nI 1 ≠ 0 by decide), d24 F hc, if_pos (show nI 1 ≠ 0 by decide), d26 F hc, t2, t4]
      exact h200
  · intro n
    show B_L_same_128 (L_L_same_128 n) (some 1) y (some 22) (some 23) (some 24) (some 25) (some 26) (some 27) (some 30) (some 31) (some 32) (some 33) (some 34) (some 35) (some 36) (some 37) 1 (nI 10) (st h K M) = _
    unfold B_L_same_128 B_L_same_262
    rw [if_pos (show (10 : Int32) ≤ nI 10 from nI_le (a := 10) (Nat.le_refl _) (by decide))]
    exact w1
theorem s_same {y : Int32} (O : Ok B h K g M nb nr ns nsm nst d) : ∃ h2 K2 M2, M_L_same (some 1) y (some 22) (some 23) (some 24) (some 25) (some 26) (some 27) (some 30) (some 31) (some 32) (some 33) (some 34) (some 35) (some 36) (some 37) (st h K M) = rtI 1 (st h2 K2 M2) ∧ Ok (B + 3) h2 K2 g M2 nb nr ns nsm nst d := by
  have F := O.F
  obtain ⟨R, L, A, hns, hn, hd⟩ := id O
  obtain ⟨⟨q0, q2, q3, q4, q5, q6⟩, -⟩ := A.2.2.2.2.2.2.2
  have q1 : M 37 1 = g 22 2 := A.2.2.1.2.2
  obtain ⟨h2, K2, M2, w1, w2⟩ := s_same128 (y := y) O
  refine ⟨h2, K2, M2, ?_, w2⟩
  have hG := zlp0 (G := fun n i => L_L_same_9 n (some 1) y (some 22) (some 23) (some 24) (some 25) (some 26) (some 27) (some 30) (some 31) (some 32) (some 33) (some 34) (some 35) (some 36) (some 37) (smf (fun c => M 23 c + M 24 c) i) (smf (fun c => M 25 c + M 26 c) i) (nI i) (st h K M)) (N := 60) (r := rtI 1 (st h2 K2 M2)) (by decide) ?_ ?_
  · exact hG
  · intro n i hi
    show B_L_same_9 (L_L_same_9 n) (some 1) y (some 22) (some 23) (some 24) (some 25) (some 26) (some 27) (some 30) (some 31) (some 32) (some 33) (some 34) (some 35) (some 36) (some 37) (smf (fun c => M 23 c + M 24 c) i) (smf (fun c => M 25 c + M 26 c) i) (nI i) (st h K M) = _
    unfold B_L_same_9
    rw [if_neg (show ¬ (60 : Int32) ≤ nI i from nI_ge (b := 60) hi (by decide)), d23 F hi, d24 F hi, x_bnd, x_bnd, d25 F hi, d26 F hi, x_bnd, x_bnd, x_bnd, nIs]
    rfl
  · intro n
    have eH : smf (fun c => M 23 c + M 24 c) 60 = smf (g 26) 60 + smf (fun j => g 26 (60 + j)) 60 := by
      rw [smf_add, smf_congr (r := M 23) (s := g 26) (fun j hj => (A.2.1.1 j hj).1), smf_congr (r := M 24) (s := fun j => g 26 (60 + j)) (fun j hj => (A.2.1.1 j hj).2.1)]
    have eS : smf (fun c => M 25 c + M 26 c) 60 = smf (g 27) 60 + smf (fun j => g 27 (60 + j)) 60 := by
      rw [smf_add, smf_congr (r := M 25) (s := g 27) (fun j hj => (A.2.1.1 j hj).2.2.1), smf_congr (r := M 26) (s := fun j => g 27 (60 + j)) (fun j hj => (A.2.1.1 j hj).2.2.2)]
    show B_L_same_9 (L_L_same_9 n) (some 1) y (some 22) (some 23) (some 24) (some 25) (some 26) (some 27) (some 30) (some 31) (some 32) (some 33) (some 34) (some 35) (some 36) (some 37) (smf (fun c => M 23 c + M 24 c) 60) (smf (fun c => M 25 c + M 26 c) 60) (nI 60) (st h K M) = _
    unfold B_L_same_9 B_L_same_123
    rw [if_pos (show (60 : Int32) ≤ nI 60 from nI_le (a := 60) (Nat.le_refl _) (by decide)), c1 F, kk_day R, x_rtI, rq0 F, q0, if_neg (fun z => z rfl), c1 F, kk_total0 R, x_rtI, eH, if_neg (fun z => z rfl), c1 F, kk_total1 R, x_rtI, eS, if_neg (fun z => z rfl), c1 F, kk_total2 R, x_rtI, rq1 F, q1, if_neg (fun z => z rfl), c1 F, kk_stations R, x_rtI, rq3 F, q3, if_neg (fun z => z rfl), c1 F, kk_readings R, x_rtI, rq5 F, q5, if_neg (fun z => z rfl)]
    exact w1
end
