/-! what the calls that only ask answer, by the ghost -/
section
variable {h : MH} {K g mm : Nat → Nat → Int32} {B nb nr ns np nsm d : Nat} {S : STy}
theorem kk_day (R : Rel h K g B nb nr ns np nsm d S) : M_X8_day (some 1) (st h K mm) = rtI (nI d) (st h K mm) := by
  unfold M_X8_day; rw [g1 R.1.1, R.2.2.1.2.2.2.2.2.1.1]
theorem kk_readings (R : Rel h K g B nb nr ns np nsm d S) : M_X8_readings (some 1) (st h K mm) = rtI (nI nr) (st h K mm) := by
  unfold M_X8_readings; rw [r1_2 R.1.1, g14 R.1.1, R.2.2.1.2.2.2.1.1]
theorem kk_stations {nst e : Nat} (R : Rel h K g B nb nr ns np nsm d (Sst nst e)) : M_X8_stations (some 1) (st h K mm) = rtI (nI nst) (st h K mm) := by
  unfold M_X8_stations; rw [r1_3 R.1.1, g16 R.1.1, R.2.2.2.2.2.2.1.1.1]
theorem kk_total0 (R : Rel h K g B nb nr ns np nsm d S) : M_X8_total (some 1) 0 (st h K mm) = rtI (smf (g 26) 60 + smf (fun j => g 26 (60 + j)) 60) (st h K mm) := by
  have F := R.1.1
  have C := R.2.1
  unfold M_X8_total
  rw [s_needRange_t (by decide), x_rtV, if_pos rfl, r1_0 F, r2_0 F, r3_0 F, s_sumOf (Fk4 F) (Fl4 F) (Or.inl (by decide)), x_rtI, r1_0 F, r2_1 F, r6_0 F, s_sumOf (Fk7 F) (Fl7 F) (Or.inl (by decide)), x_rtI, x_bnd, smf_congr (r := K 4) (s := g 26) (fun j hj => (C.2.1 j hj).1), smf_congr (r := K 7) (s := fun j => g 26 (60 + j)) (fun j hj => (C.2.1 j hj).2.1)]
theorem kk_total1 (R : Rel h K g B nb nr ns np nsm d S) : M_X8_total (some 1) 1 (st h K mm) = rtI (smf (g 27) 60 + smf (fun j => g 27 (60 + j)) 60) (st h K mm) := by
  have F := R.1.1
  have C := R.2.1
  unfold M_X8_total
  rw [s_needRange_t (by decide), x_rtV, if_neg (by decide), if_pos rfl, r1_0 F, r2_0 F, r3_1 F, s_sumOf (Fk5 F) (Fl5 F) (Or.inl (by decide)), x_rtI, r1_0 F, r2_1 F, r6_1 F, s_sumOf (Fk8 F) (Fl8 F) (Or.inl (by decide)), x_rtI, x_bnd, smf_congr (r := K 5) (s := g 27) (fun j hj => (C.2.1 j hj).2.2.1), smf_congr (r := K 8) (s := fun j => g 27 (60 + j)) (fun j hj => (C.2.1 j hj).2.2.2)]
theorem kk_total2 (R : Rel h K g B nb nr ns np nsm d S) : M_X8_total (some 1) 2 (st h K mm) = rtI (g 22 2) (st h K mm) := by
  have F := R.1.1
  have C := R.2.1
  unfold M_X8_total
  rw [s_needRange_t (by decide), x_rtV, if_neg (by decide), if_neg (by decide), r1_0 F, g2 F, C.2.2.1]
theorem kk_ofLayer (R : Rel h K g B nb nr ns np nsm d S) {j l w : Nat} (hj : j < 60) (hl : l < 2) (hw : w < 3) : M_X8_ofLayer (some 1) (nI j) (nI l) (nI w) (st h K mm) = rtI (if w = 0 then g 26 (60 * l + j) else if w = 1 then g 27 (60 * l + j) else 5 * g 27 (60 * l + j) - g 26 (60 * l + j)) (st h K mm) := by
  have F := R.1.1
  obtain ⟨a1, a2, a3, a4⟩ := R.2.1.2.1 j hj
  have hy : (0 : Int32) ≤ nI l ∧ nI l ≤ (1 : Int32) := ⟨nI_pos' (by omega), nI_le (b := 1) (by omega) (by omega)⟩
  have hz : (0 : Int32) ≤ nI w ∧ nI w ≤ (2 : Int32) := ⟨nI_pos' (by omega), nI_le (b := 2) (by omega) (by omega)⟩
  unfold M_X8_ofLayer
  rw [s_needCell_t hj, x_rtV, s_needRange_t hy, x_rtV, s_needRange_t hz, x_rtV]
  unfold B_X8_ofLayer_37
  rcases (show l = 0 ∨ l = 1 by omega) with rfl | rfl
  · rw [if_neg (fun q => q rfl), r1_0 F, r2_0 F, show 60 * 0 + j = j by omega, ← a1, ← a3]
    rcases (show w = 0 ∨ w = 1 ∨ w = 2 by omega) with rfl | rfl | rfl
    · rw [if_pos (by decide), r3_0 F, d4 F hj]; rfl
    · rw [if_neg (by decide), if_pos (by decide), r3_1 F, d5 F hj]; rfl
    · rw [if_neg (by decide), if_neg (by decide), c3 F, s_weightU F hj, x_rtI]; rfl
  · rw [if_pos (by decide), r1_0 F, r2_1 F, show 60 * 1 + j = 60 + j by omega, ← a2, ← a4]
    rcases (show w = 0 ∨ w = 1 ∨ w = 2 by omega) with rfl | rfl | rfl
    · rw [if_pos (by decide), r6_0 F, d7 F hj]; rfl
    · rw [if_neg (by decide), if_pos (by decide), r6_1 F, d8 F hj]; rfl
    · rw [if_neg (by decide), if_neg (by decide), c6 F, s_weightL F hj, x_rtI]; rfl
theorem kk_ofFloat (R : Rel h K g B nb nr ns np nsm d S) {f w : Nat} (hf : f < nb) (hw : w < 4) : M_X8_ofFloat (some 1) (nI f) (nI w) (st h K mm) = rtI (if w = 0 then g 30 f else if w = 1 then g 32 f else if w = 2 then g 33 f else g 35 f) (st h K mm) := by
  have F := R.1.1
  have nb8 := R.1.2.1.1
  have R13 := R.1.2.2.1
  have q := row_bu R13 hf
  have hA : cA (bu h f) := Or.inr (by omega)
  obtain ⟨⟨b0, b1, b2, b3, b4, b5, b6, b7⟩, -⟩ := R.2.2.2.1.1 f hf
  have hy : (0 : Int32) ≤ nI w ∧ nI w ≤ (4 : Int32) := ⟨nI_pos' (by omega), nI_le (b := 4) (by omega) (by omega)⟩
  unfold M_X8_ofFloat
  rw [c1 F, s_buoy_t F R13 nb8 hf, x_rtR, s_needRange_t hy, x_rtV]
  rcases (show w = 0 ∨ w = 1 ∨ w = 2 ∨ w = 3 by omega) with rfl | rfl | rfl | rfl
  · rw [if_neg (by decide), if_pos (by decide), K_gf q.2.1 hA, b3]; rfl
  · rw [if_neg (by decide), if_neg (by decide), if_pos (by decide), K_gf q.2.1 hA, b4]; rfl
  · rw [if_neg (by decide), if_neg (by decide), if_neg (by decide), if_pos (by decide), K_gf q.2.1 hA, b5]; rfl
  · rw [if_neg (by decide), if_neg (by decide), if_neg (by decide), if_neg (by decide), if_pos (by decide), K_gf q.2.1 hA, b6]; rfl
theorem kk_ofReading (R : Rel h K g B nb nr ns np nsm d S) {r w : Nat} (hr1 : r < nr) (hw : w < 6) : M_X8_ofReading (some 1) (nI r) (nI w) (st h K mm) = rtI (if w = 0 then g 40 r else if w = 1 then g 41 r else if w = 2 then g 42 r else if w = 3 then cor g r else if w = 4 then flg g nr r else g 43 r) (st h K mm) := by
  have F := R.1.1
  have nb8 := R.1.2.1.1
  have nr100 := R.1.2.1.2.1
  have R13 := R.1.2.2.1
  have R15 := R.1.2.2.2.1
  have hbd : K 14 2 = g 22 29 := R.2.2.1.2.2.2.2.2.2.1
  have q := row_rd R15 hr1
  have hA : cA (rd h r) := Or.inr (by omega)
  obtain ⟨⟨x0, x1, x2, x3⟩, -, x4⟩ := R.2.2.2.2.1 r hr1
  have hy : (0 : Int32) ≤ nI w ∧ nI w ≤ (5 : Int32) := ⟨nI_pos' (by omega), nI_le (b := 5) (by omega) (by omega)⟩
  unfold M_X8_ofReading
  rw [c1 F, s_rdg_t F R15 nr100 hr1, x_rtR, s_needRange_t hy, x_rtV]
  rcases (show w = 0 ∨ w = 1 ∨ w = 2 ∨ w = 3 ∨ w = 4 ∨ w = 5 by omega) with rfl | rfl | rfl | rfl | rfl | rfl
  · rw [if_neg (by decide), if_pos (by decide), K_gf q.2.1 hA, x0]; rfl
  · rw [if_neg (by decide), if_neg (by decide), if_pos (by decide), K_gf q.2.1 hA, x1]; rfl
  · rw [if_neg (by decide), if_neg (by decide), if_neg (by decide), if_pos (by decide), K_gf q.2.1 hA, x2]; rfl
  · rw [if_neg (by decide), if_neg (by decide), if_neg (by decide), if_neg (by decide), if_pos (by decide), K_ck q.2.1, s_cor R13 R15 nb8 R.2.2.2.1 R.2.2.2.2.1 hr1, x_rtI]; rfl
  · rw [if_neg (by decide), if_neg (by decide), if_neg (by decide), if_neg (by decide), if_neg (by decide), if_pos (by decide), r1_2 F, g14 F, K_ck q.2.1, hbd, s_flagBy R13 R15 nb8 R.2.2.2.1 R.2.2.2.2.1 R.2.2.2.2.2.1 hr1, x_rtI]; rfl
  · rw [if_neg (by decide), if_neg (by decide), if_neg (by decide), if_neg (by decide), if_neg (by decide), if_neg (by decide), K_gr q.2.1]
    rcases x4 with ⟨y1, y2⟩ | ⟨f, f1, f2, f3⟩
    · rw [y2, if_neg (fun z => z rfl)]
      show rtI (-1) _ = rtI (g 43 r) _
      rw [y1]
    · have qf := row_bu R13 f1
      rw [f3, if_pos (by intro z; cases z), K_gr q.2.1, f3, K_gf qf.2.1 (Or.inr (by omega)), (R.2.2.2.1.1 f f1).1.1]
      show rtI (nI f) _ = rtI (g 43 r) _
      rw [f2]
theorem kk_chance (R : Rel h K g B nb nr ns np nsm d S) {s j : Nat} (hs : s < ns) (hj : j < 60) : M_X8_chance (some 1) (nI s) (nI j) (st h K mm) = rtI (g 46 (60 * s + j)) (st h K mm) := by
  have F := R.1.1
  have R20 := R.1.2.2.2.2.1
  have ns4 := R.1.2.1.2.2.1
  have q := row_se R20 hs
  obtain ⟨⟨q1, q2, q3, q4⟩, -⟩ := R.1.2.2.2.2.2.2.1 s hs
  have hv := (R.2.2.2.2.2.2.2.1.1 s hs).2 j hj
  unfold M_X8_chance
  rw [c1 F, s_search_t F R20 ns4 hs, x_rtR, s_needCell_t hj, x_rtV, K_gr q.2.1, q1, K_rd q2 q3 (Or.inr (by omega)) hj (by decide), hv]
theorem kk_best (R : Rel h K g B nb nr ns np nsm d S) {s : Nat} (hs : s < ns) : M_X8_best (some 1) (nI s) (st h K mm) = rtI (nI (bst (fun c => g 46 (60 * s + c)) 59)) (st h K mm) := by
  have F := R.1.1
  have R20 := R.1.2.2.2.2.1
  have ns4 := R.1.2.1.2.2.1
  have q := row_se R20 hs
  obtain ⟨⟨q1, q2, q3, q4⟩, -⟩ := R.1.2.2.2.2.2.2.1 s hs
  have hv := (R.2.2.2.2.2.2.2.1.1 s hs).2
  unfold M_X8_best
  rw [c1 F, s_search_t F R20 ns4 hs, x_rtR, K_gr q.2.1, q1, s_bestOf q2 q3 (Or.inr (by omega)), x_rtI, bst_congr (r := K (ca h s)) (s := fun c => g 46 (60 * s + c)) (fun j hj => hv j (by omega))]
theorem kk_needMap {x y z : Nat} (hx : x < 60) (hy : y ≤ 1000) (hz : z ≤ 1000) {H : MH} : M_X8_needMap (nI x) (nI y) (nI z) H = rtV H := by
  unfold M_X8_needMap
  rw [s_needCell_t hx, x_rtV, s_needRange_t (show (0 : Int32) ≤ nI y ∧ nI y ≤ (1000 : Int32) from ⟨nI_pos' (by omega), nI_le (b := 1000) hy (by omega)⟩), x_rtV, s_needRange_t (show (0 : Int32) ≤ nI z ∧ nI z ≤ (1000 : Int32) from ⟨nI_pos' (by omega), nI_le (b := 1000) hz (by omega)⟩), x_rtV]
theorem kk_needSea (R : Rel h K g B nb nr ns np nsm d S) {c : Nat} (hc : c < 60) : M_X8_needSea (some 1) (nI c) (st h K mm) = if g 23 c = 0 then rtV (st h K mm) else some (.inr 3, exc (st h K mm)) := by
  have F := R.1.1
  unfold M_X8_needSea
  rw [r1_0 F, c2 F, s_isLand F hc, x_rtI, R.2.1.1.1]
  by_cases q : g 23 c = 0
  · rw [bI_f (fun z => z q), if_pos rfl, if_pos q]
  · rw [bI_t q, if_neg (by decide), if_neg q]
theorem kk_mean (R : Rel h K g B nb nr ns np nsm d S) {c y z : Nat} (hc : c < 60) (hy : y ≤ 1000) (hz : z ≤ 1000) : M_X8_mean (some 1) (nI c) (nI y) (nI z) (st h K mm) = if g 23 c = 0 ∧ wsm g nr c (nI y) (nI z) none nr ≠ 0 then rtI (mnv g nr c (nI y) (nI z) none) (st h K mm) else some (.inr 3, exc (st h K mm)) := by
  have F := R.1.1
  have h3 := s_meanW (mm := mm) R hc (nI y) (nI z) (wo := none) (fun q w => by cases w)
  rw [show (none : Option Nat).map (rd h) = none from rfl] at h3
  unfold M_X8_mean
  rw [kk_needMap hc hy hz, x_rtV, c1 F, kk_needSea R hc]
  by_cases q : g 23 c = 0
  · rw [if_pos q, x_rtV, c1 F, h3]
    by_cases q2 : wsm g nr c (nI y) (nI z) none nr = 0
    · rw [if_pos q2, if_neg (fun z => z.2 q2)]; rfl
    · rw [if_neg q2, if_pos ⟨q, q2⟩]; rfl
  · rw [if_neg q, if_neg (fun z => q z.1)]; rfl
theorem kk_error (R : Rel h K g B nb nr ns np nsm d S) {c y z : Nat} (hc : c < 60) (hy : y ≤ 1000) (hz : z ≤ 1000) : M_X8_error (some 1) (nI c) (nI y) (nI z) (st h K mm) = if g 23 c = 0 then rtI ((1000 : Int32) / (1 + wsm g nr c (nI y) (nI z) none nr)) (st h K mm) else some (.inr 3, exc (st h K mm)) := by
  have F := R.1.1
  have nr100 := R.1.2.1.2.1
  have hbd : K 14 2 = g 22 29 := R.2.2.1.2.2.2.2.2.2.1
  obtain ⟨s, hs, e⟩ := wsm_nI (m := g) (nr := nr) (d := nI y) (span := nI z) (wo := none) hc R.ce nr (Nat.le_refl _)
  have h3 := s_cWeights (mm := mm) F R.1.2.2.1 R.1.2.2.2.1 R.1.2.1.1 nr100 R.2.2.2.1 R.2.2.2.2.1 R.2.2.2.2.2.1 hbd hc (nI y) (nI z) (wo := none) (fun q w => by cases w)
  rw [show (none : Option Nat).map (rd h) = none from rfl] at h3
  have e1 : (1 : Int32) + nI s = nI (1 + s) := by rw [show (1 : Int32) = nI 1 from rfl, nI_add]
  have hne : ¬ nI (1 + s) = 0 := fun w => by have := (nI_eq (by omega) (by omega)).mp (show nI (1 + s) = nI 0 from w); omega
  unfold M_X8_error
  rw [kk_needMap hc hy hz, x_rtV, c1 F, kk_needSea R hc]
  by_cases q : g 23 c = 0
  · rw [if_pos q, if_pos q, x_rtV, r1_2 F, c14 F, h3, x_rtI, e, e1, x_bnd, if_neg (show ¬ nI (1 + s) ≤ 0 from nI_ge (a := 0) (by omega) (by omega)), q_dv hne]
  · rw [if_neg q, if_neg q]; rfl
theorem kk_residual (R : Rel h K g B nb nr ns np nsm d S) {r a z : Nat} (hr1 : r < nr) (ea : g 41 r = nI a) (ha : a < 60) (hz : z ≤ 1000) : M_X8_residual (some 1) (nI r) (nI z) (st h K mm) = if wsm g nr a (g 40 r) (nI z) (some r) nr = 0 then some (.inr 3, exc (st h K mm)) else rtI (cor g r - mnv g nr a (g 40 r) (nI z) (some r)) (st h K mm) := by
  have F := R.1.1
  have nb8 := R.1.2.1.1
  have nr100 := R.1.2.1.2.1
  have R13 := R.1.2.2.1
  have R15 := R.1.2.2.2.1
  have q := row_rd R15 hr1
  have hA : cA (rd h r) := Or.inr (by omega)
  obtain ⟨⟨x0, x1, x2, x3⟩, -, -⟩ := R.2.2.2.2.1 r hr1
  have h3 := s_meanW (mm := mm) R ha (g 40 r) (nI z) (wo := some r) (fun p w => by cases w; exact hr1)
  rw [show (some r).map (rd h) = some (rd h r) from rfl] at h3
  unfold M_X8_residual
  rw [c1 F, s_rdg_t F R15 nr100 hr1, x_rtR, s_needRange_t (show (0 : Int32) ≤ nI z ∧ nI z ≤ (1000 : Int32) from ⟨nI_pos' (by omega), nI_le (b := 1000) hz (by omega)⟩), x_rtV, K_ck q.2.1, s_cor R13 R15 nb8 R.2.2.2.1 R.2.2.2.2.1 hr1, x_rtI, K_gf q.2.1 hA, K_gf q.2.1 hA, x1, x0, ea, c1 F, h3]
  split <;> rfl
end
