/-! a cell is made land -/
theorem lsum_upd {la : Nat → Int32} {c : Nat} (h0 : la c = 0) : ∀ n, lsum (upd la c 1) n = lsum la n + (if c < n then 1 else 0) := by
  intro n
  induction n with
  | zero => rfl
  | succ n ih =>
    show lsum (upd la c 1) n + (if upd la c 1 n = 0 then 0 else 1) = (lsum la n + (if la n = 0 then 0 else 1)) + _
    rw [ih]
    by_cases q : n = c
    · rw [q, upd_s, h0, if_neg (Nat.lt_irrefl c), if_neg (by decide), if_pos rfl, if_pos (show c < c + 1 by omega), Int32.add_zero]
    · rw [upd_o q]
      by_cases q2 : c < n
      · rw [if_pos q2, if_pos (show c < n + 1 by omega), Int32.add_assoc, Int32.add_assoc, Int32.add_comm 1]
      · rw [if_neg q2, if_neg (show ¬ c < n + 1 by omega), Int32.add_zero, Int32.add_zero]
def landK (K : Nat → Nat → Int32) (c : Nat) : Nat → Nat → Int32 := upw (upw (upw (upw (upw (upw K 11 (upd (K 11) c 1)) 2 (upd (K 2) 7 (K 2 7 + 1))) 4 (upd (K 4) c 0)) 5 (upd (K 5) c 0)) 7 (upd (K 7) c 0)) 8 (upd (K 8) c 0)
def landM (m : Nat → Nat → Int32) (c : Nat) : Nat → Nat → Int32 := upw (upw (upw (thM m 0) 23 (upd (m 23) c 1)) 26 (upd (upd (m 26) c 0) (60 + c) 0)) 27 (upd (upd (m 27) c 0) (60 + c) 0)
theorem s_empty3 {h : MH} {K m : Nat → Nat → Int32} {c : Nat} (F : Fix h) (hc : c < 60) : M_X1_emptyAt (some 3) (nI c) (st h K m) = rtV (st h (upw (upw K 4 (upd (K 4) c 0)) 5 (upd (K 5) c 0)) m) := by
  unfold M_X1_emptyAt
  rw [s_isCell_t hc, x_rtI, if_neg (by decide), r3_0 F, w4 F hc, r3_1 F, w5 F hc, upw_o (show (5 : Nat) ≠ 4 by decide)]
theorem s_empty6 {h : MH} {K m : Nat → Nat → Int32} {c : Nat} (F : Fix h) (hc : c < 60) : M_X1_emptyAt (some 6) (nI c) (st h K m) = rtV (st h (upw (upw K 7 (upd (K 7) c 0)) 8 (upd (K 8) c 0)) m) := by
  unfold M_X1_emptyAt
  rw [s_isCell_t hc, x_rtI, if_neg (by decide), r6_0 F, w7 F hc, r6_1 F, w8 F hc, upw_o (show (8 : Nat) ≠ 7 by decide)]
theorem s_makeLand {h : MH} {K m : Nat → Nat → Int32} {c : Nat} (F : Fix h) (hc : c < 60) (h0 : K 11 c = 0) : M_X5_makeLand (some 2) (nI c) (st h K m) = rtI (K 2 7 + 1) (st h (landK K c) m) := by
  unfold M_X5_makeLand
  rw [s_isCell_t hc, x_rtI, if_neg (by decide), r2_5 F, d11 F hc, h0, if_neg (fun z => z rfl), r2_5 F, w11 F hc (Or.inr rfl), g2 F, x_bnd, p2 F, r2_0 F, c3 F, s_empty3 F hc, x_rtV, r2_1 F, c6 F, s_empty6 F hc, x_rtV, g2 F]
  simp only [upw_at, Nat.reduceEqDiff, if_true, if_false, upd_s]
  rfl
theorem s_land212 {h : MH} {K m : Nat → Nat → Int32} (F : Fix h) : L_X9_land_212 fuel (some 22) 0 0 (st h K m) = rtI (lsum (m 23) 60) (st h K m) := by
  have hG := zlp0 (G := fun n i => L_X9_land_212 n (some 22) (lsum (m 23) i) (nI i) (st h K m)) (N := 60) (r := rtI (lsum (m 23) 60) (st h K m)) (by decide) ?_ ?_
  · exact hG
  · intro n i hi
    show B_X9_land_212 (L_X9_land_212 n) (some 22) (lsum (m 23) i) (nI i) (st h K m) = L_X9_land_212 n (some 22) (lsum (m 23) i + (if m 23 i = 0 then 0 else 1)) (nI (i + 1)) (st h K m)
    unfold B_X9_land_212 B_X9_land_235
    rw [if_neg (show ¬ (60 : Int32) ≤ nI i from nI_ge (b := 60) hi (by decide)), r22_3 F, d23 F hi]
    simp only [x_bnd, nIs]
    by_cases q : m 23 i = 0
    · rw [if_pos q, if_pos q]
    · rw [if_neg q, if_neg q]
  · intro n
    show B_X9_land_212 (L_X9_land_212 n) (some 22) (lsum (m 23) 60) (nI 60) (st h K m) = _
    unfold B_X9_land_212
    rw [if_pos (show (60 : Int32) ≤ nI 60 from nI_le (Nat.le_refl 60) (by decide))]
theorem s_land154n {h : MH} {K m : Nat → Nat → Int32} (F : Fix h) {c : Int32} : B_X9_land_154 (some 22) c (some 22) 2 (st h K m) = rtI 0 (st h K (thM m 2)) := by
  unfold B_X9_land_154
  rw [p22 F, thM_eq, g22 F, thM_0, if_neg (by decide)]
theorem s_land154y {h : MH} {K m : Nat → Nat → Int32} {c : Nat} (F : Fix h) (hc : c < 60) : B_X9_land_154 (some 22) (nI c) (some 22) 0 (st h K m) = rtI (lsum (upd (m 23) c 1) 60) (st h K (landM m c)) := by
  unfold B_X9_land_154
  rw [p22 F, thM_eq, g22 F, thM_0, if_pos (by decide), r22_3 F, w23 F hc (Or.inr rfl), r22_6 F, w26 F (by omega), r22_6 F, show (60 : Int32) + nI c = nI (60 + c) by rw [show (60 : Int32) = nI 60 from rfl, nI_add], x_bnd, w26 F (by omega), r22_7 F, w27 F (by omega), r22_7 F, x_bnd, w27 F (by omega), s_land212 F]
  simp only [upw_at, Nat.reduceEqDiff, if_true, if_false, upw_w, thM_o (m := m) (t := 0) (show (23 : Nat) ≠ 22 by decide), thM_o (m := m) (t := 0) (show (26 : Nat) ≠ 22 by decide), thM_o (m := m) (t := 0) (show (27 : Nat) ≠ 22 by decide)]
  rfl
theorem landed {h : MH} {K m : Nat → Nat → Int32} {B nb nr ns np nsm d c : Nat} {S : STy} (R : Rel h K m B nb nr ns np nsm d S) (hc : c < 60) (h0 : m 23 c = 0) : Rel h (landK K c) (landM m c) B nb nr ns np nsm d S := by
  have C := R.2.1
  refine R.seaX (K1 := landK K c) (m1 := landM m c) (fun a ha => ?_) (fun a ha => ?_) (fun j hj => ?_) ?_
  · simp at ha
    unfold landK
    rw [upw_o (by omega), upw_o (by omega), upw_o (by omega), upw_o (by omega), upw_o (by omega), upw_o (by omega)]
  · simp at ha
    unfold landM
    rw [upw_o (by omega), upw_o (by omega), upw_o (by omega), thM_o (by omega)]
  · simp at hj
    unfold landM
    rw [upw_o (by decide), upw_o (by decide), upw_o (by decide), thM_22 (by omega)]
  · obtain ⟨⟨c1, c2, c3⟩, c4, c5, c6, c7, c8⟩ := C
    have k11 : landK K c 11 = upd (K 11) c 1 := by unfold landK; simp [upw]
    have k9 : landK K c 9 = K 9 := by unfold landK; simp [upw]
    have k10 : landK K c 10 = K 10 := by unfold landK; simp [upw]
    have k4 : landK K c 4 = upd (K 4) c 0 := by unfold landK; simp [upw]
    have k5 : landK K c 5 = upd (K 5) c 0 := by unfold landK; simp [upw]
    have k7 : landK K c 7 = upd (K 7) c 0 := by unfold landK; simp [upw]
    have k8 : landK K c 8 = upd (K 8) c 0 := by unfold landK; simp [upw]
    have k2 : landK K c 2 = upd (K 2) 7 (K 2 7 + 1) := by unfold landK; simp [upw]
    have m23 : landM m c 23 = upd (m 23) c 1 := by unfold landM; simp [upw]
    have m24 : landM m c 24 = m 24 := by unfold landM thM; simp [upw]
    have m25 : landM m c 25 = m 25 := by unfold landM thM; simp [upw]
    have m26 : landM m c 26 = upd (upd (m 26) c 0) (60 + c) 0 := by unfold landM; simp [upw]
    have m27 : landM m c 27 = upd (upd (m 27) c 0) (60 + c) 0 := by unfold landM; simp [upw]
    have m22 : landM m c 22 2 = m 22 2 := by unfold landM; rw [upw_o (by decide), upw_o (by decide), upw_o (by decide), thM_22 (by decide)]
    unfold Csea
    rw [k11, k9, k10, k4, k5, k7, k8, k2, m23, m24, m25, m26, m27, m22]
    refine ⟨⟨by rw [c1], c2, c3⟩, fun j hj => ?_, ?_, ?_, fun j hj hne => ?_, c8⟩
    · obtain ⟨q1, q2, q3, q4⟩ := c4 j hj
      by_cases q : j = c
      · subst q
        rw [upd_s, upd_s, upd_s, upd_s, upd_s, upd_s, upd_o (show j ≠ 60 + j by omega), upd_o (show j ≠ 60 + j by omega), upd_s, upd_s]
        exact ⟨rfl, rfl, rfl, rfl⟩
      · rw [upd_o q, upd_o q, upd_o q, upd_o q, upd_o (show j ≠ 60 + c by omega), upd_o (show j ≠ 60 + c by omega), upd_o q, upd_o q, upd_o (show 60 + j ≠ 60 + c by omega), upd_o (show 60 + j ≠ 60 + c by omega), upd_o (show 60 + j ≠ c by omega), upd_o (show 60 + j ≠ c by omega)]
        exact ⟨q1, q2, q3, q4⟩
    · rw [upd_o (by decide)]; exact c5
    · rw [upd_s, c6, lsum_upd h0, if_pos hc]
    · by_cases q : j = c
      · subst q
        rw [upd_s, upd_s, upd_o (show j ≠ 60 + j by omega), upd_o (show j ≠ 60 + j by omega), upd_s, upd_s]
        exact ⟨rfl, rfl, rfl, rfl⟩
      · rw [upd_o q] at hne
        rw [upd_o (show j ≠ 60 + c by omega), upd_o (show j ≠ 60 + c by omega), upd_o q, upd_o q, upd_o (show 60 + j ≠ 60 + c by omega), upd_o (show 60 + j ≠ 60 + c by omega), upd_o (show 60 + j ≠ c by omega), upd_o (show 60 + j ≠ c by omega)]
        exact c7 j hj hne
theorem op_land (x : Int32) : OpR (fun q => if q = 1 then some 1 else if q = 3 then some 2 else none) (M_X8_land (some 1) x) (M_X9_land (some 22) x) := by
  intro B h K m I
  have F := I.F
  have I0 := I
  obtain ⟨nb, nr, ns, np, nsm, nst, d, R, L⟩ := I
  have hN := R.1.2.1
  have hb := R.2.2.1.1.2
  have hs := R.2.2.1.2.1.2
  have hd9 := R.2.2.1.2.2.2.2.2.1
  have hd1 : d ≤ 1000 := R.2.2.1.2.2.2.2.2.2.2.1
  have CS := R.2.2.2.2.2.2.1
  obtain ⟨⟨s1, s2, s3⟩, -, cd, sd, sc, s4, s5, s6⟩ := CS
  rcases cell_or x with hx | ⟨c, hc, rfl⟩
  · refine OpR_t I0 1 1 (by decide) rfl ?_ (fun h' F' => ?_)
    · unfold M_X8_land
      rw [s_needCell_f hx, x_thr]
    · unfold M_X9_land
      rw [s_mCell_f hx, x_rtI, if_neg (fun z => z rfl), p22 F', thM_eq]
  · have hin : anB (fun i => cd i % 60 = c) nst = anB (fun k => m 37 k = nI c) nst := by
      rw [Bool.eq_iff_iff, anB_iff, anB_iff]
      constructor
      · rintro ⟨i, hi, e⟩
        have hm : cd i ∈ (List.range nst).map fun k => sd k * 60 + sc k := s6.mem_iff.mp (List.mem_map.mpr ⟨i, List.mem_range.mpr hi, rfl⟩)
        obtain ⟨k, hk1, e2⟩ := List.mem_map.mp hm
        have hk2 := List.mem_range.mp hk1
        have q := s4 k hk2
        refine ⟨k, hk2, ?_⟩
        rw [q.2.2.1]
        congr 1
        have := q.2.2.2.1
        omega
      · rintro ⟨k, hk1, e⟩
        have q := s4 k hk1
        have hm : sd k * 60 + sc k ∈ (List.range nst).map cd := s6.mem_iff.mpr (List.mem_map.mpr ⟨k, List.mem_range.mpr hk1, rfl⟩)
        obtain ⟨i, hi, e2⟩ := List.mem_map.mp hm
        refine ⟨i, List.mem_range.mp hi, ?_⟩
        have h3 := q.2.2.2.1
        rw [q.2.2.1, nI_inj (by omega) (by omega)] at e
        omega
    have hcd : ∀ i, i < nst → K 17 i = nI (cd i) ∧ cd i < 100000 := by
      intro i hi
      refine ⟨(s4 i hi).1, ?_⟩
      have hm : cd i ∈ (List.range nst).map fun k => sd k * 60 + sc k := s6.mem_iff.mp (List.mem_map.mpr ⟨i, List.mem_range.mpr hi, rfl⟩)
      obtain ⟨k, hk1, e2⟩ := List.mem_map.mp hm
      have q := s4 k (List.mem_range.mp hk1)
      omega
    obtain ⟨T, hT⟩ : ∃ T, T = (anB (fun k => m 30 k = nI c) nb || (anB (fun s => m 45 s = nI c) ns || anB (fun i => cd i % 60 = c) nst)) := ⟨_, rfl⟩
    have hMo : ∀ h' K', Fix h' → M_X9_land (some 22) (nI c) (st h' K' m) = B_X9_land_154 (some 22) (nI c) (some 22) (if ((decide (m 23 c = 0) && decide (d = 0)) && !T) = true then 0 else 2) (st h' K' m) := by
      intro h' K' F'
      have h34 : ∀ a : Bool, L_X9_land_38 fuel (some 22) (nI c) (zI a) 0 (st h' K' m) = B_X9_land_154 (some 22) (nI c) (some 22) (if (a && !T) = true then 0 else 2) (st h' K' m) := by
        intro a
        rw [s_land38 F' hb hN.1, s_land74 F' s2 (by omega), s_land110 F' hs hN.2.2.1, hT, hin]
        have : (((a && !anB (fun k => m 30 k = nI c) nb) && !anB (fun k => m 37 k = nI c) nst) && !anB (fun k => m 45 k = nI c) ns) = (a && !(anB (fun k => m 30 k = nI c) nb || (anB (fun s => m 45 s = nI c) ns || anB (fun k => m 37 k = nI c) nst))) := by
          cases a <;> cases anB (fun k => m 30 k = nI c) nb <;> cases anB (fun k => m 37 k = nI c) nst <;> cases anB (fun k => m 45 k = nI c) ns <;> rfl
        rw [this]
      unfold M_X9_land B_X9_land_34 B_X9_land_35
      rw [s_mCell_t hc, x_rtI, if_pos (by decide), r22_3 F', d23 F' hc, g22 F', hd9.2]
      by_cases q1 : m 23 c = 0
      · rw [if_neg (fun z => z q1), decide_eq_true q1]
        by_cases q2 : d = 0
        · rw [q2, if_neg (fun z => z rfl), decide_eq_true rfl]
          exact h34 true
        · rw [if_pos (show nI d ≠ 0 from fun z => q2 ((nI_eq (by omega) (by omega)).mp (show nI d = nI 0 from z))), decide_eq_false q2]
          exact h34 false
      · rw [if_pos q1, decide_eq_false q1]
        exact h34 false
    have hCl : M_X8_land (some 1) (nI c) (st h K m) = if nI d ≠ 0 then some (.inr 3, exc (st h K m)) else if m 23 c ≠ 0 then some (.inr 3, exc (st h K m)) else if zI T = 0 then (calI (M_X5_makeLand (some 2) (nI c) (st h K m)) fun z9 h10 => rtI z9 h10) else some (.inr 3, exc (st h K m)) := by
      unfold M_X8_land
      rw [s_needCell_t hc, x_rtV, g1 F, hd9.1, r1_0 F, c2 F, s_isLand F hc, x_rtI, c1 F, s_isTaken (m := m) F R.1.2.2.1 R.1.2.2.2.2.1 hN.1 hN.2.2.1 (fun k hk1 => (R.2.2.2.1.1 k hk1).1.2.2.2.1) (fun s hs => (R.2.2.2.2.2.2.2.1.1 s hs).1) s1 s3 hcd hc, x_rtI, ← hT, r1_0 F, c2 F, R.2.1.1.1]
      by_cases q1 : m 23 c = 0
      · rw [bI_f (fun z => z q1), if_neg (show ¬ (0 : Int32) ≠ 0 from fun z => z rfl), if_neg (show ¬ m 23 c ≠ 0 from fun z => z q1)]
      · rw [bI_t q1, if_pos (show (1 : Int32) ≠ 0 by decide), if_pos (show m 23 c ≠ 0 from q1)]
    have thr : (d = 0 → m 23 c = 0 → T = true) → ∃ (t v b : Int32) (h1 : MH) (K1 m1 : Nat → Nat → Int32), ((t = 0 ∧ b = v ∧ M_X8_land (some 1) (nI c) (st h K m) = rtI v (st h1 K1 m)) ∨ (t ≠ 0 ∧ ∃ x, (fun q => if q = 1 then some 1 else if q = 3 then some 2 else none : Nat → Option Int32) x = some t ∧ M_X8_land (some 1) (nI c) (st h K m) = some (.inr x, st h1 K1 m))) ∧ (∀ h', Fix h' → M_X9_land (some 22) (nI c) (st h' K1 m) = rtI b (st h' K1 m1)) ∧ m1 22 0 = t ∧ Inv (B + 1) h1 K1 m1 := by
      intro hno
      refine OpR_t I0 3 2 (by decide) rfl ?_ (fun h' F' => ?_)
      · rw [hCl]
        by_cases q2 : d = 0
        · rw [q2, if_neg (show ¬ nI 0 ≠ 0 from fun z => z rfl)]
          by_cases q1 : m 23 c = 0
          · rw [if_neg (show ¬ m 23 c ≠ 0 from fun z => z q1), hno q2 q1, zI_t, if_neg (by decide)]
          · rw [if_pos q1]
        · rw [if_pos (show nI d ≠ 0 from fun z => q2 ((nI_eq (by omega) (by omega)).mp (show nI d = nI 0 from z)))]
      · rw [hMo h' K F', if_neg, s_land154n F']
        intro z
        rw [Bool.and_eq_true, Bool.and_eq_true, decide_eq_true_iff, decide_eq_true_iff] at z
        rw [hno z.1.2 z.1.1] at z
        exact absurd z.2 (by decide)
    by_cases q2 : d = 0
    · by_cases q1 : m 23 c = 0
      · cases q3 : T with
        | true => exact thr (fun _ _ => q3)
        | false =>
          have R1 := landed R hc q1
          have hk27 : K 2 7 = lsum (m 23) 60 := R.2.1.2.2.2.1
          refine ⟨0, K 2 7 + 1, lsum (upd (m 23) c 1) 60, h, landK K c, landM m c, Or.inl ⟨rfl, ?_, ?_⟩, fun h' F' => ?_, ?_, nb, nr, ns, np, nsm, nst, d, R1.up, fun k hk1 h1 => ?_⟩
          · rw [hk27, lsum_upd q1, if_pos hc]
          · rw [hCl, q2, if_neg (show ¬ nI 0 ≠ 0 from fun z => z rfl), if_neg (show ¬ m 23 c ≠ 0 from fun z => z q1), q3, zI_f, if_pos rfl, s_makeLand F hc (by rw [R.2.1.1.1]; exact q1), x_rtI]
          · rw [hMo h' _ F', decide_eq_true q1, decide_eq_true q2, q3, if_pos (show (true && true && !false) = true from rfl), s_land154y F' hc]
          · unfold landM
            rw [upw_o (by decide), upw_o (by decide), upw_o (by decide), thM_0]
          · have e1 : landM m c 33 = m 33 := by unfold landM; rw [upw_o (by decide), upw_o (by decide), upw_o (by decide), thM_o (by decide)]
            have e2 : landM m c 32 = m 32 := by unfold landM; rw [upw_o (by decide), upw_o (by decide), upw_o (by decide), thM_o (by decide)]
            rw [e1] at h1
            rw [e2]
            exact L k hk1 h1
      · exact thr (fun _ z => absurd z q1)
    · exact thr (fun z _ => absurd z q2)
