/-! a float is asked -/
theorem s_ofFl {h : MH} {K m : Nat → Nat → Int32} {nr f w : Nat} (F : Fix h) (hm : m 22 23 = nI nr) (hn : nr ≤ 100) (hf : f < 8) (hw : w ≤ 4) : L_X9_ofFloat_44 fuel (some 22) (nI f) (nI w) 0 0 (st h K m) = rtI (if w = 0 then m 30 f else if w = 1 then m 32 f else if w = 2 then m 33 f else if w = 3 then m 35 f else cnt (m 43) (nI f) nr) (st h K m) := by
  have hG := zlp0 (G := fun n i => L_X9_ofFloat_44 n (some 22) (nI f) (nI w) (cnt (m 43) (nI f) i) (nI i) (st h K m)) (N := nr) (r := rtI (if w = 0 then m 30 f else if w = 1 then m 32 f else if w = 2 then m 33 f else if w = 3 then m 35 f else cnt (m 43) (nI f) nr) (st h K m)) (by have : fuel = 1000 := rfl; omega) ?_ ?_
  · exact hG
  · intro n i hi
    show B_X9_ofFloat_44 (L_X9_ofFloat_44 n) (some 22) (nI f) (nI w) (cnt (m 43) (nI f) i) (nI i) (st h K m) = L_X9_ofFloat_44 n (some 22) (nI f) (nI w) (cnt (m 43) (nI f) (i + 1)) (nI (i + 1)) (st h K m)
    unfold B_X9_ofFloat_44 B_X9_ofFloat_70
    rw [g22 F, hm, if_neg (nI_ge hi (by omega)), r22_27 F, d43 F (by omega), x_bnd, x_bnd, x_bnd, x_bnd, nIs]
    show _ = L_X9_ofFloat_44 n (some 22) (nI f) (nI w) (cnt (m 43) (nI f) i + (if m 43 i = nI f then 1 else 0)) (nI (i + 1)) (st h K m)
    by_cases q : m 43 i = nI f
    · rw [if_neg (fun z => z q), if_pos q]
    · rw [if_pos q, if_neg q]
  · intro n
    show B_X9_ofFloat_44 (L_X9_ofFloat_44 n) (some 22) (nI f) (nI w) (cnt (m 43) (nI f) nr) (nI nr) (st h K m) = _
    unfold B_X9_ofFloat_44
    rw [g22 F, hm, if_pos (nI_le (Nat.le_refl _) (by omega))]
    rcases (show w = 0 ∨ w = 1 ∨ w = 2 ∨ w = 3 ∨ w = 4 by omega) with rfl | rfl | rfl | rfl | rfl
    · rw [if_neg (fun z => z rfl), r22_11 F, d30 F hf]; rfl
    · rw [if_pos (by decide), if_neg (fun z => z rfl), r22_13 F, d32 F hf]; rfl
    · rw [if_pos (by decide), if_pos (by decide), if_neg (fun z => z rfl), r22_14 F, d33 F hf]; rfl
    · rw [if_pos (by decide), if_pos (by decide), if_pos (by decide), if_neg (fun z => z rfl), r22_16 F, d35 F hf]; rfl
    · rw [if_pos (by decide), if_pos (by decide), if_pos (by decide), if_pos (by decide)]; rfl
theorem op_ofFloat (x y : Int32) : OpR eLG (M_X8_ofFloat (some 1) x y) (M_X9_ofFloat (some 22) x y) := by
  intro B h K m I
  have F := I.F
  have I0 := I
  obtain ⟨nb, nr, ns, np, nsm, nst, d, R, L⟩ := I
  have nb8 := R.1.2.1.1
  have nr100 := R.1.2.1.2.1
  have R13 := R.1.2.2.1
  have hm10 : m 22 10 = nI nb := R.2.2.1.1.2
  have hm23 : m 22 23 = nI nr := R.2.2.1.2.2.2.1.2
  by_cases hx : ∃ j, j < nb ∧ x = nI j
  · have hx2 := (idx_iff (by omega)).mpr hx
    obtain ⟨f, hf, rfl⟩ := hx
    have q := row_bu R13 hf
    have hA : cA (bu h f) := Or.inr (by omega)
    obtain ⟨⟨b0, b1, b2, b3, b4, b5, b6, b7⟩, -⟩ := R.2.2.2.1.1 f hf
    by_cases hy : (0 : Int32) ≤ y ∧ y ≤ (4 : Int32)
    · obtain ⟨w, hw, rfl⟩ := nI_rng (x := y) (n := 4) (by decide) hy.1 hy.2
      refine OpR_v I0 (if w = 0 then m 30 f else if w = 1 then m 32 f else if w = 2 then m 33 f else if w = 3 then m 35 f else cnt (m 43) (nI f) nr) ?_ (fun h' F' => ?_)
      · unfold M_X8_ofFloat
        rw [c1 F, s_buoy_t F R13 nb8 hf, x_rtR, s_needRange_t hy, x_rtV]
        rcases (show w = 0 ∨ w = 1 ∨ w = 2 ∨ w = 3 ∨ w = 4 by omega) with rfl | rfl | rfl | rfl | rfl
        · rw [if_neg (by decide), if_pos (by decide), K_gf q.2.1 hA, b3]; rfl
        · rw [if_neg (by decide), if_neg (by decide), if_pos (by decide), K_gf q.2.1 hA, b4]; rfl
        · rw [if_neg (by decide), if_neg (by decide), if_neg (by decide), if_pos (by decide), K_gf q.2.1 hA, b5]; rfl
        · rw [if_neg (by decide), if_neg (by decide), if_neg (by decide), if_neg (by decide), if_pos (by decide), K_gf q.2.1 hA, b6]; rfl
        · rw [if_neg (by decide), if_neg (by decide), if_neg (by decide), if_neg (by decide), if_neg (by decide), K_gf q.2.1 hA, b7]; rfl
      · unfold M_X9_ofFloat B_X9_ofFloat_27
        have := s_ofFl (K := K) (m := thM m 0) (nr := nr) (f := f) (w := w) F' (by rw [thM_22 (by decide)]; exact hm23) nr100 (by omega) hw
        simp only [thM_o (m := m) (t := 0) (show (30 : Nat) ≠ 22 by decide), thM_o (m := m) (t := 0) (show (32 : Nat) ≠ 22 by decide), thM_o (m := m) (t := 0) (show (33 : Nat) ≠ 22 by decide), thM_o (m := m) (t := 0) (show (35 : Nat) ≠ 22 by decide), thM_o (m := m) (t := 0) (show (43 : Nat) ≠ 22 by decide)] at this
        rw [c22 F', s_isFloat F' hm10, x_rtI, bI_t hx2, if_pos (by decide), s_in, x_rtI, bI_t hy, if_pos (by decide), p22 F', thM_eq, g22 F', thM_0, if_pos (by decide)]
        exact this
    · refine OpR_t I0 2 2 (by decide) rfl ?_ (fun h' F' => ?_)
      · unfold M_X8_ofFloat
        rw [c1 F, s_buoy_t F R13 nb8 hf, x_rtR, s_needRange_f hy, x_thr]
      · unfold M_X9_ofFloat B_X9_ofFloat_27
        rw [c22 F', s_isFloat F' hm10, x_rtI, bI_t hx2, if_pos (by decide), s_in, x_rtI, bI_f hy, if_neg (fun z => z rfl), p22 F', thM_eq, g22 F', thM_0, if_neg (by decide)]
  · have hx2 : ¬ (0 ≤ x ∧ x ≤ nI nb - 1) := fun z => hx ((idx_iff (by omega)).mp z)
    refine OpR_t I0 1 1 (by decide) rfl ?_ (fun h' F' => ?_)
    · unfold M_X8_ofFloat
      rw [c1 F, s_buoy_f F R13 hx, x_thrR]
    · unfold M_X9_ofFloat B_X9_ofFloat_27
      rw [c22 F', s_isFloat F' hm10, x_rtI, bI_f hx2, if_neg (fun z => z rfl), p22 F', thM_eq, g22 F', thM_0, if_neg (by decide)]
