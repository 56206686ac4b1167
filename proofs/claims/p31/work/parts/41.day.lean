/-! the sea, a day on: class and model -/
theorem tr_congr {c : Nat} {o : Option Nat} {t : Int32} {r s : Nat → Int32} {j : Nat} (h : r j = s j) : tr c o t r j = tr c o t s j := by
  rw [tr_d (r := r), tr_d (r := s), h]
theorem flw_congr {la cu A A' : Nat → Int32} {c : Nat} {r s : Nat → Int32} {j : Nat} (hA : A c = A' c) (h : r j = s j) : flw la cu A c r j = flw la cu A' c s j := by
  unfold flw; rw [hA]; exact tr_congr h
theorem fo_flw_congr {la cu A A' R R' : Nat → Int32} {n : Nat} (hn : n ≤ 60) (hA : ∀ c, c < 60 → A c = A' c) {j : Nat} (hR : R j = R' j) : fo (flw la cu A) R n j = fo (flw la cu A') R' n j := by
  induction n with
  | zero => exact hR
  | succ n ih => rw [fo_succ, fo_succ]; exact flw_congr (hA n (by omega)) (ih (by omega))
theorem Csea.flow {K m : Nat → Nat → Int32} (C : Csea K m) : Csea (flowK K) (flowM m) := by
  obtain ⟨⟨e1, e2, e3⟩, h1, h2, h3, h4, h5⟩ := C
  refine ⟨⟨?_, ?_, ?_⟩, ?_, ?_, ?_, ?_, ?_⟩
  · rw [flowK_o (by decide), flowM_o (by decide), e1]
  · rw [flowK_o (by decide), flowM_o (by decide), e2]
  · rw [flowK_o (by decide), flowM_o (by decide), e3]
  · intro j hj
    refine ⟨?_, ?_, ?_, ?_⟩
    · rw [flowK_4, flowM_26 (fun c hc hl => (h4 c hc hl).1) j hj, e1, e2]
      exact fo_flw_congr (Nat.le_refl _) (fun c hc => (h1 c hc).1) (h1 j hj).1
    · rw [flowK_o (by decide), flowM_26h _ (by omega)]; exact (h1 j hj).2.1
    · rw [flowK_5, flowM_27 (fun c hc hl => (h4 c hc hl).2.2.1) j hj, e1, e2]
      exact fo_flw_congr (Nat.le_refl _) (fun c hc => (h1 c hc).2.2.1) (h1 j hj).2.2.1
    · rw [flowK_o (by decide), flowM_27h _ (by omega)]; exact (h1 j hj).2.2.2
  · rw [flowK_o (by decide), flowM_o (by decide)]; exact h2
  · rw [flowK_o (by decide), flowM_o (by decide)]; exact h3
  · intro c hc hl
    rw [flowM_o (by decide)] at hl
    refine ⟨?_, ?_, ?_, ?_⟩
    · rw [flowM_26 (fun c hc hl => (h4 c hc hl).1) c hc, flw_land (fun c hc hl => (h4 c hc hl).1) (Nat.le_refl _) hl]; exact (h4 c hc hl).1
    · rw [flowM_26h _ (by omega)]; exact (h4 c hc hl).2.1
    · rw [flowM_27 (fun c hc hl => (h4 c hc hl).2.2.1) c hc, flw_land (fun c hc hl => (h4 c hc hl).2.2.1) (Nat.le_refl _) hl]; exact (h4 c hc hl).2.2.1
    · rw [flowM_27h _ (by omega)]; exact (h4 c hc hl).2.2.2
  · rw [flowM_o (by decide)]; exact h5
theorem fo_gft_congr {la su A A' : Nat → Int32} {g : Int32} {n : Nat} (hn : n ≤ 60) (hA : ∀ c, c < 60 → A c = A' c) : fo (gft la su A) g n = fo (gft la su A') g n := by
  refine fo_congr fun i hi t => ?_
  unfold gft; rw [hA i (by omega)]
def dayK (K : Nat → Nat → Int32) : Nat → Nat → Int32 := turnK (shineK K 60) 60
theorem dayK_o {K : Nat → Nat → Int32} {a : Nat} (h : a ∉ [2, 4, 5, 7, 8]) : dayK K a = K a := by
  simp only [List.mem_cons, List.not_mem_nil, or_false, not_or] at h
  unfold dayK turnK shineK
  simp [upw, h]
theorem dayK_2 {K : Nat → Nat → Int32} : dayK K 2 = upd (K 2) 4 (fo (gft (K 11) (K 10) (K 4)) (K 2 4) 60) := by
  unfold dayK turnK shineK
  simp [upw]
theorem sh4 {K : Nat → Nat → Int32} : shineK K 60 4 = ptw (wrm (K 11) (K 10) (K 4)) (K 4) 60 := by unfold shineK; simp [upw]
theorem sh_o {K : Nat → Nat → Int32} {a : Nat} (h : a ≠ 4 ∧ a ≠ 2) : shineK K 60 a = K a := by unfold shineK; simp [upw, h]
theorem dayK_r {K : Nat → Nat → Int32} {j : Nat} (hj : j < 60) : dayK K 4 j = tnA (wrm (K 11) (K 10) (K 4)) (K 7) (K 5) (K 8) j ∧ dayK K 7 j = tnB (wrm (K 11) (K 10) (K 4)) (K 7) (K 5) (K 8) j ∧ dayK K 5 j = tnS (wrm (K 11) (K 10) (K 4)) (K 7) (K 5) (K 8) j ∧ dayK K 8 j = tnT (wrm (K 11) (K 10) (K 4)) (K 7) (K 5) (K 8) j := by
  have h4 : shineK K 60 4 j = wrm (K 11) (K 10) (K 4) j := by rw [sh4]; exact if_pos hj
  unfold dayK turnK
  rw [sh_o (a := 5) (by decide), sh_o (a := 7) (by decide), sh_o (a := 8) (by decide)]
  refine ⟨?_, ?_, ?_, ?_⟩
  · simp only [upw, Nat.reduceEqDiff, if_true, if_false, ptw, if_pos hj, tnA, h4]
  · simp only [upw, Nat.reduceEqDiff, if_true, if_false, ptw, if_pos hj, tnB, h4]
  · simp only [upw, Nat.reduceEqDiff, if_true, if_false, ptw, if_pos hj, tnS, h4]
  · simp only [upw, Nat.reduceEqDiff, if_true, if_false, ptw, if_pos hj, tnT, h4]
theorem warmM_r {m : Nat → Nat → Int32} {j : Nat} (hj : j < 60) : warmM m 60 26 j = tnA (wr1 m) (hi6 (m 26)) (m 27) (hi6 (m 27)) j ∧ warmM m 60 26 (60 + j) = tnB (wr1 m) (hi6 (m 26)) (m 27) (hi6 (m 27)) j ∧ warmM m 60 27 j = tnS (wr1 m) (hi6 (m 26)) (m 27) (hi6 (m 27)) j ∧ warmM m 60 27 (60 + j) = tnT (wr1 m) (hi6 (m 26)) (m 27) (hi6 (m 27)) j := by
  have e1 : ¬ 60 + j < 60 := by omega
  have e2 : 60 ≤ 60 + j ∧ 60 + j < 60 + 60 := by omega
  have e3 : 60 + j - 60 = j := by omega
  unfold warmM
  refine ⟨?_, ?_, ?_, ?_⟩
  · simp only [upw, Nat.reduceEqDiff, if_true, if_false, pt2, if_pos hj]
  · simp only [upw, Nat.reduceEqDiff, if_true, if_false, pt2, if_neg e1, if_pos e2, e3]
  · simp only [upw, Nat.reduceEqDiff, if_true, if_false, pt2, if_pos hj]
  · simp only [upw, Nat.reduceEqDiff, if_true, if_false, pt2, if_neg e1, if_pos e2, e3]
theorem Csea.warm {K m : Nat → Nat → Int32} (C : Csea K m) : Csea (dayK K) (warmM m 60) := by
  obtain ⟨⟨e1, e2, e3⟩, h1, h2, h3, h4, h5⟩ := C
  refine ⟨⟨?_, ?_, ?_⟩, ?_, ?_, ?_, ?_, ?_⟩
  · rw [dayK_o (by decide), warmM_o (by decide), e1]
  · rw [dayK_o (by decide), warmM_o (by decide), e2]
  · rw [dayK_o (by decide), warmM_o (by decide), e3]
  · intro j hj
    obtain ⟨a1, a2, a3, a4⟩ := dayK_r (K := K) hj
    obtain ⟨b1, b2, b3, b4⟩ := warmM_r (m := m) hj
    obtain ⟨q1, q2, q3, q4⟩ := h1 j hj
    have hw : wrm (K 11) (K 10) (K 4) j = wr1 m j := by
      show _ = wrm _ _ _ j
      unfold wrm; rw [e1, e3, q1]
    rw [a1, a2, a3, a4, b1, b2, b3, b4]
    unfold tnA tnB tnS tnT hi6
    rw [hw, q2, q3, q4]
    exact ⟨rfl, rfl, rfl, rfl⟩
  · rw [dayK_2, warmM_22, upd_s, upd_s, e1, e3, h2]
    exact fo_gft_congr (Nat.le_refl _) (fun c hc => (h1 c hc).1)
  · rw [dayK_2, upd_o (by decide), warmM_o (by decide)]; exact h3
  · intro c hc hl
    rw [warmM_o (by decide)] at hl
    obtain ⟨b1, b2, b3, b4⟩ := warmM_r (m := m) hc
    obtain ⟨z1, z2, z3, z4⟩ := h4 c hc hl
    have ha : wr1 m c = 0 := by show wrm _ _ _ c = 0; unfold wrm; rw [if_neg hl, z1]
    have hcn : 5 * m 27 c - wr1 m c ≤ 5 * hi6 (m 27) c - hi6 (m 26) c := by
      unfold hi6; rw [ha, z2, z3, z4]; decide
    rw [b1, b2, b3, b4]
    unfold tnA tnB tnS tnT
    rw [if_pos hcn, if_pos hcn, if_pos hcn, if_pos hcn]
    exact ⟨ha, z2, z3, z4⟩
  · rw [warmM_o (by decide)]; exact h5
/-! ahead of the floats: the class's day -/
def K9 (K : Nat → Nat → Int32) : Nat → Nat → Int32 := upw K 1 (upd (K 1) 9 (K 1 9 + 1))
def dayA (K : Nat → Nat → Int32) : Nat → Nat → Int32 := dayK (flowK (K9 K))
theorem s_day1 {h : MH} {K m : Nat → Nat → Int32} (F : Fix h) (hcu : Cur (K 9)) : M_X8_passOneDay (some 1) (st h K m) = L_X8_passOneDay_41 fuel (some 1) (some 13) (nI 8) (nI 0) (st h (dayA K) m) := by
  unfold M_X8_passOneDay
  rw [g1 F, x_bnd, p1 F, r1_0 F, c2 F, show upw K 1 (upd (K 1) 9 (K 1 9 + 1)) = K9 K from rfl, s_flow F (by unfold K9; rw [upw_o (by decide)]; exact hcu), x_rtV, r1_0 F, c2 F, s_shine F, x_rtV, r1_0 F, c2 F, s_turnOver F, x_rtV, r1_1 F, a13 F]
  rfl
/-! the model's day, up to the floats -/
def m9 (m : Nat → Nat → Int32) : Nat → Nat → Int32 := upw m 22 (upd (m 22) 1 (m 22 1 + 1))
def dayM1 (m : Nat → Nat → Int32) : Nat → Nat → Int32 := warmM (flowM (m9 m)) 60
