/-! a cell is made land -/
theorem lsum_upd {la : Nat → Int32} {c : Nat} (h0 : la c = 0) : ∀ n, lsum (upd la c 1) n = lsum la n + (if c < n then 1 else 0) := by
  intro n
  induction n with
  | zero => rfl
  | succ n ih =>
    show lsum (upd la c 1) n + (if upd la c 1 n = 0 then 0 else 1) = (lsum la n + (if la n = 0 then 0 else 1)) + _
    rw [ih]
    by_cases q : n = c
    · rw [q, upd_s, h0, if_neg (Nat.lt_irrefl c), if_neg (by decide), if_pos rfl, if_pos (show c < c + 1 by omega), Int32.add_zero]
    · rw [upd_o q]
      by_cases q2 : c < n
      · rw [if_pos q2, if_pos (show c < n + 1 by omega), Int32.add_assoc, Int32.add_assoc, Int32.add_comm 1]
      · rw [if_neg q2, if_neg (show ¬ c < n + 1 by omega), Int32.add_zero, Int32.add_zero]
def landK (K : Nat → Nat → Int32) (c : Nat) : Nat → Nat → Int32 := upw (upw (upw (upw (upw (upw K 11 (upd (K 11) c 1)) 2 (upd (K 2) 7 (K 2 7 + 1))) 4 (upd (K 4) c 0)) 5 (upd (K 5) c 0)) 7 (upd (K 7) c 0)) 8 (upd (K 8) c 0)
def landM (m : Nat → Nat → Int32) (c : Nat) : Nat → Nat → Int32 := upw (upw (upw (thM m 0) 23 (upd (m 23) c 1)) 26 (upd (upd (m 26) c 0) (60 + c) 0)) 27 (upd (upd (m 27) c 0) (60 + c) 0)
theorem s_empty3 {h : MH} {K m : Nat → Nat → Int32} {c : Nat} (F : Fix h) (hc : c < 60) : M_X1_emptyAt (some 3) (nI c) (st h K m) = rtV (st h (upw (upw K 4 (upd (K 4) c 0)) 5 (upd (K 5) c 0)) m) := by
  unfold M_X1_emptyAt
  rw [s_isCell_t hc, x_rtI, if_neg (by decide), r3_0 F, w4 F hc, r3_1 F, w5 F hc, upw_o (show (5 : Nat) ≠ 4 by decide)]
theorem s_empty6 {h : MH} {K m : Nat → Nat → Int32} {c : Nat} (F : Fix h) (hc : c < 60) : M_X1_emptyAt (some 6) (nI c) (st h K m) = rtV (st h (upw (upw K 7 (upd (K 7) c 0)) 8 (upd (K 8) c 0)) m) := by
  unfold M_X1_emptyAt
  rw [s_isCell_t hc, x_rtI, if_neg (by decide), r6_0 F, w7 F hc, r6_1 F, w8 F hc, upw_o (show (8 : Nat) ≠ 7 by decide)]
theorem s_makeLand {h : MH} {K m : Nat → Nat → Int32} {c : Nat} (F : Fix h) (hc : c < 60) (h0 : K 11 c = 0) : M_X5_makeLand (some 2) (nI c) (st h K m) = rtI (K 2 7 + 1) (st h (landK K c) m) := by
  unfold M_X5_makeLand
  rw [s_isCell_t hc, x_rtI, if_neg (by decide), r2_5 F, d11 F hc, h0, if_neg (fun z => z rfl), r2_5 F, w11 F hc (Or.inr rfl), g2 F, x_bnd, p2 F, r2_0 F, c3 F, s_empty3 F hc, x_rtV, r2_1 F, c6 F, s_empty6 F hc, x_rtV, g2 F]
  simp only [upw_at, Nat.reduceEqDiff, if_true, if_false, upd_s]
  rfl
theorem landed {h : MH} {K m : Nat → Nat → Int32} {B nb nr ns np nsm d c : Nat} {S : STy} (R : Rel h K m B nb nr ns np nsm d S) (hc : c < 60) (h0 : m 23 c = 0) : Rel h (landK K c) (landM m c) B nb nr ns np nsm d S := by
  have C := R.2.1
  refine R.seaX (K1 := landK K c) (m1 := landM m c) (fun a ha => ?_) (fun a ha => ?_) (fun j hj => ?_) ?_
  · simp at ha
    unfold landK
    rw [upw_o (by omega), upw_o (by omega), upw_o (by omega), upw_o (by omega), upw_o (by omega), upw_o (by omega)]
  · simp at ha
    unfold landM
    rw [upw_o (by omega), upw_o (by omega), upw_o (by omega), thM_o (by omega)]
  · simp at hj
    unfold landM
    rw [upw_o (by decide), upw_o (by decide), upw_o (by decide), thM_22 (by omega)]
  · obtain ⟨⟨c1, c2, c3⟩, c4, c5, c6, c7, c8⟩ := C
    have k11 : landK K c 11 = upd (K 11) c 1 := by unfold landK; simp [upw]
    have k9 : landK K c 9 = K 9 := by unfold landK; simp [upw]
    have k10 : landK K c 10 = K 10 := by unfold landK; simp [upw]
    have k4 : landK K c 4 = upd (K 4) c 0 := by unfold landK; simp [upw]
    have k5 : landK K c 5 = upd (K 5) c 0 := by unfold landK; simp [upw]
    have k7 : landK K c 7 = upd (K 7) c 0 := by unfold landK; simp [upw]
    have k8 : landK K c 8 = upd (K 8) c 0 := by unfold landK; simp [upw]
    have k2 : landK K c 2 = upd (K 2) 7 (K 2 7 + 1) := by unfold landK; simp [upw]
    have m23 : landM m c 23 = upd (m 23) c 1 := by unfold landM; simp [upw]
    have m24 : landM m c 24 = m 24 := by unfold landM thM; simp [upw]
    have m25 : landM m c 25 = m 25 := by unfold landM thM; simp [upw]
    have m26 : landM m c 26 = upd (upd (m 26) c 0) (60 + c) 0 := by unfold landM; simp [upw]
    have m27 : landM m c 27 = upd (upd (m 27) c 0) (60 + c) 0 := by unfold landM; simp [upw]
    have m22 : landM m c 22 2 = m 22 2 := by unfold landM; rw [upw_o (by decide), upw_o (by decide), upw_o (by decide), thM_22 (by decide)]
    unfold Csea
    rw [k11, k9, k10, k4, k5, k7, k8, k2, m23, m24, m25, m26, m27, m22]
    refine ⟨⟨by rw [c1], c2, c3⟩, fun j hj => ?_, ?_, ?_, fun j hj hne => ?_, c8⟩
    · obtain ⟨q1, q2, q3, q4⟩ := c4 j hj
      by_cases q : j = c
      · subst q
        rw [upd_s, upd_s, upd_s, upd_s, upd_s, upd_s, upd_o (show j ≠ 60 + j by omega), upd_o (show j ≠ 60 + j by omega), upd_s, upd_s]
        exact ⟨rfl, rfl, rfl, rfl⟩
      · rw [upd_o q, upd_o q, upd_o q, upd_o q, upd_o (show j ≠ 60 + c by omega), upd_o (show j ≠ 60 + c by omega), upd_o q, upd_o q, upd_o (show 60 + j ≠ 60 + c by omega), upd_o (show 60 + j ≠ 60 + c by omega), upd_o (show 60 + j ≠ c by omega), upd_o (show 60 + j ≠ c by omega)]
        exact ⟨q1, q2, q3, q4⟩
    · rw [upd_o (by decide)]; exact c5
    · rw [upd_s, c6, lsum_upd h0, if_pos hc]
    · by_cases q : j = c
      · subst q
        rw [upd_s, upd_s, upd_o (show j ≠ 60 + j by omega), upd_o (show j ≠ 60 + j by omega), upd_s, upd_s]
        exact ⟨rfl, rfl, rfl, rfl⟩
      · rw [upd_o q] at hne
        rw [upd_o (show j ≠ 60 + c by omega), upd_o (show j ≠ 60 + c by omega), upd_o q, upd_o q, upd_o (show 60 + j ≠ 60 + c by omega), upd_o (show 60 + j ≠ 60 + c by omega), upd_o (show 60 + j ≠ c by omega), upd_o (show 60 + j ≠ c by omega)]
        exact c7 j hj hne
