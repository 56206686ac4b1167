/-! the row of counts, by its places -/
theorem rq0 {h : MH} {K M : Nat → Nat → Int32} {k : Int32 → Res} (F : Fix h) : rdI (st h K M) (some 37) 20 (0 : Int32) k = k (M 37 0) := d37 (i := 0) F (by decide)
theorem wq0 {h : MH} {K M : Nat → Nat → Int32} {v : Int32} {k : MH → Res} (F : Fix h) : wrI (st h K M) (some 37) 20 (0 : Int32) v k = k (st h K (upw M 37 (upd (M 37) 0 v))) := w37 (i := 0) F (by decide)
theorem rq1 {h : MH} {K M : Nat → Nat → Int32} {k : Int32 → Res} (F : Fix h) : rdI (st h K M) (some 37) 20 (1 : Int32) k = k (M 37 1) := d37 (i := 1) F (by decide)
theorem wq1 {h : MH} {K M : Nat → Nat → Int32} {v : Int32} {k : MH → Res} (F : Fix h) : wrI (st h K M) (some 37) 20 (1 : Int32) v k = k (st h K (upw M 37 (upd (M 37) 1 v))) := w37 (i := 1) F (by decide)
theorem rq2 {h : MH} {K M : Nat → Nat → Int32} {k : Int32 → Res} (F : Fix h) : rdI (st h K M) (some 37) 20 (2 : Int32) k = k (M 37 2) := d37 (i := 2) F (by decide)
theorem wq2 {h : MH} {K M : Nat → Nat → Int32} {v : Int32} {k : MH → Res} (F : Fix h) : wrI (st h K M) (some 37) 20 (2 : Int32) v k = k (st h K (upw M 37 (upd (M 37) 2 v))) := w37 (i := 2) F (by decide)
theorem rq3 {h : MH} {K M : Nat → Nat → Int32} {k : Int32 → Res} (F : Fix h) : rdI (st h K M) (some 37) 20 (3 : Int32) k = k (M 37 3) := d37 (i := 3) F (by decide)
theorem wq3 {h : MH} {K M : Nat → Nat → Int32} {v : Int32} {k : MH → Res} (F : Fix h) : wrI (st h K M) (some 37) 20 (3 : Int32) v k = k (st h K (upw M 37 (upd (M 37) 3 v))) := w37 (i := 3) F (by decide)
theorem rq4 {h : MH} {K M : Nat → Nat → Int32} {k : Int32 → Res} (F : Fix h) : rdI (st h K M) (some 37) 20 (4 : Int32) k = k (M 37 4) := d37 (i := 4) F (by decide)
theorem wq4 {h : MH} {K M : Nat → Nat → Int32} {v : Int32} {k : MH → Res} (F : Fix h) : wrI (st h K M) (some 37) 20 (4 : Int32) v k = k (st h K (upw M 37 (upd (M 37) 4 v))) := w37 (i := 4) F (by decide)
theorem rq5 {h : MH} {K M : Nat → Nat → Int32} {k : Int32 → Res} (F : Fix h) : rdI (st h K M) (some 37) 20 (5 : Int32) k = k (M 37 5) := d37 (i := 5) F (by decide)
theorem wq5 {h : MH} {K M : Nat → Nat → Int32} {v : Int32} {k : MH → Res} (F : Fix h) : wrI (st h K M) (some 37) 20 (5 : Int32) v k = k (st h K (upw M 37 (upd (M 37) 5 v))) := w37 (i := 5) F (by decide)
theorem rq6 {h : MH} {K M : Nat → Nat → Int32} {k : Int32 → Res} (F : Fix h) : rdI (st h K M) (some 37) 20 (6 : Int32) k = k (M 37 6) := d37 (i := 6) F (by decide)
theorem wq6 {h : MH} {K M : Nat → Nat → Int32} {v : Int32} {k : MH → Res} (F : Fix h) : wrI (st h K M) (some 37) 20 (6 : Int32) v k = k (st h K (upw M 37 (upd (M 37) 6 v))) := w37 (i := 6) F (by decide)
theorem rq7 {h : MH} {K M : Nat → Nat → Int32} {k : Int32 → Res} (F : Fix h) : rdI (st h K M) (some 37) 20 (7 : Int32) k = k (M 37 7) := d37 (i := 7) F (by decide)
theorem wq7 {h : MH} {K M : Nat → Nat → Int32} {v : Int32} {k : MH → Res} (F : Fix h) : wrI (st h K M) (some 37) 20 (7 : Int32) v k = k (st h K (upw M 37 (upd (M 37) 7 v))) := w37 (i := 7) F (by decide)
/-! the sun and the turning -/
def itN (la : Nat → Int32) (N : Nat → Nat → Int32) (c : Nat) : Int32 := if la c = 0 then mx0 (N 35 c + N 37 (8 + c / 10)) else 0
def tHN (la : Nat → Int32) (N : Nat → Nat → Int32) (c : Nat) : Int32 := if la c = 0 then (if 5 * (N 25 c - N 26 c) ≤ itN la N c - N 24 c then itN la N c else (itN la N c + N 24 c) / 2) else 0
def tUN (la : Nat → Int32) (N : Nat → Nat → Int32) (c : Nat) : Int32 := if la c = 0 then (if 5 * (N 25 c - N 26 c) ≤ itN la N c - N 24 c then N 24 c else itN la N c + N 24 c - (itN la N c + N 24 c) / 2) else N 24 c
def tAN (la : Nat → Int32) (N : Nat → Nat → Int32) (c : Nat) : Int32 := if la c = 0 then (if 5 * (N 25 c - N 26 c) ≤ itN la N c - N 24 c then N 25 c else (N 25 c + N 26 c) / 2) else N 25 c
def tBN (la : Nat → Int32) (N : Nat → Nat → Int32) (c : Nat) : Int32 := if la c = 0 then (if 5 * (N 25 c - N 26 c) ≤ itN la N c - N 24 c then N 26 c else N 25 c + N 26 c - (N 25 c + N 26 c) / 2) else N 26 c
def ggN (la : Nat → Int32) (N : Nat → Nat → Int32) (c : Nat) (z : Int32) : Int32 := z + (itN la N c - N 35 c)
def sB (la : Nat → Int32) (N : Nat → Nat → Int32) (i : Nat) : Nat → Nat → Int32 := upw (upw (upw (upw (upw N 23 (ptw (tHN la N) (N 23) i)) 24 (ptw (tUN la N) (N 24) i)) 25 (ptw (tAN la N) (N 25) i)) 26 (ptw (tBN la N) (N 26) i)) 37 (upd (N 37) 1 (fo (ggN la N) (N 37 1) i))
theorem sB_o {la : Nat → Int32} {N : Nat → Nat → Int32} {i a : Nat} (h : a ∉ [23, 24, 25, 26, 37]) : sB la N i a = N a := by
  simp only [List.mem_cons, List.not_mem_nil, or_false, not_or] at h
  unfold sB
  simp [upw, h]
theorem sB_r {la : Nat → Int32} {N : Nat → Nat → Int32} {i : Nat} : sB la N i 23 = ptw (tHN la N) (N 23) i ∧ sB la N i 24 = ptw (tUN la N) (N 24) i ∧ sB la N i 25 = ptw (tAN la N) (N 25) i ∧ sB la N i 26 = ptw (tBN la N) (N 26) i ∧ sB la N i 37 = upd (N 37) 1 (fo (ggN la N) (N 37 1) i) := by
  unfold sB
  refine ⟨?_, ?_, ?_, ?_, ?_⟩ <;> simp [upw]
theorem s_pass83 {h : MH} {K N : Nat → Nat → Int32} {la cu : Nat → Int32} (F : Fix h) (S : LSea la cu (N 22)) : L_L_passes_83 fuel (some 22) (some 23) (some 24) (some 25) (some 26) (some 27) (some 28) (some 29) (some 30) (some 31) (some 32) (some 33) (some 34) (some 35) (some 36) (some 37) 0 (st h K N) = L_L_passes_256 fuel (some 22) (some 23) (some 27) (some 28) (some 29) (some 30) (some 31) (some 32) (some 33) (some 34) (some 35) (some 36) (some 37) 0 (st h K (sB la N 60)) := by
  have e0 : sB la N 0 = N := by
    unfold sB
    rw [ptw_0, ptw_0, ptw_0, ptw_0, upw_id, upw_id, upw_id, upw_id]
    show upw N 37 (upd (N 37) 1 (N 37 1)) = N
    rw [upd_id, upw_id]
  have hG := zlp0 (G := fun n i => L_L_passes_83 n (some 22) (some 23) (some 24) (some 25) (some 26) (some 27) (some 28) (some 29) (some 30) (some 31) (some 32) (some 33) (some 34) (some 35) (some 36) (some 37) (nI i) (st h K (sB la N i))) (N := 60) (r := L_L_passes_256 fuel (some 22) (some 23) (some 27) (some 28) (some 29) (some 30) (some 31) (some 32) (some 33) (some 34) (some 35) (some 36) (some 37) 0 (st h K (sB la N 60))) (by decide) ?_ ?_
  · rw [e0] at hG; exact hG
  · intro n i hi
    obtain ⟨v23, v24, v25, v26, v37⟩ := sB_r (la := la) (N := N) (i := i)
    have hi5 : 8 + i / 10 < 16 := by omega
    have e8 : (8 : Int32) + nI (i / 10) = nI (8 + i / 10) := nI_add 8 _
    have x35 : sB la N i 35 = N 35 := sB_o (by decide)
    have x22 : sB la N i 22 = N 22 := sB_o (by decide)
    have x23 : sB la N i 23 i = N 23 i := by rw [v23]; exact ptw_i
    have x24 : sB la N i 24 i = N 24 i := by rw [v24]; exact ptw_i
    have x25 : sB la N i 25 i = N 25 i := by rw [v25]; exact ptw_i
    have x26 : sB la N i 26 i = N 26 i := by rw [v26]; exact ptw_i
    have x37 : sB la N i 37 (8 + i / 10) = N 37 (8 + i / 10) := by rw [v37]; exact upd_o (by omega)
    have x371 : sB la N i 37 1 = fo (ggN la N) (N 37 1) i := by rw [v37]; exact upd_s
    have fin : ∀ M' : Nat → Nat → Int32, M' 23 = upd (sB la N i 23) i (tHN la N i) → M' 24 = upd (sB la N i 24) i (tUN la N i) → M' 25 = upd (sB la N i 25) i (tAN la N i) → M' 26 = upd (sB la N i 26) i (tBN la N i) → M' 37 = upd (sB la N i 37) 1 (sB la N i 37 1 + (itN la N i - N 35 i)) → (∀ a, a ∉ [23, 24, 25, 26, 37] → M' a = N a) → M' = sB la N (i + 1) := by
      intro M' h1 h2 h3 h4 h5 h6
      obtain ⟨y23, y24, y25, y26, y37⟩ := sB_r (la := la) (N := N) (i := i + 1)
      funext a
      by_cases a1 : a = 23
      · subst a1; rw [h1, y23, v23]; exact ptw_n rfl
      · by_cases a2 : a = 24
        · subst a2; rw [h2, y24, v24]; exact ptw_n rfl
        · by_cases a3 : a = 25
          · subst a3; rw [h3, y25, v25]; exact ptw_n rfl
          · by_cases a4 : a = 26
            · subst a4; rw [h4, y26, v26]; exact ptw_n rfl
            · by_cases a5 : a = 37
              · subst a5; rw [h5, y37, x371, v37, upd_upd]; rfl
              · rw [h6 a (by simp; omega), sB_o (by simp; omega)]
    have o24 : upd (sB la N i 24) i (N 24 i) = sB la N i 24 := by rw [← x24, upd_id]
    have o25 : upd (sB la N i 25) i (N 25 i) = sB la N i 25 := by rw [← x25, upd_id]
    have o26 : upd (sB la N i 26) i (N 26 i) = sB la N i 26 := by rw [← x26, upd_id]
    show B_L_passes_83 (L_L_passes_83 n) (some 22) (some 23) (some 24) (some 25) (some 26) (some 27) (some 28) (some 29) (some 30) (some 31) (some 32) (some 33) (some 34) (some 35) (some 36) (some 37) (nI i) (st h K (sB la N i)) = L_L_passes_83 n (some 22) (some 23) (some 24) (some 25) (some 26) (some 27) (some 28) (some 29) (some 30) (some 31) (some 32) (some 33) (some 34) (some 35) (some 36) (some 37) (nI (i + 1)) (st h K (sB la N (i + 1)))
    unfold B_L_passes_83 B_L_passes_123
    rw [if_neg (show ¬ (60 : Int32) ≤ nI i from nI_ge (b := 60) hi (by decide)), d35 F hi, x35, q_dv (by decide), nd_y hi, x_bnd, e8, d37 F hi5, x37, x_bnd, d22 F hi, x22]
    by_cases hl : la i = 0
    · have hit : itN la N i = mx0 (N 35 i + N 37 (8 + i / 10)) := if_pos hl
      have hmx : ∀ (f : Int32 → Res), (if 0 ≤ N 35 i + N 37 (8 + i / 10) then f (N 35 i + N 37 (8 + i / 10)) else f 0) = f (itN la N i) := by
        intro f
        rw [hit, ← mx0_m]
        split <;> rfl
      rw [if_neg (S.sea hi hl).2.2.2, hmx (fun s0 => B_L_passes_129 (L_L_passes_83 n) (some 22) (some 23) (some 24) (some 25) (some 26) (some 27) (some 28) (some 29) (some 30) (some 31) (some 32) (some 33) (some 34) (some 35) (some 36) (some 37) (nI i) s0 (st h K (sB la N i)))]
      unfold B_L_passes_129 B_L_passes_247
      simp only [rq1 F, wq1 F, d35 F hi, d22 F hi, d23 F hi, d24 F hi, d25 F hi, d26 F hi, w23 F hi, w24 F hi, w25 F hi, w26 F hi, x_bnd, q_dv (show (2 : Int32) ≠ 0 by decide), upw_at, Nat.reduceEqDiff, if_true, if_false, upd_s, x35, x22, x24, x25, x26, if_neg (S.sea hi hl).2.1, nIs]
      by_cases hc : 5 * (N 25 i - N 26 i) ≤ itN la N i - N 24 i
      · rw [if_pos hc]
        refine congrArg (fun z => L_L_passes_83 n (some 22) (some 23) (some 24) (some 25) (some 26) (some 27) (some 28) (some 29) (some 30) (some 31) (some 32) (some 33) (some 34) (some 35) (some 36) (some 37) (nI (i + 1)) (st h K z)) (fin _ ?_ ?_ ?_ ?_ ?_ ?_)
        · simp only [upw_at, Nat.reduceEqDiff, if_true, if_false]
          rw [show tHN la N i = itN la N i by unfold tHN; rw [if_pos hl, if_pos hc]]
        · simp only [upw_at, Nat.reduceEqDiff, if_true, if_false]
          rw [show tUN la N i = N 24 i by unfold tUN; rw [if_pos hl, if_pos hc], o24]
        · simp only [upw_at, Nat.reduceEqDiff, if_true, if_false]
          rw [show tAN la N i = N 25 i by unfold tAN; rw [if_pos hl, if_pos hc], o25]
        · simp only [upw_at, Nat.reduceEqDiff, if_true, if_false]
          rw [show tBN la N i = N 26 i by unfold tBN; rw [if_pos hl, if_pos hc], o26]
        · simp only [upw_at, Nat.reduceEqDiff, if_true, if_false]
        · intro a ha
          rw [← sB_o (la := la) (N := N) (i := i) ha]
          simp only [List.mem_cons, List.not_mem_nil, or_false, not_or] at ha
          simp only [upw_at, ha, if_false]
      · rw [if_neg hc]
        refine congrArg (fun z => L_L_passes_83 n (some 22) (some 23) (some 24) (some 25) (some 26) (some 27) (some 28) (some 29) (some 30) (some 31) (some 32) (some 33) (some 34) (some 35) (some 36) (some 37) (nI (i + 1)) (st h K z)) (fin _ ?_ ?_ ?_ ?_ ?_ ?_)
        · simp only [upw_at, Nat.reduceEqDiff, if_true, if_false, upd_upd]
          rw [show tHN la N i = (itN la N i + N 24 i) / 2 by unfold tHN; rw [if_pos hl, if_neg hc]]
        · simp only [upw_at, Nat.reduceEqDiff, if_true, if_false, upd_upd]
          rw [show tUN la N i = itN la N i + N 24 i - (itN la N i + N 24 i) / 2 by unfold tUN; rw [if_pos hl, if_neg hc]]
        · simp only [upw_at, Nat.reduceEqDiff, if_true, if_false, upd_upd]
          rw [show tAN la N i = (N 25 i + N 26 i) / 2 by unfold tAN; rw [if_pos hl, if_neg hc]]
        · simp only [upw_at, Nat.reduceEqDiff, if_true, if_false, upd_upd]
          rw [show tBN la N i = N 25 i + N 26 i - (N 25 i + N 26 i) / 2 by unfold tBN; rw [if_pos hl, if_neg hc]]
        · simp only [upw_at, Nat.reduceEqDiff, if_true, if_false]
        · intro a ha
          rw [← sB_o (la := la) (N := N) (i := i) ha]
          simp only [List.mem_cons, List.not_mem_nil, or_false, not_or] at ha
          simp only [upw_at, ha, if_false]
    · have hit : itN la N i = 0 := if_neg hl
      rw [if_pos (S.lnd hi hl).2.2.2]
      unfold B_L_passes_129 B_L_passes_247
      simp only [rq1 F, wq1 F, d35 F hi, d22 F hi, w23 F hi, x_bnd, upw_at, Nat.reduceEqDiff, if_true, if_false, x35, x22, if_pos (S.lnd hi hl).2.1, nIs]
      refine congrArg (fun z => L_L_passes_83 n (some 22) (some 23) (some 24) (some 25) (some 26) (some 27) (some 28) (some 29) (some 30) (some 31) (some 32) (some 33) (some 34) (some 35) (some 36) (some 37) (nI (i + 1)) (st h K z)) (fin _ ?_ ?_ ?_ ?_ ?_ ?_)
      · simp only [upw_at, Nat.reduceEqDiff, if_true, if_false]
        rw [show tHN la N i = 0 by unfold tHN; rw [if_neg hl]]
      · simp only [upw_at, Nat.reduceEqDiff, if_true, if_false]
        rw [show tUN la N i = N 24 i by unfold tUN; rw [if_neg hl], o24]
      · simp only [upw_at, Nat.reduceEqDiff, if_true, if_false]
        rw [show tAN la N i = N 25 i by unfold tAN; rw [if_neg hl], o25]
      · simp only [upw_at, Nat.reduceEqDiff, if_true, if_false]
        rw [show tBN la N i = N 26 i by unfold tBN; rw [if_neg hl], o26]
      · simp only [upw_at, Nat.reduceEqDiff, if_true, if_false]
        rw [hit]
      · intro a ha
        rw [← sB_o (la := la) (N := N) (i := i) ha]
        simp only [List.mem_cons, List.not_mem_nil, or_false, not_or] at ha
        simp only [upw_at, ha, if_false]
  · intro n
    show B_L_passes_83 (L_L_passes_83 n) (some 22) (some 23) (some 24) (some 25) (some 26) (some 27) (some 28) (some 29) (some 30) (some 31) (some 32) (some 33) (some 34) (some 35) (some 36) (some 37) (nI 60) (st h K (sB la N 60)) = _
    unfold B_L_passes_83
    rw [if_pos (show (60 : Int32) ≤ nI 60 from nI_le (a := 60) (Nat.le_refl _) (by decide))]
