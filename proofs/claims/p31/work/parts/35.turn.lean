/-! the layers turn over -/
def tnA (a b s t : Nat → Int32) (c : Nat) : Int32 := if 5 * s c - a c ≤ 5 * t c - b c then a c else (a c + b c) / 2
def tnB (a b s t : Nat → Int32) (c : Nat) : Int32 := if 5 * s c - a c ≤ 5 * t c - b c then b c else a c + b c - (a c + b c) / 2
def tnS (a b s t : Nat → Int32) (c : Nat) : Int32 := if 5 * s c - a c ≤ 5 * t c - b c then s c else (s c + t c) / 2
def tnT (a b s t : Nat → Int32) (c : Nat) : Int32 := if 5 * s c - a c ≤ 5 * t c - b c then t c else s c + t c - (s c + t c) / 2
theorem s_share {h : MH} {K m : Nat → Nat → Int32} {a b i : Nat} (ha : cA a) (hb : cA b) (hab : a ≠ b) (hka : hk h a = 20) (hkb : hk h b = 20) (hla : hl h a = 60) (hlb : hl h b = 60) (hi : i < 60) : M_X5_share (some a) (some b) (nI i) (st h K m) = rtV (st h (upw (upw K a (upd (K a) i ((K a i + K b i) / 2))) b (upd (K b) i (K a i + K b i - (K a i + K b i) / 2))) m) := by
  unfold M_X5_share
  rw [K_al hka (by decide) hla, s_isIndex_t hi (by decide), x_rtI, if_neg (by decide), K_al hkb (by decide) hlb, s_isIndex_t hi (by decide), x_rtI, if_neg (by decide), K_rd hka hla ha hi (by decide), K_rd hkb hlb hb hi (by decide), x_bnd, q_dv (by decide), K_wr hka hla ha hi (by decide) (fun q => absurd q (by decide)), K_rd hka hla ha hi (by decide), x_bnd, K_wr hkb hlb hb hi (by decide) (fun q => absurd q (by decide)), upw_s, upw_o (f := K) (Ne.symm hab), upd_s]
theorem s_weightU {h : MH} {K m : Nat → Nat → Int32} (F : Fix h) {i : Nat} (hi : i < 60) : M_X1_weightAt (some 3) (nI i) (st h K m) = rtI (5 * K 5 i - K 4 i) (st h K m) := by
  unfold M_X1_weightAt
  rw [s_isCell_t hi, x_rtI, if_neg (by decide), r3_1 F, d5 F hi, x_bnd, r3_0 F, d4 F hi, x_bnd]
theorem s_weightL {h : MH} {K m : Nat → Nat → Int32} (F : Fix h) {i : Nat} (hi : i < 60) : M_X1_weightAt (some 6) (nI i) (st h K m) = rtI (5 * K 8 i - K 7 i) (st h K m) := by
  unfold M_X1_weightAt
  rw [s_isCell_t hi, x_rtI, if_neg (by decide), r6_1 F, d8 F hi, x_bnd, r6_0 F, d7 F hi, x_bnd]
def turnK (K : Nat → Nat → Int32) (i : Nat) : Nat → Nat → Int32 := upw (upw (upw (upw K 4 (ptw (tnA (K 4) (K 7) (K 5) (K 8)) (K 4) i)) 7 (ptw (tnB (K 4) (K 7) (K 5) (K 8)) (K 7) i)) 5 (ptw (tnS (K 4) (K 7) (K 5) (K 8)) (K 5) i)) 8 (ptw (tnT (K 4) (K 7) (K 5) (K 8)) (K 8) i)
theorem s_turnOver {h : MH} {K m : Nat → Nat → Int32} (F : Fix h) : M_X5_turnOver (some 2) (st h K m) = rtV (st h (turnK K 60) m) := by
  have e0 : turnK K 0 = K := by
    unfold turnK
    rw [ptw_0, ptw_0, ptw_0, ptw_0, upw_id, upw_id, upw_id, upw_id]
  have hG := zlp0 (G := fun n i => L_X5_turnOver_2 n (some 2) (nI i) (st h (turnK K i) m)) (N := 60) (r := rtV (st h (turnK K 60) m)) (by decide) ?_ ?_
  · rw [show L_X5_turnOver_2 fuel (some 2) (nI 0) (st h (turnK K 0) m) = L_X5_turnOver_2 fuel (some 2) (nI 0) (st h K m) by rw [e0]] at hG
    exact hG
  · intro n i hi
    show B_X5_turnOver_2 (L_X5_turnOver_2 n) (some 2) (nI i) (st h (turnK K i) m) = L_X5_turnOver_2 n (some 2) (nI (i + 1)) (st h (turnK K (i + 1)) m)
    have v4 : turnK K i 4 i = K 4 i := by simp [turnK, upw, ptw]
    have v5 : turnK K i 5 i = K 5 i := by simp [turnK, upw, ptw]
    have v7 : turnK K i 7 i = K 7 i := by simp [turnK, upw, ptw]
    have v8 : turnK K i 8 i = K 8 i := by simp [turnK, upw, ptw]
    unfold B_X5_turnOver_2
    rw [if_neg (show ¬ (60 : Int32) ≤ nI i from nI_ge (b := 60) hi (by decide)), r2_0 F, c3 F, s_weightU F hi, x_rtI, r2_1 F, c6 F, s_weightL F hi, x_rtI, v4, v5, v7, v8]
    by_cases hc : 5 * K 5 i - K 4 i ≤ 5 * K 8 i - K 7 i
    · rw [if_pos hc]
      unfold B_X5_turnOver_63
      rw [x_bnd, nIs]
      have : turnK K (i + 1) = turnK K i := by
        unfold turnK
        rw [ptw_e (w := tnA _ _ _ _) (by unfold tnA; rw [if_pos hc]), ptw_e (w := tnB _ _ _ _) (by unfold tnB; rw [if_pos hc]), ptw_e (w := tnS _ _ _ _) (by unfold tnS; rw [if_pos hc]), ptw_e (w := tnT _ _ _ _) (by unfold tnT; rw [if_pos hc])]
      rw [this]
    · rw [if_neg hc]
      simp only [r2_0 F, r2_1 F, r3_0 F, r3_1 F, r6_0 F, r6_1 F, s_share (h := h) (a := 4) (b := 7) (Or.inl (by decide)) (Or.inl (by decide)) (by decide) (Fk4 F) (Fk7 F) (Fl4 F) (Fl7 F) hi, s_share (h := h) (a := 5) (b := 8) (Or.inl (by decide)) (Or.inl (by decide)) (by decide) (Fk5 F) (Fk8 F) (Fl5 F) (Fl8 F) hi, x_rtV, B_X5_turnOver_63, x_bnd, nIs, v4, v7]
      refine congrArg (fun z => L_X5_turnOver_2 n (some 2) (nI (i + 1)) (st h z m)) ?_
      have w4 : upd (ptw (tnA (K 4) (K 7) (K 5) (K 8)) (K 4) i) i ((K 4 i + K 7 i) / 2) = ptw (tnA (K 4) (K 7) (K 5) (K 8)) (K 4) (i + 1) := ptw_n (by unfold tnA; rw [if_neg hc])
      have w7 : upd (ptw (tnB (K 4) (K 7) (K 5) (K 8)) (K 7) i) i (K 4 i + K 7 i - (K 4 i + K 7 i) / 2) = ptw (tnB (K 4) (K 7) (K 5) (K 8)) (K 7) (i + 1) := ptw_n (by unfold tnB; rw [if_neg hc])
      have w5 : upd (ptw (tnS (K 4) (K 7) (K 5) (K 8)) (K 5) i) i ((K 5 i + K 8 i) / 2) = ptw (tnS (K 4) (K 7) (K 5) (K 8)) (K 5) (i + 1) := ptw_n (by unfold tnS; rw [if_neg hc])
      have w8 : upd (ptw (tnT (K 4) (K 7) (K 5) (K 8)) (K 8) i) i (K 5 i + K 8 i - (K 5 i + K 8 i) / 2) = ptw (tnT (K 4) (K 7) (K 5) (K 8)) (K 8) (i + 1) := ptw_n (by unfold tnT; rw [if_neg hc])
      unfold turnK
      funext a
      by_cases h4 : a = 4
      · subst h4; simp [upw, w4]
      · by_cases h7 : a = 7
        · subst h7; simp [upw, w7]
        · by_cases h5 : a = 5
          · subst h5; simp [upw, w5, ptw_i]
          · by_cases h8 : a = 8
            · subst h8; simp [upw, w8, ptw_i]
            · simp [upw, h4, h7, h5, h8]
  · intro n
    show B_X5_turnOver_2 (L_X5_turnOver_2 n) (some 2) (nI 60) (st h (turnK K 60) m) = _
    unfold B_X5_turnOver_2
    rw [if_pos (show (60 : Int32) ≤ nI 60 from nI_le (a := 60) (Nat.le_refl _) (by decide))]
theorem s_upperHeat {h : MH} {K m : Nat → Nat → Int32} (F : Fix h) {i : Nat} (hi : i < 60) : M_X5_upperHeat (some 2) (nI i) (st h K m) = rtI (K 4 i) (st h K m) := by
  unfold M_X5_upperHeat
  rw [s_isCell_t hi, x_rtI, if_neg (by decide), r2_0 F, r3_0 F, d4 F hi]
/-! the model: a cell warms and turns -/
def pt2 (w1 w2 r : Nat → Int32) (i : Nat) : Nat → Int32 := fun j => if j < i then w1 j else if 60 ≤ j ∧ j < 60 + i then w2 (j - 60) else r j
theorem pt2_0 {w1 w2 r : Nat → Int32} : pt2 w1 w2 r 0 = r := by
  funext j; unfold pt2; rw [if_neg (by omega), if_neg (by omega)]
theorem pt2_n {w1 w2 r : Nat → Int32} {i : Nat} {v v' : Int32} (hi : i < 60) (h : v = w1 i) (h' : v' = w2 i) : upd (upd (pt2 w1 w2 r i) i v) (60 + i) v' = pt2 w1 w2 r (i + 1) := by
  funext j
  unfold upd pt2
  by_cases e : j = i
  · subst e; rw [if_neg (by omega), if_pos rfl, if_pos (by omega), h]
  · by_cases e2 : j = 60 + i
    · subst e2; rw [if_pos rfl, if_neg (by omega), if_pos (by omega), h', show 60 + i - 60 = i by omega]
    · rw [if_neg e2, if_neg e]
      by_cases h2 : j < i
      · rw [if_pos h2, if_pos (by omega)]
      · rw [if_neg h2, if_neg (show ¬ j < i + 1 by omega)]
        by_cases h3 : 60 ≤ j ∧ j < 60 + i
        · rw [if_pos h3, if_pos (by omega)]
        · rw [if_neg h3, if_neg (by omega)]
theorem pt2_e {w1 w2 r : Nat → Int32} {i : Nat} (hi : i < 60) (h : w1 i = r i) (h' : w2 i = r (60 + i)) : pt2 w1 w2 r (i + 1) = pt2 w1 w2 r i := by
  rw [← pt2_n hi (v := r i) (v' := r (60 + i)) h.symm h'.symm]
  have e1 : pt2 w1 w2 r i i = r i := by unfold pt2; rw [if_neg (by omega), if_neg (by omega)]
  have e2 : pt2 w1 w2 r i (60 + i) = r (60 + i) := by unfold pt2; rw [if_neg (by omega), if_neg (by omega)]
  rw [show upd (pt2 w1 w2 r i) i (r i) = pt2 w1 w2 r i by rw [← e1, upd_id], ← e2, upd_id]
theorem pt2_i {w1 w2 r : Nat → Int32} {i : Nat} (hi : i < 60) : pt2 w1 w2 r i i = r i := by unfold pt2; rw [if_neg (by omega), if_neg (by omega)]
theorem pt2_j {w1 w2 r : Nat → Int32} {i : Nat} : pt2 w1 w2 r i (60 + i) = r (60 + i) := by unfold pt2; rw [if_neg (by omega), if_neg (by omega)]
def hi6 (r : Nat → Int32) : Nat → Int32 := fun c => r (60 + c)
abbrev wr1 (m : Nat → Nat → Int32) : Nat → Int32 := wrm (m 23) (m 25) (m 26)
def warmM (m : Nat → Nat → Int32) (i : Nat) : Nat → Nat → Int32 := upw (upw (upw m 22 (upd (m 22) 2 (fo (gft (m 23) (m 25) (m 26)) (m 22 2) i))) 26 (pt2 (tnA (wr1 m) (hi6 (m 26)) (m 27) (hi6 (m 27))) (tnB (wr1 m) (hi6 (m 26)) (m 27) (hi6 (m 27))) (m 26) i)) 27 (pt2 (tnS (wr1 m) (hi6 (m 26)) (m 27) (hi6 (m 27))) (tnT (wr1 m) (hi6 (m 26)) (m 27) (hi6 (m 27))) (m 27) i)
theorem warmM_o {m : Nat → Nat → Int32} {i a : Nat} (h : a ≠ 22 ∧ a ≠ 26 ∧ a ≠ 27) : warmM m i a = m a := by
  unfold warmM; simp [upw, h]
theorem warmM_22 {m : Nat → Nat → Int32} {i : Nat} : warmM m i 22 = upd (m 22) 2 (fo (gft (m 23) (m 25) (m 26)) (m 22 2) i) := by
  unfold warmM; simp [upw]
theorem warmM_22o {m : Nat → Nat → Int32} {i j : Nat} (h : j ≠ 2) : warmM m i 22 j = m 22 j := by
  rw [warmM_22]; exact upd_o h
theorem warmM_0 {m : Nat → Nat → Int32} : warmM m 0 = m := by
  unfold warmM
  rw [pt2_0, pt2_0]
  show upw (upw (upw m 22 (upd (m 22) 2 (m 22 2))) 26 (m 26)) 27 (m 27) = m
  rw [upd_id, upw_id, upw_id, upw_id]
theorem warmM_land {m : Nat → Nat → Int32} {i : Nat} (hi : i < 60) (hl : m 23 i ≠ 0) (hz : m 26 i = 0 ∧ m 26 (60 + i) = 0 ∧ m 27 i = 0 ∧ m 27 (60 + i) = 0) : warmM m (i + 1) = warmM m i := by
  have ha : wrm (m 23) (m 25) (m 26) i = 0 := by unfold wrm; rw [if_neg hl, hz.1]
  have hc : 5 * m 27 i - wrm (m 23) (m 25) (m 26) i ≤ 5 * hi6 (m 27) i - hi6 (m 26) i := by
    unfold hi6; rw [ha, hz.2.1, hz.2.2.1, hz.2.2.2]; decide
  unfold warmM
  show upw (upw (upw m 22 (upd (m 22) 2 (gft _ _ _ i _))) 26 _) 27 _ = _
  unfold gft
  rw [if_neg hl, pt2_e hi (w1 := tnA _ _ _ _) (by unfold tnA; rw [if_pos hc]; exact ha.trans hz.1.symm) (by unfold tnB; rw [if_pos hc]; rfl), pt2_e hi (w1 := tnS _ _ _ _) (by unfold tnS; rw [if_pos hc]) (by unfold tnT; rw [if_pos hc]; rfl)]
