/-! the sun and the layers -/
def mx0 (x : Int32) : Int32 := if 0 < x then x else 0
theorem mx0_m (x : Int32) : (if 0 ≤ x then x else 0) = mx0 x := by
  unfold mx0
  by_cases h : 0 < x
  · rw [if_pos h, if_pos (by rw [i_le]; rw [i_lt] at h; omega)]
  · rw [if_neg h]
    by_cases h2 : 0 ≤ x
    · rw [if_pos h2]
      apply Int32.toInt_inj.mp
      rw [i_lt] at h
      rw [i_le] at h2
      omega
    · rw [if_neg h2]
def wrm (la su he : Nat → Int32) (c : Nat) : Int32 := if la c = 0 then mx0 (he c + su (c / 10)) else he c
def gft (la su he : Nat → Int32) (c : Nat) (g : Int32) : Int32 := if la c = 0 then g + (mx0 (he c + su (c / 10)) - he c) else g
/-- the first i places by w, the others by r -/
def ptw (w r : Nat → Int32) (i : Nat) : Nat → Int32 := fun j => if j < i then w j else r j
theorem ptw_0 {w r : Nat → Int32} : ptw w r 0 = r := by funext j; exact if_neg (by omega)
theorem ptw_i {w r : Nat → Int32} {i : Nat} : ptw w r i i = r i := if_neg (by omega)
theorem ptw_n {w r : Nat → Int32} {i : Nat} {v : Int32} (h : v = w i) : upd (ptw w r i) i v = ptw w r (i + 1) := by
  funext j
  unfold upd ptw
  by_cases e : j = i
  · subst e; rw [if_pos rfl, if_pos (by omega), h]
  · rw [if_neg e]
    by_cases h2 : j < i
    · rw [if_pos h2, if_pos (by omega)]
    · rw [if_neg h2, if_neg (by omega)]
theorem ptw_e {w r : Nat → Int32} {i : Nat} (h : w i = r i) : ptw w r (i + 1) = ptw w r i := by
  funext j
  unfold ptw
  by_cases e : j = i
  · subst e; rw [if_pos (by omega), if_neg (by omega), h]
  · by_cases h2 : j < i
    · rw [if_pos h2, if_pos (by omega)]
    · rw [if_neg h2, if_neg (by omega)]
theorem upd_upd {r : Nat → Int32} {i : Nat} {v w : Int32} : upd (upd r i v) i w = upd r i w := by
  funext j; unfold upd; split <;> rfl
theorem upd_id {r : Nat → Int32} {i : Nat} : upd r i (r i) = r := by
  funext j; unfold upd; split
  · rename_i h; rw [h]
  · rfl
theorem upd_s {r : Nat → Int32} {i : Nat} {v : Int32} : upd r i v i = v := if_pos rfl
theorem upd_o {r : Nat → Int32} {i j : Nat} {v : Int32} (h : j ≠ i) : upd r i v j = r j := if_neg h
def shineK (K : Nat → Nat → Int32) (i : Nat) : Nat → Nat → Int32 := upw (upw K 4 (ptw (wrm (K 11) (K 10) (K 4)) (K 4) i)) 2 (upd (K 2) 4 (fo (gft (K 11) (K 10) (K 4)) (K 2 4) i))
theorem s_shine {h : MH} {K m : Nat → Nat → Int32} (F : Fix h) : M_X5_shine (some 2) (st h K m) = rtV (st h (shineK K 60) m) := by
  have e0 : shineK K 0 = K := by
    unfold shineK
    rw [ptw_0, upw_id]
    show upw K 2 (upd (K 2) 4 (K 2 4)) = K
    rw [upd_id, upw_id]
  have hG := zlp0 (G := fun n i => L_X5_shine_2 n (some 2) (nI i) (st h (shineK K i) m)) (N := 60) (r := rtV (st h (shineK K 60) m)) (by decide) ?_ ?_
  · rw [show L_X5_shine_2 fuel (some 2) (nI 0) (st h (shineK K 0) m) = L_X5_shine_2 fuel (some 2) (nI 0) (st h K m) by rw [e0]] at hG
    exact hG
  · intro n i hi
    show B_X5_shine_2 (L_X5_shine_2 n) (some 2) (nI i) (st h (shineK K i) m) = L_X5_shine_2 n (some 2) (nI (i + 1)) (st h (shineK K (i + 1)) m)
    have g (a : Nat) (h1 : a ≠ 4) (h2 : a ≠ 2) : shineK K i a = K a := by unfold shineK; rw [upw_o h2, upw_o h1]
    have v4 : shineK K i 4 = ptw (wrm (K 11) (K 10) (K 4)) (K 4) i := by unfold shineK; rw [upw_o (by decide), upw_s]
    have v2 : shineK K i 2 = upd (K 2) 4 (fo (gft (K 11) (K 10) (K 4)) (K 2 4) i) := by unfold shineK; rw [upw_s]
    unfold B_X5_shine_2
    rw [if_neg (show ¬ (60 : Int32) ≤ nI i from nI_ge (b := 60) hi (by decide)), r2_5 F, d11 F hi, g 11 (by decide) (by decide)]
    by_cases hl : K 11 i = 0
    · have hd : nI i / (10 : Int32) = nI (i / 10) := nd_y hi
      have hi6 : i / 10 < 6 := by omega
      rw [if_neg (fun q => q hl)]
      simp only [r2_0 F, r3_0 F, d4 F hi, r2_3 F, q_dv (show (10 : Int32) ≠ 0 by decide), hd, d10 F hi6, x_bnd, w4 F hi, g2 F, p2 F, B_X5_shine_71, nIs]
      refine congrArg (fun z => L_X5_shine_2 n (some 2) (nI (i + 1)) (st h z m)) ?_
      rw [g 10 (by decide) (by decide), v4, ptw_i]
      have hv : (if 0 < K 4 i + K 10 (i / 10) then K 4 i + K 10 (i / 10) else 0) = mx0 (K 4 i + K 10 (i / 10)) := rfl
      rw [hv, ptw_n (by unfold wrm; rw [if_pos hl])]
      unfold shineK
      funext a
      by_cases h4 : a = 4
      · subst h4; simp [upw]
      · by_cases h2 : a = 2
        · subst h2
          simp [upw, v2, upd_s, upd_upd, fo_succ, gft, hl, ptw, wrm]
        · simp [upw, h4, h2, g a h4 h2]
    · rw [if_pos hl]
      unfold B_X5_shine_71
      rw [x_bnd, nIs]
      have : shineK K (i + 1) = shineK K i := by
        unfold shineK
        rw [ptw_e (by unfold wrm; rw [if_neg hl])]
        have : fo (gft (K 11) (K 10) (K 4)) (K 2 4) (i + 1) = fo (gft (K 11) (K 10) (K 4)) (K 2 4) i := by
          rw [fo_succ]; unfold gft; rw [if_neg hl]
        rw [this]
      rw [this]
  · intro n
    show B_X5_shine_2 (L_X5_shine_2 n) (some 2) (nI 60) (st h (shineK K 60) m) = _
    unfold B_X5_shine_2
    rw [if_pos (show (60 : Int32) ≤ nI 60 from nI_le (a := 60) (Nat.le_refl _) (by decide))]
