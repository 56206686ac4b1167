/-! a day, whole -/
theorem dayA_o {K : Nat → Nat → Int32} {a : Nat} (h : a ∉ [1, 2, 4, 5, 7, 8, 12]) : dayA K a = K a := by
  simp only [List.mem_cons, List.not_mem_nil, or_false, not_or] at h
  unfold dayA
  rw [dayK_o (by simp; omega), flowK_o (by omega)]
  unfold K9
  rw [upw_o (by omega)]
theorem dayA_1 {K : Nat → Nat → Int32} : dayA K 1 = upd (K 1) 9 (K 1 9 + 1) := by
  unfold dayA
  rw [dayK_o (by decide), flowK_o (by decide)]
  unfold K9
  rw [upw_s]
theorem dayM1_o {m : Nat → Nat → Int32} {a : Nat} (h : a ∉ [22, 26, 27, 28, 29]) : dayM1 m a = m a := by
  simp only [List.mem_cons, List.not_mem_nil, or_false, not_or] at h
  unfold dayM1
  rw [warmM_o (by omega), flowM_o (by omega)]
  unfold m9
  rw [upw_o (by omega)]
theorem dayM1_22 {m : Nat → Nat → Int32} {j : Nat} (h : j ≠ 2) : dayM1 m 22 j = upd (m 22) 1 (m 22 1 + 1) j := by
  unfold dayM1
  rw [warmM_22o h, flowM_o (by decide)]
  unfold m9
  rw [upw_s]
theorem Rel.sea {h : MH} {K m : Nat → Nat → Int32} {B nb nr ns np nsm d : Nat} {S : STy} (R : Rel h K m B nb nr ns np nsm d S) (hd : d < 1000) : Rel h (dayA K) (dayM1 m) B nb nr ns np nsm (d + 1) S := by
  obtain ⟨⟨F, hN, R13, R15, R20, R21, RS⟩, C1, C2, C3, C4, C5, C6, C7, C8, C9⟩ := R
  have kd : ∀ a, 37 < a → dayA K a = K a := fun a ha => dayA_o (by simp; omega)
  refine ⟨⟨F, hN, R13, R15, R20, R21, RS⟩, ?_, ?_, ?_, ?_, ?_, ?_, ?_, ?_, C9⟩
  · have : Csea (K9 K) (m9 m) := by
      refine C1.fr (fun a ha => ?_) (fun a ha => ?_) ?_
      · unfold K9; rw [upw_o (by simp at ha; omega)]
      · unfold m9; rw [upw_o (by simp at ha; omega)]
      · unfold m9; rw [upw_s, upd_o (by decide)]
    exact this.flow.warm
  · obtain ⟨a1, a2, a3, a4, a6, a7, a8, a9, a10⟩ := C2
    unfold Cct
    rw [dayA_1, dayA_o (a := 14) (by decide), dayA_o (a := 16) (by decide), dayM1_22 (j := 10) (by decide), dayM1_22 (j := 30) (by decide), dayM1_22 (j := 33) (by decide), dayM1_22 (j := 23) (by decide), dayM1_22 (j := 20) (by decide), dayM1_22 (j := 1) (by decide), dayM1_22 (j := 29) (by decide), upd_s, upd_s, a7.1, a7.2, nIs]
    simp only [upd, show (6 : Nat) ≠ 9 by decide, show (7 : Nat) ≠ 9 by decide, show (8 : Nat) ≠ 9 by decide, show (10 : Nat) ≠ 1 by decide, show (30 : Nat) ≠ 1 by decide, show (33 : Nat) ≠ 1 by decide, show (23 : Nat) ≠ 1 by decide, show (20 : Nat) ≠ 1 by decide, show (29 : Nat) ≠ 1 by decide, if_false]
    exact ⟨a1, a2, a3, a4, a6, by simp, a8, by omega, a10⟩
  · exact C3.fr R13 (fun b _ hb => kd b hb) (fun b hb => dayM1_o (by simp at hb ⊢; omega))
  · exact C4.fr R15 (fun b _ hb => kd b hb) (fun b hb => dayM1_o (by simp at hb ⊢; omega))
  · exact C5.fr (dayM1_o (by decide))
  · exact C6.fr (fun b hb => dayA_o (by simp at hb ⊢; omega)) (fun b hb => dayM1_o (by simp at hb ⊢; omega)) (by rw [dayA_o (by decide)]) (by rw [dayM1_22 (by decide), upd_o (by decide)])
  · exact C7.fr R20 RS (fun b hb _ => kd b hb) ⟨dayM1_o (by decide), dayM1_o (by decide)⟩
  · exact C8.fr R21 (fun b _ hb => kd b hb) (fun b hb => dayM1_o (by simp at hb ⊢; omega))
