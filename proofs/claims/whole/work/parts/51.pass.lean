/-! a day, whole -/
theorem dayA_o {K : Nat → Nat → Int32} {a : Nat} (h : a ∉ [1, 2, 4, 5, 7, 8, 12]) : dayA K a = K a := by
  simp only [List.mem_cons, List.not_mem_nil, or_false, not_or] at h
  unfold dayA
  rw [dayK_o (by simp; omega), flowK_o (by omega)]
  unfold K9
  rw [upw_o (by omega)]
theorem dayA_1 {K : Nat → Nat → Int32} : dayA K 1 = upd (K 1) 9 (K 1 9 + 1) := by
  unfold dayA
  rw [dayK_o (by decide), flowK_o (by decide)]
  unfold K9
  rw [upw_s]
theorem dayM1_o {m : Nat → Nat → Int32} {a : Nat} (h : a ∉ [22, 26, 27, 28, 29]) : dayM1 m a = m a := by
  simp only [List.mem_cons, List.not_mem_nil, or_false, not_or] at h
  unfold dayM1
  rw [warmM_o (by omega), flowM_o (by omega)]
  unfold m9
  rw [upw_o (by omega)]
theorem dayM1_22 {m : Nat → Nat → Int32} {j : Nat} (h : j ≠ 2) : dayM1 m 22 j = upd (m 22) 1 (m 22 1 + 1) j := by
  unfold dayM1
  rw [warmM_22o h, flowM_o (by decide)]
  unfold m9
  rw [upw_s]
theorem Rel.sea {h : MH} {K m : Nat → Nat → Int32} {B nb nr ns np nsm d : Nat} {S : STy} (R : Rel h K m B nb nr ns np nsm d S) (hd : d < 1000) : Rel h (dayA K) (dayM1 m) B nb nr ns np nsm (d + 1) S := by
  obtain ⟨⟨F, hN, R13, R15, R20, R21, RS⟩, C1, C2, C3, C4, C5, C6, C7, C8, C9⟩ := R
  have kd : ∀ a, 50 < a → dayA K a = K a := fun a ha => dayA_o (by simp; omega)
  refine ⟨⟨F, hN, R13, R15, R20, R21, RS⟩, ?_, ?_, ?_, ?_, ?_, ?_, ?_, ?_, C9⟩
  · have : Csea (K9 K) (m9 m) := by
      refine C1.fr (fun a ha => ?_) (fun a ha => ?_) ?_
      · unfold K9; rw [upw_o (by simp at ha; omega)]
      · unfold m9; rw [upw_o (by simp at ha; omega)]
      · unfold m9; rw [upw_s, upd_o (by decide)]
    exact this.flow.warm
  · obtain ⟨a1, a2, a3, a4, a6, a7, a8, a9, a10⟩ := C2
    unfold Cct
    rw [dayA_1, dayA_o (a := 14) (by decide), dayA_o (a := 16) (by decide), dayM1_22 (j := 10) (by decide), dayM1_22 (j := 30) (by decide), dayM1_22 (j := 33) (by decide), dayM1_22 (j := 23) (by decide), dayM1_22 (j := 20) (by decide), dayM1_22 (j := 1) (by decide), dayM1_22 (j := 29) (by decide), upd_s, upd_s, a7.1, a7.2, nIs]
    simp only [upd, show (6 : Nat) ≠ 9 by decide, show (7 : Nat) ≠ 9 by decide, show (8 : Nat) ≠ 9 by decide, show (10 : Nat) ≠ 1 by decide, show (30 : Nat) ≠ 1 by decide, show (33 : Nat) ≠ 1 by decide, show (23 : Nat) ≠ 1 by decide, show (20 : Nat) ≠ 1 by decide, show (29 : Nat) ≠ 1 by decide, if_false]
    exact ⟨a1, a2, a3, a4, a6, by simp, a8, by omega, a10⟩
  · exact C3.fr R13 (fun b _ hb => kd b hb) (fun b hb => dayM1_o (by simp at hb ⊢; omega))
  · exact C4.fr R15 (fun b _ hb => kd b hb) (fun b hb => dayM1_o (by simp at hb ⊢; omega))
  · exact C5.fr (dayM1_o (by decide))
  · exact C6.fr (fun b hb => dayA_o (by simp at hb ⊢; omega)) (fun b hb => dayM1_o (by simp at hb ⊢; omega)) (by rw [dayA_o (by decide)]) (by rw [dayM1_22 (by decide), upd_o (by decide)])
  · exact C7.fr R20 RS (fun b hb _ => kd b hb) ⟨dayM1_o (by decide), dayM1_o (by decide)⟩
  · exact C8.fr R21 (fun b _ hb => kd b hb) (fun b hb => dayM1_o (by simp at hb ⊢; omega))
theorem day_ok {h : MH} {K m : Nat → Nat → Int32} {B nb nr ns np nsm d nst : Nat} (R : Rel h K m B nb nr ns np nsm d (Sst nst d)) (L : Cli m nb) (hd : d < 1000) : ∃ h2 K2 m2 nr2 nst2, (∀ mm, M_X8_passOneDay (some 1) (st h K mm) = rtV (st h2 K2 mm)) ∧ (∀ rc x1 x2 h' K', Fix h' → (calV (M_X9_flows (some 22) (st h' K' (m9 m))) fun h10 => L_X9_pass_65 rc fuel (some 22) x1 x2 (0 : Int32) h10) = rc (some 22) x1 (x2 + 1) (st h' K' m2)) ∧ Rel h2 K2 m2 B nb nr2 ns np nsm (d + 1) (Sst nst2 (d + 1)) ∧ Cli m2 nb ∧ m2 22 0 = m 22 0 := by
  have F := R.1.1
  have hcu : Cur (m 24) := R.2.1.2.2.2.2.2
  have R1 := R.sea hd
  have L1 : Cli (dayM1 m) nb := by
    intro k hk1 h1
    rw [dayM1_o (by decide)] at h1 ⊢
    exact L k hk1 h1
  obtain ⟨h2, K2, m2, nr2, a1, a2, a3, a4, a5⟩ := floats_ok nb 0 h _ _ nr (by omega) R1 L1
  obtain ⟨K3, m3, b1, b2, b3, b4, b5⟩ := searches_ok ns 0 _ _ (by omega) a3 a4
  obtain ⟨h4, K4, m4, nr4, nst4, c1, c2, c3, c4, c5, c6⟩ := shipsA b3
  refine ⟨h4, K4, m4, nr4, nst4, fun mm => ?_, fun rc x1 x2 h' K' F' => ?_, c3, ?_, ?_⟩
  · rw [s_day1 F (by rw [R.2.1.1.2.1]; exact hcu), a1 mm fuel (by decide), b1 mm fuel (by decide), c1 mm, x_rtV]
  · have hz := (Csea.flow (K := K9 K) (m := m9 m) (by
      refine R.2.1.fr (fun a ha => ?_) (fun a ha => ?_) ?_
      · unfold K9; rw [upw_o (by simp at ha; omega)]
      · unfold m9; rw [upw_o (by simp at ha; omega)]
      · unfold m9; rw [upw_s, upd_o (by decide)])).2.2.2.2.1
    rw [s_flows F' (by unfold m9; rw [upw_o (by decide)]; exact hcu), x_rtV]
    show L_X9_pass_65 rc fuel (some 22) x1 x2 (nI 0) (st h' K' (flowM (m9 m))) = _
    rw [s_pass65 F' rc x1 x2 hz]
    show L_X9_pass_93 rc fuel (some 22) x1 x2 (nI 0) (st h' K' (dayM1 m)) = _
    rw [a2 rc x1 x2 h' K' fuel F' (by decide), b2 rc x1 x2 h' K' fuel F' (by decide), c2 h' K' F', x_rtV, x_bnd]
  · intro k hk1 h1
    rw [c5] at h1
    rw [c4]
    exact b4 k hk1 h1
  · rw [c6, b5, a5, dayM1_22 (by decide), upd_o (by decide)]
