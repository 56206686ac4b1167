/-! all floats -/
theorem s_skip41 {h : MH} {K m : Nat → Nat → Int32} {nb : Nat} (F : Fix h) (R13 : Row h 13 8 0 nb) : ∀ k n i, i + k = 8 → k < n → nb ≤ i → L_X8_passOneDay_41 n (some 1) (some 13) (nI 8) (nI i) (st h K m) = L_X8_passOneDay_86 fuel (some 1) (some 20) (nI 4) (nI 0) (st h K m) := by
  refine zlp (G := fun n i => L_X8_passOneDay_41 n (some 1) (some 13) (nI 8) (nI i) (st h K m)) (fun i => nb ≤ i) 8 _ (fun n i hi hI => Or.inr ⟨by omega, ?_⟩) (fun n _ => ?_)
  · show B_X8_passOneDay_41 (L_X8_passOneDay_41 n) (some 1) (some 13) (nI 8) (nI i) (st h K m) = _
    unfold B_X8_passOneDay_41
    rw [if_neg (nI_ge hi (by decide)), d13 F hi, R13.2.1 i hI hi, if_pos rfl]
    unfold B_X8_passOneDay_70
    rw [x_bnd, nIs]
  · show B_X8_passOneDay_41 (L_X8_passOneDay_41 n) (some 1) (some 13) (nI 8) (nI 8) (st h K m) = _
    unfold B_X8_passOneDay_41
    rw [if_pos (nI_le (Nat.le_refl _) (by decide)), r1_4 F, a20 F]
    rfl
/-! all searches -/
theorem drf_congr {la cu A A' : Nat → Int32} {c : Nat} {r s : Nat → Int32} {j : Nat} (hA : A c = A' c) (h : r j = s j) : drf la cu A c r j = drf la cu A' c s j := by
  unfold drf; rw [hA]; exact tr_congr (tr_congr (tr_congr (tr_congr (tr_congr h))))
theorem fo_drf_congr {la cu A A' R R' : Nat → Int32} {n : Nat} (hn : n ≤ 60) (hA : ∀ c, c < 60 → A c = A' c) {j : Nat} (hR : R j = R' j) : fo (drf la cu A) R n j = fo (drf la cu A') R' n j := by
  induction n with
  | zero => exact hR
  | succ n ih => rw [fo_succ, fo_succ]; exact drf_congr (hA n (by omega)) (ih (by omega))
theorem goK_o {K : Nat → Nat → Int32} {c1 c2 a : Nat} (h1 : a ≠ c1) (h2 : a ≠ c2) : goK K c1 c2 a = K a := by
  unfold goK; rw [upw_o h1, upw_o h2]
theorem Rel.go {h : MH} {K m : Nat → Nat → Int32} {B nb nr ns np nsm d s : Nat} {S : STy} (R : Rel h K m B nb nr ns np nsm d S) (hs : s < ns) : Rel h (goK K (ca h s) (co h s)) (driftM m s) B nb nr ns np nsm d S := by
  obtain ⟨⟨F, hN, R13, R15, R20, R21, RS⟩, C1, C2, C3, C4, C5, C6, C7, C8, C9⟩ := R
  obtain ⟨⟨q1, q2, q3, q4⟩, q5, q6, q7, q8⟩ := RS.1 s hs
  have kk : ∀ b, hk h b ≠ 20 → goK K (ca h s) (co h s) b = K b := fun b hb => goK_o (fun z => hb (by rw [z]; exact q2)) (fun z => hb (by rw [z]; exact q6))
  have k22 : ∀ b, b < 22 → goK K (ca h s) (co h s) b = K b := fun b hb => goK_o (by omega) (by omega)
  have mO : ∀ b, b ≠ 28 → b ≠ 46 → driftM m s b = m b := fun b h1 h2 => drift_o ⟨h1, h2⟩
  have hm45 : driftM m s 45 = m 45 := mO 45 (by decide) (by decide)
  refine ⟨⟨F, hN, R13, R15, R20, R21, RS⟩, ?_, ?_, ?_, ?_, ?_, ?_, ⟨fun s' hs' => ?_, fun j h1 h2 => ?_⟩, ?_, C9⟩
  · exact C1.fr (fun b hb => k22 b (by simp at hb; omega)) (fun b hb => mO b (by simp at hb; omega) (by simp at hb; omega)) (by rw [mO 22 (by omega) (by omega)])
  · unfold Cct
    rw [k22 1 (by omega), k22 14 (by omega), k22 16 (by omega), mO 22 (by omega) (by omega)]; exact C2
  · exact C3.fr R13 (fun b hb _ => kk b (by omega)) (fun b hb => mO b (by simp at hb; omega) (by simp at hb; omega))
  · exact C4.fr R15 (fun b hb _ => kk b (by omega)) (fun b hb => mO b (by simp at hb; omega) (by simp at hb; omega))
  · exact C5.fr (mO 43 (by omega) (by omega))
  · exact C6.fr (fun b hb => k22 b (by simp at hb; omega)) (fun b hb => mO b (by simp at hb; omega) (by simp at hb; omega)) (by rw [k22 16 (by omega)]) (by rw [mO 22 (by omega) (by omega)])
  · have qs := row_se R20 hs'
    rw [kk _ (by omega), hm45]
    refine ⟨(C7.1 s' hs').1, fun c hc => ?_⟩
    by_cases e1 : s' = s
    · subst e1
      rw [drift_46 hc]
      unfold goK
      rw [upw_s, C1.1.1, C1.1.2.1]
      exact fo_drf_congr (Nat.le_refl _) (fun c hc => (C7.1 s' hs).2 c hc) ((C7.1 s' hs).2 c hc)
    · rw [goK_o (fun z => e1 (RS.2.1 s' s hs' hs z)) (RS.2.2 s' s hs' hs), drift_46o (by omega)]
      exact (C7.1 s' hs').2 c hc
  · rw [drift_46o (by omega)]; exact C7.2 j h1 h2
  · exact C8.fr R21 (fun b hb _ => kk b (by omega)) (fun b hb => mO b (by simp at hb; omega) (by simp at hb; omega))
theorem s_skip86 {h : MH} {K m : Nat → Nat → Int32} {ns : Nat} (F : Fix h) (R20 : Row h 20 4 6 ns) : ∀ k n i, i + k = 4 → k < n → ns ≤ i → L_X8_passOneDay_86 n (some 1) (some 20) (nI 4) (nI i) (st h K m) = calV (M_X8_readAtStations (some 1) (st h K m)) fun h18 => rtV h18 := by
  refine zlp (G := fun n i => L_X8_passOneDay_86 n (some 1) (some 20) (nI 4) (nI i) (st h K m)) (fun i => ns ≤ i) 4 _ (fun n i hi hI => Or.inr ⟨by omega, ?_⟩) (fun n _ => ?_)
  · show B_X8_passOneDay_86 (L_X8_passOneDay_86 n) (some 1) (some 20) (nI 4) (nI i) (st h K m) = _
    unfold B_X8_passOneDay_86
    rw [if_neg (nI_ge hi (by decide)), d20 F hi, R20.2.1 i hI hi, if_pos rfl]
    unfold B_X8_passOneDay_110
    rw [x_bnd, nIs]
  · show B_X8_passOneDay_86 (L_X8_passOneDay_86 n) (some 1) (some 20) (nI 4) (nI 4) (st h K m) = _
    unfold B_X8_passOneDay_86
    rw [if_pos (nI_le (Nat.le_refl _) (by decide)), c1 F]
