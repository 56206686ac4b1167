/-! leg, plan -/
theorem Rel.srch {h : MH} {K m K1 m1 : Nat → Nat → Int32} {B nb nr ns np nsm d s : Nat} {S : STy} (R : Rel h K m B nb nr ns np nsm d S) (hs : s < ns) (hK : ∀ a, a ≠ ca h s → a ≠ co h s → K1 a = K a) (hm : ∀ a, a ≠ 46 → a ≠ 22 → m1 a = m a) (h22 : ∀ j, j ≠ 0 → m1 22 j = m 22 j) (hrow : ∀ c, c < 60 → K1 (ca h s) c = m1 46 (60 * s + c)) (ho : ∀ j, j < 240 → ¬ (60 * s ≤ j ∧ j < 60 * s + 60) → m1 46 j = m 46 j) : Rel h K1 m1 B nb nr ns np nsm d S := by
  obtain ⟨⟨F, hN, R13, R15, R20, R21, RS⟩, C1, C2, C3, C4, C5, C6, C7, C8, C9⟩ := R
  obtain ⟨⟨q1, q2, q3, q4⟩, q5, q6, q7, q8⟩ := RS.1 s hs
  have kk : ∀ b, hk h b ≠ 20 → K1 b = K b := fun b hb => hK b (fun z => hb (by rw [z]; exact q2)) (fun z => hb (by rw [z]; exact q6))
  have k22 : ∀ b, b < 22 → K1 b = K b := fun b hb => hK b (by omega) (by omega)
  refine ⟨⟨F, hN, R13, R15, R20, R21, RS⟩, ?_, ?_, ?_, ?_, ?_, ?_, ⟨fun s' hs' => ?_, fun j h1 h2 => ?_⟩, ?_, C9⟩
  · exact C1.fr (fun b hb => k22 b (by simp at hb; omega)) (fun b hb => hm b (by simp at hb; omega) (by simp at hb; omega)) (h22 2 (by omega))
  · unfold Cct
    rw [k22 1 (by omega), k22 14 (by omega), k22 16 (by omega), h22 10 (by decide), h22 30 (by decide), h22 33 (by decide), h22 23 (by decide), h22 20 (by decide), h22 1 (by decide), h22 29 (by decide)]; exact C2
  · exact C3.fr R13 (fun b hb _ => kk b (by omega)) (fun b hb => hm b (by simp at hb; omega) (by simp at hb; omega))
  · exact C4.fr R15 (fun b hb _ => kk b (by omega)) (fun b hb => hm b (by simp at hb; omega) (by simp at hb; omega))
  · exact C5.fr (hm 43 (by omega) (by omega))
  · exact C6.fr (fun b hb => k22 b (by simp at hb; omega)) (fun b hb => hm b (by simp at hb; omega) (by simp at hb; omega)) (by rw [k22 16 (by omega)]) (h22 17 (by omega))
  · have qs := row_se R20 hs'
    rw [kk _ (by omega), hm 45 (by decide) (by decide)]
    refine ⟨(C7.1 s' hs').1, fun c hc => ?_⟩
    by_cases e1 : s' = s
    · subst e1; exact hrow c hc
    · have ns4 := hN.2.2.1
      rw [hK _ (fun z => e1 (RS.2.1 s' s hs' hs z)) (RS.2.2 s' s hs' hs), ho _ (by omega) (by omega)]
      exact (C7.1 s' hs').2 c hc
  · rw [ho j h2 (by omega)]; exact C7.2 j h1 h2
  · exact C8.fr R21 (fun b hb _ => kk b (by omega)) (fun b hb => hm b (by simp at hb; omega) (by simp at hb; omega))
theorem s_lookAt {h : MH} {K m : Nat → Nat → Int32} {a c : Nat} {x : Int32} (hka : hk h a = 20) (hla : hl h a = 60) (ha : cA a) (hc : c < 60) : M_X6_lookAt (some a) (nI c) x (st h K m) = rtI (K a c * x / 100) (st h (upw K a (upd (K a) c (K a c - K a c * x / 100))) m) := by
  unfold M_X6_lookAt
  rw [K_al hka (by decide) hla, s_isIndex_t hc (by decide), x_rtI, if_pos (by decide), K_rd hka hla ha hc (by decide), x_bnd, q_dv (by decide), K_rd hka hla ha hc (by decide), x_bnd, K_wr hka hla ha hc (by decide) (fun q => absurd q (by decide))]
