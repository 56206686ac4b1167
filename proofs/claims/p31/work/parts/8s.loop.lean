/-! the law's turns -/
theorem x_rtN {x : Int32} {h : MH} {k : Int32 → MH → Res} : calNI (rtI x h) k = k x h := rfl
abbrev RC : Type := Option Nat → Option Nat → Option Nat → Option Nat → Option Nat → Option Nat → Option Nat → Option Nat → Option Nat → Option Nat → Option Nat → Option Nat → Option Nat → Option Nat → Option Nat → Option Nat → Option Nat → Int32 → Int32 → MH → Res
/-- one turn leads to the next, with what stands -/
def Nx (res : Res) (rc : RC) (t B D : Nat) : Prop := ∃ h2 K2 g2 M2 nb nr ns nsm nst d, res = rc (some 1) (some 22) (some 23) (some 24) (some 25) (some 26) (some 27) (some 28) (some 29) (some 30) (some 31) (some 32) (some 33) (some 34) (some 35) (some 36) (some 37) 1 (nI (t + 1)) (st h2 K2 M2) ∧ Ok B h2 K2 g2 M2 nb nr ns nsm nst d ∧ Zr g2 ns d ∧ d ≤ D
section
variable {Ls : Nat} {xs : Nat → Int32} {rc : RC} {t : Nat}
theorem s_464 {h : MH} {K g M : Nat → Nat → Int32} {B nb nr ns nsm nst d D : Nat} {z : Int32} (O : Ok B h K g M nb nr ns nsm nst d) (Z : Zr g ns d) (hD : d ≤ D) : Nx (B_L_law_464 Ls xs rc (some 1) (some 22) (some 23) (some 24) (some 25) (some 26) (some 27) (some 28) (some 29) (some 30) (some 31) (some 32) (some 33) (some 34) (some 35) (some 36) (some 37) 1 (nI t) z (st h K M)) rc t (B + 3) D := by
  obtain ⟨h2, K2, M2, w1, w2⟩ := s_same (y := z >>> ((1 : Int32) &&& 31) &&& (8388607 : Int32)) O
  refine ⟨h2, K2, g, M2, nb, nr, ns, nsm, nst, d, ?_, w2, Z, hD⟩
  unfold B_L_law_464 B_L_law_514
  rw [if_neg (by decide), x_bnd, x_bnd, w1, x_rtN, if_neg (by decide), x_bnd, nIs]
theorem s_336 {h : MH} {K M : Nat → Nat → Int32} {B d D : Nat} {z a : Int32} (hD : d ≤ D) (T : Tl (M_L_tells (some 1) a z (some 22) (some 23) (some 24) (some 25) (some 26) (some 27) (some 28) (some 29) (some 30) (some 31) (some 32) (some 33) (some 34) (some 37) (st h K M)) B d) : Nx (B_L_law_336 Ls xs rc (some 1) (some 22) (some 23) (some 24) (some 25) (some 26) (some 27) (some 28) (some 29) (some 30) (some 31) (some 32) (some 33) (some 34) (some 35) (some 36) (some 37) (nI t) z (some 1) a (st h K M)) rc t (B + 4) D := by
  obtain ⟨h2, K2, g2, M2, nb2, nr2, ns2, nsm2, nst2, w1, w2, w3⟩ := T
  unfold B_L_law_336
  rw [w1, x_rtN]
  exact s_464 w2 w3 hD
theorem s_days {z : Int32} {B D days : Nat} (hdays : days ≤ 5) (hD350 : D ≤ 350) : ∀ k i h K g M nb nr ns nsm nst d, i + k = days → d + k ≤ D → Ok B h K g M nb nr ns nsm nst d → Zr g ns d → ∀ n, k < n → Nx (L_L_law_385 Ls xs rc n (some 1) (some 22) (some 23) (some 24) (some 25) (some 26) (some 27) (some 28) (some 29) (some 30) (some 31) (some 32) (some 33) (some 34) (some 35) (some 36) (some 37) 1 (nI t) z (nI days) (nI i) (st h K M)) rc t (B + 3) D := by
  intro k
  induction k with
  | zero =>
    intro i h K g M nb nr ns nsm nst d hi hd O Z n hn1
    obtain ⟨n, rfl⟩ : ∃ q, n = q + 1 := ⟨n - 1, by omega⟩
    show Nx (B_L_law_385 Ls xs rc (L_L_law_385 Ls xs rc n) (some 1) (some 22) (some 23) (some 24) (some 25) (some 26) (some 27) (some 28) (some 29) (some 30) (some 31) (some 32) (some 33) (some 34) (some 35) (some 36) (some 37) 1 (nI t) z (nI days) (nI i) (st h K M)) rc t (B + 3) D
    unfold B_L_law_385
    rw [if_pos (nI_le (by omega) (by omega))]
    exact s_464 O Z (by omega)
  | succ k ih =>
    intro i h K g M nb nr ns nsm nst d hi hd O Z n hn1
    obtain ⟨n, rfl⟩ : ∃ q, n = q + 1 := ⟨n - 1, by omega⟩
    have F := O.F
    have q5 : M 37 5 = nI nr := O.2.2.1.2.2.2.2.2.2.2.1.2.2.2.2.1
    have hn := O.2.2.2.2.1
    show Nx (B_L_law_385 Ls xs rc (L_L_law_385 Ls xs rc n) (some 1) (some 22) (some 23) (some 24) (some 25) (some 26) (some 27) (some 28) (some 29) (some 30) (some 31) (some 32) (some 33) (some 34) (some 35) (some 36) (some 37) 1 (nI t) z (nI days) (nI i) (st h K M)) rc t (B + 3) D
    unfold B_L_law_385 B_L_law_456 B_L_law_458
    rw [if_neg (nI_ge (by omega) (by omega)), if_neg (by decide), rq5 F, q5]
    by_cases q : nr < 26
    · obtain ⟨h2, K2, g2, M2, nr2, nst2, a1, a2, a3, a4, a5, a6⟩ := kk_pass1 O.1 O.2.1 O.2.2.1 (by omega) (show nr ≤ 25 by omega)
      have O2 : Ok B h2 K2 g2 M2 nb nr2 ns nsm nst2 (d + 1) := ⟨a3, a4, a5, O.2.2.2.1, a6, by omega⟩
      have q0 : M2 37 0 = nI (d + 1) := a5.2.2.2.2.2.2.2.1.1
      rw [if_neg (show ¬ (26 : Int32) ≤ nI nr from nI_ge (b := 26) q (by decide)), a2 h K F, x_rtV, c1 F, a1 M2, x_rtN, rq0 O2.F, q0, if_neg (fun z => z rfl), x_bnd, nIs]
      exact ih (i + 1) h2 K2 g2 M2 nb nr2 ns nsm nst2 (d + 1) (by omega) (by omega) O2 (fun w => by omega) n (by omega)
    · rw [if_pos (show (26 : Int32) ≤ nI nr from nI_le (a := 26) (by omega) (by omega)), x_bnd, nIs]
      exact ih (i + 1) h K g M nb nr ns nsm nst d (by omega) (by omega) O Z n (by omega)
theorem s_205 {h : MH} {K g M : Nat → Nat → Int32} {B nb nr ns nsm nst d D a : Nat} {z : Int32} (O : Ok B h K g M nb nr ns nsm nst d) (Z : Zr g ns d) (hD : d + 5 ≤ D) (hD350 : D ≤ 350) (ha : a < 30) : Nx (B_L_law_205 Ls xs rc (some 1) (some 22) (some 23) (some 24) (some 25) (some 26) (some 27) (some 28) (some 29) (some 30) (some 31) (some 32) (some 33) (some 34) (some 35) (some 36) (some 37) 1 (nI t) z (nI a) (st h K M)) rc t (B + 4) D := by
  unfold B_L_law_205
  rw [x_bnd]
  by_cases c21 : 21 ≤ a
  · have hdl := lw_lt (v := z >>> ((4 : Int32) &&& 31)) (n := 5) (by decide)
    obtain ⟨days, ed⟩ : ∃ k, k = 1 + lw (z >>> ((4 : Int32) &&& 31)) 5 := ⟨_, rfl⟩
    rw [if_pos (show (21 : Int32) ≤ nI a from nI_le (a := 21) c21 (by omega)), s_low (x := (5 : Int32)) (n := 5) rfl (by decide) (by decide), x_rtI, x_bnd, show (1 : Int32) + nI (lw (z >>> ((4 : Int32) &&& 31)) 5) = nI days by rw [ed]; exact nI_add 1 _]
    obtain ⟨h2, K2, g2, M2, nb2, nr2, ns2, nsm2, nst2, d2, w1, w2, w3⟩ := s_days (Ls := Ls) (xs := xs) (rc := rc) (t := t) (z := z >>> ((4 : Int32) &&& 31)) (B := B) (D := D) (days := days) (by omega) hD350 days 0 h K g M nb nr ns nsm nst d (by omega) (by omega) O Z fuel (by have : fuel = 1000 := rfl; omega)
    exact ⟨h2, K2, g2, M2, nb2, nr2, ns2, nsm2, nst2, d2, w1, w2.up, w3⟩
  · rw [if_neg (show ¬ (21 : Int32) ≤ nI a from nI_ge (b := 21) (by omega) (by decide))]
    by_cases c2 : 2 ≤ a
    · rw [if_pos (show (2 : Int32) ≤ nI a from nI_le (a := 2) c2 (by omega))]
      by_cases c7 : 7 ≤ a
      · rw [if_pos (show (7 : Int32) ≤ nI a from nI_le (a := 7) c7 (by omega))]
        by_cases c8 : 8 ≤ a
        · rw [if_pos (show (8 : Int32) ≤ nI a from nI_le (a := 8) c8 (by omega))]
          by_cases c10 : 10 ≤ a
          · rw [if_pos (show (10 : Int32) ≤ nI a from nI_le (a := 10) c10 (by omega))]
            by_cases c13 : 13 ≤ a
            · rw [if_pos (show (13 : Int32) ≤ nI a from nI_le (a := 13) c13 (by omega))]
              by_cases c14 : 14 ≤ a
              · rw [if_pos (show (14 : Int32) ≤ nI a from nI_le (a := 14) c14 (by omega))]
                by_cases c15 : 15 ≤ a
                · rw [if_pos (show (15 : Int32) ≤ nI a from nI_le (a := 15) c15 (by omega))]
                  by_cases c17 : 17 ≤ a
                  · rw [if_pos (show (17 : Int32) ≤ nI a from nI_le (a := 17) c17 (by omega))]
                    by_cases c18 : 18 ≤ a
                    · rw [if_pos (show (18 : Int32) ≤ nI a from nI_le (a := 18) c18 (by omega))]
                      by_cases c20 : 20 ≤ a
                      · rw [if_pos (show (20 : Int32) ≤ nI a from nI_le (a := 20) c20 (by omega))]
                        exact s_336 (by omega) (t_10 O Z)
                      · rw [if_neg (show ¬ (20 : Int32) ≤ nI a from nI_ge (b := 20) (by omega) (by decide))]
                        exact s_336 (by omega) (t_9 O Z)
                    · rw [if_neg (show ¬ (18 : Int32) ≤ nI a from nI_ge (b := 18) (by omega) (by decide))]
                      exact s_336 (by omega) (t_8 O Z)
                  · rw [if_neg (show ¬ (17 : Int32) ≤ nI a from nI_ge (b := 17) (by omega) (by decide))]
                    exact s_336 (by omega) (t_7 O Z)
                · rw [if_neg (show ¬ (15 : Int32) ≤ nI a from nI_ge (b := 15) (by omega) (by decide))]
                  exact s_336 (by omega) (t_6 O Z)
              · rw [if_neg (show ¬ (14 : Int32) ≤ nI a from nI_ge (b := 14) (by omega) (by decide))]
                exact s_336 (by omega) (t_5 O Z)
            · rw [if_neg (show ¬ (13 : Int32) ≤ nI a from nI_ge (b := 13) (by omega) (by decide))]
              exact s_336 (by omega) (t_4 O Z)
          · rw [if_neg (show ¬ (10 : Int32) ≤ nI a from nI_ge (b := 10) (by omega) (by decide))]
            exact s_336 (by omega) (t_3 O Z)
        · rw [if_neg (show ¬ (8 : Int32) ≤ nI a from nI_ge (b := 8) (by omega) (by decide))]
          exact s_336 (by omega) (t_2 O Z)
      · rw [if_neg (show ¬ (7 : Int32) ≤ nI a from nI_ge (b := 7) (by omega) (by decide))]
        exact s_336 (by omega) (t_1 O Z)
    · rw [if_neg (show ¬ (2 : Int32) ≤ nI a from nI_ge (b := 2) (by omega) (by decide))]
      exact s_336 (by omega) (t_0 O Z)
theorem s_turns (hL : Ls ≤ 260) : ∀ k t h K g M nb nr ns nsm nst d, t + k = 70 → Ok (4 * t) h K g M nb nr ns nsm nst d → Zr g ns d → d ≤ 5 * t → ∀ n, k < n → ∃ h' : MH, L_L_law_162 Ls xs n (some 1) (some 22) (some 23) (some 24) (some 25) (some 26) (some 27) (some 28) (some 29) (some 30) (some 31) (some 32) (some 33) (some 34) (some 35) (some 36) (some 37) 1 (nI t) (st h K M) = some (.inl (some (vI 1)), h') ∧ CGyreWatchLaw_law_r6608_32e876.hc h' ≤ 2000 ∧ hs h' ≤ 50000 := by
  intro k
  induction k with
  | zero =>
    intro t h K g M nb nr ns nsm nst d ht O Z hd n hn1
    obtain ⟨n, rfl⟩ : ∃ q, n = q + 1 := ⟨n - 1, by omega⟩
    have ht70 : t = 70 := by omega
    subst ht70
    have hco := O.1.2.2.2.2.2.2.2.2.2
    have hn := O.2.2.2.2.1
    refine ⟨st h K M, ?_, ?_, ?_⟩
    · show B_L_law_162 Ls xs (L_L_law_162 Ls xs n) (some 1) (some 22) (some 23) (some 24) (some 25) (some 26) (some 27) (some 28) (some 29) (some 30) (some 31) (some 32) (some 33) (some 34) (some 35) (some 36) (some 37) 1 (nI 70) (st h K M) = _
      unfold B_L_law_162 rtL
      rw [if_pos (show (70 : Int32) ≤ nI 70 from nI_le (a := 70) (Nat.le_refl _) (by decide)), if_pos rfl]
    · have e : CGyreWatchLaw_law_r6608_32e876.hc (st h K M) = CGyreWatchLaw_law_r6608_32e876.hc h := rfl
      rw [e]
      have := hco.1
      omega
    · have e : hs (st h K M) = hs h := rfl
      rw [e]
      have := hco.2
      omega
  | succ k ih =>
    intro t h K g M nb nr ns nsm nst d ht O Z hd n hn1
    obtain ⟨n, rfl⟩ : ∃ q, n = q + 1 := ⟨n - 1, by omega⟩
    have turn : ∀ a, a < 30 → Nx (B_L_law_205 Ls xs (L_L_law_162 Ls xs n) (some 1) (some 22) (some 23) (some 24) (some 25) (some 26) (some 27) (some 28) (some 29) (some 30) (some 31) (some 32) (some 33) (some 34) (some 35) (some 36) (some 37) 1 (nI t) (cel Ls xs t) (nI a) (st h K M)) (L_L_law_162 Ls xs n) t (4 * t + 4) (5 * t + 5) := fun a ha => s_205 O Z (by omega) (by omega) ha
    have fin : ∀ res, Nx res (L_L_law_162 Ls xs n) t (4 * t + 4) (5 * t + 5) → ∃ h' : MH, res = some (.inl (some (vI 1)), h') ∧ CGyreWatchLaw_law_r6608_32e876.hc h' ≤ 2000 ∧ hs h' ≤ 50000 := by
      rintro res ⟨h2, K2, g2, M2, nb2, nr2, ns2, nsm2, nst2, d2, w1, w2, w3, w4⟩
      rw [w1]
      exact ih (t + 1) h2 K2 g2 M2 nb2 nr2 ns2 nsm2 nst2 d2 (by omega) w2 w3 (by omega) n (by omega)
    show ∃ h' : MH, B_L_law_162 Ls xs (L_L_law_162 Ls xs n) (some 1) (some 22) (some 23) (some 24) (some 25) (some 26) (some 27) (some 28) (some 29) (some 30) (some 31) (some 32) (some 33) (some 34) (some 35) (some 36) (some 37) 1 (nI t) (st h K M) = some (.inl (some (vI 1)), h') ∧ CGyreWatchLaw_law_r6608_32e876.hc h' ≤ 2000 ∧ hs h' ≤ 50000
    unfold B_L_law_162
    rw [if_neg (show ¬ (70 : Int32) ≤ nI t from nI_ge (b := 70) (by omega) (by decide)), if_neg (by decide), s_lcell hL (by omega), x_rtI]
    split
    · rw [s_low (x := (30 : Int32)) (n := 30) rfl (by decide) (by decide), x_rtI]
      exact fin _ (turn _ (lw_lt (by decide)))
    · rw [s_low (x := (9 : Int32)) (n := 9) rfl (by decide) (by decide), x_rtI]
      exact fin _ (turn _ (by have := lw_lt (v := cel Ls xs t) (n := 9) (by decide); omega))
end
