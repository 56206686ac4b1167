/-! all floats -/
theorem s_skip41 {h : MH} {K m : Nat → Nat → Int32} {nb : Nat} (F : Fix h) (R13 : Row h 13 8 0 nb) : ∀ k n i, i + k = 8 → k < n → nb ≤ i → L_X8_passOneDay_41 n (some 1) (some 13) (nI 8) (nI i) (st h K m) = L_X8_passOneDay_86 fuel (some 1) (some 20) (nI 4) (nI 0) (st h K m) := by
  refine zlp (G := fun n i => L_X8_passOneDay_41 n (some 1) (some 13) (nI 8) (nI i) (st h K m)) (fun i => nb ≤ i) 8 _ (fun n i hi hI => Or.inr ⟨by omega, ?_⟩) (fun n _ => ?_)
  · show B_X8_passOneDay_41 (L_X8_passOneDay_41 n) (some 1) (some 13) (nI 8) (nI i) (st h K m) = _
    unfold B_X8_passOneDay_41
    rw [if_neg (nI_ge hi (by decide)), d13 F hi, R13.2.1 i hI hi, if_pos rfl]
    unfold B_X8_passOneDay_70
    rw [x_bnd, nIs]
  · show B_X8_passOneDay_41 (L_X8_passOneDay_41 n) (some 1) (some 13) (nI 8) (nI 8) (st h K m) = _
    unfold B_X8_passOneDay_41
    rw [if_pos (nI_le (Nat.le_refl _) (by decide)), r1_4 F, a20 F]
    rfl
theorem floats_ok {B nb ns np nsm d : Nat} {S : STy} : ∀ k i h K m nr, i + k = nb → Rel h K m B nb nr ns np nsm d S → Cli m nb → ∃ h2 K2 m2 nr2, (∀ mm n, 8 - i < n → L_X8_passOneDay_41 n (some 1) (some 13) (nI 8) (nI i) (st h K mm) = L_X8_passOneDay_86 fuel (some 1) (some 20) (nI 4) (nI 0) (st h2 K2 mm)) ∧ (∀ rc x1 x2 h' K' n, Fix h' → 8 - i < n → L_X9_pass_93 rc n (some 22) x1 x2 (nI i) (st h' K' m) = L_X9_pass_114 rc fuel (some 22) x1 x2 (nI 0) (st h' K' m2)) ∧ Rel h2 K2 m2 B nb nr2 ns np nsm d S ∧ Cli m2 nb ∧ m2 22 0 = m 22 0 := by
  intro k
  induction k with
  | zero =>
    intro i h K m nr hi R L
    have nb8 := R.1.2.1.1
    refine ⟨h, K, m, nr, fun mm n hn1 => s_skip41 R.1.1 R.1.2.2.1 (8 - i) n i (by omega) hn1 (by omega), fun rc x1 x2 h' K' n F' hn1 => ?_, R, L, rfl⟩
    obtain ⟨n, rfl⟩ : ∃ q, n = q + 1 := ⟨n - 1, by omega⟩
    show B_X9_pass_93 rc (L_X9_pass_93 rc n) (some 22) x1 x2 (nI i) (st h' K' m) = _
    unfold B_X9_pass_93
    rw [g22 F', R.2.2.1.1.2, if_pos (nI_le (by omega) (by omega))]
    rfl
  | succ k ih =>
    intro i h K m nr hi R L
    have nb8 := R.1.2.1.1
    have F := R.1.1
    have hin : i < nb := by omega
    have q := row_bu R.1.2.2.1 hin
    obtain ⟨⟨b0, b1, b2, b3, b4, b5, b6, b7⟩, -, -, ⟨bt, hbt, hmb⟩⟩ := R.2.2.2.1.1 i hin
    have hm10 : m 22 10 = nI nb := R.2.2.1.1.2
    by_cases hb : m 33 i = 0
    · obtain ⟨h2, K2, m2, nr2, w1, w2, w3, w4⟩ := ih (i + 1) h K m nr (by omega) R L
      refine ⟨h2, K2, m2, nr2, fun mm n hn1 => ?_, fun rc x1 x2 h' K' n F' hn1 => ?_, w3, w4⟩
      · obtain ⟨n, rfl⟩ : ∃ q, n = q + 1 := ⟨n - 1, by omega⟩
        show B_X8_passOneDay_41 (L_X8_passOneDay_41 n) (some 1) (some 13) (nI 8) (nI i) (st h K mm) = _
        unfold B_X8_passOneDay_41
        rw [if_neg (nI_ge (by omega) (by decide)), d13 F (by omega), q.1, if_neg (by intro z; cases z), K_gf q.2.1 (Or.inr (by omega)), b5, hb, if_pos (by decide)]
        unfold B_X8_passOneDay_70
        rw [x_bnd, nIs, w1 mm n (by omega)]
      · obtain ⟨n, rfl⟩ : ∃ q, n = q + 1 := ⟨n - 1, by omega⟩
        show B_X9_pass_93 rc (L_X9_pass_93 rc n) (some 22) x1 x2 (nI i) (st h' K' m) = _
        unfold B_X9_pass_93 M_X9_parks
        rw [g22 F', hm10, if_neg (nI_ge hin (by omega)), c22 F', r22_14 F', d33 F' (by omega), hb, if_neg (fun z => z rfl), x_rtV, x_bnd, nIs, w2 rc x1 x2 h' K' n F' (by omega)]
    · obtain ⟨h1, K1, m1, nr1, v1, v2, v3, v4, v5⟩ := drift_ok R L hin hb
      obtain ⟨h2, K2, m2, nr2, w1, w2, w3, w4, w5⟩ := ih (i + 1) h1 K1 m1 nr1 (by omega) v3 v4
      refine ⟨h2, K2, m2, nr2, fun mm n hn1 => ?_, fun rc x1 x2 h' K' n F' hn1 => ?_, w3, w4, w5.trans v5⟩
      · obtain ⟨n, rfl⟩ : ∃ q, n = q + 1 := ⟨n - 1, by omega⟩
        show B_X8_passOneDay_41 (L_X8_passOneDay_41 n) (some 1) (some 13) (nI 8) (nI i) (st h K mm) = _
        unfold B_X8_passOneDay_41
        have hbt0 : ¬ m 33 i ≤ 0 := by
          rw [hmb, nI0, nI_leP (by omega) (by omega)]
          intro z
          have : bt = 0 := by omega
          rw [this] at hmb
          exact hb hmb
        rw [if_neg (nI_ge (by omega) (by decide)), d13 F (by omega), q.1, if_neg (by intro z; cases z), K_gf q.2.1 (Or.inr (by omega)), b5, if_neg hbt0, c1 F, v1 mm, x_rtV]
        unfold B_X8_passOneDay_70
        rw [x_bnd, nIs, w1 mm n (by omega)]
      · obtain ⟨n, rfl⟩ : ∃ q, n = q + 1 := ⟨n - 1, by omega⟩
        show B_X9_pass_93 rc (L_X9_pass_93 rc n) (some 22) x1 x2 (nI i) (st h' K' m) = _
        unfold B_X9_pass_93
        rw [g22 F', hm10, if_neg (nI_ge hin (by omega)), c22 F', v2 h' K' F', x_rtV, x_bnd, nIs, w2 rc x1 x2 h' K' n F' (by omega)]
/-! all searches -/
theorem drf_congr {la cu A A' : Nat → Int32} {c : Nat} {r s : Nat → Int32} {j : Nat} (hA : A c = A' c) (h : r j = s j) : drf la cu A c r j = drf la cu A' c s j := by
  unfold drf; rw [hA]; exact tr_congr (tr_congr (tr_congr (tr_congr (tr_congr h))))
theorem fo_drf_congr {la cu A A' R R' : Nat → Int32} {n : Nat} (hn : n ≤ 60) (hA : ∀ c, c < 60 → A c = A' c) {j : Nat} (hR : R j = R' j) : fo (drf la cu A) R n j = fo (drf la cu A') R' n j := by
  induction n with
  | zero => exact hR
  | succ n ih => rw [fo_succ, fo_succ]; exact drf_congr (hA n (by omega)) (ih (by omega))
theorem goK_o {K : Nat → Nat → Int32} {c1 c2 a : Nat} (h1 : a ≠ c1) (h2 : a ≠ c2) : goK K c1 c2 a = K a := by
  unfold goK; rw [upw_o h1, upw_o h2]
theorem Rel.go {h : MH} {K m : Nat → Nat → Int32} {B nb nr ns np nsm d s : Nat} {S : STy} (R : Rel h K m B nb nr ns np nsm d S) (hs : s < ns) : Rel h (goK K (ca h s) (co h s)) (driftM m s) B nb nr ns np nsm d S := by
  obtain ⟨⟨F, hN, R13, R15, R20, R21, RS⟩, C1, C2, C3, C4, C5, C6, C7, C8, C9⟩ := R
  obtain ⟨⟨q1, q2, q3, q4⟩, q5, q6, q7, q8⟩ := RS.1 s hs
  have kk : ∀ b, hk h b ≠ 20 → goK K (ca h s) (co h s) b = K b := fun b hb => goK_o (fun z => hb (by rw [z]; exact q2)) (fun z => hb (by rw [z]; exact q6))
  have k22 : ∀ b, b < 22 → goK K (ca h s) (co h s) b = K b := fun b hb => goK_o (by omega) (by omega)
  have mO : ∀ b, b ≠ 28 → b ≠ 46 → driftM m s b = m b := fun b h1 h2 => drift_o ⟨h1, h2⟩
  have hm45 : driftM m s 45 = m 45 := mO 45 (by decide) (by decide)
  refine ⟨⟨F, hN, R13, R15, R20, R21, RS⟩, ?_, ?_, ?_, ?_, ?_, ?_, ⟨fun s' hs' => ?_, fun j h1 h2 => ?_⟩, ?_, C9⟩
  · exact C1.fr (fun b hb => k22 b (by simp at hb; omega)) (fun b hb => mO b (by simp at hb; omega) (by simp at hb; omega)) (by rw [mO 22 (by omega) (by omega)])
  · unfold Cct
    rw [k22 1 (by omega), k22 14 (by omega), k22 16 (by omega), mO 22 (by omega) (by omega)]; exact C2
  · exact C3.fr R13 (fun b hb _ => kk b (by omega)) (fun b hb => mO b (by simp at hb; omega) (by simp at hb; omega))
  · exact C4.fr R15 (fun b hb _ => kk b (by omega)) (fun b hb => mO b (by simp at hb; omega) (by simp at hb; omega))
  · exact C5.fr (mO 43 (by omega) (by omega))
  · exact C6.fr (fun b hb => k22 b (by simp at hb; omega)) (fun b hb => mO b (by simp at hb; omega) (by simp at hb; omega)) (by rw [k22 16 (by omega)]) (by rw [mO 22 (by omega) (by omega)])
  · have qs := row_se R20 hs'
    rw [kk _ (by omega), hm45]
    refine ⟨(C7.1 s' hs').1, fun c hc => ?_⟩
    by_cases e1 : s' = s
    · subst e1
      rw [drift_46 hc]
      unfold goK
      rw [upw_s, C1.1.1, C1.1.2.1]
      exact fo_drf_congr (Nat.le_refl _) (fun c hc => (C7.1 s' hs).2 c hc) ((C7.1 s' hs).2 c hc)
    · rw [goK_o (fun z => e1 (RS.2.1 s' s hs' hs z)) (RS.2.2 s' s hs' hs), drift_46o (by omega)]
      exact (C7.1 s' hs').2 c hc
  · rw [drift_46o (by omega)]; exact C7.2 j h1 h2
  · exact C8.fr R21 (fun b hb _ => kk b (by omega)) (fun b hb => mO b (by simp at hb; omega) (by simp at hb; omega))
theorem s_skip86 {h : MH} {K m : Nat → Nat → Int32} {ns : Nat} (F : Fix h) (R20 : Row h 20 4 6 ns) : ∀ k n i, i + k = 4 → k < n → ns ≤ i → L_X8_passOneDay_86 n (some 1) (some 20) (nI 4) (nI i) (st h K m) = calV (M_X8_readAtStations (some 1) (st h K m)) fun h18 => rtV h18 := by
  refine zlp (G := fun n i => L_X8_passOneDay_86 n (some 1) (some 20) (nI 4) (nI i) (st h K m)) (fun i => ns ≤ i) 4 _ (fun n i hi hI => Or.inr ⟨by omega, ?_⟩) (fun n _ => ?_)
  · show B_X8_passOneDay_86 (L_X8_passOneDay_86 n) (some 1) (some 20) (nI 4) (nI i) (st h K m) = _
    unfold B_X8_passOneDay_86
    rw [if_neg (nI_ge hi (by decide)), d20 F hi, R20.2.1 i hI hi, if_pos rfl]
    unfold B_X8_passOneDay_110
    rw [x_bnd, nIs]
  · show B_X8_passOneDay_86 (L_X8_passOneDay_86 n) (some 1) (some 20) (nI 4) (nI 4) (st h K m) = _
    unfold B_X8_passOneDay_86
    rw [if_pos (nI_le (Nat.le_refl _) (by decide)), c1 F]
theorem searches_ok {B nb nr ns np nsm d : Nat} {S : STy} {h : MH} : ∀ k i K m, i + k = ns → Rel h K m B nb nr ns np nsm d S → Cli m nb → ∃ K2 m2, (∀ mm n, 4 - i < n → L_X8_passOneDay_86 n (some 1) (some 20) (nI 4) (nI i) (st h K mm) = calV (M_X8_readAtStations (some 1) (st h K2 mm)) fun h18 => rtV h18) ∧ (∀ rc x1 x2 h' K' n, Fix h' → 4 - i < n → L_X9_pass_114 rc n (some 22) x1 x2 (nI i) (st h' K' m) = calV (M_X9_ships (some 22) (st h' K' m2)) fun h19 => bnd (x2 + 1) fun z20 => rc (some 22) x1 z20 h19) ∧ Rel h K2 m2 B nb nr ns np nsm d S ∧ Cli m2 nb ∧ m2 22 0 = m 22 0 := by
  intro k
  induction k with
  | zero =>
    intro i K m hi R L
    have ns4 := R.1.2.1.2.2.1
    refine ⟨K, m, fun mm n hn1 => s_skip86 R.1.1 R.1.2.2.2.2.1 (4 - i) n i (by omega) hn1 (by omega), fun rc x1 x2 h' K' n F' hn1 => ?_, R, L, rfl⟩
    obtain ⟨n, rfl⟩ : ∃ q, n = q + 1 := ⟨n - 1, by omega⟩
    show B_X9_pass_114 rc (L_X9_pass_114 rc n) (some 22) x1 x2 (nI i) (st h' K' m) = _
    unfold B_X9_pass_114
    rw [g22 F', R.2.2.1.2.1.2, if_pos (nI_le (by omega) (by omega)), c22 F']
  | succ k ih =>
    intro i K m hi R L
    have ns4 := R.1.2.1.2.2.1
    have F := R.1.1
    have hin : i < ns := by omega
    have q := row_se R.1.2.2.2.2.1 hin
    obtain ⟨⟨q1, q2, q3, q4⟩, q5, q6, q7, q8⟩ := R.1.2.2.2.2.2.2.1 i hin
    have hne := R.1.2.2.2.2.2.2.2.2 i i hin hin
    have C1 := R.2.1
    have hcur : Cur (m 24) := C1.2.2.2.2.2
    have hm30 : m 22 30 = nI ns := R.2.2.1.2.1.2
    have L1 : Cli (driftM m i) nb := by
      intro k hk1 h1
      rw [drift_o (by decide)] at h1 ⊢
      exact L k hk1 h1
    obtain ⟨K2, m2, w1, w2, w3, w4, w5⟩ := ih (i + 1) _ _ (by omega) (R.go hin) L1
    refine ⟨K2, m2, fun mm n hn1 => ?_, fun rc x1 x2 h' K' n F' hn1 => ?_, w3, w4, w5.trans (by rw [drift_o (by decide)])⟩
    · obtain ⟨n, rfl⟩ : ∃ q, n = q + 1 := ⟨n - 1, by omega⟩
      show B_X8_passOneDay_86 (L_X8_passOneDay_86 n) (some 1) (some 20) (nI 4) (nI i) (st h K mm) = _
      unfold B_X8_passOneDay_86
      rw [if_neg (nI_ge (by omega) (by decide)), d20 F (by omega), q.1, if_neg (by intro z; cases z), r1_0 F, K_ck q.2.1, s_goOn F (by rw [C1.1.2.1]; exact hcur) q.2.1 q1 q5 q2 q3 q4 q6 q7 q8 hne, x_rtV]
      unfold B_X8_passOneDay_110
      rw [x_bnd, nIs, w1 mm n (by omega)]
    · obtain ⟨n, rfl⟩ : ∃ q, n = q + 1 := ⟨n - 1, by omega⟩
      show B_X9_pass_114 rc (L_X9_pass_114 rc n) (some 22) x1 x2 (nI i) (st h' K' m) = _
      unfold B_X9_pass_114
      rw [g22 F', hm30, if_neg (nI_ge hin (by omega)), c22 F', s_drifts F' hcur (by omega), x_rtV, x_bnd, nIs, w2 rc x1 x2 h' K' n F' (by omega)]
