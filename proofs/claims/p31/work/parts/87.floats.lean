/-! a float drifts, in the class and in the law -/
theorem drift_ok {h : MH} {K g M : Nat → Nat → Int32} {B nb nr ns np nsm nst d k : Nat} {S : STy} (R : Rel h K g B nb nr ns np nsm d S) (L : Cli g nb) (A : Abs g M nb nr ns nsm nst d) (hnr : nr < 64) (hk1 : k < nb) (hb : g 33 k ≠ 0) : ∃ h2 K2 g2 M2 nr2, (∀ mm, M_X8_letDrift (some 1) (some (bu h k)) (st h K mm) = rtV (st h2 K2 mm)) ∧ (∀ rc h' K', Fix h' → B_L_passes_294 rc (some 22) (some 23) (some 27) (some 28) (some 29) (some 30) (some 31) (some 32) (some 33) (some 34) (some 35) (some 36) (some 37) (nI k) (some 27) (nI (8 * k + 2)) (M 27 (8 * k + 2)) 1 (st h' K' M) = rc (some 22) (some 23) (some 27) (some 28) (some 29) (some 30) (some 31) (some 32) (some 33) (some 34) (some 35) (some 36) (some 37) (nI (k + 1)) (st h' K' M2)) ∧ Rel h2 K2 g2 B nb nr2 ns np nsm d S ∧ Cli g2 nb ∧ Abs g2 M2 nb nr2 ns nsm nst d ∧ nr2 ≤ nr + 1 := by
  obtain ⟨l, hl0, hl20, hl⟩ := L k hk1 hb
  have F := R.1.1
  have R13 := R.1.2.2.1
  have nb8 := R.1.2.1.1
  have q := row_bu R13 hk1
  have hcu : cA (bu h k) := Or.inr (by omega)
  obtain ⟨⟨b0, b1, b2, b3, b4, b5, b6, b7⟩, ⟨c, hc, hmc⟩, ⟨p, hp0, hp20, hmp⟩, ⟨bt, hbt, hmb⟩⟩ := R.2.2.2.1.1 k hk1
  have hk8 : k < 8 := by omega
  have bt0 : 0 < bt := by
    rcases Nat.eq_zero_or_pos bt with z | z
    · rw [z] at hmb; exact absurd hmb hb
    · exact z
  -- the law's places
  obtain ⟨⟨f0, f1, f2, f3, f4, f5⟩, ⟨bb, hbb, ebb⟩, -⟩ := A.2.2.2.1.1 k hk1
  have SL : LSea (g 23) (g 24) (M 22) := A.1
  have i0 : 8 * k < 64 := by omega
  have i1 : 8 * k + 1 < 64 := by omega
  have i2 : 8 * k + 2 < 64 := by omega
  have i3 : 8 * k + 3 < 64 := by omega
  have i4 : 8 * k + 4 < 64 := by omega
  have e8 : (8 : Int32) * nI k = nI (8 * k) := pk_mul 8 k
  have e81 : nI (8 * k) + (1 : Int32) = nI (8 * k + 1) := nI_add _ 1
  have e82 : nI (8 * k) + (2 : Int32) = nI (8 * k + 2) := nI_add _ 2
  have e83 : nI (8 * k) + (3 : Int32) = nI (8 * k + 3) := nI_add _ 3
  have e84 : nI (8 * k) + (4 : Int32) = nI (8 * k + 4) := nI_add _ 4
  have s1 : ∀ x, 0 < x → nI x - (1 : Int32) = nI (x - 1) := fun x hx => nI_sub1 hx
  -- one day less
  have R1 := R.pb (v := nI (l - 1)) hk1 4 32 (Or.inr (Or.inl ⟨rfl, rfl⟩))
  have A1 := A.f2 (v := nI (l - 1)) hk1
  by_cases hl1 : l = 1
  · -- it comes up
    have z0 : nI (l - 1) = 0 := by rw [hl1]; rfl
    have C1 := R.2.1
    have e11 : K 11 = g 23 := C1.1.1
    have e9 : K 9 = g 24 := C1.1.2.1
    have hcur : Cur (g 24) := C1.2.2.2.2.2
    have hm := mvd_lt (la := g 23) (cu := g 24) hc
    have R2 := R1.pb (v := nI (mvd (g 23) (g 24) c)) hk1 3 30 (Or.inl ⟨rfl, rfl, _, hm, rfl⟩)
    have A2 := A1.f0 (v := nI (mvd (g 23) (g 24) c)) hk1
    have hday : K 1 9 = nI d ∧ g 22 1 = nI d := R.2.2.1.2.2.2.2.2.1
    -- the value
    obtain ⟨he, sa, H1, H2, -⟩ := A.2.1.2
    have hhe := smn_at (f := he) (n := 120) (j := mvd (g 23) (g 24) c) (by omega)
    have ev : g 26 (mvd (g 23) (g 24) c) + g 34 k = nI (he (mvd (g 23) (g 24) c) + bb) - 50 := by
      rw [(H1 _ (by omega)).1, ebb, ← nI_add, Int32.sub_eq_add_neg, Int32.sub_eq_add_neg, Int32.add_assoc]
    -- the reading
    obtain ⟨h2, K2, w1, R3, w4, w6⟩ := keep_ok (w := some k) (c := mvd (g 23) (g 24) c) (v := g 26 (mvd (g 23) (g 24) c) + g 34 k) R2 (by omega) hm (fun f z => by cases z; exact hk1)
    have A3 := A2.read (c := mvd (g 23) (g 24) c) (w := some k) (v := g 26 (mvd (g 23) (g 24) c) + g 34 k) hday.2 hm (fun f z => by cases z; exact hk1) ev (by omega)
    simp only [Option.map_some] at w1
    have F3 := R3.1.1
    have bu2 := (w4 k hk1).1
    have hk2 := (w4 k hk1).2
    obtain ⟨⟨d0, d1, d2, d3, d4, d5, d6, d7⟩, -⟩ := R3.2.2.2.1.1 k hk1
    rw [bu2] at d0 d1 d2 d3 d4 d5 d6 d7
    obtain ⟨g2, hg2⟩ : ∃ g2, g2 = readM (upw (upw g 32 (upd (g 32) k (nI (l - 1)))) 30 (upd (upw g 32 (upd (g 32) k (nI (l - 1))) 30) k (nI (mvd (g 23) (g 24) c)))) nr (nI (mvd (g 23) (g 24) c)) (oI (some k)) (g 26 (mvd (g 23) (g 24) c) + g 34 k) := ⟨_, rfl⟩
    rw [← hg2] at R3 A3 d1 d5
    have w5 : ∀ a, a ∉ [22, 40, 41, 42, 43, 44] → g2 a = upw (upw g 32 (upd (g 32) k (nI (l - 1)))) 30 (upd (upw g 32 (upd (g 32) k (nI (l - 1))) 30) k (nI (mvd (g 23) (g 24) c))) a := fun a ha => by rw [hg2]; exact readM_o ha
    have m31 : g2 31 k = nI p := by
      rw [w5 31 (by decide), upw_o (by decide), upw_o (by decide)]; exact hmp
    have m33 : g2 33 k = nI bt := by
      rw [w5 33 (by decide), upw_o (by decide), upw_o (by decide)]; exact hmb
    have R4 := R3.pb (v := nI (bt - 1)) hk1 5 33 (Or.inr (Or.inr (Or.inl ⟨rfl, rfl, bt - 1, by omega, rfl⟩)))
    have R5 := R4.pb (v := if bt - 1 = 0 then 0 else nI p) hk1 4 32 (Or.inr (Or.inl ⟨rfl, rfl⟩))
    have A4 := A3.f3 (v := nI (bt - 1)) hk1
    have A5 := A4.f2 (v := if bt - 1 = 0 then 0 else nI p) hk1
    rw [bu2] at R5
    refine ⟨h2, _, _, _, nr + 1, ?_, ?_, R5, ?_, A5, Nat.le_refl _⟩
    · intro mm
      unfold M_X8_letDrift
      rw [K_gf q.2.1 hcu, b4, hl, x_bnd, nI_sub1 hl0, K_pf q.2.1 hcu, K_gf q.2.1 hcu, upw_s, upd_s, z0, if_pos (by decide), r1_0 F, K_gf q.2.1 hcu, upw_s, upd_o (by decide), b3, hmc, c2 F, s_leadsTo F hc (by rw [upw_o (by omega), e9]; exact hcur c hc), x_rtI, upw_o (show (11 : Nat) ≠ bu h k by omega), upw_o (show (9 : Nat) ≠ bu h k by omega), e11, e9]
      have hgo : (if oI (lea (g 23) (g 24) c) = -1 then B_X8_letDrift_40 (some 1) (some (bu h k)) (st h (upw K (bu h k) (upd (K (bu h k)) 4 0)) mm) else pfI (st h (upw K (bu h k) (upd (K (bu h k)) 4 0)) mm) (some (bu h k)) 0 3 (oI (lea (g 23) (g 24) c)) fun h9 => B_X8_letDrift_40 (some 1) (some (bu h k)) h9) = B_X8_letDrift_40 (some 1) (some (bu h k)) (st h (upw (upw K (bu h k) (upd (K (bu h k)) 4 (nI (l - 1)))) (bu h k) (upd (upw K (bu h k) (upd (K (bu h k)) 4 (nI (l - 1))) (bu h k)) 3 (nI (mvd (g 23) (g 24) c)))) mm) := by
        rw [z0]
        unfold mvd
        cases ho : lea (g 23) (g 24) c with
        | none =>
          rw [oI_n, if_pos rfl]
          show _ = B_X8_letDrift_40 _ _ (st h (upw (upw K (bu h k) (upd (K (bu h k)) 4 0)) (bu h k) (upd (upw K (bu h k) (upd (K (bu h k)) 4 0) (bu h k)) 3 (nI c))) mm)
          have : nI c = upw K (bu h k) (upd (K (bu h k)) 4 0) (bu h k) 3 := by rw [upw_s, upd_o (by decide), b3, hmc]
          rw [this, upd_id, upw_id]
        | some o =>
          have := lea_lt hc ho
          rw [oI_s, if_neg (by rw [nI_nm1 (by omega)]; exact id), K_pf q.2.1 hcu]
          rfl
      rw [hgo]
      unfold B_X8_letDrift_40
      have ex4 : upw (upw K (bu h k) (upd (K (bu h k)) 4 (nI (l - 1)))) (bu h k) (upd (upw K (bu h k) (upd (K (bu h k)) 4 (nI (l - 1))) (bu h k)) 3 (nI (mvd (g 23) (g 24) c))) 4 = K 4 := by rw [upw_o (by omega), upw_o (by omega)]
      have ex1 : upw (upw K (bu h k) (upd (K (bu h k)) 4 (nI (l - 1)))) (bu h k) (upd (upw K (bu h k) (upd (K (bu h k)) 4 (nI (l - 1))) (bu h k)) 3 (nI (mvd (g 23) (g 24) c))) 1 9 = nI d := by rw [upw_o (by omega), upw_o (by omega)]; exact hday.1
      have exu3 : upw (upw K (bu h k) (upd (K (bu h k)) 4 (nI (l - 1)))) (bu h k) (upd (upw K (bu h k) (upd (K (bu h k)) 4 (nI (l - 1))) (bu h k)) 3 (nI (mvd (g 23) (g 24) c))) (bu h k) 3 = nI (mvd (g 23) (g 24) c) := by rw [upw_s, upd_s]
      have exu2 : upw (upw K (bu h k) (upd (K (bu h k)) 4 (nI (l - 1)))) (bu h k) (upd (upw K (bu h k) (upd (K (bu h k)) 4 (nI (l - 1))) (bu h k)) 3 (nI (mvd (g 23) (g 24) c))) (bu h k) 2 = g 34 k := by rw [upw_s, upd_o (by decide), upw_s, upd_o (by decide), b2]
      rw [r1_2 F, g1 F, K_gf q.2.1 hcu, r1_0 F, K_gf q.2.1 hcu, c2 F, exu3, s_upperHeat F hm, x_rtI, K_gf q.2.1 hcu, exu2, x_bnd, c14 F, ex1, ex4, (C1.2.1 _ hm).1, w1 mm, x_rtV, K_gf hk2 hcu, d5, m33, x_bnd, nI_sub1 bt0, K_pf hk2 hcu, K_gf hk2 hcu, upw_s, upd_s]
      by_cases hb1 : bt - 1 = 0
      · rw [if_pos (by rw [hb1]; decide), K_pf hk2 hcu, if_pos hb1, upw_s]
      · rw [if_neg (by rw [nI0, nI_leP (by omega) (by omega)]; omega), K_gf hk2 hcu, K_pf hk2 hcu, if_neg hb1, upw_s, upd_o (by decide), d1, m31]
    · intro rc h' K' F'
      have hM5 : M 37 5 = nI nr := A.2.2.2.2.2.2.2.1.2.2.2.2.1
      have hM0 : M 37 0 = nI d := A.2.2.2.2.2.2.2.1.1
      obtain ⟨M2, hM2⟩ : ∃ M2, M2 = upw (upw M 27 (upd (M 27) (8 * k + 2) (nI (l - 1)))) 27 (upd (upw M 27 (upd (M 27) (8 * k + 2) (nI (l - 1))) 27) (8 * k) (nI (mvd (g 23) (g 24) c))) := ⟨_, rfl⟩
      have hM3 : M2 27 = upd (upd (M 27) (8 * k + 2) (nI (l - 1))) (8 * k) (nI (mvd (g 23) (g 24) c)) := by rw [hM2, upw_s, upw_s]
      have hMo : ∀ a, a ≠ 27 → M2 a = M a := fun a ha => by rw [hM2, upw_o ha, upw_o ha]
      have k13 : nI k + (1 : Int32) = nI (k + 1) := nIs k
      unfold B_L_passes_294 B_L_passes_361 B_L_passes_456 B_L_passes_457
      have hgo : ∀ (f : MH → Res), (calI (M_L_leads (nI c) (some 22) (st h' K' (upw M 27 (upd (M 27) (8 * k + 2) (nI (l - 1)))))) fun z68 h69 => if 0 ≤ z68 then wrI h69 (some 27) 20 (nI (8 * k)) z68 f else rdI h69 (some 27) 20 (nI (8 * k)) fun z72 => wrI h69 (some 27) 20 (nI (8 * k)) z72 f) = f (st h' K' M2) := by
        intro f
        rw [s_lleads (M := upw M 27 (upd (M 27) (8 * k + 2) (nI (l - 1)))) F' (la := g 23) (cu := g 24) SL hc, x_rtI, hM2]
        unfold mvd
        cases ho : lea (g 23) (g 24) c with
        | none =>
          rw [oI_n, if_neg (by decide), d27 F' i0, upw_s, upd_o (by omega), f0, hmc, w27 F' i0]; rfl
        | some o =>
          have := lea_lt hc ho
          rw [oI_s, if_pos (nI_pos' (by omega)), w27 F' i0]; rfl
      have r0 : M2 27 (8 * k) = nI (mvd (g 23) (g 24) c) := by rw [hM3, upd_s]
      have r1 : M2 27 (8 * k + 1) = nI p := by rw [hM3, upd_o (by omega), upd_o (by omega), f1]; exact hmp
      have r3 : M2 27 (8 * k + 3) = nI bt := by rw [hM3, upd_o (by omega), upd_o (by omega), f3]; exact hmb
      have r4 : M2 27 (8 * k + 4) = g 34 k := by rw [hM3, upd_o (by omega), upd_o (by omega), f4]
      have r23 : M2 23 (mvd (g 23) (g 24) c) = g 26 (mvd (g 23) (g 24) c) := by rw [hMo 23 (by decide)]; exact (A.2.1.1 _ hm).1
      rw [x_bnd, f2, hl, s1 l hl0, w27 F' i2]
      simp only [e8, x_bnd, e83, d27 F' i3, upw_s]
      rw [upd_o (show 8 * k + 3 ≠ 8 * k + 2 by omega), f3, hmb, if_neg (show ¬ nI bt ≤ 0 from nI_nle bt0 (by omega))]
      simp only [e82, d27 F' i2, upw_s, upd_s]
      rw [if_neg (show ¬ nI (l - 1) ≠ 0 from fun z => z z0), d27 F' i0, upw_s, upd_o (show 8 * k ≠ 8 * k + 2 by omega), f0, hmc]
      refine (hgo _).trans ?_
      simp only [d27 F' i0, r0, k13, e84, d27 F' i4, r4, d23 F' hm, r23]
      rw [s_lreads (d := d) F' hnr (by rw [hMo 37 (by decide)]; exact hM5) (by rw [hMo 37 (by decide)]; exact hM0), x_rtV]
      have q3 : rdM M2 nr d (mvd (g 23) (g 24) c) (k + 1) (g 26 (mvd (g 23) (g 24) c) + g 34 k) 27 = M2 27 := rdM_o (by decide)
      simp only [e83, d27 F' i3, q3, r3, s1 bt bt0, w27 F' i3, upw_s, upd_s]
      by_cases hb1 : bt - 1 = 0
      · rw [if_pos (show nI (bt - 1) ≤ 0 by rw [hb1]; decide), w27 F' i2, upw_s, if_pos hb1, hM2]
        rfl
      · rw [if_neg (show ¬ nI (bt - 1) ≤ 0 from nI_nle (by omega) (by omega))]
        simp only [e81, d27 F' i1, upw_s]
        rw [upd_o (show 8 * k + 1 ≠ 8 * k + 3 by omega), r1, w27 F' i2, upw_s, if_neg hb1, hM2]
        rfl
    · intro k' hk3 hne
      rw [upw_s]
      rw [upw_o (by decide), upw_s] at hne
      by_cases e1 : k' = k
      · subst e1
        rw [upd_s] at hne ⊢
        by_cases hb1 : bt - 1 = 0
        · rw [hb1] at hne; exact absurd rfl hne
        · rw [if_neg hb1]; exact ⟨p, hp0, hp20, rfl⟩
      · rw [upd_o e1] at hne ⊢
        rw [w5 33 (by decide), upw_o (by decide), upw_o (by decide)] at hne
        rw [upw_o (by decide), w5 32 (by decide), upw_o (by decide), upw_s, upd_o e1]
        exact L k' hk3 hne
  · have hne : ¬ nI (l - 1) ≤ 0 := by rw [nI0, nI_leP (by omega) (by omega)]; omega
    refine ⟨h, _, _, _, nr, ?_, ?_, R1, ?_, A1, Nat.le_succ _⟩
    · intro mm
      unfold M_X8_letDrift
      rw [K_gf q.2.1 hcu, b4, hl, x_bnd, nI_sub1 hl0, K_pf q.2.1 hcu, K_gf q.2.1 hcu, upw_s, upd_s, if_neg hne]
    · intro rc h' K' F'
      unfold B_L_passes_294 B_L_passes_457
      rw [x_bnd, f2, hl, s1 l hl0, w27 F' i2]
      simp only [e8, x_bnd, e83, d27 F' i3, upw_s]
      rw [upd_o (show 8 * k + 3 ≠ 8 * k + 2 by omega), f3, hmb, if_neg (show ¬ nI bt ≤ 0 from nI_nle bt0 (by omega))]
      simp only [e82, d27 F' i2, upw_s, upd_s]
      rw [if_pos (show nI (l - 1) ≠ 0 from nI_ne0 (by omega) (by omega)), nIs]
    · intro k' hk3 hne
      rw [upw_s]
      rw [upw_o (by decide)] at hne
      by_cases e1 : k' = k
      · subst e1; rw [upd_s]; exact ⟨l - 1, by omega, by omega, rfl⟩
      · rw [upd_o e1]; exact L k' hk3 hne
/-! all floats -/
theorem floats_ok {B nb ns np nsm nst d N : Nat} {S : STy} (hN : N ≤ 63) : ∀ k i h K g M nr, i + k = nb → nr + k ≤ N → Rel h K g B nb nr ns np nsm d S → Cli g nb → Abs g M nb nr ns nsm nst d → ∃ h2 K2 g2 M2 nr2, (∀ mm n, 8 - i < n → L_X8_passOneDay_41 n (some 1) (some 13) (nI 8) (nI i) (st h K mm) = L_X8_passOneDay_86 fuel (some 1) (some 20) (nI 4) (nI 0) (st h2 K2 mm)) ∧ (∀ h' K' n, Fix h' → 8 - i < n → L_L_passes_256 n (some 22) (some 23) (some 27) (some 28) (some 29) (some 30) (some 31) (some 32) (some 33) (some 34) (some 35) (some 36) (some 37) (nI i) (st h' K' M) = L_L_passes_466 fuel (some 22) (some 23) (some 28) (some 29) (some 30) (some 31) (some 32) (some 33) (some 34) (some 35) (some 36) (some 37) 0 (st h' K' M2)) ∧ Rel h2 K2 g2 B nb nr2 ns np nsm d S ∧ Cli g2 nb ∧ Abs g2 M2 nb nr2 ns nsm nst d ∧ nr2 ≤ N := by
  intro k
  induction k with
  | zero =>
    intro i h K g M nr hi hr1 R L A
    have nb8 := R.1.2.1.1
    refine ⟨h, K, g, M, nr, fun mm n hn1 => s_skip41 R.1.1 R.1.2.2.1 (8 - i) n i (by omega) hn1 (by omega), fun h' K' n F' hn1 => ?_, R, L, A, by omega⟩
    obtain ⟨n, rfl⟩ : ∃ q, n = q + 1 := ⟨n - 1, by omega⟩
    have hM2 : M 37 2 = nI nb := A.2.2.2.2.2.2.2.1.2.1
    show B_L_passes_256 (L_L_passes_256 n) (some 22) (some 23) (some 27) (some 28) (some 29) (some 30) (some 31) (some 32) (some 33) (some 34) (some 35) (some 36) (some 37) (nI i) (st h' K' M) = _
    unfold B_L_passes_256
    rw [rq2 F', hM2, if_pos (nI_le (by omega) (by omega))]
  | succ k ih =>
    intro i h K g M nr hi hr1 R L A
    have nb8 := R.1.2.1.1
    have F := R.1.1
    have hin : i < nb := by omega
    have q := row_bu R.1.2.2.1 hin
    obtain ⟨⟨b0, b1, b2, b3, b4, b5, b6, b7⟩, -, -, ⟨bt, hbt, hmb⟩⟩ := R.2.2.2.1.1 i hin
    obtain ⟨⟨f0, f1, f2, f3, f4, f5⟩, -⟩ := A.2.2.2.1.1 i hin
    have hM2 : M 37 2 = nI nb := A.2.2.2.2.2.2.2.1.2.1
    have i2 : 8 * i + 2 < 64 := by omega
    have i3 : 8 * i + 3 < 64 := by omega
    have e8 : (8 : Int32) * nI i = nI (8 * i) := pk_mul 8 i
    have e82 : nI (8 * i) + (2 : Int32) = nI (8 * i + 2) := nI_add _ 2
    have e83 : nI (8 * i) + (3 : Int32) = nI (8 * i + 3) := nI_add _ 3
    by_cases hb : g 33 i = 0
    · obtain ⟨h2, K2, g2, M2, nr2, w1, w2, w3, w4, w5, w6⟩ := ih (i + 1) h K g M nr (by omega) (by omega) R L A
      refine ⟨h2, K2, g2, M2, nr2, fun mm n hn1 => ?_, fun h' K' n F' hn1 => ?_, w3, w4, w5, w6⟩
      · obtain ⟨n, rfl⟩ : ∃ q, n = q + 1 := ⟨n - 1, by omega⟩
        show B_X8_passOneDay_41 (L_X8_passOneDay_41 n) (some 1) (some 13) (nI 8) (nI i) (st h K mm) = _
        unfold B_X8_passOneDay_41
        rw [if_neg (nI_ge (by omega) (by decide)), d13 F (by omega), q.1, if_neg (by intro z; cases z), K_gf q.2.1 (Or.inr (by omega)), b5, hb, if_pos (by decide)]
        unfold B_X8_passOneDay_70
        rw [x_bnd, nIs, w1 mm n (by omega)]
      · obtain ⟨n, rfl⟩ : ∃ q, n = q + 1 := ⟨n - 1, by omega⟩
        show B_L_passes_256 (L_L_passes_256 n) (some 22) (some 23) (some 27) (some 28) (some 29) (some 30) (some 31) (some 32) (some 33) (some 34) (some 35) (some 36) (some 37) (nI i) (st h' K' M) = _
        unfold B_L_passes_256 B_L_passes_294 B_L_passes_457
        have hz : M 27 (8 * i + 3) = 0 := f3.trans hb
        rw [rq2 F', hM2, if_neg (nI_ge hin (by omega))]
        simp only [e8, x_bnd, e82, e83, d27 F' i2, d27 F' i3, hz]
        rw [if_pos (show (0 : Int32) ≤ 0 by decide), Int32.sub_zero, w27 F' i2, upd_id, upw_id, d27 F' i3, hz, if_pos (show (0 : Int32) ≤ 0 by decide), nIs, w2 h' K' n F' (by omega)]
    · obtain ⟨h1, K1, g1, M1, nr1, v1, v2, v3, v4, v5, v6⟩ := drift_ok R L A (by omega) hin hb
      obtain ⟨h2, K2, g2, M2, nr2, w1, w2, w3, w4, w5, w6⟩ := ih (i + 1) h1 K1 g1 M1 nr1 (by omega) (by omega) v3 v4 v5
      have bt0 : 0 < bt := by
        rcases Nat.eq_zero_or_pos bt with z | z
        · rw [z] at hmb; exact absurd hmb hb
        · exact z
      refine ⟨h2, K2, g2, M2, nr2, fun mm n hn1 => ?_, fun h' K' n F' hn1 => ?_, w3, w4, w5, w6⟩
      · obtain ⟨n, rfl⟩ : ∃ q, n = q + 1 := ⟨n - 1, by omega⟩
        show B_X8_passOneDay_41 (L_X8_passOneDay_41 n) (some 1) (some 13) (nI 8) (nI i) (st h K mm) = _
        unfold B_X8_passOneDay_41
        have hbt0 : ¬ g 33 i ≤ 0 := by rw [hmb]; exact nI_nle bt0 (by omega)
        rw [if_neg (nI_ge (by omega) (by decide)), d13 F (by omega), q.1, if_neg (by intro z; cases z), K_gf q.2.1 (Or.inr (by omega)), b5, if_neg hbt0, c1 F, v1 mm, x_rtV]
        unfold B_X8_passOneDay_70
        rw [x_bnd, nIs, w1 mm n (by omega)]
      · obtain ⟨n, rfl⟩ : ∃ q, n = q + 1 := ⟨n - 1, by omega⟩
        show B_L_passes_256 (L_L_passes_256 n) (some 22) (some 23) (some 27) (some 28) (some 29) (some 30) (some 31) (some 32) (some 33) (some 34) (some 35) (some 36) (some 37) (nI i) (st h' K' M) = _
        unfold B_L_passes_256
        have hz : M 27 (8 * i + 3) = nI bt := f3.trans hmb
        rw [rq2 F', hM2, if_neg (nI_ge hin (by omega))]
        simp only [e8, x_bnd, e82, e83, d27 F' i2, d27 F' i3, hz]
        rw [if_neg (show ¬ nI bt ≤ 0 from nI_nle bt0 (by omega)), v2 _ h' K' F', w2 h' K' n F' (by omega)]
