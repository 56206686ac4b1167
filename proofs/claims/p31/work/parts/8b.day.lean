/-! the ships' day and a day, whole -/
theorem shipsA {h : MH} {K m M : Nat → Nat → Int32} {B nb nr ns np nsm nst e : Nat} (hnr : nr ≤ 33) (R : Rel h K m B nb nr ns np nsm (e + 1) (Sst nst e)) (L : Cli m nb) (A : Abs m M nb nr ns nsm nst (e + 1)) : ∃ h2 K2 m2 M2 nr2 nst2, (∀ mm, M_X8_readAtStations (some 1) (st h K mm) = rtV (st h2 K2 mm)) ∧ (∀ h' K', Fix h' → L_L_passes_548 fuel (some 23) (some 28) (some 29) (some 30) (some 31) (some 32) (some 37) 0 (st h' K' M) = rtV (st h' K' M2)) ∧ Rel h2 K2 m2 B nb nr2 ns np nsm (e + 1) (Sst nst2 (e + 1)) ∧ Cli m2 nb ∧ Abs m2 M2 nb nr2 ns nsm nst2 (e + 1) ∧ nr2 ≤ 63 := by
  have F := R.1.1
  obtain ⟨⟨k0, n0, hn30⟩, ⟨k18, k19⟩, cd, sd, sc, hrow, hcd, hperm⟩ := R.2.2.2.2.2.2.1
  have hk9 : K 1 9 = nI (e + 1) := R.2.2.1.2.2.2.2.2.1.1
  have hd1 : e + 1 ≤ 1000 := R.2.2.1.2.2.2.2.2.2.2.1
  have hsmK : K 16 4 = nI nsm := R.2.2.1.2.2.2.2.1.1
  have hsm : m 22 20 = nI nsm := R.2.2.1.2.2.2.2.1.2
  have hsm20 : nsm ≤ 20 := R.2.2.1.2.2.2.2.2.2.2.2
  have hcode : ∀ i, i < nst → 60 * (e + 1) ≤ cd i ∧ cd i < 100000 := by
    intro i hi
    have : cd i ∈ (List.range nst).map fun k => sd k * 60 + sc k := (hperm.mem_iff).mp (List.mem_map.mpr ⟨i, List.mem_range.mpr hi, rfl⟩)
    obtain ⟨j, hj, ej⟩ := List.mem_map.mp this
    have := hrow j (List.mem_range.mp hj)
    omega
  have hk17 : ∀ i, i < nst → K 17 i = nI (cd i) ∧ cd i < 100000 := fun i hi => ⟨(hrow i hi).1, (hcode i hi).2⟩
  have f0 : fcn cd (60 * (e + 1) + 0) nst = 0 := fcn_eq hcd (Nat.zero_le _) (fun i hi => by omega) (fun hi => (hcode 0 hi).1)
  have hS : Cst K m (SlpN nst cd (60 * (e + 1) + 0) nst) := by
    refine ⟨⟨k0, hn30⟩, ⟨k18, k19⟩, hk17, sd, sc, hn30, n0, fun i hi => ⟨(hrow i hi).2.1, (hrow i hi).2.2.1, (hrow i hi).2.2.2.1, (hrow i hi).2.2.2.2.2⟩, ?_⟩
    rw [List.filter_eq_self.mpr]
    · exact hperm.symm
    · intro x hx
      obtain ⟨i, hi, ei⟩ := List.mem_map.mp hx
      have := (hcode i (List.mem_range.mp hi)).1
      rw [decide_eq_true_iff]; omega
  have R0 := R.sS (K1 := K) (m1 := m) (nsm1 := nsm) (fun _ _ => rfl) (fun _ _ => rfl) (fun _ _ => rfl) ⟨⟨hsmK, hsm⟩, hsm20⟩ hS
  obtain ⟨calm, hcm⟩ : ∃ b, stB (m 38) (m 39) (nI (e + 1)) nsm = !b := ⟨!stB (m 38) (m 39) (nI (e + 1)) nsm, by rw [Bool.not_not]⟩
  obtain ⟨h2, K2, m2, M2, nr2, n', w1, w2, w3, w4, w5, w6, w7⟩ := ships_ok hcd hd1 60 0 h K m M nr nst rfl (by omega) R0 L A hcm
  have F2 := w4.1.1
  obtain ⟨⟨q0, -⟩, ⟨q18, q19⟩, q17, sd2, sc2, hn', qn0, qrow, qperm⟩ := w4.2.2.2.2.2.2.1
  have hle := fcn_le (cd := cd) (T := 60 * (e + 1) + 60) (n := nst)
  rw [filter_drop hcd] at qperm
  have hlen : n' = nst - fcn cd (60 * (e + 1) + 60) nst := by
    have := qperm.length_eq
    simpa using this
  have hcl : ∀ mm, M_X8_readAtStations (some 1) (st h K mm) = rtV (st h2 (dropK K2 (fcn cd (60 * (e + 1) + 60) nst) (nst - fcn cd (60 * (e + 1) + 60) nst)) mm) := by
    intro mm
    unfold M_X8_readAtStations
    rw [r1_3 F, g1 F, hk9, c16 F, s_hasStorm F hsmK hsm20, x_rtI, k18, k19, hcm]
    have b19 : ∀ z, (calm = true ∧ z = 1 ∨ calm = false ∧ z = 0) → B_X8_readAtStations_19 (some 1) z (st h K mm) = rtV (st h2 (dropK K2 (fcn cd (60 * (e + 1) + 60) nst) (nst - fcn cd (60 * (e + 1) + 60) nst)) mm) := by
      intro z hz
      have hfin : B_X8_readAtStations_82 (some 1) (nI (fcn cd (60 * (e + 1) + 60) nst)) (st h2 K2 mm) = rtV (st h2 (dropK K2 (fcn cd (60 * (e + 1) + 60) nst) (nst - fcn cd (60 * (e + 1) + 60) nst)) mm) := by
        unfold B_X8_readAtStations_82
        rw [r1_3 F2, c16 F2, s_drop F2 q0 hn30 hle, x_rtV]
      unfold B_X8_readAtStations_19
      rw [r1_3 F, g1 F, hk9, c16 F, s_countDue F k0 hn30 hk17 hcd hd1, x_rtI]
      rcases hz with ⟨hz1, hz2⟩ | ⟨hz1, hz2⟩
      · have := w1 hz1 mm fuel (by rw [f0]; decide)
        rw [f0] at this
        rw [hz2]
        exact this.trans hfin
      · obtain ⟨e1, e2⟩ := w2 hz1
        rw [hz2, show fuel = 999 + 1 from rfl]
        show B_X8_readAtStations_34 (L_X8_readAtStations_34 999) (some 1) 0 _ _ (st h K mm) = _
        unfold B_X8_readAtStations_34
        rw [e1, e2] at hfin
        rw [e1, e2]
        split
        · exact hfin
        · rw [if_pos rfl]; exact hfin
    cases calm with
    | true => rw [if_neg (show ¬ ((!true) = true) by decide), if_neg (show ¬ ((0 : Int32) ≠ 0) by decide)]; exact b19 1 (Or.inl ⟨rfl, rfl⟩)
    | false => rw [if_pos (show (!false) = true from rfl), if_pos (show (1 : Int32) ≠ 0 by decide)]; exact b19 0 (Or.inr ⟨rfl, rfl⟩)
  generalize hq : fcn cd (60 * (e + 1) + 60) nst = q at *
  have dO : ∀ a, a ∉ [16, 17, 18, 19] → dropK K2 q (nst - q) a = K2 a := by
    intro a ha
    simp only [List.mem_cons, List.not_mem_nil, or_false, not_or] at ha
    unfold dropK
    split
    · rfl
    · rw [upw_o ha.2.1, upw_o ha.1]
  have d16 : ∀ j, j ≠ 0 → dropK K2 q (nst - q) 16 j = K2 16 j := by
    intro j hj
    unfold dropK
    split
    · rfl
    · rw [upw_o (by decide), upw_s, upd_o hj]
  have d160 : dropK K2 q (nst - q) 16 0 = nI (nst - q) := by
    unfold dropK
    by_cases z : q = 0
    · rw [if_pos z, q0, z]; rfl
    · rw [if_neg z, upw_o (by decide), upw_s, upd_s]
  have d17 : ∀ i, i < nst - q → dropK K2 q (nst - q) 17 i = nI (cd (i + q)) := by
    intro i hi
    unfold dropK
    by_cases z : q = 0
    · rw [if_pos z, z]; exact (q17 i (by omega)).1
    · rw [if_neg z, upw_s, pk_cpy_in (Nat.zero_le _) (by omega), show q + (i - 0) = i + q by omega]; exact (q17 _ (by omega)).1
  have d18 : dropK K2 q (nst - q) 18 = K2 18 ∧ dropK K2 q (nst - q) 19 = K2 19 := by
    unfold dropK
    split
    · exact ⟨rfl, rfl⟩
    · exact ⟨by rw [upw_o (by decide), upw_o (by decide)], by rw [upw_o (by decide), upw_o (by decide)]⟩
  have w6' : Abs m2 M2 nb nr2 ns nsm (nst - q) (e + 1) := by rw [← hlen]; exact w6
  refine ⟨h2, dropK K2 q (nst - q), m2, M2, nr2, nst - q, hcl, fun h' K' F' => w3 h' K' fuel F' (by decide), ?_, w5, w6', by omega⟩
  refine w4.sS (K1 := dropK K2 q (nst - q)) (m1 := m2) (nsm1 := nsm) dO (fun _ _ => rfl) (fun _ _ => rfl) ⟨⟨by rw [d16 4 (by decide)]; exact w4.2.2.1.2.2.2.2.1.1, w4.2.2.1.2.2.2.2.1.2⟩, hsm20⟩ ?_
  unfold Cst
  rw [d160, d18.1, d18.2]
  refine ⟨⟨rfl, by rw [qn0, hlen], by omega⟩, ⟨q18, q19⟩, fun i => cd (i + q), sd2, sc2, fun i hi => ?_, fun i j h1 h2 => hcd _ _ (by omega) (by omega), ?_⟩
  · obtain ⟨r1, r2, r3, r4⟩ := qrow i (by omega)
    refine ⟨d17 i hi, r1, r2, r3, ?_, r4⟩
    have : sd2 i * 60 + sc2 i ∈ (List.range (nst - q)).map fun i => cd (i + q) := (qperm.mem_iff).mp (List.mem_map.mpr ⟨i, List.mem_range.mpr (by omega), rfl⟩)
    obtain ⟨j, hj, ej⟩ := List.mem_map.mp this
    have hj := List.mem_range.mp hj
    have h3 : ¬ cd (j + q) < 60 * (e + 1) + 60 := by
      intro z
      have := (fcn_iff hcd (T := 60 * (e + 1) + 60) (i := j + q) (by omega)).mpr z
      rw [hq] at this; omega
    omega
  · rw [hlen] at qperm
    exact qperm.symm
/-! a day, both sides -/
theorem day_ok {h : MH} {K g M : Nat → Nat → Int32} {B nb nr ns np nsm d nst : Nat} (R : Rel h K g B nb nr ns np nsm d (Sst nst d)) (L : Cli g nb) (A : Abs g M nb nr ns nsm nst d) (hd : d < 1000) (hnr : nr ≤ 25) : ∃ h2 K2 g2 M2 nr2 nst2, (∀ mm, M_X8_passOneDay (some 1) (st h K mm) = rtV (st h2 K2 mm)) ∧ (∀ h' K', Fix h' → M_L_passes (some 22) (some 23) (some 24) (some 25) (some 26) (some 27) (some 28) (some 29) (some 30) (some 31) (some 32) (some 33) (some 34) (some 35) (some 36) (some 37) (st h' K' M) = rtV (st h' K' M2)) ∧ Rel h2 K2 g2 B nb nr2 ns np nsm (d + 1) (Sst nst2 (d + 1)) ∧ Cli g2 nb ∧ Abs g2 M2 nb nr2 ns nsm nst2 (d + 1) ∧ nr2 ≤ 63 := by
  have F := R.1.1
  have hcu : Cur (g 24) := R.2.1.2.2.2.2.2
  have hnb : nb ≤ 8 := R.1.2.1.1
  have hS := A.1
  have hd0 : M 37 0 = nI d := A.2.2.2.2.2.2.2.1.1
  have R1 := R.sea hd
  have A1 := A.A hd R.2.1.2.2.2.2.1 R1.2.1.2.2.2.2.1
  have L1 : Cli (dayM1 g) nb := by
    intro k hk1 h1
    rw [dayM1_o (by decide)] at h1 ⊢
    exact L k hk1 h1
  obtain ⟨h2, K2, g2, M2, nr2, a1, a2, a3, a4, a5, a6⟩ := floats_ok (N := 33) (by decide) nb 0 h _ _ _ nr (by omega) (by omega) R1 L1 A1
  obtain ⟨K3, g3, b1, b3, b4, b5, b6⟩ := searches_ok ns 0 _ _ (by omega) a3 a4
  have A3 := a5.C b5 b6 a3.2.2.2.2.2.2.2.1.2
  obtain ⟨h4, K4, g4, M4, nr4, nst4, c1, c2, c3, c4, c5, c6⟩ := shipsA a6 b3 b4 A3
  refine ⟨h4, K4, g4, M4, nr4, nst4, fun mm => ?_, fun h' K' F' => ?_, c3, c4, c5, c6⟩
  · rw [s_day1 F (by rw [R.2.1.1.2.1]; exact hcu), a1 mm fuel (by decide), b1 mm fuel (by decide), c1 mm, x_rtV]
  · rw [s_passA F' hS hd0]
    refine (a2 h' K' fuel F' (by decide)).trans ?_
    rw [s_pass466 F' a5.1]
    exact c2 h' K' F'
