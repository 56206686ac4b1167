/-! the stations of a day, whole -/
theorem s_countDue {h : MH} {K m : Nat → Nat → Int32} {nst d : Nat} {cd : Nat → Nat} (F : Fix h) (hc : K 16 0 = nI nst) (hn1 : nst ≤ 30) (hk17 : ∀ i, i < nst → K 17 i = nI (cd i) ∧ cd i < 100000) (hcd : ∀ i j, i < j → j < nst → cd i < cd j) (hd1 : d ≤ 1000) : M_X7_countDue (some 16) (nI d) (st h K m) = rtI (nI (fcn cd (60 * d + 60) nst)) (st h K m) := by
  refine zlp (G := fun n i => L_X7_countDue_2 n (some 16) (nI d) (nI i) (st h K m)) (fun i => ∀ j, j < i → cd j < 60 * d + 60) nst _ (fun n i hi hI => ?_) (fun n hI => ?_) nst fuel 0 (by omega) (by have : fuel = 1000 := rfl; omega) (fun j hj => by omega)
  · show B_X7_countDue_2 (L_X7_countDue_2 n) (some 16) (nI d) (nI i) (st h K m) = _ ∨ (_ ∧ B_X7_countDue_2 (L_X7_countDue_2 n) (some 16) (nI d) (nI i) (st h K m) = _)
    have hx := hk17 i hi
    unfold B_X7_countDue_2 M_X7_dayOf
    rw [g16 F, hc, if_neg (nI_ge hi (by omega)), r16_1 F, a17 F, if_neg (nI_ge (show i < 30 by omega) (by decide)), r16_1 F, d17 F (by omega), hx.1, q_dv (by decide), show nI (cd i) / 60 = nI (cd i / 60) from nI_div 60 (by omega) (by decide) (by decide), x_rtI]
    by_cases q : d < cd i / 60
    · rw [if_pos (nI_lt q (by omega))]
      refine Or.inl ?_
      rw [fcn_eq (T := 60 * d + 60) hcd (by omega) hI (fun _ => by omega)]
    · rw [if_neg (nI_nlt (by omega) (by omega)), x_bnd, nIs]
      refine Or.inr ⟨fun j hj => ?_, rfl⟩
      by_cases e : j = i
      · rw [e]; omega
      · exact hI j (by omega)
  · show B_X7_countDue_2 (L_X7_countDue_2 n) (some 16) (nI d) (nI nst) (st h K m) = _
    unfold B_X7_countDue_2
    rw [g16 F, hc, if_pos (nI_le (Nat.le_refl _) (by omega)), fcn_eq (T := 60 * d + 60) hcd (Nat.le_refl _) hI (fun z => by omega)]
def dropK (K : Nat → Nat → Int32) (q n : Nat) : Nat → Nat → Int32 := if q = 0 then K else upw (upw K 16 (upd (K 16) 0 (nI n))) 17 (va_cpy (K 17) (K 17) q 0 n)
theorem s_drop {h : MH} {K m : Nat → Nat → Int32} {nst q : Nat} (F : Fix h) (hc : K 16 0 = nI nst) (hn1 : nst ≤ 30) (hq : q ≤ nst) : M_X7_dropFirst (some 16) (nI q) (st h K m) = rtV (st h (dropK K q (nst - q)) m) := by
  unfold M_X7_dropFirst dropK
  by_cases h0 : q = 0
  · rw [if_pos (by rw [h0]; decide), if_pos h0]
  · rw [if_neg (nI_nle (by omega) (by omega)), g16 F, hc, if_neg (nI_nlt hq (by omega)), g16 F, r16_1 F, a17 F, hc, if_pos (nI_le hn1 (by omega)), g16 F, hc, x_bnd, pk_sub hq, p16 F, r16_1 F, r16_1 F, g16 F, upw_s, upd_s, show cpI (st h (upw K 16 (upd (K 16) 0 (nI (nst - q)))) m) (some 17) (nI q) (some 17) 0 (nI (nst - q)) = cpI (st h (upw K 16 (upd (K 16) 0 (nI (nst - q)))) m) (some 17) (nI q) (some 17) (nI 0) (nI (nst - q)) from rfl, K_cp (Fk17 F) (Fk17 F) (Fl17 F) (Fl17 F) (Or.inl (by decide)) (Or.inl (by decide)) (by omega) (by omega) (by decide) (by decide), if_neg h0, upw_o (show (17 : Nat) ≠ 16 by decide)]
theorem shipsA {h : MH} {K m : Nat → Nat → Int32} {B nb nr ns np nsm nst e : Nat} (R : Rel h K m B nb nr ns np nsm (e + 1) (Sst nst e)) : ∃ h2 K2 m2 nr2 nst2, (∀ mm, M_X8_readAtStations (some 1) (st h K mm) = rtV (st h2 K2 mm)) ∧ (∀ h' K', Fix h' → M_X9_ships (some 22) (st h' K' m) = rtV (st h' K' m2)) ∧ Rel h2 K2 m2 B nb nr2 ns np nsm (e + 1) (Sst nst2 (e + 1)) ∧ m2 32 = m 32 ∧ m2 33 = m 33 ∧ m2 22 0 = m 22 0 := by
  have F := R.1.1
  obtain ⟨⟨k0, n0, hn30⟩, ⟨k18, k19⟩, cd, sd, sc, hrow, hcd, hperm⟩ := R.2.2.2.2.2.2.1
  have hk9 : K 1 9 = nI (e + 1) := R.2.2.1.2.2.2.2.2.1.1
  have hd1 : e + 1 ≤ 1000 := R.2.2.1.2.2.2.2.2.2.2.1
  have hsmK : K 16 4 = nI nsm := R.2.2.1.2.2.2.2.1.1
  have hsm : m 22 20 = nI nsm := R.2.2.1.2.2.2.2.1.2
  have hsm20 : nsm ≤ 20 := R.2.2.1.2.2.2.2.2.2.2.2
  have hcode : ∀ i, i < nst → 60 * (e + 1) ≤ cd i ∧ cd i < 100000 := by
    intro i hi
    have : cd i ∈ (List.range nst).map fun k => sd k * 60 + sc k := (hperm.mem_iff).mp (List.mem_map.mpr ⟨i, List.mem_range.mpr hi, rfl⟩)
    obtain ⟨j, hj, ej⟩ := List.mem_map.mp this
    have := hrow j (List.mem_range.mp hj)
    omega
  have hk17 : ∀ i, i < nst → K 17 i = nI (cd i) ∧ cd i < 100000 := fun i hi => ⟨(hrow i hi).1, (hcode i hi).2⟩
  have f0 : fcn cd (60 * (e + 1) + 0) nst = 0 := fcn_eq hcd (Nat.zero_le _) (fun i hi => by omega) (fun hi => (hcode 0 hi).1)
  have hS : Cst K m (Slp nst cd (60 * (e + 1) + 0)) := by
    refine ⟨⟨k0, hn30⟩, ⟨k18, k19⟩, hk17, nst, sd, sc, hn30, n0, fun i hi => ⟨(hrow i hi).2.1, (hrow i hi).2.2.1, (hrow i hi).2.2.2.1, (hrow i hi).2.2.2.2.2⟩, ?_⟩
    rw [List.filter_eq_self.mpr]
    · exact hperm.symm
    · intro x hx
      obtain ⟨i, hi, ei⟩ := List.mem_map.mp hx
      have := (hcode i (List.mem_range.mp hi)).1
      rw [decide_eq_true_iff]; omega
  have R0 := R.sS (K1 := K) (m1 := m) (nsm1 := nsm) (fun _ _ => rfl) (fun _ _ => rfl) (fun _ _ => rfl) ⟨⟨hsmK, hsm⟩, hsm20⟩ hS
  obtain ⟨calm, hcm⟩ : ∃ b, stB (m 38) (m 39) (nI (e + 1)) nsm = !b := ⟨!stB (m 38) (m 39) (nI (e + 1)) nsm, by rw [Bool.not_not]⟩
  obtain ⟨h2, K2, m2, nr2, w1, w2, w3, w4, w5, w6⟩ := ships_ok hcd (fun i hi => (hcode i hi).1) hd1 60 0 h K m nr rfl R0 hcm
  have F2 := w4.1.1
  obtain ⟨⟨q0, -⟩, ⟨q18, q19⟩, q17, n', sd2, sc2, hn', qn0, qrow, qperm⟩ := w4.2.2.2.2.2.2.1
  have hle := fcn_le (cd := cd) (T := 60 * (e + 1) + 60) (n := nst)
  rw [filter_drop hcd] at qperm
  have hlen : n' = nst - fcn cd (60 * (e + 1) + 60) nst := by
    have := qperm.length_eq
    simpa using this
  have hcl : ∀ mm, M_X8_readAtStations (some 1) (st h K mm) = rtV (st h2 (dropK K2 (fcn cd (60 * (e + 1) + 60) nst) (nst - fcn cd (60 * (e + 1) + 60) nst)) mm) := by
    intro mm
    unfold M_X8_readAtStations
    rw [r1_3 F, g1 F, hk9, c16 F, s_hasStorm F hsmK hsm20, x_rtI, k18, k19, hcm]
    have b19 : ∀ z, (calm = true ∧ z = 1 ∨ calm = false ∧ z = 0) → B_X8_readAtStations_19 (some 1) z (st h K mm) = rtV (st h2 (dropK K2 (fcn cd (60 * (e + 1) + 60) nst) (nst - fcn cd (60 * (e + 1) + 60) nst)) mm) := by
      intro z hz
      have hfin : B_X8_readAtStations_82 (some 1) (nI (fcn cd (60 * (e + 1) + 60) nst)) (st h2 K2 mm) = rtV (st h2 (dropK K2 (fcn cd (60 * (e + 1) + 60) nst) (nst - fcn cd (60 * (e + 1) + 60) nst)) mm) := by
        unfold B_X8_readAtStations_82
        rw [r1_3 F2, c16 F2, s_drop F2 q0 hn30 hle, x_rtV]
      unfold B_X8_readAtStations_19
      rw [r1_3 F, g1 F, hk9, c16 F, s_countDue F k0 hn30 hk17 hcd hd1, x_rtI]
      rcases hz with ⟨hz1, hz2⟩ | ⟨hz1, hz2⟩
      · have := w1 hz1 mm fuel (by rw [f0]; decide)
        rw [f0] at this
        rw [hz2]
        exact this.trans hfin
      · obtain ⟨e1, e2⟩ := w2 hz1
        rw [hz2, show fuel = 999 + 1 from rfl]
        show B_X8_readAtStations_34 (L_X8_readAtStations_34 999) (some 1) 0 _ _ (st h K mm) = _
        unfold B_X8_readAtStations_34
        rw [e1, e2] at hfin
        rw [e1, e2]
        split
        · exact hfin
        · rw [if_pos rfl]; exact hfin
    cases calm with
    | true => rw [if_neg (show ¬ ((!true) = true) by decide), if_neg (show ¬ ((0 : Int32) ≠ 0) by decide)]; exact b19 1 (Or.inl ⟨rfl, rfl⟩)
    | false => rw [if_pos (show (!false) = true from rfl), if_pos (show (1 : Int32) ≠ 0 by decide)]; exact b19 0 (Or.inr ⟨rfl, rfl⟩)
  generalize hq : fcn cd (60 * (e + 1) + 60) nst = q at *
  have dO : ∀ a, a ∉ [16, 17, 18, 19] → dropK K2 q (nst - q) a = K2 a := by
    intro a ha
    simp only [List.mem_cons, List.not_mem_nil, or_false, not_or] at ha
    unfold dropK
    split
    · rfl
    · rw [upw_o ha.2.1, upw_o ha.1]
  have d16 : ∀ j, j ≠ 0 → dropK K2 q (nst - q) 16 j = K2 16 j := by
    intro j hj
    unfold dropK
    split
    · rfl
    · rw [upw_o (by decide), upw_s, upd_o hj]
  have d160 : dropK K2 q (nst - q) 16 0 = nI (nst - q) := by
    unfold dropK
    by_cases z : q = 0
    · rw [if_pos z, q0, z]; rfl
    · rw [if_neg z, upw_o (by decide), upw_s, upd_s]
  have d17 : ∀ i, i < nst - q → dropK K2 q (nst - q) 17 i = nI (cd (i + q)) := by
    intro i hi
    unfold dropK
    by_cases z : q = 0
    · rw [if_pos z, z]; exact (q17 i (by omega)).1
    · rw [if_neg z, upw_s, pk_cpy_in (Nat.zero_le _) (by omega), show q + (i - 0) = i + q by omega]; exact (q17 _ (by omega)).1
  have d18 : dropK K2 q (nst - q) 18 = K2 18 ∧ dropK K2 q (nst - q) 19 = K2 19 := by
    unfold dropK
    split
    · exact ⟨rfl, rfl⟩
    · exact ⟨by rw [upw_o (by decide), upw_o (by decide)], by rw [upw_o (by decide), upw_o (by decide)]⟩
  refine ⟨h2, dropK K2 q (nst - q), m2, nr2, nst - q, hcl, fun h' K' F' => w3 h' K' fuel F' (by decide), ?_, w5, w6⟩
  refine w4.sS (K1 := dropK K2 q (nst - q)) (m1 := m2) (nsm1 := nsm) dO (fun _ _ => rfl) (fun _ _ => rfl) ⟨⟨by rw [d16 4 (by decide)]; exact w4.2.2.1.2.2.2.2.1.1, w4.2.2.1.2.2.2.2.1.2⟩, hsm20⟩ ?_
  unfold Cst
  rw [d160, d18.1, d18.2]
  refine ⟨⟨rfl, by rw [qn0, hlen], by omega⟩, ⟨q18, q19⟩, fun i => cd (i + q), sd2, sc2, fun i hi => ?_, fun i j h1 h2 => hcd _ _ (by omega) (by omega), ?_⟩
  · obtain ⟨r1, r2, r3, r4⟩ := qrow i (by omega)
    refine ⟨d17 i hi, r1, r2, r3, ?_, r4⟩
    have : sd2 i * 60 + sc2 i ∈ (List.range (nst - q)).map fun i => cd (i + q) := (qperm.mem_iff).mp (List.mem_map.mpr ⟨i, List.mem_range.mpr (by omega), rfl⟩)
    obtain ⟨j, hj, ej⟩ := List.mem_map.mp this
    have hj := List.mem_range.mp hj
    have h3 : ¬ cd (j + q) < 60 * (e + 1) + 60 := by
      intro z
      have := (fcn_iff hcd (T := 60 * (e + 1) + 60) (i := j + q) (by omega)).mpr z
      rw [hq] at this; omega
    omega
  · rw [hlen] at qperm
    exact qperm.symm
