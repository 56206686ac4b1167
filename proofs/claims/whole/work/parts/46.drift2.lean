/-! one field of a float is set, on both sides -/
theorem Rel.pb {h : MH} {K m : Nat → Nat → Int32} {B nb nr ns np nsm d k : Nat} {S : STy} {v : Int32} (R : Rel h K m B nb nr ns np nsm d S) (hk1 : k < nb) (j a : Nat) (ja : (j = 3 ∧ a = 30 ∧ ∃ c, c < 60 ∧ v = nI c) ∨ (j = 4 ∧ a = 32) ∨ (j = 5 ∧ a = 33 ∧ ∃ b, b ≤ 100 ∧ v = nI b) ∨ (j = 6 ∧ a = 35)) : Rel h (upw K (bu h k) (upd (K (bu h k)) j v)) (upw m a (upd (m a) k v)) B nb nr ns np nsm d S := by
  obtain ⟨⟨F, hN, R13, R15, R20, R21, RS⟩, C1, C2, C3, C4, C5, C6, C7, C8, C9⟩ := R
  have q := row_bu R13 hk1
  have kO : ∀ b, b ≠ bu h k → upw K (bu h k) (upd (K (bu h k)) j v) b = K b := fun b hb => upw_o hb
  have kk : ∀ b, hk h b ≠ 0 → upw K (bu h k) (upd (K (bu h k)) j v) b = K b := fun b hb => kO b (fun z => hb (by rw [z]; exact q.2.1))
  have k22 : ∀ b, b < 22 → upw K (bu h k) (upd (K (bu h k)) j v) b = K b := fun b hb => kO b (by omega)
  have ha : a = 30 ∨ a = 32 ∨ a = 33 ∨ a = 35 := by omega
  have mO : ∀ b, b ≠ a → upw m a (upd (m a) k v) b = m b := fun b hb => upw_o hb
  refine ⟨⟨F, hN, R13, R15, R20, R21, RS⟩, ?_, ?_, ⟨fun k' hk2 => ?_, fun k' h1 h2 => ?_⟩, ?_, ?_, ?_, ?_, ?_, C9⟩
  · exact C1.fr (fun b hb => k22 b (by simp at hb; omega)) (fun b hb => mO b (by simp at hb; omega)) (by rw [mO 22 (by omega)])
  · unfold Cct
    rw [k22 1 (by omega), k22 14 (by omega), k22 16 (by omega), mO 22 (by omega)]; exact C2
  · obtain ⟨⟨b0, b1, b2, b3, b4, b5, b6, b7⟩, b8, b9, b10⟩ := C3.1 k' hk2
    by_cases e1 : k' = k
    · subst e1
      rw [upw_s, mO 43 (by omega), mO 31 (by omega), mO 34 (by omega)]
      rcases ja with ⟨rfl, rfl, hv⟩ | ⟨rfl, rfl⟩ | ⟨rfl, rfl, hv⟩ | ⟨rfl, rfl⟩
      · rw [upw_s, upd_s, upd_s, mO 32 (by decide), mO 33 (by decide), mO 35 (by decide)]
        exact ⟨⟨b0, b1, b2, rfl, b4, b5, b6, b7⟩, hv, b9, b10⟩
      · rw [upw_s, upd_s, upd_s, mO 30 (by decide), mO 33 (by decide), mO 35 (by decide)]
        exact ⟨⟨b0, b1, b2, b3, rfl, b5, b6, b7⟩, b8, b9, b10⟩
      · rw [upw_s, upd_s, upd_s, mO 30 (by decide), mO 32 (by decide), mO 35 (by decide)]
        exact ⟨⟨b0, b1, b2, b3, b4, rfl, b6, b7⟩, b8, b9, hv⟩
      · rw [upw_s, upd_s, upd_s, mO 30 (by decide), mO 32 (by decide), mO 33 (by decide)]
        exact ⟨⟨b0, b1, b2, b3, b4, b5, rfl, b7⟩, b8, b9, b10⟩
    · rw [kO _ (fun z => e1 (row_bui R13 hk2 hk1 z)), mO 43 (by omega), mO 31 (by omega), mO 34 (by omega)]
      have mm : ∀ b, upw m a (upd (m a) k v) b k' = m b k' := by
        intro b
        by_cases e2 : b = a
        · rw [e2, upw_s, upd_o e1]
        · rw [mO b e2]
      rw [mm, mm, mm, mm]
      exact ⟨⟨b0, b1, b2, b3, b4, b5, b6, b7⟩, b8, b9, b10⟩
  · have mm : ∀ b, upw m a (upd (m a) k v) b k' = m b k' := by
      intro b
      by_cases e2 : b = a
      · rw [e2, upw_s, upd_o (by omega)]
      · rw [mO b e2]
    rw [mm]; exact C3.2 k' h1 h2
  · exact C4.fr R15 (fun b hb _ => kk b (by omega)) (fun b hb => mO b (by simp at hb; omega))
  · exact C5.fr (mO 43 (by omega))
  · exact C6.fr (fun b hb => k22 b (by simp at hb; omega)) (fun b hb => mO b (by simp at hb; omega)) (by rw [k22 16 (by omega)]) (by rw [mO 22 (by omega)])
  · refine C7.fr R20 RS (fun b _ hb => kk b ?_) ⟨mO 45 (by omega), mO 46 (by omega)⟩
    rcases hb with hb | ⟨s, hs, rfl⟩
    · omega
    · have := (RS.1 s hs).1.2.1; omega
  · exact C8.fr R21 (fun b hb _ => kk b (by omega)) (fun b hb => mO b (by simp at hb; omega))
/-! a float drifts -/
def mvd (la cu : Nat → Int32) (c : Nat) : Nat := (lea la cu c).getD c
theorem mvd_lt {la cu : Nat → Int32} {c : Nat} (hc : c < 60) : mvd la cu c < 60 := by
  unfold mvd
  cases h : lea la cu c with
  | none => exact hc
  | some o => exact lea_lt hc h
theorem nI_sub1 {l : Nat} (h : 0 < l) : nI l - 1 = nI (l - 1) := by
  obtain ⟨q, rfl⟩ : ∃ q, l = q + 1 := ⟨l - 1, by omega⟩
  exact nI_pred q
theorem drift_ok {h : MH} {K m : Nat → Nat → Int32} {B nb nr ns np nsm d k : Nat} {S : STy} (R : Rel h K m B nb nr ns np nsm d S) (L : Cli m nb) (hk1 : k < nb) (hb : m 33 k ≠ 0) : ∃ h2 K2 m2 nr2, (∀ mm, M_X8_letDrift (some 1) (some (bu h k)) (st h K mm) = rtV (st h2 K2 mm)) ∧ (∀ h' K', Fix h' → M_X9_parks (some 22) (nI k) (st h' K' m) = rtV (st h' K' m2)) ∧ Rel h2 K2 m2 B nb nr2 ns np nsm d S ∧ Cli m2 nb ∧ m2 22 0 = m 22 0 := by
  obtain ⟨l, hl0, hl20, hl⟩ := L k hk1 hb
  have F := R.1.1
  have R13 := R.1.2.2.1
  have nb8 := R.1.2.1.1
  have q := row_bu R13 hk1
  have hcu : cA (bu h k) := Or.inr (by omega)
  obtain ⟨⟨b0, b1, b2, b3, b4, b5, b6, b7⟩, ⟨c, hc, hmc⟩, ⟨p, hp0, hp20, hmp⟩, ⟨bt, hbt, hmb⟩⟩ := R.2.2.2.1.1 k hk1
  have hk8 : k < 8 := by omega
  have bt0 : 0 < bt := by
    rcases Nat.eq_zero_or_pos bt with z | z
    · rw [z] at hmb; exact absurd hmb hb
    · exact z
  -- one day less
  have R1 := R.pb (v := nI (l - 1)) hk1 4 32 (Or.inr (Or.inl ⟨rfl, rfl⟩))
  by_cases hl1 : l = 1
  · -- it comes up
    have z0 : nI (l - 1) = 0 := by rw [hl1]; rfl
    have C1 := R.2.1
    have e11 : K 11 = m 23 := C1.1.1
    have e9 : K 9 = m 24 := C1.1.2.1
    have hcur : Cur (m 24) := C1.2.2.2.2.2
    have hcv : nI (mvd (m 23) (m 24) c) = nI (mvd (m 23) (m 24) c) := rfl
    have R2 := R1.pb (v := nI (mvd (m 23) (m 24) c)) hk1 3 30 (Or.inl ⟨rfl, rfl, _, mvd_lt hc, rfl⟩)
    have hday : K 1 9 = nI d ∧ m 22 1 = nI d := R.2.2.1.2.2.2.2.2.1
    -- the reading
    obtain ⟨h2, K2, m2, nr2, w1, w2, R3, w4, w5, w6⟩ := keep_ok (w := some k) (c := mvd (m 23) (m 24) c) (v := m 26 (mvd (m 23) (m 24) c) + m 34 k) (more := m 34 k) R2 (mvd_lt hc) (fun f z => by cases z; exact hk1) rfl
    simp only [Option.map_some] at w1
    have F3 := R3.1.1
    have bu2 := (w4 k hk1).1
    have hk2 := (w4 k hk1).2
    obtain ⟨⟨d0, d1, d2, d3, d4, d5, d6, d7⟩, -⟩ := R3.2.2.2.1.1 k hk1
    rw [bu2] at d0 d1 d2 d3 d4 d5 d6 d7
    have m31 : m2 31 k = nI p := by
      rw [w5 31 (by decide)]
      rw [upw_o (by decide), upw_o (by decide)]; exact hmp
    have m33 : m2 33 k = nI bt := by
      rw [w5 33 (by decide)]
      rw [upw_o (by decide), upw_o (by decide)]; exact hmb
    have R4 := R3.pb (v := nI (bt - 1)) hk1 5 33 (Or.inr (Or.inr (Or.inl ⟨rfl, rfl, bt - 1, by omega, rfl⟩)))
    have R5 := R4.pb (v := if bt - 1 = 0 then 0 else nI p) hk1 4 32 (Or.inr (Or.inl ⟨rfl, rfl⟩))
    rw [bu2] at R5
    refine ⟨h2, _, _, nr2, ?_, ?_, R5, ?_, by rw [upw_o (by decide), upw_o (by decide), w6.1 0 (by decide), upw_o (by decide), upw_o (by decide)]⟩
    · intro mm
      unfold M_X8_letDrift
      rw [K_gf q.2.1 hcu, b4, hl, x_bnd, nI_sub1 hl0, K_pf q.2.1 hcu, K_gf q.2.1 hcu, upw_s, upd_s, z0, if_pos (by decide), r1_0 F, K_gf q.2.1 hcu, upw_s, upd_o (by decide), b3, hmc, c2 F, s_leadsTo F hc (by rw [upw_o (by omega), e9]; exact hcur c hc), x_rtI, upw_o (show (11 : Nat) ≠ bu h k by omega), upw_o (show (9 : Nat) ≠ bu h k by omega), e11, e9]
      have hgo : (if oI (lea (m 23) (m 24) c) = -1 then B_X8_letDrift_40 (some 1) (some (bu h k)) (st h (upw K (bu h k) (upd (K (bu h k)) 4 0)) mm) else pfI (st h (upw K (bu h k) (upd (K (bu h k)) 4 0)) mm) (some (bu h k)) 0 3 (oI (lea (m 23) (m 24) c)) fun h9 => B_X8_letDrift_40 (some 1) (some (bu h k)) h9) = B_X8_letDrift_40 (some 1) (some (bu h k)) (st h (upw (upw K (bu h k) (upd (K (bu h k)) 4 (nI (l - 1)))) (bu h k) (upd (upw K (bu h k) (upd (K (bu h k)) 4 (nI (l - 1))) (bu h k)) 3 (nI (mvd (m 23) (m 24) c)))) mm) := by
        rw [z0]
        unfold mvd
        cases ho : lea (m 23) (m 24) c with
        | none =>
          rw [oI_n, if_pos rfl]
          show _ = B_X8_letDrift_40 _ _ (st h (upw (upw K (bu h k) (upd (K (bu h k)) 4 0)) (bu h k) (upd (upw K (bu h k) (upd (K (bu h k)) 4 0) (bu h k)) 3 (nI c))) mm)
          have : nI c = upw K (bu h k) (upd (K (bu h k)) 4 0) (bu h k) 3 := by rw [upw_s, upd_o (by decide), b3, hmc]
          rw [this, upd_id, upw_id]
        | some o =>
          have := lea_lt hc ho
          rw [oI_s, if_neg (by rw [nI_nm1 (by omega)]; exact id), K_pf q.2.1 hcu]
          rfl
      rw [hgo]
      unfold B_X8_letDrift_40
      have ex4 : upw (upw K (bu h k) (upd (K (bu h k)) 4 (nI (l - 1)))) (bu h k) (upd (upw K (bu h k) (upd (K (bu h k)) 4 (nI (l - 1))) (bu h k)) 3 (nI (mvd (m 23) (m 24) c))) 4 = K 4 := by rw [upw_o (by omega), upw_o (by omega)]
      have ex1 : upw (upw K (bu h k) (upd (K (bu h k)) 4 (nI (l - 1)))) (bu h k) (upd (upw K (bu h k) (upd (K (bu h k)) 4 (nI (l - 1))) (bu h k)) 3 (nI (mvd (m 23) (m 24) c))) 1 9 = nI d := by rw [upw_o (by omega), upw_o (by omega)]; exact hday.1
      have exu3 : upw (upw K (bu h k) (upd (K (bu h k)) 4 (nI (l - 1)))) (bu h k) (upd (upw K (bu h k) (upd (K (bu h k)) 4 (nI (l - 1))) (bu h k)) 3 (nI (mvd (m 23) (m 24) c))) (bu h k) 3 = nI (mvd (m 23) (m 24) c) := by rw [upw_s, upd_s]
      have exu2 : upw (upw K (bu h k) (upd (K (bu h k)) 4 (nI (l - 1)))) (bu h k) (upd (upw K (bu h k) (upd (K (bu h k)) 4 (nI (l - 1))) (bu h k)) 3 (nI (mvd (m 23) (m 24) c))) (bu h k) 2 = m 34 k := by rw [upw_s, upd_o (by decide), upw_s, upd_o (by decide), b2]
      rw [r1_2 F, g1 F, K_gf q.2.1 hcu, r1_0 F, K_gf q.2.1 hcu, c2 F, exu3, s_upperHeat F (mvd_lt hc), x_rtI, K_gf q.2.1 hcu, exu2, x_bnd, c14 F, ex1, ex4, (C1.2.1 _ (mvd_lt hc)).1, w1 mm, x_rtV, K_gf hk2 hcu, d5, m33, x_bnd, nI_sub1 bt0, K_pf hk2 hcu, K_gf hk2 hcu, upw_s, upd_s]
      by_cases hb1 : bt - 1 = 0
      · rw [if_pos (by rw [hb1]; decide), K_pf hk2 hcu, if_pos hb1, upw_s]
      · rw [if_neg (by rw [nI0, nI_leP (by omega) (by omega)]; omega), K_gf hk2 hcu, K_pf hk2 hcu, if_neg hb1, upw_s, upd_o (by decide), d1, m31]
    · intro h' K' F'
      unfold M_X9_parks
      have cmr : ∀ f, f < 8 → True := fun _ _ => trivial
      rw [r22_14 F', d33 F' hk8, if_pos hb, r22_13 F', d32 F' hk8, hl, x_bnd, nI_sub1 hl0, w32 F' hk8, r22_13 F', d32 F' hk8, upw_s, upd_s, z0, if_neg (by decide), r22_11 F', d30 F' hk8, upw_o (by decide), hmc, c22 F', s_leads F' hc (by rw [upw_o (by decide)]; exact hcur c hc), x_rtI, r22_11 F', upw_o (by decide), upw_o (by decide)]
      have hgo : (if oI (lea (m 23) (m 24) c) ≠ -1 then B_X9_parks_60 (some 22) (nI k) (some 30) (nI k) (oI (lea (m 23) (m 24) c)) (st h' K' (upw m 32 (upd (m 32) k 0))) else gfR (st h' K' (upw m 32 (upd (m 32) k 0))) (some 22) 9 11 fun r14 => rdI (st h' K' (upw m 32 (upd (m 32) k 0))) r14 20 (nI k) fun z15 => B_X9_parks_60 (some 22) (nI k) (some 30) (nI k) z15 (st h' K' (upw m 32 (upd (m 32) k 0)))) = B_X9_parks_60 (some 22) (nI k) (some 30) (nI k) (nI (mvd (m 23) (m 24) c)) (st h' K' (upw m 32 (upd (m 32) k 0))) := by
        unfold mvd
        cases ho : lea (m 23) (m 24) c with
        | none =>
          rw [oI_n, if_neg (fun z => z rfl), r22_11 F', d30 F' hk8, upw_o (by decide), hmc]
          rfl
        | some o =>
          have := lea_lt hc ho
          rw [oI_s, if_pos (by rw [ne_eq, nI_nm1 (by omega)]; exact id)]
          rfl
      rw [hgo]
      unfold B_X9_parks_60
      have w2' := w2 h' K' F'
      rw [z0] at w2'
      rw [w30 F' hk8, r22_11 F', d30 F' hk8, upw_s, upd_s, r22_15 F', d34 F' hk8, upw_o (show (34 : Nat) ≠ 30 by decide), upw_o (show (34 : Nat) ≠ 32 by decide), c22 F']
      rw [show nI k = oI (some k) from rfl, w2', x_rtV]
      rw [show oI (some k) = nI k from rfl, r22_14 F', d33 F' hk8, m33, x_bnd, nI_sub1 bt0, w33 F' hk8, r22_13 F', r22_14 F', d33 F' hk8, upw_s, upd_s]
      by_cases hb1 : bt - 1 = 0
      · rw [if_neg (by rw [hb1]; decide), w32 F' hk8, if_pos hb1]
      · rw [if_pos (nI_ne0 (by omega) (by omega)), r22_12 F', d31 F' hk8, w32 F' hk8, if_neg hb1, upw_o (show (31 : Nat) ≠ 33 by decide), m31]
    · intro k' hk3 hne
      rw [upw_s]
      rw [upw_o (by decide), upw_s] at hne
      by_cases e1 : k' = k
      · subst e1
        rw [upd_s] at hne ⊢
        by_cases hb1 : bt - 1 = 0
        · rw [hb1] at hne; exact absurd rfl hne
        · rw [if_neg hb1]; exact ⟨p, hp0, hp20, rfl⟩
      · rw [upd_o e1] at hne ⊢
        rw [w5 33 (by decide), upw_o (by decide), upw_o (by decide)] at hne
        rw [upw_o (by decide), w5 32 (by decide), upw_o (by decide), upw_s, upd_o e1]
        exact L k' hk3 hne
  · have hne : ¬ nI (l - 1) ≤ 0 := by rw [nI0, nI_leP (by omega) (by omega)]; omega
    refine ⟨h, _, _, nr, ?_, ?_, R1, ?_, by rw [upw_o (by decide)]⟩
    · intro mm
      unfold M_X8_letDrift
      rw [K_gf q.2.1 hcu, b4, hl, x_bnd, nI_sub1 hl0, K_pf q.2.1 hcu, K_gf q.2.1 hcu, upw_s, upd_s, if_neg hne]
    · intro h' K' F'
      unfold M_X9_parks
      rw [r22_14 F', d33 F' hk8, if_pos hb, r22_13 F', d32 F' hk8, hl, x_bnd, nI_sub1 hl0, w32 F' hk8, r22_13 F', d32 F' hk8, upw_s, upd_s, if_pos (nI_ne0 (by omega) (by omega))]
    · intro k' hk3 hne
      rw [upw_s]
      rw [upw_o (by decide)] at hne
      by_cases e1 : k' = k
      · subst e1; rw [upd_s]; exact ⟨l - 1, by omega, by omega, rfl⟩
      · rw [upd_o e1]; exact L k' hk3 hne
