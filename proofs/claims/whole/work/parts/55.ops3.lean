/-! leg, plan -/
theorem Rel.srch {h : MH} {K m K1 m1 : Nat → Nat → Int32} {B nb nr ns np nsm d s : Nat} {S : STy} (R : Rel h K m B nb nr ns np nsm d S) (hs : s < ns) (hK : ∀ a, a ≠ ca h s → a ≠ co h s → K1 a = K a) (hm : ∀ a, a ≠ 46 → a ≠ 22 → m1 a = m a) (h22 : ∀ j, j ≠ 0 → m1 22 j = m 22 j) (hrow : ∀ c, c < 60 → K1 (ca h s) c = m1 46 (60 * s + c)) (ho : ∀ j, j < 240 → ¬ (60 * s ≤ j ∧ j < 60 * s + 60) → m1 46 j = m 46 j) : Rel h K1 m1 B nb nr ns np nsm d S := by
  obtain ⟨⟨F, hN, R13, R15, R20, R21, RS⟩, C1, C2, C3, C4, C5, C6, C7, C8, C9⟩ := R
  obtain ⟨⟨q1, q2, q3, q4⟩, q5, q6, q7, q8⟩ := RS.1 s hs
  have kk : ∀ b, hk h b ≠ 20 → K1 b = K b := fun b hb => hK b (fun z => hb (by rw [z]; exact q2)) (fun z => hb (by rw [z]; exact q6))
  have k22 : ∀ b, b < 22 → K1 b = K b := fun b hb => hK b (by omega) (by omega)
  refine ⟨⟨F, hN, R13, R15, R20, R21, RS⟩, ?_, ?_, ?_, ?_, ?_, ?_, ⟨fun s' hs' => ?_, fun j h1 h2 => ?_⟩, ?_, C9⟩
  · exact C1.fr (fun b hb => k22 b (by simp at hb; omega)) (fun b hb => hm b (by simp at hb; omega) (by simp at hb; omega)) (h22 2 (by omega))
  · unfold Cct
    rw [k22 1 (by omega), k22 14 (by omega), k22 16 (by omega), h22 10 (by decide), h22 30 (by decide), h22 33 (by decide), h22 23 (by decide), h22 20 (by decide), h22 1 (by decide), h22 29 (by decide)]; exact C2
  · exact C3.fr R13 (fun b hb _ => kk b (by omega)) (fun b hb => hm b (by simp at hb; omega) (by simp at hb; omega))
  · exact C4.fr R15 (fun b hb _ => kk b (by omega)) (fun b hb => hm b (by simp at hb; omega) (by simp at hb; omega))
  · exact C5.fr (hm 43 (by omega) (by omega))
  · exact C6.fr (fun b hb => k22 b (by simp at hb; omega)) (fun b hb => hm b (by simp at hb; omega) (by simp at hb; omega)) (by rw [k22 16 (by omega)]) (h22 17 (by omega))
  · have qs := row_se R20 hs'
    rw [kk _ (by omega), hm 45 (by decide) (by decide)]
    refine ⟨(C7.1 s' hs').1, fun c hc => ?_⟩
    by_cases e1 : s' = s
    · subst e1; exact hrow c hc
    · have ns4 := hN.2.2.1
      rw [hK _ (fun z => e1 (RS.2.1 s' s hs' hs z)) (RS.2.2 s' s hs' hs), ho _ (by omega) (by omega)]
      exact (C7.1 s' hs').2 c hc
  · rw [ho j h2 (by omega)]; exact C7.2 j h1 h2
  · exact C8.fr R21 (fun b hb _ => kk b (by omega)) (fun b hb => hm b (by simp at hb; omega) (by simp at hb; omega))
theorem s_lookAt {h : MH} {K m : Nat → Nat → Int32} {a c : Nat} {x : Int32} (hka : hk h a = 20) (hla : hl h a = 60) (ha : cA a) (hc : c < 60) : M_X6_lookAt (some a) (nI c) x (st h K m) = rtI (K a c * x / 100) (st h (upw K a (upd (K a) c (K a c - K a c * x / 100))) m) := by
  unfold M_X6_lookAt
  rw [K_al hka (by decide) hla, s_isIndex_t hc (by decide), x_rtI, if_pos (by decide), K_rd hka hla ha hc (by decide), x_bnd, q_dv (by decide), K_rd hka hla ha hc (by decide), x_bnd, K_wr hka hla ha hc (by decide) (fun q => absurd q (by decide))]
theorem op_leg (x y z : Int32) : OpR eLG (M_X8_leg (some 1) x y z) (M_X9_leg (some 22) x y z) := by
  intro B h K m I
  have F := I.F
  have I0 := I
  obtain ⟨nb, nr, ns, np, nsm, nst, d, R, L⟩ := I
  have R20 := R.1.2.2.2.2.1
  have ns4 := R.1.2.1.2.2.1
  have hm30 : m 22 30 = nI ns := R.2.2.1.2.1.2
  by_cases hx : ∃ j, j < ns ∧ x = nI j
  · have hx2 := (idx_iff (by omega)).mpr hx
    obtain ⟨s, hs, rfl⟩ := hx
    rcases cell_or y with hy | ⟨j, hj, rfl⟩
    · refine OpR_t I0 1 1 (by decide) rfl ?_ (fun h' F' => ?_)
      · unfold M_X8_leg
        rw [c1 F, s_search_t F R20 ns4 hs, x_rtR, s_needCell_f hy, x_thr]
      · unfold M_X9_leg B_X9_leg_16 B_X9_leg_35
        rw [c22 F', s_isSearch F' hm30, x_rtI, bI_t hx2, if_neg (by decide), s_mCell_f hy, x_rtI, if_neg (fun z => z rfl), p22 F', thM_eq, g22 F', thM_0, if_neg (by decide)]
    · have q := row_se R20 hs
      obtain ⟨⟨q1, q2, q3, q4⟩, -⟩ := R.1.2.2.2.2.2.2.1 s hs
      have hv := (R.2.2.2.2.2.2.2.1.1 s hs).2
      have hsj : 60 * s + j < 300 := by omega
      by_cases hz : (1 : Int32) ≤ z ∧ z ≤ (100 : Int32)
      · refine ⟨0, K (ca h s) j * z / 100, K (ca h s) j * z / 100, h, upw K (ca h s) (upd (K (ca h s)) j (K (ca h s) j - K (ca h s) j * z / 100)), upw (thM m 0) 46 (upd (m 46) (60 * s + j) (K (ca h s) j - K (ca h s) j * z / 100)), Or.inl ⟨rfl, rfl, ?_⟩, fun h' F' => ?_, by rw [upw_o (by decide), thM_0], ⟨nb, nr, ns, np, nsm, nst, d, Rel.up ?_, fun k hk1 h1 => ?_⟩⟩
        · unfold M_X8_leg
          rw [c1 F, s_search_t F R20 ns4 hs, x_rtR, s_needCell_t hj, x_rtV, s_needRange_t hz, x_rtV, K_gr q.2.1, q1, s_lookAt q2 q3 (Or.inr (by omega)) hj, x_rtI]
        · unfold M_X9_leg B_X9_leg_35
          rw [c22 F', s_isSearch F' hm30, x_rtI, bI_t hx2, if_neg (by decide), s_mCell_t hj, x_rtI, if_pos (by decide), s_in, x_rtI, bI_t hz, if_pos (by decide), p22 F', thM_eq, g22 F', thM_0, if_pos (by decide), r22_32 F', x_bnd, x_bnd, e60s, d46 F' hsj, x_bnd, q_dv (by decide), r22_32 F', x_bnd, x_bnd, e60s, d46 F' hsj, x_bnd, w46 F' hsj, thM_o (by decide), hv j hj]
        · refine R.srch hs (K1 := upw K (ca h s) (upd (K (ca h s)) j (K (ca h s) j - K (ca h s) j * z / 100))) (m1 := upw (thM m 0) 46 (upd (m 46) (60 * s + j) (K (ca h s) j - K (ca h s) j * z / 100))) (fun a h1 _ => upw_o h1) (fun a h1 h2 => by rw [upw_o h1, thM_o h2]) (fun i hi => by rw [upw_o (by decide), thM_22 hi]) (fun c hc => ?_) (fun i h1 h2 => ?_)
          · rw [upw_s, upw_s]
            unfold upd
            by_cases e : c = j
            · rw [if_pos e, if_pos (by omega)]
            · rw [if_neg e, if_neg (by omega)]; exact hv c hc
          · rw [upw_s, upd_o (by omega)]
        · rw [upw_o (by decide), thM_o (by decide)] at h1
          rw [upw_o (by decide), thM_o (by decide)]
          exact L k hk1 h1
      · refine OpR_t I0 2 2 (by decide) rfl ?_ (fun h' F' => ?_)
        · unfold M_X8_leg
          rw [c1 F, s_search_t F R20 ns4 hs, x_rtR, s_needCell_t hj, x_rtV, s_needRange_f hz, x_thr]
        · unfold M_X9_leg B_X9_leg_35
          rw [c22 F', s_isSearch F' hm30, x_rtI, bI_t hx2, if_neg (by decide), s_mCell_t hj, x_rtI, if_pos (by decide), s_in, x_rtI, bI_f hz, if_neg (fun z => z rfl), p22 F', thM_eq, g22 F', thM_0, if_neg (by decide)]
  · have hx2 : ¬ (0 ≤ x ∧ x ≤ nI ns - 1) := fun z => hx ((idx_iff (by omega)).mp z)
    refine OpR_t I0 1 1 (by decide) rfl ?_ (fun h' F' => ?_)
    · unfold M_X8_leg
      rw [c1 F, s_search_f F R20 hx, x_thrR]
    · unfold M_X9_leg B_X9_leg_16 B_X9_leg_35
      rw [c22 F', s_isSearch F' hm30, x_rtI, bI_f hx2, if_pos rfl, p22 F', thM_eq, g22 F', thM_0, if_neg (by decide)]
theorem plan_loop {h : MH} {K M : Nat → Nat → Int32} {s co1 legs : Nat} {x : Int32} (hs6 : hk h s = 6) (hr2 : hr h s 2 = some co1) (hk2 : hk h co1 = 20) (hl2 : hl h co1 = 60) (hc2 : 50 < co1) (hlg : legs ≤ 20) : ∀ k i sum P Q, i + k = legs → (∀ c, c < 60 → P c = Q (240 + c)) → ∃ sum' P' Q', (∀ n mm, k < n → L_X6_tryLegs_20 n (some s) (nI legs) x sum (nI i) (st h (upw K co1 P) mm) = rtI sum' (st h (upw K co1 P') mm)) ∧ (∀ h' K' n, Fix h' → k < n → L_X9_plan_95 n (some 22) (nI legs) x sum (nI i) (st h' K' (upw M 46 Q)) = rtI sum' (st h' K' (upw M 46 Q'))) ∧ ∀ j, j < 240 → Q' j = Q j := by
  intro k
  induction k with
  | zero =>
    intro i sum P Q hi hPQ
    refine ⟨sum, P, Q, fun n mm hn1 => ?_, fun h' K' n F' hn1 => ?_, fun j _ => rfl⟩
    · obtain ⟨n, rfl⟩ : ∃ q, n = q + 1 := ⟨n - 1, by omega⟩
      show B_X6_tryLegs_20 (L_X6_tryLegs_20 n) (some s) (nI legs) x sum (nI i) _ = _
      unfold B_X6_tryLegs_20
      rw [if_pos (nI_le (by omega) (by omega))]
    · obtain ⟨n, rfl⟩ : ∃ q, n = q + 1 := ⟨n - 1, by omega⟩
      show B_X9_plan_95 (L_X9_plan_95 n) (some 22) (nI legs) x sum (nI i) _ = _
      unfold B_X9_plan_95
      rw [if_pos (nI_le (by omega) (by omega))]
  | succ k ih =>
    intro i sum P Q hi hPQ
    have hca : cA co1 := Or.inr (by omega)
    have hb := bst_le (r := P) (n := 59)
    have hbe : bst (fun c => Q (60 * 4 + c)) 59 = bst P 59 := bst_congr (fun j hj => (hPQ j (by omega)).symm)
    have hP := hPQ (bst P 59) (by omega)
    have hb300 : 240 + bst P 59 < 300 := by omega
    obtain ⟨sum', P', Q', w1, w2, w3⟩ := ih (i + 1) (sum + P (bst P 59) * x / 100) (upd P (bst P 59) (P (bst P 59) - P (bst P 59) * x / 100)) (upd Q (240 + bst P 59) (P (bst P 59) - P (bst P 59) * x / 100)) (by omega) (by
      intro c hc
      unfold upd
      by_cases e : c = bst P 59
      · rw [if_pos e, if_pos (by omega)]
      · rw [if_neg e, if_neg (by omega)]; exact hPQ c hc)
    refine ⟨sum', P', Q', fun n mm hn1 => ?_, fun h' K' n F' hn1 => ?_, fun j hj => by rw [w3 j hj, upd_o (by omega)]⟩
    · obtain ⟨n, rfl⟩ : ∃ q, n = q + 1 := ⟨n - 1, by omega⟩
      show B_X6_tryLegs_20 (L_X6_tryLegs_20 n) (some s) (nI legs) x sum (nI i) _ = _
      unfold B_X6_tryLegs_20
      rw [if_neg (nI_ge (by omega) (by omega)), K_gr hs6, hr2, K_gr hs6, hr2, s_bestOf hk2 hl2 hca, x_rtI, upw_s, s_lookAt hk2 hl2 hca (by omega), x_rtI, upw_s, upw_w, x_bnd, x_bnd, nIs, w1 n mm (by omega)]
    · obtain ⟨n, rfl⟩ : ∃ q, n = q + 1 := ⟨n - 1, by omega⟩
      show B_X9_plan_95 (L_X9_plan_95 n) (some 22) (nI legs) x sum (nI i) _ = _
      unfold B_X9_plan_95
      have e4 := s_mBestOf (h := h') (K := K') (m := upw M 46 Q) F' (s := 4) (by decide)
      rw [upw_s, hbe] at e4
      rw [if_neg (nI_ge (by omega) (by omega)), c22 F', show (4 : Int32) = nI 4 from rfl, e4, x_rtI, x_bnd, show (240 : Int32) + nI (bst P 59) = nI (240 + bst P 59) from nI_add 240 _, r22_32 F', d46 F' hb300, x_bnd, q_dv (by decide), r22_32 F', d46 F' hb300, x_bnd, w46 F' hb300, upw_s, upw_w, x_bnd, x_bnd, nIs, ← hP, w2 h' K' n F' (by omega)]
theorem s_plan53 {h : MH} {K M : Nat → Nat → Int32} {s : Nat} (F : Fix h) (hs : s < 4) (x2 x3 : Int32) : ∃ Q, (∀ c, c < 60 → Q (240 + c) = M 46 (60 * s + c)) ∧ (∀ j, j < 240 → Q j = M 46 j) ∧ ∀ h' K', Fix h' → L_X9_plan_53 fuel (some 22) (nI s) x2 x3 (nI 0) (st h' K' M) = L_X9_plan_95 fuel (some 22) x2 x3 0 0 (st h' K' (upw M 46 Q)) := by
  let Q : Nat → Nat → Int32 := fun i => fun j => if 240 ≤ j ∧ j < 240 + i then M 46 (60 * s + (j - 240)) else M 46 j
  have q0 : Q 0 = M 46 := by funext j; exact if_neg (by omega)
  refine ⟨Q 60, fun c hc => ?_, fun j hj => if_neg (by omega), fun h' K' F' => ?_⟩
  · show (if 240 ≤ 240 + c ∧ 240 + c < 240 + 60 then M 46 (60 * s + (240 + c - 240)) else _) = _
    rw [if_pos (by omega), show 240 + c - 240 = c by omega]
  · have hG := zlp0 (G := fun n i => L_X9_plan_53 n (some 22) (nI s) x2 x3 (nI i) (st h' K' (upw M 46 (Q i)))) (N := 60) (r := L_X9_plan_95 fuel (some 22) x2 x3 0 0 (st h' K' (upw M 46 (Q 60)))) (by decide) ?_ ?_
    · rw [show L_X9_plan_53 fuel (some 22) (nI s) x2 x3 (nI 0) (st h' K' (upw M 46 (Q 0))) = L_X9_plan_53 fuel (some 22) (nI s) x2 x3 (nI 0) (st h' K' M) by rw [q0, upw_id]] at hG
      exact hG
    · intro n i hi
      have h1 : 60 * s + i < 300 := by omega
      have h2 : 240 + i < 300 := by omega
      show B_X9_plan_53 (L_X9_plan_53 n) (some 22) (nI s) x2 x3 (nI i) (st h' K' (upw M 46 (Q i))) = L_X9_plan_53 n (some 22) (nI s) x2 x3 (nI (i + 1)) (st h' K' (upw M 46 (Q (i + 1))))
      unfold B_X9_plan_53
      rw [if_neg (show ¬ (60 : Int32) ≤ nI i from nI_ge (b := 60) hi (by decide)), r22_32 F', x_bnd, show (240 : Int32) + nI i = nI (240 + i) from nI_add 240 _, r22_32 F', x_bnd, x_bnd, e60s, d46 F' h1, w46 F' h2, upw_s, upw_w, x_bnd, nIs]
      have : upd (Q i) (240 + i) (Q i (60 * s + i)) = Q (i + 1) := by
        funext j
        have e1 : Q i (60 * s + i) = M 46 (60 * s + i) := if_neg (by omega)
        rw [e1]
        show (if j = 240 + i then M 46 (60 * s + i) else if 240 ≤ j ∧ j < 240 + i then M 46 (60 * s + (j - 240)) else M 46 j) = if 240 ≤ j ∧ j < 240 + (i + 1) then M 46 (60 * s + (j - 240)) else M 46 j
        by_cases e : j = 240 + i
        · rw [if_pos e, if_pos (by omega), e, show 240 + i - 240 = i by omega]
        · rw [if_neg e]
          by_cases e2 : 240 ≤ j ∧ j < 240 + i
          · rw [if_pos e2, if_pos (by omega)]
          · rw [if_neg e2, if_neg (by omega)]
      rw [this]
    · intro n
      show B_X9_plan_53 (L_X9_plan_53 n) (some 22) (nI s) x2 x3 (nI 60) (st h' K' (upw M 46 (Q 60))) = _
      unfold B_X9_plan_53
      rw [if_pos (show (60 : Int32) ≤ nI 60 from nI_le (a := 60) (Nat.le_refl _) (by decide))]
theorem op_plan (x y z : Int32) : OpR eLG (M_X8_plan (some 1) x y z) (M_X9_plan (some 22) x y z) := by
  intro B h K m I
  have F := I.F
  have I0 := I
  obtain ⟨nb, nr, ns, np, nsm, nst, d, R, L⟩ := I
  have R20 := R.1.2.2.2.2.1
  have ns4 := R.1.2.1.2.2.1
  have hm30 : m 22 30 = nI ns := R.2.2.1.2.1.2
  by_cases hx : ∃ j, j < ns ∧ x = nI j
  · have hx2 := (idx_iff (by omega)).mpr hx
    obtain ⟨s, hs, rfl⟩ := hx
    have q := row_se R20 hs
    obtain ⟨⟨q1, q2, q3, q4⟩, q5, q6, q7, q8⟩ := R.1.2.2.2.2.2.2.1 s hs
    have hne := R.1.2.2.2.2.2.2.2.2 s s hs hs
    have hv := (R.2.2.2.2.2.2.2.1.1 s hs).2
    by_cases hy : (1 : Int32) ≤ y ∧ y ≤ (20 : Int32)
    · by_cases hz : (1 : Int32) ≤ z ∧ z ≤ (100 : Int32)
      · obtain ⟨legs, hlg, rfl⟩ := nI_rng (x := y) (n := 20) (by decide) (by rw [i_le] at hy ⊢; have := hy.1; rw [show (1 : Int32).toInt = 1 from by decide] at this; rw [show (0 : Int32).toInt = 0 from by decide]; omega) hy.2
        obtain ⟨Q, hQ1, hQ2, hQ3⟩ := s_plan53 (K := K) (M := thM m 0) F (s := s) (by omega) (nI legs) z
        have hPQ : ∀ c, c < 60 → va_cpy (K (ca h s)) (K (co h s)) 0 0 60 c = Q (240 + c) := by
          intro c hc
          rw [pk_cpy_in (Nat.zero_le _) (by omega), hQ1 c hc, thM_o (by decide)]
          simp only [Nat.zero_add, Nat.sub_zero]
          exact hv c hc
        obtain ⟨sum', P', Q', w1, w2, w3⟩ := plan_loop (K := K) (M := thM m 0) (x := z) q.2.1 q5 q6 q7 q8 hlg legs 0 0 _ Q (by omega) hPQ
        refine ⟨0, sum', sum', h, upw K (co h s) P', upw (thM m 0) 46 Q', Or.inl ⟨rfl, rfl, ?_⟩, fun h' F' => ?_, by rw [upw_o (by decide), thM_0], ⟨nb, nr, ns, np, nsm, nst, d, Rel.up ?_, fun k hk1 h1 => ?_⟩⟩
        · unfold M_X8_plan
          rw [c1 F, s_search_t F R20 ns4 hs, x_rtR, s_needRange_t hy, x_rtV, s_needRange_t hz, x_rtV, K_ck q.2.1]
          unfold M_X6_tryLegs
          rw [K_gr q.2.1, q1, K_gr q.2.1, q5, show cpI (st h K m) (some (ca h s)) 0 (some (co h s)) 0 60 = cpI (st h K m) (some (ca h s)) (nI 0) (some (co h s)) (nI 0) (nI 60) from rfl, K_cp q2 q6 q3 q7 (Or.inr (by omega)) (Or.inr (by omega)) (by decide) (by decide) (by decide) (by decide)]
          have := w1 fuel m (by have : fuel = 1000 := rfl; omega)
          show calI (L_X6_tryLegs_20 fuel (some (se h s)) (nI legs) z 0 (nI 0) _) _ = _
          rw [this, x_rtI]
        · unfold M_X9_plan B_X9_plan_38
          rw [c22 F', s_isSearch F' hm30, x_rtI, bI_t hx2, if_pos (by decide), s_in, x_rtI, bI_t hy, if_neg (by decide), s_in, x_rtI, bI_t hz, if_pos (by decide), p22 F', thM_eq, g22 F', thM_0, if_pos (by decide)]
          exact (hQ3 h' _ F').trans (w2 h' _ fuel F' (by have : fuel = 1000 := rfl; omega))
        · refine R.srch hs (K1 := upw K (co h s) P') (m1 := upw (thM m 0) 46 Q') (fun a _ h1 => upw_o h1) (fun a h1 h2 => by rw [upw_o h1, thM_o h2]) (fun i hi => by rw [upw_o (by decide), thM_22 hi]) (fun c hc => ?_) (fun i h1 h2 => ?_)
          · rw [upw_o hne, upw_s, w3 _ (by omega), hQ2 _ (by omega), thM_o (by decide)]
            exact hv c hc
          · rw [upw_s, w3 _ h1, hQ2 _ h1, thM_o (by decide)]
        · rw [upw_o (by decide), thM_o (by decide)] at h1
          rw [upw_o (by decide), thM_o (by decide)]
          exact L k hk1 h1
      · refine OpR_t I0 2 2 (by decide) rfl ?_ (fun h' F' => ?_)
        · unfold M_X8_plan
          rw [c1 F, s_search_t F R20 ns4 hs, x_rtR, s_needRange_t hy, x_rtV, s_needRange_f hz, x_thr]
        · unfold M_X9_plan B_X9_plan_33 B_X9_plan_38
          rw [c22 F', s_isSearch F' hm30, x_rtI, bI_t hx2, if_pos (by decide), s_in, x_rtI, bI_t hy, if_neg (by decide), s_in, x_rtI, bI_f hz, if_neg (fun z => z rfl), p22 F', thM_eq, g22 F', thM_0, if_neg (by decide)]
    · refine OpR_t I0 2 2 (by decide) rfl ?_ (fun h' F' => ?_)
      · unfold M_X8_plan
        rw [c1 F, s_search_t F R20 ns4 hs, x_rtR, s_needRange_f hy, x_thr]
      · unfold M_X9_plan B_X9_plan_33 B_X9_plan_38
        rw [c22 F', s_isSearch F' hm30, x_rtI, bI_t hx2, if_pos (by decide), s_in, x_rtI, bI_f hy, if_pos rfl, p22 F', thM_eq, g22 F', thM_0, if_neg (by decide)]
  · have hx2 : ¬ (0 ≤ x ∧ x ≤ nI ns - 1) := fun z => hx ((idx_iff (by omega)).mp z)
    refine OpR_t I0 1 1 (by decide) rfl ?_ (fun h' F' => ?_)
    · unfold M_X8_plan
      rw [c1 F, s_search_f F R20 hx, x_thrR]
    · unfold M_X9_plan B_X9_plan_38
      rw [c22 F', s_isSearch F' hm30, x_rtI, bI_f hx2, if_neg (fun z => z rfl), p22 F', thM_eq, g22 F', thM_0, if_neg (by decide)]
