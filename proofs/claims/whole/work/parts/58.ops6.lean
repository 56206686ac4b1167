/-! one object more -/
theorem alcR_r {h : MH} {k n row i : Nat} (h15 : row ≤ 50) (h50 : 50 ≤ hn h) (a j : Nat) : hr (sR (alc h k n) row i (some (hn h + 1))) a j = if a = row ∧ j = i then some (hn h + 1) else if a = hn h + 1 then none else hr h a j := rfl
theorem op_part (x y z : Int32) : OpR (fun q => if q = 2 then some 1 else if q = 3 then some 2 else none) (M_X8_part (some 1) x y z) (M_X9_part (some 22) x y z) := by
  intro B h K m I
  have F := I.F
  have I0 := I
  obtain ⟨nb, nr, ns, np, nsm, nst, d, R, L⟩ := I
  have np6 := R.1.2.1.2.2.2
  have hK8 : K 1 8 = nI np := R.2.2.1.2.2.1.1
  have hm33 : m 22 33 = nI np := R.2.2.1.2.2.1.2
  have h50 := F.2.2.1
  by_cases hx : (2 : Int32) ≤ x ∧ x ≤ (60 : Int32)
  · by_cases hy : (0 : Int32) ≤ y ∧ y ≤ (100 : Int32)
    · by_cases hz : (0 : Int32) ≤ z ∧ z ≤ x - 1
      · by_cases hfull : np = 6
        · refine OpR_t I0 3 2 (by decide) rfl ?_ (fun h' F' => ?_)
          · unfold M_X8_part
            rw [s_needRange_t hx, x_rtV, s_needRange_t hy, x_rtV, x_bnd, s_needRange_t hz, x_rtV, g1 F, hK8, r1_5 F, a21 F, s_isIndex_f (Or.inr (nI_le (by omega) (by omega))), x_rtI, if_neg (fun z => z rfl)]
          · unfold M_X9_part B_X9_part_50
            rw [s_in, x_rtI, bI_t hx, if_neg (by decide), s_in, x_rtI, bI_t hy, if_neg (by decide), x_bnd, s_in, x_rtI, bI_t hz, if_pos (by decide), g22 F', hm33, hfull, if_neg (fun z => z rfl), p22 F', thM_eq, g22 F', thM_0, if_neg (by decide)]
        · have hnp : np < 6 := by omega
          obtain ⟨h1, hh1⟩ : ∃ h1, h1 = sR (alc h 3 3) 21 np (some (hn h + 1)) := ⟨_, rfl⟩
          obtain ⟨K1, hK1⟩ : ∃ K1, K1 = upw (upw K (hn h + 1) (upd (upd (upd (fun _ => 0) 0 x) 1 y) 2 z)) 1 (upd (K 1) 8 (nI (np + 1))) := ⟨_, rfl⟩
          obtain ⟨m1, hm1⟩ : ∃ m1, m1 = upw (upw (upw (upw (thM m 0) 47 (upd (m 47) np x)) 48 (upd (m 48) np y)) 49 (upd (m 49) np z)) 22 (upd (thM m 0 22) 33 (nI (np + 1))) := ⟨_, rfl⟩
          have k1 : hk (alc h 3 (nF 3)) (hn h + 1) = 3 := by rw [hk_alc, if_pos rfl]
          have F1 : Fix (alc h 3 3) := F.alc
          have F2 : Fix h1 := by rw [hh1]; exact F1.sR (by decide)
          have F3 : Fix (alc h 3 (nF 3)) := F1
          have hb : cA (hn h + 1) := Or.inr (by omega)
          have E : Ext h h1 := by rw [hh1]; exact Ext.alc.tr Ext.sR
          have rr : ∀ a j, hr h1 a j = if a = 21 ∧ j = np then some (hn h + 1) else if a = hn h + 1 then none else hr h a j := by intro a j; rw [hh1]; rfl
          have rO : ∀ a j, a ≤ hn h → a ≠ 21 → hr h1 a j = hr h a j := fun a j h1 h2 => by rw [rr, if_neg (by omega), if_neg (by omega)]
          have r21 : ∀ j, hr h1 21 j = if j = np then some (hn h + 1) else hr h 21 j := fun j => by
            rw [rr]
            by_cases q : j = np
            · rw [if_pos ⟨rfl, q⟩, if_pos q]
            · rw [if_neg (by omega), if_neg (by omega), if_neg q]
          have kO : ∀ a, a ≠ 1 → a ≠ hn h + 1 → K1 a = K a := fun a h1 h2 => by rw [hK1, upw_o h1, upw_o h2]
          have mO : ∀ a, a ≠ 22 → a ≠ 47 → a ≠ 48 → a ≠ 49 → m1 a = m a := fun a h1 h2 h3 h4 => by rw [hm1, upw_o h1, upw_o h4, upw_o h3, upw_o h2, thM_o h1]
          have m22 : ∀ j, j ≠ 33 → m1 22 j = thM m 0 22 j := fun j hj => by rw [hm1, upw_s, upd_o hj]
          refine ⟨0, nI (np + 1), nI (np + 1), h1, K1, m1, Or.inl ⟨rfl, rfl, ?_⟩, fun h' F' => ?_, by rw [m22 0 (by decide), thM_0], ⟨nb, nr, ns, np + 1, nsm, nst, d, ?_, fun k hk1 hne => ?_⟩⟩
          · unfold M_X8_part
            rw [s_needRange_t hx, x_rtV, s_needRange_t hy, x_rtV, x_bnd, s_needRange_t hz, x_rtV, g1 F, hK8, r1_5 F, a21 F, s_isIndex_t hnp (by decide), x_rtI, if_pos (by decide), r1_5 F, K_nw h50]
            unfold M_X3_init
            rw [show nnl (some (hn h + 1)) = id from rfl]
            show calV (id (pfI _ _ 3 0 _ _)) _ = _
            simp only [id]
            rw [K_pf k1 hb, K_pf k1 hb, K_pf k1 hb, x_rtV, K_wR (Fk21 F3) ⟨by decide, by decide⟩ (Fl21 F3) hnp (by decide) k1, x_bnd, show sR (alc h 3 (nF 3)) 21 np (some (hn h + 1)) = h1 from hh1.symm, nIs, p1 F2, g1 F2, upw_s, upd_s]
            simp only [upw_w, upw_s]
            rw [upw_o (show (1 : Nat) ≠ hn h + 1 by omega), hK1]
          · unfold M_X9_part B_X9_part_50
            have hm33' : thM m 0 22 33 = nI np := by rw [thM_22 (by decide)]; exact hm33
            rw [s_in, x_rtI, bI_t hx, if_neg (by decide), s_in, x_rtI, bI_t hy, if_neg (by decide), x_bnd, s_in, x_rtI, bI_t hz, if_pos (by decide), g22 F', hm33, if_pos (show nI np ≠ (6 : Int32) from fun z => hfull (by have := (nI_eq (by omega) (by omega)).mp (show nI np = nI 6 from z); exact this)), p22 F', thM_eq, g22 F', thM_0, if_pos (by decide), r22_34 F', g22 F', hm33', w47 F' hnp, r22_35 F', g22 F', upw_o (show (22 : Nat) ≠ 47 by decide), hm33', w48 F' hnp, r22_36 F', g22 F', upw_o (show (22 : Nat) ≠ 48 by decide), upw_o (show (22 : Nat) ≠ 47 by decide), hm33', w49 F' hnp, g22 F', upw_o (show (22 : Nat) ≠ 49 by decide), upw_o (show (22 : Nat) ≠ 48 by decide), upw_o (show (22 : Nat) ≠ 47 by decide), hm33', x_bnd, nIs, p22 F', g22 F', upw_s, upd_s]
            rw [hm1]
            simp only [upw_o (show (22 : Nat) ≠ 49 by decide), upw_o (show (22 : Nat) ≠ 48 by decide), upw_o (show (22 : Nat) ≠ 47 by decide), upw_o (show (48 : Nat) ≠ 47 by decide), upw_o (show (49 : Nat) ≠ 48 by decide), upw_o (show (49 : Nat) ≠ 47 by decide), thM_o (m := m) (t := 0) (show (47 : Nat) ≠ 22 by decide), thM_o (m := m) (t := 0) (show (48 : Nat) ≠ 22 by decide), thM_o (m := m) (t := 0) (show (49 : Nat) ≠ 22 by decide)]
          · have R0 := R
            obtain ⟨⟨F, hN, R13, R15, R20, R21, RS⟩, C1, C2, C3, C4, C5, C6, C7, C8, C9⟩ := R
            have kdyn : ∀ a, 50 < a → a ≤ hn h → K1 a = K a := fun a h1 h2 => kO a (by omega) (by omega)
            have rdyn : ∀ a j, 50 < a → a ≤ hn h → hr h1 a j = hr h a j := fun a j h1 h2 => rO a j h2 (by omega)
            obtain ⟨n1, n2, n3, n4, n5, n6⟩ := R0.new (K1 := K1) (m1 := m1) E (fun k _ => rO 13 k (by omega) (by omega)) (fun j => rO 15 j (by omega) (by omega)) (fun k _ => rO 20 k (by omega) (by omega)) (fun k hk1 => by rw [r21, if_neg (by omega)]) rdyn kdyn (fun a ha => mO a (by simp at ha; omega) (by simp at ha; omega) (by simp at ha; omega) (by simp at ha; omega))
            have kb : hk h1 (hn h + 1) = 3 := by rw [hh1]; exact k1
            have pn : pa h1 np = hn h + 1 := by unfold pa; rw [r21, if_pos rfl]; rfl
            refine ⟨⟨F2, ⟨hN.1, hN.2.1, hN.2.2.1, by omega⟩, R13.ext F E (fun j => rO 13 j (by omega) (by omega)) (by decide), R15.ext F E (fun j => rO 15 j (by omega) (by omega)) (by decide), R20.ext F E (fun j => rO 20 j (by omega) (by omega)) (by decide), R21.push F E r21 (by decide) kb (by omega), RS.ext R20 F E (fun j => rO 20 j (by omega) (by omega)) (fun s j hs => by
              have q := row_se R20 hs
              exact rdyn _ _ q.2.2 (F.le (by omega)))⟩, ?_, ?_, ?_, n5, n6, ?_, ?_, ?_, ?_⟩
            · exact C1.fr (fun b hb => kO b (by simp at hb; omega) (by simp at hb; omega)) (fun b hb => mO b (by simp at hb; omega) (by simp at hb; omega) (by simp at hb; omega) (by simp at hb; omega)) (by rw [m22 2 (by decide), thM_22 (by decide)])
            · obtain ⟨a1, a2, a3, a4, a6, a7, a8, a9, a10⟩ := C2
              unfold Cct
              rw [kO 14 (by decide) (by omega), kO 16 (by decide) (by omega), hK1, upw_s, upd_s, upd_o (show (6 : Nat) ≠ 8 by decide), upd_o (show (7 : Nat) ≠ 8 by decide), upd_o (show (9 : Nat) ≠ 8 by decide), m22 10 (by decide), m22 30 (by decide), m22 23 (by decide), m22 20 (by decide), m22 1 (by decide), m22 29 (by decide), hm1, upw_s, upd_s, thM_22 (by decide), thM_22 (by decide), thM_22 (by decide), thM_22 (by decide), thM_22 (by decide), thM_22 (by decide)]
              exact ⟨a1, a2, ⟨rfl, rfl⟩, a4, a6, a7, a8, a9, a10⟩
            · refine ⟨fun k hk1 => ?_, fun k h1 h2 => by rw [mO 35 (by decide) (by decide) (by decide) (by decide)]; exact C3.2 k h1 h2⟩
              have q := row_bu R13 hk1
              rw [n1 k hk1, kdyn _ q.2.2 (F.le (by omega)), mO 30 (by decide) (by decide) (by decide) (by decide), mO 31 (by decide) (by decide) (by decide) (by decide), mO 32 (by decide) (by decide) (by decide) (by decide), mO 33 (by decide) (by decide) (by decide) (by decide), mO 34 (by decide) (by decide) (by decide) (by decide), mO 35 (by decide) (by decide) (by decide) (by decide), mO 43 (by decide) (by decide) (by decide) (by decide)]
              exact C3.1 k hk1
            · exact C6.fr (fun b hb => kO b (by simp at hb; omega) (by simp at hb; omega)) (fun b hb => mO b (by simp at hb; omega) (by simp at hb; omega) (by simp at hb; omega) (by simp at hb; omega)) (by rw [kO 16 (by decide) (by omega)]) (by rw [m22 17 (by decide), thM_22 (by decide)])
            · refine ⟨fun s hs => ?_, fun j h1 h2 => by rw [mO 46 (by decide) (by decide) (by decide) (by decide)]; exact C7.2 j h1 h2⟩
              have q := row_se R20 hs
              have q2 := (RS.1 s hs).1
              rw [(n2 s hs).1, (n2 s hs).2.1, kdyn _ q.2.2 (F.le (by omega)), kdyn _ q2.2.2.2 (F.le (by omega)), mO 45 (by decide) (by decide) (by decide) (by decide), mO 46 (by decide) (by decide) (by decide) (by decide)]
              exact C7.1 s hs
            · intro p hp
              have e47 : m1 47 = upd (m 47) np x := by rw [hm1, upw_o (by decide), upw_o (by decide), upw_o (by decide), upw_s]
              have e48 : m1 48 = upd (m 48) np y := by rw [hm1, upw_o (by decide), upw_o (by decide), upw_s]
              have e49 : m1 49 = upd (m 49) np z := by rw [hm1, upw_o (by decide), upw_s]
              rw [e47, e48, e49]
              by_cases q : p = np
              · subst q
                have eb : K1 (hn h + 1) = upd (upd (upd (fun _ => 0) 0 x) 1 y) 2 z := by rw [hK1, upw_o (by omega), upw_s]
                rw [pn, eb, upd_s, upd_s, upd_s, upd_s, upd_o (show (0 : Nat) ≠ 2 by decide), upd_o (show (0 : Nat) ≠ 1 by decide), upd_s, upd_o (show (1 : Nat) ≠ 2 by decide), upd_s]
                obtain ⟨w, hw, e⟩ := nI_rng (x := x) (n := 60) (by decide) (by have h1 := hx.1; rw [i_le] at h1 ⊢; rw [show (2 : Int32).toInt = 2 from by decide] at h1; rw [show (0 : Int32).toInt = 0 from by decide]; omega) hx.2
                refine ⟨⟨rfl, rfl, rfl⟩, w, ?_, hw, e⟩
                have h1 := hx.1
                rw [e, i_le, nI_toInt (by omega), show (2 : Int32).toInt = 2 from by decide] at h1
                omega
              · have hp2 : p < np := by omega
                have qq := row_pa R21 hp2
                rw [n3 p hp2, kdyn _ qq.2.2 (F.le (by omega)), upd_o q, upd_o q, upd_o q]
                exact C8 p hp2
            · have e1 : CGyreWatchLaw_law_r1115_220210.hc h1 = CGyreWatchLaw_law_r1115_220210.hc h + 1 := by rw [hh1]; rfl
              have e2 : hs h1 = hs h + 3 := by rw [hh1]; rfl
              unfold Cco at C9 ⊢
              rw [e1, e2]; omega
          · rw [mO 33 (by decide) (by decide) (by decide) (by decide)] at hne
            rw [mO 32 (by decide) (by decide) (by decide) (by decide)]
            exact L k hk1 hne
      · refine OpR_t I0 2 1 (by decide) rfl ?_ (fun h' F' => ?_)
        · unfold M_X8_part
          rw [s_needRange_t hx, x_rtV, s_needRange_t hy, x_rtV, x_bnd, s_needRange_f hz, x_thr]
        · unfold M_X9_part B_X9_part_32 B_X9_part_50
          rw [s_in, x_rtI, bI_t hx, if_neg (by decide), s_in, x_rtI, bI_t hy, if_neg (by decide), x_bnd, s_in, x_rtI, bI_f hz, if_neg (fun z => z rfl), p22 F', thM_eq, g22 F', thM_0, if_neg (by decide)]
    · refine OpR_t I0 2 1 (by decide) rfl ?_ (fun h' F' => ?_)
      · unfold M_X8_part
        rw [s_needRange_t hx, x_rtV, s_needRange_f hy, x_thr]
      · unfold M_X9_part B_X9_part_32 B_X9_part_50
        rw [s_in, x_rtI, bI_t hx, if_neg (by decide), s_in, x_rtI, bI_f hy, if_pos rfl, p22 F', thM_eq, g22 F', thM_0, if_neg (by decide)]
  · refine OpR_t I0 2 1 (by decide) rfl ?_ (fun h' F' => ?_)
    · unfold M_X8_part
      rw [s_needRange_f hx, x_thr]
    · unfold M_X9_part B_X9_part_32 B_X9_part_50
      rw [s_in, x_rtI, bI_f hx, if_pos rfl, p22 F', thM_eq, g22 F', thM_0, if_neg (by decide)]
