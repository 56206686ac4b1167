/-! flag -/
theorem Rel.by {h : MH} {K m : Nat → Nat → Int32} {B nb nr ns np nsm d : Nat} {S : STy} (R : Rel h K m B nb nr ns np nsm d S) : ∀ r, r < nr → m 43 r = -1 ∨ ∃ f, f < nb ∧ m 43 r = nI f := by
  intro r hr1
  obtain ⟨-, -, x⟩ := R.2.2.2.2.1 r hr1
  rcases x with ⟨x, -⟩ | ⟨f, f1, f2, -⟩
  · exact Or.inl x
  · exact Or.inr ⟨f, f1, f2⟩
theorem flg_th {m : Nat → Nat → Int32} {t : Int32} {nr r : Nat} : flg (thM m t) nr r = flg m nr r := by
  have hc : ∀ q, cor (thM m t) q = cor m q := fun q => by
    unfold cor
    rw [thM_o (by decide), thM_o (by decide), thM_o (by decide)]
  unfold flg
  rw [thM_o (by decide), thM_o (by decide), thM_22 (by decide)]
  simp only [hc]
theorem op_flag (x y : Int32) : OpR eLG (M_X8_flag (some 1) x y) (M_X9_flag (some 22) x y) := by
  intro B h K m I
  have F := I.F
  have I0 := I
  obtain ⟨nb, nr, ns, np, nsm, nst, d, R, L⟩ := I
  have nb8 := R.1.2.1.1
  have nr100 := R.1.2.1.2.1
  have R13 := R.1.2.2.1
  have R15 := R.1.2.2.2.1
  have hm23 : m 22 23 = nI nr := R.2.2.1.2.2.2.1.2
  have hbd : K 14 2 = m 22 29 := R.2.2.1.2.2.2.2.2.2.1
  by_cases hx : ∃ j, j < nr ∧ x = nI j
  · have hx2 := (idx_iff (by omega)).mpr hx
    obtain ⟨r, hr1, rfl⟩ := hx
    have q := row_rd R15 hr1
    have hA : cA (rd h r) := Or.inr (by omega)
    by_cases hy : (-1 : Int32) ≤ y ∧ y ≤ (2 : Int32)
    · refine ⟨0, flg m nr r, flg m nr r, h, upw K (rd h r) (upd (K (rd h r)) 4 y), upw (thM m 0) 44 (upd (m 44) r y), Or.inl ⟨rfl, rfl, ?_⟩, fun h' F' => ?_, by rw [upw_o (by decide), thM_0], ⟨nb, nr, ns, np, nsm, nst, d, Rel.up ?_, fun k hk1 h1 => ?_⟩⟩
      · unfold M_X8_flag
        rw [c1 F, s_rdg_t F R15 nr100 hr1, x_rtR, s_needRange_t hy, x_rtV, r1_2 F, g14 F, K_ck q.2.1, hbd, s_flagBy R13 R15 nb8 R.2.2.2.1 R.2.2.2.2.1 R.2.2.2.2.2.1 hr1, x_rtI, K_pf q.2.1 hA]
      · unfold M_X9_flag B_X9_flag_27
        have := s_flagOf (K := upw K (rd h r) (upd (K (rd h r)) 4 y)) (m := thM m 0) (nb := nb) (nr := nr) (r := r) F' (by rw [thM_22 (by decide)]; exact hm23) nr100 hr1 nb8 (by rw [thM_o (by decide)]; exact R.by)
        rw [flg_th] at this
        rw [c22 F', s_isReading F' hm23, x_rtI, bI_t hx2, if_pos (by decide), s_in, x_rtI, bI_t hy, if_pos (by decide), p22 F', thM_eq, g22 F', thM_0, if_pos (by decide), c22 F', this, x_rtI, r22_28 F', w44 F' (by omega), thM_o (by decide)]
      · have kd : ∀ a, hk h a ≠ 4 → upw K (rd h r) (upd (K (rd h r)) 4 y) a = K a := fun a ha => upw_o (fun z => ha (by rw [z]; exact q.2.1))
        have k22 : ∀ a, a < 22 → upw K (rd h r) (upd (K (rd h r)) 4 y) a = K a := fun a ha => upw_o (by omega)
        have mO : ∀ a, a ≠ 22 → a ≠ 44 → upw (thM m 0) 44 (upd (m 44) r y) a = m a := fun a h1 h2 => by rw [upw_o h2, thM_o h1]
        have m22 : ∀ j, j ≠ 0 → upw (thM m 0) 44 (upd (m 44) r y) 22 j = m 22 j := fun j hj => by rw [upw_o (by decide), thM_22 hj]
        obtain ⟨⟨F, hN, R13, R15, R20, R21, RS⟩, C1, C2, C3, C4, C5, C6, C7, C8, C9⟩ := R
        refine ⟨⟨F, hN, R13, R15, R20, R21, RS⟩, ?_, ?_, ?_, ?_, ?_, ?_, ?_, ?_, C9⟩
        · exact C1.fr (fun b hb => k22 b (by simp at hb; omega)) (fun b hb => mO b (by simp at hb; omega) (by simp at hb; omega)) (m22 2 (by decide))
        · unfold Cct
          rw [k22 1 (by decide), k22 14 (by decide), k22 16 (by decide), m22 10 (by decide), m22 30 (by decide), m22 33 (by decide), m22 23 (by decide), m22 20 (by decide), m22 1 (by decide), m22 29 (by decide)]; exact C2
        · exact C3.fr R13 (fun b hb _ => kd b (by omega)) (fun b hb => mO b (by simp at hb; omega) (by simp at hb; omega))
        · intro r2 hr2
          rw [mO 40 (by decide) (by decide), mO 41 (by decide) (by decide), mO 42 (by decide) (by decide), mO 43 (by decide) (by decide), upw_s]
          obtain ⟨⟨x0, x1, x2, x3⟩, x4, x5⟩ := C4 r2 hr2
          by_cases e : r2 = r
          · subst e
            rw [upw_s, upd_o (by decide), upd_o (by decide), upd_o (by decide), upd_s, upd_s]
            exact ⟨⟨x0, x1, x2, rfl⟩, x4, x5⟩
          · rw [upw_o (fun z => e (row_rdi R15 hr2 hr1 z)), upd_o e]
            exact ⟨⟨x0, x1, x2, x3⟩, x4, x5⟩
        · exact C5.fr (mO 43 (by decide) (by decide))
        · exact C6.fr (fun b hb => k22 b (by simp at hb; omega)) (fun b hb => mO b (by simp at hb; omega) (by simp at hb; omega)) (by rw [k22 16 (by decide)]) (m22 17 (by decide))
        · refine C7.fr R20 RS (fun b _ hb => kd b ?_) ⟨mO 45 (by decide) (by decide), mO 46 (by decide) (by decide)⟩
          rcases hb with hb | ⟨s, hs, rfl⟩
          · omega
          · have := (RS.1 s hs).1.2.1; omega
        · exact C8.fr R21 (fun b hb _ => kd b (by omega)) (fun b hb => mO b (by simp at hb; omega) (by simp at hb; omega))
      · rw [upw_o (by decide), thM_o (by decide)] at h1
        rw [upw_o (by decide), thM_o (by decide)]
        exact L k hk1 h1
    · refine OpR_t I0 2 2 (by decide) rfl ?_ (fun h' F' => ?_)
      · unfold M_X8_flag
        rw [c1 F, s_rdg_t F R15 nr100 hr1, x_rtR, s_needRange_f hy, x_thr]
      · unfold M_X9_flag B_X9_flag_27
        rw [c22 F', s_isReading F' hm23, x_rtI, bI_t hx2, if_pos (by decide), s_in, x_rtI, bI_f hy, if_neg (fun z => z rfl), p22 F', thM_eq, g22 F', thM_0, if_neg (by decide)]
  · have hx2 : ¬ (0 ≤ x ∧ x ≤ nI nr - 1) := fun z => hx ((idx_iff (by omega)).mp z)
    refine OpR_t I0 1 1 (by decide) rfl ?_ (fun h' F' => ?_)
    · unfold M_X8_flag
      rw [c1 F, s_rdg_f F R15 hx, x_thrR]
    · unfold M_X9_flag B_X9_flag_27
      rw [c22 F', s_isReading F' hm23, x_rtI, bI_f hx2, if_neg (fun z => z rfl), p22 F', thM_eq, g22 F', thM_0, if_neg (by decide)]
