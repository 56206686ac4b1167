/-! a float is put right -/
def csh (m : Nat → Nat → Int32) (nr f : Nat) : Nat → Option (Nat × Nat)
  | 0 => none
  | n + 1 => if m 43 n = nI f then (match nsp m n nr with
    | some s => some (n, s)
    | none => csh m nr f n) else csh m nr f n
theorem nsp_th {m : Nat → Nat → Int32} {t : Int32} {r : Nat} : ∀ n, nsp (thM m t) r n = nsp m r n := by
  intro n
  induction n with
  | zero => rfl
  | succ n ih =>
    unfold nsp
    have ha : ∀ k, apt (thM m t) r k = apt m r k := fun k => by unfold apt; rw [thM_o (by decide)]
    rw [ih, thM_o (show (43 : Nat) ≠ 22 by decide), thM_o (show (41 : Nat) ≠ 22 by decide)]
    simp only [ha]
theorem csh_lt {m : Nat → Nat → Int32} {nr f r s : Nat} : ∀ n, csh m nr f n = some (r, s) → r < n ∧ s < nr := by
  intro n
  induction n with
  | zero => intro h; cases h
  | succ n ih =>
    intro h
    unfold csh at h
    split at h
    · cases q : nsp m n nr with
      | none => rw [q] at h; have := ih h; omega
      | some s2 =>
        rw [q] at h
        have := (nsp_some q).1
        cases h
        omega
    · have := ih h; omega
theorem s_calC {h : MH} {K m mm : Nat → Nat → Int32} {nb nr f : Nat} (F : Fix h) (R13 : Row h 13 8 0 nb) (R15 : Row h 15 100 4 nr) (hn : nr ≤ 100) (C4 : Crd h K m nb nr) (C5 : Clk h m nb nr) (hnb : nb ≤ 8) (hf : f < nb) : ∀ n k, n ≤ nr → n < k → L_X8_calibrate_11 k (some 1) (some (bu h f)) ((lby (m 43) (nI f) n).map (rd h)) (st h K mm) = match csh m nr f n with
    | none => some (.inr 3, exc (st h K mm))
    | some (r, s) => rtI (m 42 r - m 42 s) (st h (upw K (bu h f) (upd (K (bu h f)) 6 (m 42 r - m 42 s))) mm) := by
  have qf := row_bu R13 hf
  have hAf : cA (bu h f) := Or.inr (by omega)
  intro n
  induction n with
  | zero =>
    intro k _ hk1
    obtain ⟨k, rfl⟩ : ∃ q, k = q + 1 := ⟨k - 1, by omega⟩
    show B_X8_calibrate_11 (L_X8_calibrate_11 k) (some 1) (some (bu h f)) none (st h K mm) = some (.inr 3, exc (st h K mm))
    unfold B_X8_calibrate_11
    rw [if_pos rfl]
  | succ n ih =>
    intro k hn1 hk1
    by_cases q : m 43 n = nI f
    · obtain ⟨k, rfl⟩ : ∃ q, k = q + 1 := ⟨k - 1, by omega⟩
      have hl : lby (m 43) (nI f) (n + 1) = some n := if_pos q
      have hc : csh m nr f (n + 1) = match nsp m n nr with
        | some s => some (n, s)
        | none => csh m nr f n := if_pos q
      have qn := row_rd R15 (show n < nr by omega)
      have hAn : cA (rd h n) := Or.inr (by omega)
      obtain ⟨⟨x0, x1, x2, x3⟩, -, -⟩ := C4 n (by omega)
      have hlk := C5.1 n (by omega)
      rw [hl, hc]
      show B_X8_calibrate_11 (L_X8_calibrate_11 k) (some 1) (some (bu h f)) (some (rd h n)) (st h K mm) = _
      unfold B_X8_calibrate_11
      rw [if_neg (by intro z; cases z), r1_2 F, c14 F, s_nearest F R15 hn C4 hnb (show n < nr by omega), x_rtR]
      cases hs : nsp m n nr with
      | none =>
        rcases hlk with ⟨z, -⟩ | ⟨-, z, -⟩
        · rw [q, nI_nm1 (by omega)] at z; exact z.elim
        · rw [show (none : Option Nat).map (rd h) = none from rfl, if_pos rfl, K_gr qn.2.1, z, q]
          exact ih k (by omega) (by omega)
      | some s =>
        have qs := row_rd R15 (nsp_some hs).1
        have hAs : cA (rd h s) := Or.inr (by omega)
        obtain ⟨⟨y0, y1, y2, y3⟩, -, -⟩ := C4 s (nsp_some hs).1
        rw [show (some s).map (rd h) = some (rd h s) from rfl, if_neg (by intro z; cases z), K_gf qn.2.1 hAn, K_gf qs.2.1 hAs, x_bnd, x2, y2, K_pf qf.2.1 hAf, K_gf qf.2.1 hAf, upw_s, upd_s]
    · have hl : lby (m 43) (nI f) (n + 1) = lby (m 43) (nI f) n := if_neg q
      have hc : csh m nr f (n + 1) = csh m nr f n := if_neg q
      rw [hl, hc]
      exact ih k (by omega) (by omega)
def calM (m : Nat → Nat → Int32) (f : Nat) (v : Int32) : Nat → Nat → Int32 := thM (upw (thM m 2) 35 (upd (thM m 2 35) f v)) 0
theorem s_cal93 {h : MH} {K m : Nat → Nat → Int32} {f : Nat} (F : Fix h) (hf : f < 8) : B_X9_calibrate_93 (some 22) (nI f) (st h K m) = if m 22 0 ≤ 0 then rtI (m 35 f) (st h K m) else rtI 0 (st h K m) := by
  unfold B_X9_calibrate_93
  rw [g22 F]
  by_cases q : m 22 0 ≤ 0
  · rw [if_pos q, if_pos q, r22_16 F, d35 F hf]
  · rw [if_neg q, if_neg q]
theorem s_cal27 {h : MH} {K m : Nat → Nat → Int32} {f k : Nat} {x : Int32} (F : Fix h) (hf : f < 8) (h0 : m 22 0 = 0) : L_X9_calibrate_27 (k + 1) (some 22) (nI f) x (st h K m) = rtI (m 35 f) (st h K m) := by
  show B_X9_calibrate_27 (L_X9_calibrate_27 k) (some 22) (nI f) x (st h K m) = _
  unfold B_X9_calibrate_27
  rw [s_cal93 F hf, h0, if_pos (show (0 : Int32) ≤ 0 by decide), g22 F, h0, if_pos (show (0 : Int32) ≤ 0 by decide)]
  split <;> rfl
theorem s_calM {h : MH} {K m : Nat → Nat → Int32} {nr f : Nat} (F : Fix h) (hm : m 22 23 = nI nr) (hn : nr ≤ 100) (hf : f < 8) : ∀ n k, n ≤ nr → n < k → L_X9_calibrate_27 k (some 22) (nI f) (nI n - 1) (st h K (thM m 2)) = match csh m nr f n with
    | none => rtI 0 (st h K (thM m 2))
    | some (r, s) => rtI (m 42 r - m 42 s) (st h K (calM m f (m 42 r - m 42 s))) := by
  intro n
  induction n with
  | zero =>
    intro k _ hk1
    obtain ⟨k, rfl⟩ : ∃ q, k = q + 1 := ⟨k - 1, by omega⟩
    show B_X9_calibrate_27 (L_X9_calibrate_27 k) (some 22) (nI f) (nI 0 - 1) (st h K (thM m 2)) = rtI 0 (st h K (thM m 2))
    unfold B_X9_calibrate_27
    rw [if_pos (by decide), s_cal93 F hf, thM_0, if_neg (by decide)]
  | succ n ih =>
    intro k hn1 hk1
    obtain ⟨k, rfl⟩ : ∃ q, k = q + 1 := ⟨k - 1, by omega⟩
    have ih := ih k (by omega) (by omega)
    have e87 : ∀ mm, B_X9_calibrate_87 (L_X9_calibrate_27 k) (some 22) (nI f) (nI n) (st h K mm) = L_X9_calibrate_27 k (some 22) (nI f) (nI n - 1) (st h K mm) := by
      intro mm
      unfold B_X9_calibrate_87
      rw [x_bnd, ← Int32.sub_eq_add_neg]
    show B_X9_calibrate_27 (L_X9_calibrate_27 k) (some 22) (nI f) (nI (n + 1) - 1) (st h K (thM m 2)) = _
    unfold B_X9_calibrate_27
    rw [nI_pred, if_neg (show ¬ nI n < 0 by rw [i_nlt]; exact nI_pos' (by omega)), g22 F, thM_0, if_neg (show ¬ (2 : Int32) ≤ 0 by decide), r22_27 F, d43 F (by omega), thM_o (show (43 : Nat) ≠ 22 by decide)]
    by_cases q : m 43 n = nI f
    · have hc : csh m nr f (n + 1) = match nsp m n nr with
        | some s => some (n, s)
        | none => csh m nr f n := if_pos q
      have hsf := s_shipFor (K := K) (m := thM m 2) (nr := nr) (r := n) F (by rw [thM_22 (by decide)]; exact hm) hn (by omega)
      rw [nsp_th] at hsf
      rw [hc, if_neg (fun z => z q), c22 F, hsf, x_rtI]
      unfold B_X9_calibrate_57
      cases hs : nsp m n nr with
      | none =>
        rw [oI_n, if_pos rfl, e87]
        exact ih
      | some s =>
        have hs1 := (nsp_some hs).1
        obtain ⟨k, rfl⟩ : ∃ q, k = q + 1 := ⟨k - 1, by omega⟩
        rw [oI_s, if_neg (show ¬ nI s = -1 by rw [nI_nm1 (by omega)]; exact id), r22_16 F, r22_26 F, d42 F (by omega), r22_26 F, d42 F (by omega), x_bnd, w35 F hf, p22 F, thM_o (show (42 : Nat) ≠ 22 by decide), e87, show upw (upw (thM m 2) 35 (upd (thM m 2 35) f (m 42 n - m 42 s))) 22 (upd (upw (thM m 2) 35 (upd (thM m 2 35) f (m 42 n - m 42 s)) 22) 0 0) = calM m f (m 42 n - m 42 s) from rfl, s_cal27 F hf (by unfold calM; exact thM_0)]
        congr 1
        unfold calM
        rw [thM_o (by decide), upw_s, upd_s]
    · have hc : csh m nr f (n + 1) = csh m nr f n := if_neg q
      rw [hc, if_pos q]
      unfold B_X9_calibrate_57
      rw [if_pos rfl, e87]
      exact ih
theorem op_calibrate (x : Int32) : OpR (fun q => if q = 1 then some 1 else if q = 3 then some 2 else none) (M_X8_calibrate (some 1) x) (M_X9_calibrate (some 22) x) := by
  intro B h K m I
  have F := I.F
  have I0 := I
  obtain ⟨nb, nr, ns, np, nsm, nst, d, R, L⟩ := I
  have nb8 := R.1.2.1.1
  have nr100 := R.1.2.1.2.1
  have R13 := R.1.2.2.1
  have R15 := R.1.2.2.2.1
  have hm10 : m 22 10 = nI nb := R.2.2.1.1.2
  have hm23 : m 22 23 = nI nr := R.2.2.1.2.2.2.1.2
  by_cases hx : ∃ j, j < nb ∧ x = nI j
  · have hx2 := (idx_iff (by omega)).mpr hx
    obtain ⟨f, hf, rfl⟩ := hx
    have q := row_bu R13 hf
    have hA : cA (bu h f) := Or.inr (by omega)
    have h1 := s_calC (mm := m) F R13 R15 nr100 R.2.2.2.2.1 R.2.2.2.2.2.1 nb8 hf nr fuel (Nat.le_refl _) (by have : fuel = 1000 := rfl; omega)
    have hCl : M_X8_calibrate (some 1) (nI f) (st h K m) = L_X8_calibrate_11 fuel (some 1) (some (bu h f)) ((lby (m 43) (nI f) nr).map (rd h)) (st h K m) := by
      unfold M_X8_calibrate
      rw [c1 F, s_buoy_t F R13 nb8 hf, x_rtR, K_gr q.2.1, R.2.2.2.2.2.1.2 f hf]
    have hMo : ∀ h' K', Fix h' → M_X9_calibrate (some 22) (nI f) (st h' K' m) = match csh m nr f nr with
        | none => rtI 0 (st h' K' (thM m 2))
        | some (r, s) => rtI (m 42 r - m 42 s) (st h' K' (calM m f (m 42 r - m 42 s))) := by
      intro h' K' F'
      unfold M_X9_calibrate
      rw [c22 F', s_isFloat F' hm10, x_rtI, bI_t hx2, if_pos (show (1 : Int32) ≠ 0 by decide), p22 F', thM_eq, g22 F', thM_22 (show (23 : Nat) ≠ 0 by decide), hm23, x_bnd]
      exact s_calM F' hm23 nr100 (by omega) nr fuel (Nat.le_refl _) (by have : fuel = 1000 := rfl; omega)
    cases hc : csh m nr f nr with
    | none =>
      rw [hc] at h1
      refine OpR_t I0 3 2 (by decide) rfl (hCl.trans h1) (fun h' F' => ?_)
      rw [hMo h' K F', hc]
    | some p =>
      obtain ⟨r, s⟩ := p
      rw [hc] at h1
      have R1 := ((R.th 2).pb hf (v := m 42 r - m 42 s) 6 35 (Or.inr (Or.inr (Or.inr ⟨rfl, rfl⟩)))).th 0
      refine ⟨0, m 42 r - m 42 s, m 42 r - m 42 s, h, _, _, Or.inl ⟨rfl, rfl, hCl.trans h1⟩, fun h' F' => ?_, thM_0, nb, nr, ns, np, nsm, nst, d, R1.up, fun k hk1 h2 => ?_⟩
      · rw [hMo h' _ F', hc]
        rfl
      · rw [thM_o (by decide), upw_o (by decide), thM_o (by decide)] at h2
        rw [thM_o (by decide), upw_o (by decide), thM_o (by decide)]
        exact L k hk1 h2
  · have hx2 : ¬ (0 ≤ x ∧ x ≤ nI nb - 1) := fun z => hx ((idx_iff (by omega)).mp z)
    refine OpR_t I0 1 1 (by decide) rfl ?_ (fun h' F' => ?_)
    · unfold M_X8_calibrate
      rw [c1 F, s_buoy_f F R13 hx, x_thrR]
    · unfold M_X9_calibrate
      rw [c22 F', s_isFloat F' hm10, x_rtI, bI_f hx2, if_neg (fun z => z rfl), p22 F', thM_eq]
