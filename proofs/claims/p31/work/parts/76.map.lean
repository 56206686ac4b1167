/-! the weights of a map, both sides -/
theorem ab_nI : ∀ x, x < 10 → ∀ y, y < 10 → ab (nI x - nI y) = nI (x - y + (y - x)) := by decide
theorem fr_nI {a c : Nat} (ha : a < 60) (hc : c < 60) : ∃ f, f < 20 ∧ fr a c = nI f := by
  refine ⟨(a % 10 - c % 10 + (c % 10 - a % 10)) + (a / 10 - c / 10 + (c / 10 - a / 10)), by omega, ?_⟩
  unfold fr
  rw [ab_nI _ (by omega) _ (by omega), ab_nI _ (by omega) _ (by omega), nI_add]
def wg (m : Nat → Nat → Int32) (nr c : Nat) (d span : Int32) (r : Nat) : Int32 := wgt m nr c d span (m 41 r).toNatClampNeg r
theorem wg_nI {m : Nat → Nat → Int32} {nr c a r : Nat} {d span : Int32} (ha : m 41 r = nI a) (ha2 : a < 60) (hc : c < 60) : ∃ w, w ≤ 8 ∧ wg m nr c d span r = nI w := by
  obtain ⟨f, hf, e⟩ := fr_nI ha2 hc
  unfold wg wgt
  rw [ha, nI_clamp (by omega), e]
  by_cases h1 : (8 : Int32) ≤ nI f
  · rw [if_pos h1]; exact ⟨0, by omega, rfl⟩
  · rw [if_neg h1]
    by_cases h2 : span < ab (m 40 r - d)
    · rw [if_pos h2]; exact ⟨0, by omega, rfl⟩
    · rw [if_neg h2]
      by_cases h3 : flg m nr r ≠ 0
      · rw [if_pos h3]; exact ⟨0, by omega, rfl⟩
      · rw [if_neg h3]
        have h4 : ¬ 8 ≤ f := fun z => h1 ((nI_leI (a := 8) (by omega) (by omega)).mpr z)
        exact ⟨8 - f, by omega, pk_sub (a := 8) (by omega)⟩
def wsm (m : Nat → Nat → Int32) (nr c : Nat) (d span : Int32) (wo : Option Nat) : Nat → Int32 := fo (fun r z => z + (if wo = some r then 0 else wg m nr c d span r)) 0
def wsl (m : Nat → Nat → Int32) (nr c : Nat) (d span : Int32) (wo : Option Nat) : Nat → Int64 := fo (fun r z => z + (if wo = some r then 0 else Int32.toInt64 (wg m nr c d span r) * Int32.toInt64 (cor m r))) 0
theorem wsm_nI {m : Nat → Nat → Int32} {nr c : Nat} {d span : Int32} {wo : Option Nat} (hc : c < 60) (hce : ∀ r, r < nr → ∃ a, a < 60 ∧ m 41 r = nI a) : ∀ n, n ≤ nr → ∃ s, s ≤ 8 * n ∧ wsm m nr c d span wo n = nI s := by
  intro n
  induction n with
  | zero => intro _; exact ⟨0, by omega, rfl⟩
  | succ n ih =>
    intro hn
    obtain ⟨s, hs, e⟩ := ih (by omega)
    obtain ⟨a, ha, e2⟩ := hce n (by omega)
    obtain ⟨w, hw, e3⟩ := wg_nI (nr := nr) (d := d) (span := span) e2 ha hc
    have hst : wsm m nr c d span wo (n + 1) = wsm m nr c d span wo n + (if wo = some n then 0 else wg m nr c d span n) := rfl
    rw [hst, e, e3]
    by_cases q : wo = some n
    · rw [if_pos q, Int32.add_zero]; exact ⟨s, by omega, rfl⟩
    · rw [if_neg q, nI_add]; exact ⟨s + w, by omega, rfl⟩
/-! the model -/
theorem wo_ne {wo : Option Nat} {i : Nat} (hw : ∀ q, wo = some q → q < 100) (hi : i < 100) : (nI i ≠ oI wo) = (wo ≠ some i) := by
  cases wo with
  | none => rw [oI_n]; exact propext ⟨fun _ z => (by cases z), fun _ z => (by rw [nI_nm1 (by omega)] at z; exact z)⟩
  | some q =>
    have := hw q rfl
    rw [oI_s]
    refine propext ⟨fun z w => z (by cases w; rfl), fun z w => z ?_⟩
    rw [nI_inj (by omega) (by omega)] at w
    rw [w]
def mnv (m : Nat → Nat → Int32) (nr c : Nat) (d span : Int32) (wo : Option Nat) : Int32 := Int64.toInt32 (wsl m nr c d span wo nr / Int32.toInt64 (wsm m nr c d span wo nr))
theorem toL_ne {x : Int32} (h : x ≠ 0) : Int32.toInt64 x ≠ 0 := by
  intro z
  apply h
  have := congrArg Int64.toInt32 z
  rwa [Int32.toInt32_toInt64] at this
/-! the class -/
theorem okr_s {h : MH} {K m : Nat → Nat → Int32} {a k : Nat} (hk1 : hk h a = k) (h40 : k < 40) : okr (st h K m) (some a) = true := by
  show decide (hk h a < 40) = true
  rw [hk1]; exact decide_eq_true h40
theorem acq_t {h : MH} {x y : Option Nat} {A B : Res} (hx : okr h x = true) (hy : okr h y = true) (e : x = y) : acq h x y A B = A := by
  unfold acq
  rw [if_pos ⟨hx, hy⟩, if_pos e]
theorem acq_f {h : MH} {x y : Option Nat} {A B : Res} (hx : okr h x = true) (hy : okr h y = true) (e : x ≠ y) : acq h x y A B = B := by
  unfold acq
  rw [if_pos ⟨hx, hy⟩, if_neg e]
theorem s_weightIn {h : MH} {K mm : Nat → Nat → Int32} {a c b : Nat} (hk1 : hk h b = 4) (hA : cA b) (e : K b 1 = nI a) (ha : a < 60) (hc : c < 60) : M_X4_weightIn (some b) (nI c) (st h K mm) = rtI (if (8 : Int32) ≤ fr a c then 0 else 8 - fr a c) (st h K mm) := by
  obtain ⟨f, hf, e2⟩ := fr_nI ha hc
  unfold M_X4_weightIn
  rw [K_gf hk1 hA, e, q_rm (by decide), q_rm (by decide), nd_x ha, nd_x hc, x_bnd, x_bnd, K_gf hk1 hA, e, q_dv (by decide), q_dv (by decide), nd_y ha, nd_y hc, x_bnd, x_bnd, x_bnd, x_bnd, x_bnd]
  show rtI (if (0 : Int32) < 8 - fr a c then 8 - fr a c else 0) _ = _
  rw [e2]
  by_cases h1 : (8 : Int32) ≤ nI f
  · have h4 : 8 ≤ f := (nI_leI (a := 8) (by omega) (by omega)).mp h1
    rw [if_pos h1, if_neg]
    have key : ∀ f, f < 20 → 8 ≤ f → ¬ (0 : Int32) < 8 - nI f := by decide
    exact key f hf h4
  · have h4 : ¬ 8 ≤ f := fun z => h1 ((nI_leI (a := 8) (by omega) (by omega)).mpr z)
    rw [if_neg h1, if_pos]
    have key : ∀ f, f < 20 → ¬ 8 ≤ f → (0 : Int32) < 8 - nI f := by decide
    exact key f hf h4
def inS (m : Nat → Nat → Int32) (nr : Nat) (d span : Int32) (r : Nat) : Int32 := if span < ab (m 40 r - d) then 0 else if flg m nr r ≠ 0 then 0 else 1
theorem s_inSpan {h : MH} {K m mm : Nat → Nat → Int32} {nb nr r : Nat} (F : Fix h) (R13 : Row h 13 8 0 nb) (R15 : Row h 15 100 4 nr) (hnb : nb ≤ 8) (C3 : Cbu h K m nb nr) (C4 : Crd h K m nb nr) (C5 : Clk h m nb nr) (hbd : K 14 2 = m 22 29) (hr1 : r < nr) (d span : Int32) : M_X2_isInSpan (some 14) (some (rd h r)) d span (st h K mm) = rtI (inS m nr d span r) (st h K mm) := by
  have q := row_rd R15 hr1
  have hA : cA (rd h r) := Or.inr (by omega)
  obtain ⟨⟨x0, x1, x2, x3⟩, -, -⟩ := C4 r hr1
  have hcl : M_X4_daysFrom (some (rd h r)) d (st h K mm) = rtI (ab (m 40 r - d)) (st h K mm) := by
    unfold M_X4_daysFrom
    rw [K_gf q.2.1 hA, x0, x_bnd, x_bnd]; rfl
  unfold M_X2_isInSpan inS
  rw [if_neg (by intro z; cases z), K_ck q.2.1, hcl, x_rtI]
  by_cases h2 : span < ab (m 40 r - d)
  · rw [if_pos h2, if_pos h2, rtZ_0]
  · rw [if_neg h2, if_neg h2, g14 F, K_ck q.2.1, hbd, s_flagBy R13 R15 hnb C3 C4 C5 hr1, x_rtI]
    by_cases h3 : flg m nr r ≠ 0
    · rw [if_pos h3, if_pos h3, rtZ_0]
    · rw [if_neg h3, if_neg h3, rtZ_1]
theorem wg_in {m : Nat → Nat → Int32} {nr c a r : Nat} {d span : Int32} (ha : m 41 r = nI a) (ha2 : a < 60) : wg m nr c d span r = if inS m nr d span r = 0 then 0 else if (8 : Int32) ≤ fr a c then 0 else 8 - fr a c := by
  unfold wg wgt inS
  rw [ha, nI_clamp (by omega)]
  by_cases h2 : span < ab (m 40 r - d)
  · rw [if_pos h2, if_pos h2, if_pos rfl]
    split <;> rfl
  · rw [if_neg h2, if_neg h2]
    by_cases h3 : flg m nr r ≠ 0
    · rw [if_pos h3, if_pos h3, if_pos rfl]
      split <;> rfl
    · rw [if_neg h3, if_neg h3, if_neg (show ¬ (1 : Int32) = 0 by decide)]
theorem s_cWeights {h : MH} {K m mm : Nat → Nat → Int32} {nb nr c : Nat} (F : Fix h) (R13 : Row h 13 8 0 nb) (R15 : Row h 15 100 4 nr) (hnb : nb ≤ 8) (hn : nr ≤ 100) (C3 : Cbu h K m nb nr) (C4 : Crd h K m nb nr) (C5 : Clk h m nb nr) (hbd : K 14 2 = m 22 29) (hc : c < 60) (d span : Int32) {wo : Option Nat} (hw : ∀ q, wo = some q → q < nr) : M_X2_weightsWithout (some 14) (wo.map (rd h)) (nI c) d span (st h K mm) = rtI (wsm m nr c d span wo nr) (st h K mm) := by
  have hwo : okr (st h K mm) (wo.map (rd h)) = true := by
    cases wo with
    | none => rfl
    | some q => exact okr_s (row_rd R15 (hw q rfl)).2.1 (by decide)
  unfold M_X2_weightsWithout
  rw [r14_0 F, a15 F]
  have hG := zlp0 (G := fun n i => L_X2_weightsWithout_17 n (some 14) (wo.map (rd h)) (nI c) d span (wsm m nr c d span wo (if i ≤ nr then i else nr)) (some 15) (nI 100) (nI i) (st h K mm)) (N := 100) (r := rtI (wsm m nr c d span wo nr) (st h K mm)) (by decide) ?_ ?_
  · exact hG
  · intro n i hi
    show B_X2_weightsWithout_17 (L_X2_weightsWithout_17 n) (some 14) (wo.map (rd h)) (nI c) d span (wsm m nr c d span wo (if i ≤ nr then i else nr)) (some 15) (nI 100) (nI i) (st h K mm) = L_X2_weightsWithout_17 n (some 14) (wo.map (rd h)) (nI c) d span (wsm m nr c d span wo (if i + 1 ≤ nr then i + 1 else nr)) (some 15) (nI 100) (nI (i + 1)) (st h K mm)
    unfold B_X2_weightsWithout_17 B_X2_weightsWithout_60
    rw [if_neg (nI_ge hi (by decide)), d15 F hi]
    simp only [x_bnd, nIs]
    by_cases hin : i < nr
    · have i1 : (if i ≤ nr then i else nr) = i := if_pos (by omega)
      have i2 : (if i + 1 ≤ nr then i + 1 else nr) = i + 1 := if_pos (by omega)
      have q := row_rd R15 hin
      have hA : cA (rd h i) := Or.inr (by omega)
      obtain ⟨⟨x0, x1, x2, x3⟩, ⟨a, ha, ea⟩, -⟩ := C4 i hin
      have hst : wsm m nr c d span wo (i + 1) = wsm m nr c d span wo i + (if wo = some i then 0 else wg m nr c d span i) := rfl
      rw [i1, i2, q.1, hst]
      by_cases qw : wo = some i
      · rw [acq_t (okr_s q.2.1 (by decide)) hwo (by rw [qw]; rfl), if_pos qw, Int32.add_zero]
      · have hne : some (rd h i) ≠ wo.map (rd h) := by
          cases wo with
          | none => intro z; cases z
          | some p =>
            intro z
            have e1 : rd h i = rd h p := by injection z
            exact qw (by rw [row_rdi R15 hin (hw p rfl) e1])
        rw [acq_f (okr_s q.2.1 (by decide)) hwo hne, if_neg qw, c14 F, s_inSpan F R13 R15 hnb C3 C4 C5 hbd hin, x_rtI, wg_in ea ha]
        by_cases q4 : inS m nr d span i = 0
        · rw [if_pos q4, if_pos q4, Int32.add_zero]
        · rw [if_neg q4, if_neg q4, K_ck q.2.1, s_weightIn q.2.1 hA (x1.trans ea) ha hc, x_rtI]
    · have i1 : (if i ≤ nr then i else nr) = nr := by split <;> omega
      have i2 : (if i + 1 ≤ nr then i + 1 else nr) = nr := if_neg (by omega)
      rw [i1, i2, R15.2.1 i (by omega) hi]
      cases wo with
      | none => exact acq_t (h := st h K mm) (x := none) (y := none) rfl rfl rfl
      | some p =>
        rw [acq_f (h := st h K mm) (x := none) rfl hwo (by intro z; cases z), c14 F]
        unfold M_X2_isInSpan
        rw [if_pos rfl, rtZ_0, x_rtI, if_pos rfl]
  · intro n
    show B_X2_weightsWithout_17 (L_X2_weightsWithout_17 n) (some 14) (wo.map (rd h)) (nI c) d span _ (some 15) (nI 100) (nI 100) (st h K mm) = _
    have i1 : (if 100 ≤ nr then 100 else nr) = nr := by split <;> omega
    unfold B_X2_weightsWithout_17
    rw [if_pos (nI_le (Nat.le_refl _) (by decide)), i1]
theorem s_cValues {h : MH} {K m mm : Nat → Nat → Int32} {nb nr c : Nat} (F : Fix h) (R13 : Row h 13 8 0 nb) (R15 : Row h 15 100 4 nr) (hnb : nb ≤ 8) (hn : nr ≤ 100) (C3 : Cbu h K m nb nr) (C4 : Crd h K m nb nr) (C5 : Clk h m nb nr) (hbd : K 14 2 = m 22 29) (hc : c < 60) (d span : Int32) {wo : Option Nat} (hw : ∀ q, wo = some q → q < nr) : M_X2_weighedValuesWithout (some 14) (wo.map (rd h)) (nI c) d span (st h K mm) = rtQ (wsl m nr c d span wo nr) (st h K mm) := by
  have hwo : okr (st h K mm) (wo.map (rd h)) = true := by
    cases wo with
    | none => rfl
    | some q => exact okr_s (row_rd R15 (hw q rfl)).2.1 (by decide)
  unfold M_X2_weighedValuesWithout
  rw [r14_0 F, a15 F]
  have hG := zlp0 (G := fun n i => L_X2_weighedValuesWithout_17 n (some 14) (wo.map (rd h)) (nI c) d span (wsl m nr c d span wo (if i ≤ nr then i else nr)) (some 15) (nI 100) (nI i) (st h K mm)) (N := 100) (r := rtQ (wsl m nr c d span wo nr) (st h K mm)) (by decide) ?_ ?_
  · exact hG
  · intro n i hi
    show B_X2_weighedValuesWithout_17 (L_X2_weighedValuesWithout_17 n) (some 14) (wo.map (rd h)) (nI c) d span (wsl m nr c d span wo (if i ≤ nr then i else nr)) (some 15) (nI 100) (nI i) (st h K mm) = L_X2_weighedValuesWithout_17 n (some 14) (wo.map (rd h)) (nI c) d span (wsl m nr c d span wo (if i + 1 ≤ nr then i + 1 else nr)) (some 15) (nI 100) (nI (i + 1)) (st h K mm)
    unfold B_X2_weighedValuesWithout_17 B_X2_weighedValuesWithout_68
    rw [if_neg (nI_ge hi (by decide)), d15 F hi]
    simp only [nIs]
    by_cases hin : i < nr
    · have i1 : (if i ≤ nr then i else nr) = i := if_pos (by omega)
      have i2 : (if i + 1 ≤ nr then i + 1 else nr) = i + 1 := if_pos (by omega)
      have q := row_rd R15 hin
      have hA : cA (rd h i) := Or.inr (by omega)
      obtain ⟨⟨x0, x1, x2, x3⟩, ⟨a, ha, ea⟩, -⟩ := C4 i hin
      have hst : wsl m nr c d span wo (i + 1) = wsl m nr c d span wo i + (if wo = some i then 0 else Int32.toInt64 (wg m nr c d span i) * Int32.toInt64 (cor m i)) := rfl
      rw [i1, i2, q.1, hst]
      by_cases qw : wo = some i
      · rw [acq_t (okr_s q.2.1 (by decide)) hwo (by rw [qw]; rfl), if_pos qw, Int64.add_zero]
        rfl
      · have hne : some (rd h i) ≠ wo.map (rd h) := by
          cases wo with
          | none => intro z; cases z
          | some p =>
            intro z
            have e1 : rd h i = rd h p := by injection z
            exact qw (by rw [row_rdi R15 hin (hw p rfl) e1])
        rw [acq_f (okr_s q.2.1 (by decide)) hwo hne, if_neg qw, c14 F, s_inSpan F R13 R15 hnb C3 C4 C5 hbd hin, x_rtI, wg_in ea ha]
        by_cases q4 : inS m nr d span i = 0
        · rw [if_pos q4, if_pos q4, show Int32.toInt64 0 = 0 from rfl, Int64.zero_mul, Int64.add_zero]
          rfl
        · rw [if_neg q4, if_neg q4, K_ck q.2.1, s_cor R13 R15 hnb C3 C4 hin, x_rtI, x_bnd, K_ck q.2.1, s_weightIn q.2.1 hA (x1.trans ea) ha hc, x_rtI, x_bnd, x_bnd, x_bnd, Int64.mul_comm]
          rfl
    · have i1 : (if i ≤ nr then i else nr) = nr := by split <;> omega
      have i2 : (if i + 1 ≤ nr then i + 1 else nr) = nr := if_neg (by omega)
      rw [i1, i2, R15.2.1 i (by omega) hi]
      cases wo with
      | none => exact (acq_t (h := st h K mm) (x := none) (y := none) rfl rfl rfl).trans rfl
      | some p =>
        rw [acq_f (h := st h K mm) (x := none) rfl hwo (by intro z; cases z), c14 F]
        unfold M_X2_isInSpan
        rw [if_pos rfl, rtZ_0, x_rtI, if_pos rfl]
        rfl
  · intro n
    show B_X2_weighedValuesWithout_17 (L_X2_weighedValuesWithout_17 n) (some 14) (wo.map (rd h)) (nI c) d span _ (some 15) (nI 100) (nI 100) (st h K mm) = _
    have i1 : (if 100 ≤ nr then 100 else nr) = nr := by split <;> omega
    unfold B_X2_weighedValuesWithout_17
    rw [if_pos (nI_le (Nat.le_refl _) (by decide)), i1]
