/-! what goes from cell to cell -/
def tr (c : Nat) (o : Option Nat) (t : Int32) (r : Nat → Int32) : Nat → Int32 := match o with
  | none => r
  | some o => upd (upd r c (r c - t)) o (upd r c (r c - t) o + t)
theorem i_add_sub (a b t : Int32) : a + b - t = a + (b - t) := by rw [Int32.sub_eq_add_neg, Int32.sub_eq_add_neg, Int32.add_assoc]
theorem tr_add {c : Nat} {o : Option Nat} {t : Int32} {r s z : Nat → Int32} {N : Nat} (hc : c < N) (ho : ∀ q, o = some q → q < N) (h : ∀ j, j < N → r j = s j + z j) : ∀ j, j < N → tr c o t r j = s j + tr c o t z j := by
  intro j hj
  cases o with
  | none => exact h j hj
  | some o =>
    have ho := ho o rfl
    have e1 : ∀ j, j < N → upd r c (r c - t) j = s j + upd z c (z c - t) j := by
      intro j hj
      unfold upd
      split
      · rename_i e; subst e; rw [h j hj, i_add_sub]
      · exact h j hj
    show upd (upd r c (r c - t)) o (upd r c (r c - t) o + t) j = s j + upd (upd z c (z c - t)) o (upd z c (z c - t) o + t) j
    show (if j = o then _ else _) = s j + (if j = o then _ else _)
    split
    · rename_i e; subst e; rw [e1 j hj, Int32.add_assoc]
    · exact e1 j hj
theorem tr_0 {c : Nat} {o : Option Nat} {r : Nat → Int32} : tr c o 0 r = r := by
  cases o with
  | none => rfl
  | some o =>
    funext j
    show (if j = o then _ else _) = _
    have e1 : ∀ j, upd r c (r c - 0) j = r j := by
      intro j; unfold upd; split
      · rename_i e; subst e; rw [Int32.sub_zero]
      · rfl
    split
    · rename_i e; subst e; rw [e1 j, Int32.add_zero]
    · exact e1 j
/-- what cell c sends, to the cell where it leads -/
def flw (la cu am : Nat → Int32) (c : Nat) (r : Nat → Int32) : Nat → Int32 := tr c (lea la cu c) (am c / 10) r
def Cur (cu : Nat → Int32) : Prop := ∀ c, c < 60 → ∃ d, d ≤ 4 ∧ cu c = nI d
theorem min60 : (if (60 : Int32) < nI 60 then (60 : Int32) else nI 60) = nI 60 := by decide +kernel
/-- the class: one row is carried -/
theorem s_carry {h : MH} {K m : Nat → Nat → Int32} (F : Fix h) (hcu : Cur (K 9)) {a : Nat} (ha : a = 4 ∨ a = 5) : M_X5_carry (some 2) (some a) (st h K m) = rtV (st h (upw (upw K 12 (va_cpy (K a) (K 12) 0 0 60)) a (fo (flw (K 11) (K 9) (K a)) (K a) 60)) m) := by
  have hka : hk h a = 20 := by rcases ha with rfl | rfl; exact Fk4 F; exact Fk5 F
  have hla : hl h a = 60 := by rcases ha with rfl | rfl; exact Fl4 F; exact Fl5 F
  have hcA : cA a := Or.inl (by omega)
  have na : a ≠ 12 := by omega
  unfold M_X5_carry
  rw [K_al hka (by decide) hla, x_bnd, min60, r2_6 F, show cpI (st h K m) (some a) 0 (some 12) 0 (nI 60) = cpI (st h K m) (some a) (nI 0) (some 12) (nI 0) (nI 60) from rfl, K_cp hka (Fk12 F) hla (Fl12 F) hcA (Or.inl (by decide)) (by decide) (by decide) (by decide) (by decide)]
  let K1 := upw K 12 (va_cpy (K a) (K 12) 0 0 60)
  let R : Nat → Nat → Int32 := fun i => fo (flw (K 11) (K 9) (K a)) (K a) i
  have e0 : upw K1 a (R 0) = K1 := by
    show upw K1 a (K a) = K1
    have : K a = K1 a := (upw_o na).symm
    rw [this, upw_id]
  have hG := zlp0 (G := fun n i => L_X5_carry_21 n (some 2) (some a) (nI 60) (nI i) (st h (upw K1 a (R i)) m)) (N := 60) (r := rtV (st h (upw K1 a (R 60)) m)) (by decide) ?_ ?_
  · show L_X5_carry_21 fuel (some 2) (some a) (nI 60) (nI 0) (st h K1 m) = _
    rw [e0] at hG
    exact hG
  · intro n i hi
    show B_X5_carry_21 (L_X5_carry_21 n) (some 2) (some a) (nI 60) (nI i) (st h (upw K1 a (R i)) m) = L_X5_carry_21 n (some 2) (some a) (nI 60) (nI (i + 1)) (st h (upw K1 a (R (i + 1))) m)
    have e11 : upw K1 a (R i) 11 = K 11 := by rw [upw_o (by omega)]; exact upw_o (by decide)
    have e9 : upw K1 a (R i) 9 = K 9 := by rw [upw_o (by omega)]; exact upw_o (by decide)
    have e12 : upw K1 a (R i) 12 i = K a i := by
      rw [upw_o (by omega)]
      show upw K 12 _ 12 i = _
      rw [upw_s, pk_cpy_in (Nat.zero_le i) (by omega)]
      simp
    unfold B_X5_carry_21
    rw [if_neg (nI_ge hi (by decide)), c2 F, s_leadsTo F hi (by rw [e9]; exact hcu i hi), x_rtI, e11, e9]
    cases hl : lea (K 11) (K 9) i with
    | none =>
      show calI (M_X8_isIndex (-1) (nI 60) _) _ = _
      rw [s_isIndex_f (Or.inl (by decide)), x_rtI, if_pos rfl]
      unfold B_X5_carry_70
      rw [x_bnd, nIs]
      have : R (i + 1) = R i := by
        show flw (K 11) (K 9) (K a) i (R i) = R i
        unfold flw; rw [hl]; rfl
      rw [this]
    | some o =>
      have ho := lea_lt hi hl
      simp only [oI_s]
      rw [s_isIndex_t ho (by decide), x_rtI, if_neg (by decide), r2_6 F, d12 F hi, q_dv (by decide), e12, K_rd hka hla hcA hi (by decide), x_bnd, K_wr hka hla hcA hi (by decide) (fun q => absurd q (by decide)), K_rd hka hla hcA ho (by decide), x_bnd, K_wr hka hla hcA ho (by decide) (fun q => absurd q (by decide)), upw_w, upw_w, upw_s, upw_s]
      unfold B_X5_carry_70
      rw [x_bnd, nIs]
      have : R (i + 1) = upd (upd (R i) i (R i i - K a i / 10)) o (upd (R i) i (R i i - K a i / 10) o + K a i / 10) := by
        show flw (K 11) (K 9) (K a) i (R i) = _
        unfold flw; rw [hl]; rfl
      rw [this]
  · intro n
    show B_X5_carry_21 (L_X5_carry_21 n) (some 2) (some a) (nI 60) (nI 60) (st h (upw K1 a (R 60)) m) = _
    unfold B_X5_carry_21
    rw [if_pos (nI_le (Nat.le_refl _) (by decide))]
/-- the class: a day's flow -/
def flowK (K : Nat → Nat → Int32) : Nat → Nat → Int32 :=
  let K1 := upw (upw K 12 (va_cpy (K 4) (K 12) 0 0 60)) 4 (fo (flw (K 11) (K 9) (K 4)) (K 4) 60)
  upw (upw K1 12 (va_cpy (K 5) (K1 12) 0 0 60)) 5 (fo (flw (K 11) (K 9) (K 5)) (K 5) 60)
theorem s_flow {h : MH} {K m : Nat → Nat → Int32} (F : Fix h) (hcu : Cur (K 9)) : M_X5_flow (some 2) (st h K m) = rtV (st h (flowK K) m) := by
  unfold M_X5_flow
  rw [r2_0 F, r3_0 F, c2 F, s_carry F hcu (Or.inl rfl), x_rtV, r2_0 F, r3_1 F, c2 F]
  have e11 : upw (upw K 12 (va_cpy (K 4) (K 12) 0 0 60)) 4 (fo (flw (K 11) (K 9) (K 4)) (K 4) 60) 11 = K 11 := by rw [upw_o (by decide), upw_o (by decide)]
  have e9 : upw (upw K 12 (va_cpy (K 4) (K 12) 0 0 60)) 4 (fo (flw (K 11) (K 9) (K 4)) (K 4) 60) 9 = K 9 := by rw [upw_o (by decide), upw_o (by decide)]
  have e5 : upw (upw K 12 (va_cpy (K 4) (K 12) 0 0 60)) 4 (fo (flw (K 11) (K 9) (K 4)) (K 4) 60) 5 = K 5 := by rw [upw_o (by decide), upw_o (by decide)]
  rw [s_carry F (by rw [e9]; exact hcu) (Or.inr rfl), x_rtV, e11, e9, e5]
  rfl
/-- the model: a day's flow -/
def flm (m : Nat → Nat → Int32) (a : Nat) (c : Nat) (r : Nat → Int32) : Nat → Int32 := if m 23 c = 0 then flw (m 23) (m 24) (m a) c r else r
def zro (c : Nat) (r : Nat → Int32) : Nat → Int32 := upd r c 0
def adr (C : Nat → Int32) (c : Nat) (r : Nat → Int32) : Nat → Int32 := upd r c (r c + C c)
def flowM (m : Nat → Nat → Int32) : Nat → Nat → Int32 :=
  let C := fo (flm m 26) (fo zro (m 28) 60) 60
  let D := fo (flm m 27) (fo zro (m 29) 60) 60
  upw (upw (upw (upw m 28 C) 29 D) 26 (fo (adr C) (m 26) 60)) 27 (fo (adr D) (m 27) 60)
theorem w_rd {h : MH} {K m : Nat → Nat → Int32} {a n i kd : Nat} {k : Int32 → Res} (hk1 : hk h a = kd) (hl1 : hl h a = n) (ha : mA a) (hi1 : i < n) (hn1 : n ≤ 1000) : rdI (st h K m) (some a) kd (nI i) k = k (m a i) := m_rd hk1 hl1 ha hi1 hn1
theorem upw4 {m : Nat → Nat → Int32} {r1 r2 s1 s2 : Nat → Int32} {a b : Nat} (h : a ≠ b) (e1 : r1 = s1) (e2 : r2 = s2) : upw (upw m a r1) b r2 = upw (upw m a s1) b s2 := by rw [e1, e2]
theorem s_flows3 {h : MH} {K m : Nat → Nat → Int32} (F : Fix h) : L_X9_flows_140 fuel (some 22) (nI 0) (st h K m) = rtV (st h K (upw (upw m 26 (fo (adr (m 28)) (m 26) 60)) 27 (fo (adr (m 29)) (m 27) 60))) := by
  let M : Nat → Nat → Nat → Int32 := fun i => upw (upw m 26 (fo (adr (m 28)) (m 26) i)) 27 (fo (adr (m 29)) (m 27) i)
  have e0 : M 0 = m := by
    show upw (upw m 26 (m 26)) 27 (m 27) = m
    rw [upw_id, upw_id]
  have hG := zlp0 (G := fun n i => L_X9_flows_140 n (some 22) (nI i) (st h K (M i))) (N := 60) (r := rtV (st h K (M 60))) (by decide) ?_ ?_
  · rw [show L_X9_flows_140 fuel (some 22) (nI 0) (st h K (M 0)) = L_X9_flows_140 fuel (some 22) (nI 0) (st h K m) by rw [e0]] at hG
    exact hG
  · intro n i hi
    show B_X9_flows_140 (L_X9_flows_140 n) (some 22) (nI i) (st h K (M i)) = L_X9_flows_140 n (some 22) (nI (i + 1)) (st h K (M (i + 1)))
    have h28 : M i 28 = m 28 := by show upw _ 27 _ 28 = _; rw [upw_o (by decide), upw_o (by decide)]
    have h29 : M i 29 = m 29 := by show upw _ 27 _ 29 = _; rw [upw_o (by decide), upw_o (by decide)]
    unfold B_X9_flows_140
    rw [if_neg (show ¬ (60 : Int32) ≤ nI i from nI_ge (b := 60) hi (by decide)), r22_6 F, m_rd (Fk26 F) (Fl26 F) ⟨by decide, by decide⟩ (by omega) (by decide), r22_8 F, m_rd (Fk28 F) (Fl28 F) ⟨by decide, by decide⟩ (by omega) (by decide), x_bnd, m_wr (Fk26 F) (Fl26 F) ⟨by decide, by decide⟩ (by omega) (by decide) (fun q => absurd q (by decide)), r22_7 F, m_rd (Fk27 F) (Fl27 F) ⟨by decide, by decide⟩ (by omega) (by decide), r22_9 F, m_rd (Fk29 F) (Fl29 F) ⟨by decide, by decide⟩ (by omega) (by decide), x_bnd, m_wr (Fk27 F) (Fl27 F) ⟨by decide, by decide⟩ (by omega) (by decide) (fun q => absurd q (by decide)), x_bnd, nIs]
    have e : upw (upw (M i) 26 (upd (M i 26) i (M i 26 i + M i 28 i))) 27 (upd (upw (M i) 26 (upd (M i 26) i (M i 26 i + M i 28 i)) 27) i (upw (M i) 26 (upd (M i 26) i (M i 26 i + M i 28 i)) 27 i + upw (M i) 26 (upd (M i 26) i (M i 26 i + M i 28 i)) 29 i)) = M (i + 1) := by
      rw [upw_o (f := M i) (a := 26) (b := 27) (by decide), upw_o (f := M i) (a := 26) (b := 29) (by decide), h28, h29]
      show upw (upw (upw (upw m 26 _) 27 _) 26 _) 27 _ = upw (upw m 26 _) 27 _
      rw [upw_comm (f := upw m 26 _) (a := 27) (b := 26) (by decide), upw_w, upw_w]
      have g26 : M i 26 = fo (adr (m 28)) (m 26) i := by show upw _ 27 _ 26 = _; rw [upw_o (by decide), upw_s]
      have g27 : M i 27 = fo (adr (m 29)) (m 27) i := by show upw _ 27 _ 27 = _; rw [upw_s]
      rw [g26, g27]
      rfl
    rw [e]
  · intro n
    show B_X9_flows_140 (L_X9_flows_140 n) (some 22) (nI 60) (st h K (M 60)) = _
    unfold B_X9_flows_140
    rw [if_pos (show (60 : Int32) ≤ nI 60 from nI_le (a := 60) (Nat.le_refl _) (by decide))]
