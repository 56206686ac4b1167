/-! what goes from cell to cell -/
def tr (c : Nat) (o : Option Nat) (t : Int32) (r : Nat → Int32) : Nat → Int32 := match o with
  | none => r
  | some o => upd (upd r c (r c - t)) o (upd r c (r c - t) o + t)
theorem i_add_sub (a b t : Int32) : a + b - t = a + (b - t) := by rw [Int32.sub_eq_add_neg, Int32.sub_eq_add_neg, Int32.add_assoc]
theorem tr_add {c : Nat} {o : Option Nat} {t : Int32} {r s z : Nat → Int32} {N : Nat} (hc : c < N) (ho : ∀ q, o = some q → q < N) (h : ∀ j, j < N → r j = s j + z j) : ∀ j, j < N → tr c o t r j = s j + tr c o t z j := by
  intro j hj
  cases o with
  | none => exact h j hj
  | some o =>
    have ho := ho o rfl
    have e1 : ∀ j, j < N → upd r c (r c - t) j = s j + upd z c (z c - t) j := by
      intro j hj
      unfold upd
      split
      · rename_i e; subst e; rw [h j hj, i_add_sub]
      · exact h j hj
    show upd (upd r c (r c - t)) o (upd r c (r c - t) o + t) j = s j + upd (upd z c (z c - t)) o (upd z c (z c - t) o + t) j
    show (if j = o then _ else _) = s j + (if j = o then _ else _)
    split
    · rename_i e; subst e; rw [e1 j hj, Int32.add_assoc]
    · exact e1 j hj
theorem tr_0 {c : Nat} {o : Option Nat} {r : Nat → Int32} : tr c o 0 r = r := by
  cases o with
  | none => rfl
  | some o =>
    funext j
    show (if j = o then _ else _) = _
    have e1 : ∀ j, upd r c (r c - 0) j = r j := by
      intro j; unfold upd; split
      · rename_i e; subst e; rw [Int32.sub_zero]
      · rfl
    split
    · rename_i e; subst e; rw [e1 j, Int32.add_zero]
    · exact e1 j
/-- what cell c sends, to the cell where it leads -/
def flw (la cu am : Nat → Int32) (c : Nat) (r : Nat → Int32) : Nat → Int32 := tr c (lea la cu c) (am c / 10) r
def Cur (cu : Nat → Int32) : Prop := ∀ c, c < 60 → ∃ d, d ≤ 4 ∧ cu c = nI d
theorem min60 : (if (60 : Int32) < nI 60 then (60 : Int32) else nI 60) = nI 60 := by decide +kernel
/-- the class: one row is carried -/
theorem s_carry {h : MH} {K m : Nat → Nat → Int32} (F : Fix h) (hcu : Cur (K 9)) {a : Nat} (ha : a = 4 ∨ a = 5) : M_X5_carry (some 2) (some a) (st h K m) = rtV (st h (upw (upw K 12 (va_cpy (K a) (K 12) 0 0 60)) a (fo (flw (K 11) (K 9) (K a)) (K a) 60)) m) := by
  have hka : hk h a = 20 := by rcases ha with rfl | rfl; exact Fk4 F; exact Fk5 F
  have hla : hl h a = 60 := by rcases ha with rfl | rfl; exact Fl4 F; exact Fl5 F
  have hcA : cA a := Or.inl (by omega)
  have na : a ≠ 12 := by omega
  unfold M_X5_carry
  rw [K_al hka (by decide) hla, x_bnd, min60, r2_6 F, show cpI (st h K m) (some a) 0 (some 12) 0 (nI 60) = cpI (st h K m) (some a) (nI 0) (some 12) (nI 0) (nI 60) from rfl, K_cp hka (Fk12 F) hla (Fl12 F) hcA (Or.inl (by decide)) (by decide) (by decide) (by decide) (by decide)]
  let K1 := upw K 12 (va_cpy (K a) (K 12) 0 0 60)
  let R : Nat → Nat → Int32 := fun i => fo (flw (K 11) (K 9) (K a)) (K a) i
  have e0 : upw K1 a (R 0) = K1 := by
    show upw K1 a (K a) = K1
    have : K a = K1 a := (upw_o na).symm
    rw [this, upw_id]
  have hG := zlp0 (G := fun n i => L_X5_carry_21 n (some 2) (some a) (nI 60) (nI i) (st h (upw K1 a (R i)) m)) (N := 60) (r := rtV (st h (upw K1 a (R 60)) m)) (by decide) ?_ ?_
  · show L_X5_carry_21 fuel (some 2) (some a) (nI 60) (nI 0) (st h K1 m) = _
    rw [e0] at hG
    exact hG
  · intro n i hi
    show B_X5_carry_21 (L_X5_carry_21 n) (some 2) (some a) (nI 60) (nI i) (st h (upw K1 a (R i)) m) = L_X5_carry_21 n (some 2) (some a) (nI 60) (nI (i + 1)) (st h (upw K1 a (R (i + 1))) m)
    have e11 : upw K1 a (R i) 11 = K 11 := by rw [upw_o (by omega)]; exact upw_o (by decide)
    have e9 : upw K1 a (R i) 9 = K 9 := by rw [upw_o (by omega)]; exact upw_o (by decide)
    have e12 : upw K1 a (R i) 12 i = K a i := by
      rw [upw_o (by omega)]
      show upw K 12 _ 12 i = _
      rw [upw_s, pk_cpy_in (Nat.zero_le i) (by omega)]
      simp
    unfold B_X5_carry_21
    rw [if_neg (nI_ge hi (by decide)), c2 F, s_leadsTo F hi (by rw [e9]; exact hcu i hi), x_rtI, e11, e9]
    cases hl : lea (K 11) (K 9) i with
    | none =>
      show calI (M_X8_isIndex (-1) (nI 60) _) _ = _
      rw [s_isIndex_f (Or.inl (by decide)), x_rtI, if_pos rfl]
      unfold B_X5_carry_70
      rw [x_bnd, nIs]
      have : R (i + 1) = R i := by
        show flw (K 11) (K 9) (K a) i (R i) = R i
        unfold flw; rw [hl]; rfl
      rw [this]
    | some o =>
      have ho := lea_lt hi hl
      simp only [oI_s]
      rw [s_isIndex_t ho (by decide), x_rtI, if_neg (by decide), r2_6 F, d12 F hi, q_dv (by decide), e12, K_rd hka hla hcA hi (by decide), x_bnd, K_wr hka hla hcA hi (by decide) (fun q => absurd q (by decide)), K_rd hka hla hcA ho (by decide), x_bnd, K_wr hka hla hcA ho (by decide) (fun q => absurd q (by decide)), upw_w, upw_w, upw_s, upw_s]
      unfold B_X5_carry_70
      rw [x_bnd, nIs]
      have : R (i + 1) = upd (upd (R i) i (R i i - K a i / 10)) o (upd (R i) i (R i i - K a i / 10) o + K a i / 10) := by
        show flw (K 11) (K 9) (K a) i (R i) = _
        unfold flw; rw [hl]; rfl
      rw [this]
  · intro n
    show B_X5_carry_21 (L_X5_carry_21 n) (some 2) (some a) (nI 60) (nI 60) (st h (upw K1 a (R 60)) m) = _
    unfold B_X5_carry_21
    rw [if_pos (nI_le (Nat.le_refl _) (by decide))]
/-- the class: a day's flow -/
def flowK (K : Nat → Nat → Int32) : Nat → Nat → Int32 :=
  let K1 := upw (upw K 12 (va_cpy (K 4) (K 12) 0 0 60)) 4 (fo (flw (K 11) (K 9) (K 4)) (K 4) 60)
  upw (upw K1 12 (va_cpy (K 5) (K1 12) 0 0 60)) 5 (fo (flw (K 11) (K 9) (K 5)) (K 5) 60)
theorem s_flow {h : MH} {K m : Nat → Nat → Int32} (F : Fix h) (hcu : Cur (K 9)) : M_X5_flow (some 2) (st h K m) = rtV (st h (flowK K) m) := by
  unfold M_X5_flow
  rw [r2_0 F, r3_0 F, c2 F, s_carry F hcu (Or.inl rfl), x_rtV, r2_0 F, r3_1 F, c2 F]
  have e11 : upw (upw K 12 (va_cpy (K 4) (K 12) 0 0 60)) 4 (fo (flw (K 11) (K 9) (K 4)) (K 4) 60) 11 = K 11 := by rw [upw_o (by decide), upw_o (by decide)]
  have e9 : upw (upw K 12 (va_cpy (K 4) (K 12) 0 0 60)) 4 (fo (flw (K 11) (K 9) (K 4)) (K 4) 60) 9 = K 9 := by rw [upw_o (by decide), upw_o (by decide)]
  have e5 : upw (upw K 12 (va_cpy (K 4) (K 12) 0 0 60)) 4 (fo (flw (K 11) (K 9) (K 4)) (K 4) 60) 5 = K 5 := by rw [upw_o (by decide), upw_o (by decide)]
  rw [s_carry F (by rw [e9]; exact hcu) (Or.inr rfl), x_rtV, e11, e9, e5]
  rfl
/-- the model: a day's flow -/
def flm (m : Nat → Nat → Int32) (a : Nat) (c : Nat) (r : Nat → Int32) : Nat → Int32 := if m 23 c = 0 then flw (m 23) (m 24) (m a) c r else r
def zro (c : Nat) (r : Nat → Int32) : Nat → Int32 := upd r c 0
def adr (C : Nat → Int32) (c : Nat) (r : Nat → Int32) : Nat → Int32 := upd r c (r c + C c)
def flowM (m : Nat → Nat → Int32) : Nat → Nat → Int32 :=
  let C := fo (flm m 26) (fo zro (m 28) 60) 60
  let D := fo (flm m 27) (fo zro (m 29) 60) 60
  upw (upw (upw (upw m 28 C) 29 D) 26 (fo (adr C) (m 26) 60)) 27 (fo (adr D) (m 27) 60)
theorem w_rd {h : MH} {K m : Nat → Nat → Int32} {a n i kd : Nat} {k : Int32 → Res} (hk1 : hk h a = kd) (hl1 : hl h a = n) (ha : mA a) (hi1 : i < n) (hn1 : n ≤ 1000) : rdI (st h K m) (some a) kd (nI i) k = k (m a i) := m_rd hk1 hl1 ha hi1 hn1
theorem upw4 {m : Nat → Nat → Int32} {r1 r2 s1 s2 : Nat → Int32} {a b : Nat} (h : a ≠ b) (e1 : r1 = s1) (e2 : r2 = s2) : upw (upw m a r1) b r2 = upw (upw m a s1) b s2 := by rw [e1, e2]
/-! both flows are one -/
theorem fo_adr {C R : Nat → Int32} {n j : Nat} : fo (adr C) R n j = if j < n then R j + C j else R j := by
  induction n with
  | zero => rfl
  | succ n ih =>
    rw [fo_succ]
    show (if j = n then fo (adr C) R n n + C n else fo (adr C) R n j) = _
    by_cases h : j = n
    · subst h
      rw [if_pos rfl, if_pos (by omega), ih, if_neg (by omega)]
    · rw [if_neg h, ih]
      by_cases h2 : j < n
      · rw [if_pos h2, if_pos (by omega)]
      · rw [if_neg h2, if_neg (by omega)]
theorem fo_zro {R : Nat → Int32} {n j : Nat} (hj : j < n) : fo zro R n j = 0 := by
  induction n with
  | zero => omega
  | succ n ih =>
    rw [fo_succ]
    unfold zro upd
    by_cases h : j = n
    · rw [if_pos h]
    · rw [if_neg h]; exact ih (by omega)
theorem flw_eq {la cu A Z : Nat → Int32} {g : Nat → (Nat → Int32) → Nat → Int32} (hg : ∀ c, c < 60 → ∀ r, g c r = if la c = 0 then flw la cu A c r else r) (hz : ∀ c, c < 60 → la c ≠ 0 → A c = 0) (hZ : ∀ j, j < 60 → Z j = 0) {R : Nat → Int32} {n : Nat} (hn : n ≤ 60) : ∀ j, j < 60 → fo (flw la cu A) R n j = R j + fo g Z n j := by
  induction n with
  | zero => intro j hj; show R j = R j + Z j; rw [hZ j hj, Int32.add_zero]
  | succ n ih =>
    intro j hj
    rw [fo_succ, fo_succ, hg n (by omega)]
    by_cases hl : la n = 0
    · rw [if_pos hl]
      exact tr_add (N := 60) (by omega) (fun q hq => lea_lt (by omega) hq) (ih (by omega)) j hj
    · rw [if_neg hl]
      unfold flw
      rw [hz n (by omega) hl, show (0 : Int32) / 10 = 0 by decide, tr_0]
      exact ih (by omega) j hj
theorem flowM_26 {m : Nat → Nat → Int32} (hz : ∀ c, c < 60 → m 23 c ≠ 0 → m 26 c = 0) : ∀ j, j < 60 → flowM m 26 j = fo (flw (m 23) (m 24) (m 26)) (m 26) 60 j := by
  intro j hj
  rw [flw_eq (g := flm m 26) (Z := fo zro (m 28) 60) (fun c _ r => rfl) hz (fun j hj => fo_zro hj) (Nat.le_refl _) j hj]
  show upw (upw _ 26 _) 27 _ 26 j = _
  rw [upw_o (by decide), upw_s, fo_adr, if_pos hj]
theorem flowM_26h {m : Nat → Nat → Int32} : ∀ j, 60 ≤ j → flowM m 26 j = m 26 j := by
  intro j hj
  show upw (upw _ 26 _) 27 _ 26 j = _
  rw [upw_o (by decide), upw_s, fo_adr, if_neg (by omega)]
theorem flowM_27 {m : Nat → Nat → Int32} (hz : ∀ c, c < 60 → m 23 c ≠ 0 → m 27 c = 0) : ∀ j, j < 60 → flowM m 27 j = fo (flw (m 23) (m 24) (m 27)) (m 27) 60 j := by
  intro j hj
  rw [flw_eq (g := flm m 27) (Z := fo zro (m 29) 60) (fun c _ r => rfl) hz (fun j hj => fo_zro hj) (Nat.le_refl _) j hj]
  show upw (upw _ 26 _) 27 _ 27 j = _
  rw [upw_s, fo_adr, if_pos hj]
theorem flowM_27h {m : Nat → Nat → Int32} : ∀ j, 60 ≤ j → flowM m 27 j = m 27 j := by
  intro j hj
  show upw (upw _ 26 _) 27 _ 27 j = _
  rw [upw_s, fo_adr, if_neg (by omega)]
theorem flowM_o {m : Nat → Nat → Int32} {a : Nat} (h : a ≠ 26 ∧ a ≠ 27 ∧ a ≠ 28 ∧ a ≠ 29) : flowM m a = m a := by
  unfold flowM
  simp [upw, h]
theorem flowK_o {K : Nat → Nat → Int32} {a : Nat} (h : a ≠ 4 ∧ a ≠ 5 ∧ a ≠ 12) : flowK K a = K a := by
  unfold flowK
  simp [upw, h]
theorem flowK_4 {K : Nat → Nat → Int32} : flowK K 4 = fo (flw (K 11) (K 9) (K 4)) (K 4) 60 := by
  unfold flowK
  simp [upw]
theorem flowK_5 {K : Nat → Nat → Int32} : flowK K 5 = fo (flw (K 11) (K 9) (K 5)) (K 5) 60 := by
  unfold flowK
  simp [upw]
/-- a sum over cells by tr: what is not sea is not touched -/
theorem flw_land {la cu A R : Nat → Int32} (hz : ∀ c, c < 60 → la c ≠ 0 → A c = 0) {n j : Nat} (hn : n ≤ 60) (hj : la j ≠ 0) : fo (flw la cu A) R n j = R j := by
  induction n with
  | zero => rfl
  | succ n ih =>
    rw [fo_succ]
    have h1 := ih (by omega)
    unfold flw
    by_cases hl : la n = 0
    · cases ho : lea la cu n with
      | none => exact h1
      | some o =>
        have hne : la o = 0 := by
          unfold lea bes at ho
          rw [Option.filter_eq_some_iff] at ho
          exact of_decide_eq_true ho.2
        have d1 : j ≠ n := fun e => hj (by rw [e]; exact hl)
        have d2 : j ≠ o := fun e => hj (by rw [e]; exact hne)
        show upd (upd _ n _) o _ j = R j
        unfold upd
        rw [if_neg d2, if_neg d1]
        exact h1
    · rw [hz n (by omega) hl, show (0 : Int32) / 10 = 0 by decide, tr_0]
      exact h1
