/-! cells, indices -/
theorem s_isCell_t {j : Nat} {h : MH} (hj : j < 60) : M_X8_isCell (nI j) h = rtI 1 h := by
  unfold M_X8_isCell
  rw [if_neg (nI_pos (by omega)), if_neg (show ¬ (60 : Int32) ≤ nI j from nI_ge (b := 60) hj (by decide)), rtZ_1]
theorem s_isCell_f {c : Int32} {h : MH} (hc : c < 0 ∨ nI 60 ≤ c) : M_X8_isCell c h = rtI 0 h := by
  unfold M_X8_isCell
  rcases hc with hc | hc
  · rw [if_pos hc, rtZ_0]
  · by_cases h0 : c < 0
    · rw [if_pos h0, rtZ_0]
    · rw [if_neg h0, if_pos (show (60 : Int32) ≤ c from hc), rtZ_0]
theorem s_isIndex_t {j n : Nat} {h : MH} (hj : j < n) (hn : n < 1000000) : M_X8_isIndex (nI j) (nI n) h = rtI 1 h := by
  unfold M_X8_isIndex
  rw [if_neg (nI_pos (by omega)), if_neg (nI_ge hj (by omega)), rtZ_1]
theorem s_isIndex_f {c y : Int32} {h : MH} (hc : c < 0 ∨ y ≤ c) : M_X8_isIndex c y h = rtI 0 h := by
  unfold M_X8_isIndex
  rcases hc with hc | hc
  · rw [if_pos hc, rtZ_0]
  · by_cases h0 : c < 0
    · rw [if_pos h0, rtZ_0]
    · rw [if_neg h0, if_pos hc, rtZ_0]
theorem i60 {c : Int32} (hc : nI 60 ≤ c) : ¬ c ≤ (59 : Int32) := by
  intro q
  rw [i_le] at q
  have := Int32.le_iff_toInt_le.mp hc
  rw [nI_toInt (by omega)] at this
  rw [show (59 : Int32).toInt = 59 from by decide] at q
  omega
/-- where a cell lies beside another -/
def nbr (c d : Nat) : Option Nat :=
  if d = 1 then (if c % 10 < 9 then some (c + 1) else none)
  else if d = 2 then (if 0 < c % 10 then some (c - 1) else none)
  else if d = 3 then (if c / 10 < 5 then some (c + 10) else none)
  else if d = 4 then (if 0 < c / 10 then some (c - 10) else none)
  else none
theorem nbr_lt {c d o : Nat} (hc : c < 60) (h : nbr c d = some o) : o < 60 := by
  unfold nbr at h
  split at h
  · split at h
    · cases h; omega
    · cases h
  · split at h
    · split at h
      · cases h; omega
      · cases h
    · split at h
      · split at h
        · cases h; omega
        · cases h
      · split at h
        · split at h
          · cases h; omega
          · cases h
        · cases h
/-- the sea cell beside, or NONE, over the row of lands -/
def bes (la : Nat → Int32) (c d : Nat) : Option Nat := (nbr c d).filter fun o => decide (la o = 0)
def oI (o : Option Nat) : Int32 := match o with
  | some o => nI o
  | none => -1
theorem oI_s {o : Nat} : oI (some o) = nI o := rfl
theorem oI_n : oI none = -1 := rfl
theorem bes_lt {la : Nat → Int32} {c d o : Nat} (hc : c < 60) (h : bes la c d = some o) : o < 60 := by
  unfold bes at h
  rw [Option.filter_eq_some_iff] at h
  exact nbr_lt hc h.1
theorem oI_none {o : Option Nat} (h : ∀ q, o = some q → q < 1000000) : (oI o = -1) = (o = none) := by
  cases o with
  | none => simp [oI]
  | some q => simp only [oI, nI_nm1 (h q rfl)]; simp
theorem q_78 {h : MH} {K m : Nat → Nat → Int32} (F : Fix h) {a b : Nat} (ha : a < 10) (hb : b < 6) : B_X5_seaBeside_78 (some 2) (nI a) (nI b) (st h K m) = rtI (if K 11 (10 * b + a) = 0 then nI (10 * b + a) else -1) (st h K m) := by
  unfold B_X5_seaBeside_78
  rw [show (10 : Int32) = nI 10 from rfl, s_isIndex_t ha (by omega), x_rtI, if_neg (by decide), show (6 : Int32) = nI 6 from rfl, s_isIndex_t hb (by omega), x_rtI, if_pos (by decide), x_bnd, x_bnd, pk_mul, nI_add, s_isCell_t (by omega), x_rtI, if_neg (by decide), r2_5 F, d11 F (by omega)]
  by_cases hl : K 11 (10 * b + a) = 0
  · rw [if_neg (fun q => q hl), if_pos hl]
  · rw [if_pos hl, if_neg hl]
theorem q_78x {h : MH} {x y : Int32} (hx : x < 0 ∨ nI 10 ≤ x) : B_X5_seaBeside_78 (some 2) x y h = rtI (-1) h := by
  unfold B_X5_seaBeside_78
  rw [s_isIndex_f (y := 10) hx, x_rtI, if_pos rfl]
theorem q_78y {h : MH} {a : Nat} {y : Int32} (ha : a < 10) (hy : y < 0 ∨ nI 6 ≤ y) : B_X5_seaBeside_78 (some 2) (nI a) y h = rtI (-1) h := by
  unfold B_X5_seaBeside_78
  rw [show (10 : Int32) = nI 10 from rfl, s_isIndex_t ha (by omega), x_rtI, if_neg (by decide), s_isIndex_f (y := 6) hy, x_rtI, if_neg (fun q => q rfl)]
theorem nIm1 {n : Nat} (h : 0 < n) : nI n + -1 = nI (n - 1) := by
  obtain ⟨k, rfl⟩ : ∃ k, n = k + 1 := ⟨n - 1, by omega⟩
  exact pk_m1 k
theorem n0m1 : nI 0 + -1 < 0 := by decide +kernel
theorem besI {la : Nat → Int32} {c d o : Nat} (h : nbr c d = some o) : (if la o = 0 then nI o else -1) = oI (bes la c d) := by
  unfold bes
  rw [h, Option.filter_some]
  by_cases hl : la o = 0
  · simp [hl, oI]
  · simp [hl, oI]
theorem besN {la : Nat → Int32} {c d : Nat} (h : nbr c d = none) : (-1 : Int32) = oI (bes la c d) := by
  unfold bes
  rw [h]; rfl
theorem nd_x {c : Nat} (hc : c < 60) : nI c - nI c / (10 : Int32) * (10 : Int32) = nI (c % 10) := nI_mod 10 (by omega) (by decide) (by decide)
theorem nd_y {c : Nat} (hc : c < 60) : nI c / (10 : Int32) = nI (c / 10) := nI_div 10 (by omega) (by decide) (by decide)
/-- the class: the sea cell beside -/
theorem s_seaBeside {h : MH} {K m : Nat → Nat → Int32} (F : Fix h) {c d : Nat} (hc : c < 60) (hd : d ≤ 4) : M_X5_seaBeside (some 2) (nI c) (nI d) (st h K m) = rtI (oI (bes (K 11) c d)) (st h K m) := by
  unfold M_X5_seaBeside
  rw [s_isCell_t hc, x_rtI, if_pos (by decide), q_rm (by decide), q_dv (by decide), nd_x hc, nd_y hc]
  rcases (show d = 0 ∨ d = 1 ∨ d = 2 ∨ d = 3 ∨ d = 4 by omega) with rfl | rfl | rfl | rfl | rfl
  · rw [if_pos (by decide +kernel)]
    exact congrArg (fun z => rtI z _) (besN rfl)
  · rw [if_neg (by decide +kernel), if_pos (by decide +kernel), x_bnd, nIs]
    by_cases hb : c % 10 < 9
    · rw [q_78 F (by omega) (by omega), show 10 * (c / 10) + (c % 10 + 1) = c + 1 by omega]
      exact congrArg (fun z => rtI z _) (besI (by unfold nbr; rw [if_pos rfl, if_pos hb]))
    · rw [q_78x (Or.inr (nI_le (by omega) (by omega)))]
      exact congrArg (fun z => rtI z _) (besN (by unfold nbr; rw [if_pos rfl, if_neg hb]))
  · rw [if_neg (by decide +kernel), if_neg (by decide +kernel), if_pos (by decide +kernel), x_bnd]
    by_cases hb : 0 < c % 10
    · rw [nIm1 hb, q_78 F (by omega) (by omega), show 10 * (c / 10) + (c % 10 - 1) = c - 1 by omega]
      exact congrArg (fun z => rtI z _) (besI (by simp [nbr, hb]))
    · rw [show c % 10 = 0 by omega, q_78x (Or.inl n0m1)]
      exact congrArg (fun z => rtI z _) (besN (by simp [nbr, hb]))
  · rw [if_neg (by decide +kernel), if_neg (by decide +kernel), if_neg (by decide +kernel), if_pos (by decide +kernel), x_bnd, nIs]
    by_cases hb : c / 10 < 5
    · rw [q_78 F (by omega) (by omega), show 10 * (c / 10 + 1) + c % 10 = c + 10 by omega]
      exact congrArg (fun z => rtI z _) (besI (by simp [nbr, hb]))
    · rw [q_78y (by omega) (Or.inr (nI_le (by omega) (by omega)))]
      exact congrArg (fun z => rtI z _) (besN (by simp [nbr, hb]))
  · rw [if_neg (by decide +kernel), if_neg (by decide +kernel), if_neg (by decide +kernel), if_neg (by decide +kernel), if_pos (by decide +kernel), x_bnd]
    by_cases hb : 0 < c / 10
    · rw [nIm1 hb, q_78 F (by omega) (by omega), show 10 * (c / 10 - 1) + c % 10 = c - 10 by omega]
      exact congrArg (fun z => rtI z _) (besI (by simp [nbr, hb]))
    · rw [show c / 10 = 0 by omega, q_78y (by omega) (Or.inl n0m1)]
      exact congrArg (fun z => rtI z _) (besN (by simp [nbr, hb]))
/-- where a cell leads -/
def lea (la cu : Nat → Int32) (c : Nat) : Option Nat := bes la c (cu c).toNatClampNeg
theorem lea_lt {la cu : Nat → Int32} {c o : Nat} (hc : c < 60) (h : lea la cu c = some o) : o < 60 := bes_lt hc h
theorem s_leadsTo {h : MH} {K m : Nat → Nat → Int32} (F : Fix h) {c : Nat} (hc : c < 60) (hd : ∃ d, d ≤ 4 ∧ K 9 c = nI d) : M_X5_leadsTo (some 2) (nI c) (st h K m) = rtI (oI (lea (K 11) (K 9) c)) (st h K m) := by
  obtain ⟨d, hd, e⟩ := hd
  unfold M_X5_leadsTo lea
  rw [s_isCell_t hc, x_rtI, if_neg (by decide), r2_2 F, d9 F hc, c2 F, e, s_seaBeside F hc hd, x_rtI, nI_clamp (by omega)]
theorem s_leadsTo_m1 {h : MH} : M_X5_leadsTo (some 2) (-1) h = rtI (-1) h := by
  unfold M_X5_leadsTo
  rw [s_isCell_f (Or.inl (by decide)), x_rtI, if_pos rfl]
theorem s_isLand {h : MH} {K m : Nat → Nat → Int32} (F : Fix h) {c : Nat} (hc : c < 60) : M_X5_isLand (some 2) (nI c) (st h K m) = rtI (bI (K 11 c ≠ 0)) (st h K m) := by
  unfold M_X5_isLand
  rw [s_isCell_t hc, x_rtI, if_neg (by decide), r2_5 F, d11 F hc]
  by_cases hl : K 11 c = 0
  · rw [if_pos hl, bI_f (fun q => q hl), rtZ_0]
  · rw [if_neg hl, bI_t hl, rtZ_1]
