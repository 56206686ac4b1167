/-! numbers of floats, readings, searches -/
theorem idx_iff {x : Int32} {n : Nat} (hn : n ≤ 1000) : (0 ≤ x ∧ x ≤ nI n - 1) ↔ ∃ j, j < n ∧ x = nI j := by
  constructor
  · rintro ⟨h1, h2⟩
    cases n with
    | zero =>
      exfalso
      rw [i_le] at h1 h2
      rw [show (nI 0 - 1 : Int32).toInt = -1 from by decide] at h2
      rw [show (0 : Int32).toInt = 0 from by decide] at h1
      omega
    | succ n =>
      rw [nI_pred] at h2
      obtain ⟨j, hj, e⟩ := nI_rng (n := n) (by omega) h1 h2
      exact ⟨j, by omega, e⟩
  · rintro ⟨j, hj, rfl⟩
    obtain ⟨k, rfl⟩ : ∃ k, n = k + 1 := ⟨n - 1, by omega⟩
    rw [nI_pred]
    exact ⟨nI_pos' (by omega), nI_le (by omega) (by omega)⟩
theorem s_search_t {h : MH} {K m : Nat → Nat → Int32} {n j : Nat} (F : Fix h) (R : Row h 20 4 6 n) (hn : n ≤ 4) (hj : j < n) : M_X8_searchNumbered (some 1) (nI j) (st h K m) = rtR (some (se h j)) (st h K m) := by
  unfold M_X8_searchNumbered B_X8_searchNumbered_22
  rw [r1_4 F, a20 F, s_isIndex_t (show j < 4 by omega) (by decide), x_rtI, if_neg (by decide), r1_4 F, d20 F (by omega), (row_se R hj).1, if_pos (by intro z; cases z)]
theorem s_search_f {h : MH} {K m : Nat → Nat → Int32} {n : Nat} {x : Int32} (F : Fix h) (R : Row h 20 4 6 n) (hx : ¬ ∃ j, j < n ∧ x = nI j) : M_X8_searchNumbered (some 1) x (st h K m) = some (.inr 1, exc (st h K m)) := by
  unfold M_X8_searchNumbered B_X8_searchNumbered_22
  rw [r1_4 F, a20 F]
  rcases pk_ix x (n := 4) (by decide) with q | q | ⟨j, hj, rfl⟩
  · rw [s_isIndex_f (Or.inl q), x_rtI, if_pos rfl, if_neg (fun z => z rfl)]
  · rw [s_isIndex_f (Or.inr q), x_rtI, if_pos rfl, if_neg (fun z => z rfl)]
  · have : n ≤ j := by
      by_cases z : j < n
      · exact absurd ⟨j, z, rfl⟩ hx
      · omega
    rw [s_isIndex_t hj (by decide), x_rtI, if_neg (by decide), r1_4 F, d20 F hj, R.2.1 j this hj, if_neg (fun z => z rfl)]
theorem s_buoy_t {h : MH} {K m : Nat → Nat → Int32} {n j : Nat} (F : Fix h) (R : Row h 13 8 0 n) (hn : n ≤ 8) (hj : j < n) : M_X8_buoyNumbered (some 1) (nI j) (st h K m) = rtR (some (bu h j)) (st h K m) := by
  unfold M_X8_buoyNumbered B_X8_buoyNumbered_22
  rw [r1_1 F, a13 F, s_isIndex_t (show j < 8 by omega) (by decide), x_rtI, if_neg (by decide), r1_1 F, d13 F (by omega), (row_bu R hj).1, if_pos (by intro z; cases z)]
theorem s_buoy_f {h : MH} {K m : Nat → Nat → Int32} {n : Nat} {x : Int32} (F : Fix h) (R : Row h 13 8 0 n) (hx : ¬ ∃ j, j < n ∧ x = nI j) : M_X8_buoyNumbered (some 1) x (st h K m) = some (.inr 1, exc (st h K m)) := by
  unfold M_X8_buoyNumbered B_X8_buoyNumbered_22
  rw [r1_1 F, a13 F]
  rcases pk_ix x (n := 8) (by decide) with q | q | ⟨j, hj, rfl⟩
  · rw [s_isIndex_f (Or.inl q), x_rtI, if_pos rfl, if_neg (fun z => z rfl)]
  · rw [s_isIndex_f (Or.inr q), x_rtI, if_pos rfl, if_neg (fun z => z rfl)]
  · have : n ≤ j := by
      by_cases z : j < n
      · exact absurd ⟨j, z, rfl⟩ hx
      · omega
    rw [s_isIndex_t hj (by decide), x_rtI, if_neg (by decide), r1_1 F, d13 F hj, R.2.1 j this hj, if_neg (fun z => z rfl)]
theorem s_rdg_t {h : MH} {K m : Nat → Nat → Int32} {n j : Nat} (F : Fix h) (R : Row h 15 100 4 n) (hn : n ≤ 100) (hj : j < n) : M_X8_readingNumbered (some 1) (nI j) (st h K m) = rtR (some (rd h j)) (st h K m) := by
  unfold M_X8_readingNumbered B_X8_readingNumbered_28
  rw [r1_2 F, r14_0 F, a15 F, s_isIndex_t (show j < 100 by omega) (by decide), x_rtI, if_neg (by decide), r1_2 F, r14_0 F, d15 F (by omega), (row_rd R hj).1, if_pos (by intro z; cases z)]
theorem s_rdg_f {h : MH} {K m : Nat → Nat → Int32} {n : Nat} {x : Int32} (F : Fix h) (R : Row h 15 100 4 n) (hx : ¬ ∃ j, j < n ∧ x = nI j) : M_X8_readingNumbered (some 1) x (st h K m) = some (.inr 1, exc (st h K m)) := by
  unfold M_X8_readingNumbered B_X8_readingNumbered_28
  rw [r1_2 F, r14_0 F, a15 F]
  rcases pk_ix x (n := 100) (by decide) with q | q | ⟨j, hj, rfl⟩
  · rw [s_isIndex_f (Or.inl q), x_rtI, if_pos rfl, if_neg (fun z => z rfl)]
  · rw [s_isIndex_f (Or.inr q), x_rtI, if_pos rfl, if_neg (fun z => z rfl)]
  · have : n ≤ j := by
      by_cases z : j < n
      · exact absurd ⟨j, z, rfl⟩ hx
      · omega
    rw [s_isIndex_t hj (by decide), x_rtI, if_neg (by decide), r1_2 F, r14_0 F, d15 F hj, R.2.1 j this hj, if_neg (fun z => z rfl)]
/-! chance, best, leg -/
/-- the best of the first n + 1 cells -/
def bst (r : Nat → Int32) : Nat → Nat
  | 0 => 0
  | n + 1 => if r (n + 1) ≤ r (bst r n) then bst r n else n + 1
theorem bst_le {r : Nat → Int32} {n : Nat} : bst r n ≤ n := by
  induction n with
  | zero => exact Nat.le_refl _
  | succ n ih => unfold bst; split <;> omega
theorem bst_congr {r s : Nat → Int32} {n : Nat} (h : ∀ j, j ≤ n → r j = s j) : bst r n = bst s n := by
  induction n with
  | zero => rfl
  | succ n ih =>
    have e := ih (fun j hj => h j (by omega))
    have := bst_le (r := s) (n := n)
    unfold bst
    rw [e, h (n + 1) (by omega), h (bst s n) (by omega)]
theorem s_bestOf {h : MH} {K m : Nat → Nat → Int32} {a : Nat} (hka : hk h a = 20) (hla : hl h a = 60) (ha : cA a) : M_X6_bestOf (some a) (st h K m) = rtI (nI (bst (K a) 59)) (st h K m) := by
  have hG := zlp0 (G := fun n i => L_X6_bestOf_4 n (some a) (nI (bst (K a) i)) (nI (i + 1)) (st h K m)) (N := 59) (r := rtI (nI (bst (K a) 59)) (st h K m)) (by decide) ?_ ?_
  · exact hG
  · intro n i hi
    have hb := bst_le (r := K a) (n := i)
    show B_X6_bestOf_4 (L_X6_bestOf_4 n) (some a) (nI (bst (K a) i)) (nI (i + 1)) (st h K m) = L_X6_bestOf_4 n (some a) (nI (bst (K a) (i + 1))) (nI (i + 1 + 1)) (st h K m)
    unfold B_X6_bestOf_4 B_X6_bestOf_21
    rw [K_al hka (by decide) hla, if_neg (nI_ge (by omega) (by decide)), K_rd hka hla ha (by omega) (by decide), K_rd hka hla ha (by omega) (by decide), x_bnd, x_bnd, nIs]
    show _ = L_X6_bestOf_4 n (some a) (nI (if K a (i + 1) ≤ K a (bst (K a) i) then bst (K a) i else i + 1)) (nI (i + 1 + 1)) (st h K m)
    split <;> rfl
  · intro n
    show B_X6_bestOf_4 (L_X6_bestOf_4 n) (some a) (nI (bst (K a) 59)) (nI 60) (st h K m) = _
    unfold B_X6_bestOf_4
    rw [K_al hka (by decide) hla, if_pos (nI_le (Nat.le_refl _) (by decide))]
