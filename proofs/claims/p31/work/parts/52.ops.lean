/-! what stands between two calls -/
def thM (m : Nat → Nat → Int32) (t : Int32) : Nat → Nat → Int32 := upw m 22 (upd (m 22) 0 t)
theorem thM_o {m : Nat → Nat → Int32} {t : Int32} {a : Nat} (h : a ≠ 22) : thM m t a = m a := upw_o h
theorem thM_22 {m : Nat → Nat → Int32} {t : Int32} {j : Nat} (h : j ≠ 0) : thM m t 22 j = m 22 j := by unfold thM; rw [upw_s, upd_o h]
theorem thM_0 {m : Nat → Nat → Int32} {t : Int32} : thM m t 22 0 = t := by unfold thM; rw [upw_s, upd_s]
theorem Rel.th {h : MH} {K m : Nat → Nat → Int32} {B nb nr ns np nsm d : Nat} {S : STy} (R : Rel h K m B nb nr ns np nsm d S) (t : Int32) : Rel h K (thM m t) B nb nr ns np nsm d S := by
  refine R.sS (K1 := K) (m1 := thM m t) (nsm1 := nsm) (fun _ _ => rfl) (fun a ha => thM_o (by simp at ha; omega)) (fun j hj => thM_22 (by simp at hj; omega)) ⟨⟨R.2.2.1.2.2.2.2.1.1, by rw [thM_22 (by decide)]; exact R.2.2.1.2.2.2.2.1.2⟩, R.2.2.1.2.2.2.2.2.2.2.2⟩ ?_
  have := R.2.2.2.2.2.2.1
  unfold Cst at this ⊢
  rw [thM_22 (by decide), thM_o (by decide), thM_o (by decide), thM_o (by decide), thM_o (by decide)]
  exact this
theorem Rel.up {h : MH} {K m : Nat → Nat → Int32} {B nb nr ns np nsm d : Nat} {S : STy} (R : Rel h K m B nb nr ns np nsm d S) : Rel h K m (B + 1) nb nr ns np nsm d S := by
  obtain ⟨c0, c1, c2, c3, c4, c5, c6, c7, c8, c9⟩ := R
  refine ⟨c0, c1, c2, c3, c4, c5, c6, c7, c8, ?_⟩
  unfold Cco at c9 ⊢
  omega
theorem Rel.ex {h : MH} {K m : Nat → Nat → Int32} {B nb nr ns np nsm d : Nat} {S : STy} (R : Rel h K m B nb nr ns np nsm d S) : Rel (exc h) K m (B + 1) nb nr ns np nsm d S := by
  obtain ⟨c0, c1, c2, c3, c4, c5, c6, c7, c8, c9⟩ := R
  refine ⟨c0, c1, c2, c3, c4, c5, c6, c7, c8, ?_⟩
  have e1 : CGyreWatchLaw_law_r6608_32e876.hc (exc h) = CGyreWatchLaw_law_r6608_32e876.hc h + 1 := rfl
  have e2 : hs (exc h) = hs h + 6 := rfl
  unfold Cco at c9 ⊢
  rw [e1, e2]
  omega
/-! what calls need -/
theorem x_thr {x : Nat} {h : MH} {k : MH → Res} : calV (some (.inr x, h)) k = some (.inr x, h) := rfl
theorem x_thrI {x : Nat} {h : MH} {k : Int32 → MH → Res} : calI (some (.inr x, h)) k = some (.inr x, h) := rfl
theorem x_thrR {x : Nat} {h : MH} {k : Option Nat → MH → Res} : calR (some (.inr x, h)) k = some (.inr x, h) := rfl
theorem s_needCell_t {j : Nat} {h : MH} (hj : j < 60) : M_X8_needCell (nI j) h = rtV h := by
  unfold M_X8_needCell
  rw [s_isCell_t hj, x_rtI, if_pos (by decide)]
theorem s_needCell_f {c : Int32} {h : MH} (hc : c < 0 ∨ nI 60 ≤ c) : M_X8_needCell c h = some (.inr 1, exc h) := by
  unfold M_X8_needCell
  rw [s_isCell_f hc, x_rtI, if_neg (fun z => z rfl)]
theorem s_needRange_t {x a b : Int32} {h : MH} (hx : a ≤ x ∧ x ≤ b) : M_X8_needRange x a b h = rtV h := by
  unfold M_X8_needRange
  rw [if_neg (by rw [i_nlt]; exact hx.1), if_pos hx.2]
theorem s_needRange_f {x a b : Int32} {h : MH} (hx : ¬ (a ≤ x ∧ x ≤ b)) : M_X8_needRange x a b h = some (.inr 2, exc h) := by
  unfold M_X8_needRange
  by_cases h1 : x < a
  · rw [if_pos h1]
  · rw [if_neg h1, if_neg (fun z => hx ⟨by rwa [i_nlt] at h1, z⟩)]
theorem cell_or (c : Int32) : (c < 0 ∨ nI 60 ≤ c) ∨ ∃ j, j < 60 ∧ c = nI j := by
  rcases pk_ix c (n := 60) (by decide) with h | h | h
  · exact Or.inl (Or.inl h)
  · exact Or.inl (Or.inr h)
  · exact Or.inr h
theorem thM_eq {m : Nat → Nat → Int32} {t : Int32} : upw m 22 (upd (m 22) 0 t) = thM m t := rfl
/-! pass -/
