/-! a reading is asked -/
theorem cor_th {m : Nat → Nat → Int32} {t : Int32} {q : Nat} : cor (thM m t) q = cor m q := by
  unfold cor
  rw [thM_o (by decide), thM_o (by decide), thM_o (by decide)]
