/-! flag -/
theorem Rel.by {h : MH} {K m : Nat → Nat → Int32} {B nb nr ns np nsm d : Nat} {S : STy} (R : Rel h K m B nb nr ns np nsm d S) : ∀ r, r < nr → m 43 r = -1 ∨ ∃ f, f < nb ∧ m 43 r = nI f := by
  intro r hr1
  obtain ⟨-, -, x⟩ := R.2.2.2.2.1 r hr1
  rcases x with ⟨x, -⟩ | ⟨f, f1, f2, -⟩
  · exact Or.inl x
  · exact Or.inr ⟨f, f1, f2⟩
theorem flg_th {m : Nat → Nat → Int32} {t : Int32} {nr r : Nat} : flg (thM m t) nr r = flg m nr r := by
  have hc : ∀ q, cor (thM m t) q = cor m q := fun q => by
    unfold cor
    rw [thM_o (by decide), thM_o (by decide), thM_o (by decide)]
  unfold flg
  rw [thM_o (by decide), thM_o (by decide), thM_22 (by decide)]
  simp only [hc]
