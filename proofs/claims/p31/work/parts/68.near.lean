/-! the nearest reading of a ship -/
def apt (m : Nat → Nat → Int32) (r k : Nat) : Int32 := ab (m 40 k - m 40 r)
def nsp (m : Nat → Nat → Int32) (r : Nat) : Nat → Option Nat
  | 0 => none
  | n + 1 => if m 43 n = -1 ∧ m 41 n = m 41 r ∧ apt m r n ≤ 2 ∧ (∀ k, nsp m r n = some k → apt m r n < apt m r k) then some n else nsp m r n
theorem nsp_some {m : Nat → Nat → Int32} {r n k : Nat} (h : nsp m r n = some k) : k < n ∧ apt m r k ≤ 2 := by
  induction n with
  | zero => cases h
  | succ n ih =>
    unfold nsp at h
    split at h
    · rename_i q; cases h; exact ⟨by omega, q.2.2.1⟩
    · have := ih h; exact ⟨by omega, this.2⟩
