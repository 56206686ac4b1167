/-! the nearest reading of a ship -/
def apt (m : Nat → Nat → Int32) (r k : Nat) : Int32 := ab (m 40 k - m 40 r)
def nsp (m : Nat → Nat → Int32) (r : Nat) : Nat → Option Nat
  | 0 => none
  | n + 1 => if m 43 n = -1 ∧ m 41 n = m 41 r ∧ apt m r n ≤ 2 ∧ (∀ k, nsp m r n = some k → apt m r n < apt m r k) then some n else nsp m r n
theorem nsp_some {m : Nat → Nat → Int32} {r n k : Nat} (h : nsp m r n = some k) : k < n ∧ apt m r k ≤ 2 := by
  induction n with
  | zero => cases h
  | succ n ih =>
    unfold nsp at h
    split at h
    · rename_i q; cases h; exact ⟨by omega, q.2.2.1⟩
    · have := ih h; exact ⟨by omega, this.2⟩
theorem s_shipFor {h : MH} {K m : Nat → Nat → Int32} {nr r : Nat} (F : Fix h) (hm : m 22 23 = nI nr) (hn : nr ≤ 100) (hr1 : r < nr) : M_X9_shipFor (some 22) (nI r) (st h K m) = rtI (oI (nsp m r nr)) (st h K m) := by
  have hr2 : r < 100 := by omega
  have hG := zlp0 (G := fun n i => L_X9_shipFor_4 n (some 22) (nI r) (oI (nsp m r i)) (nI i) (st h K m)) (N := nr) (r := rtI (oI (nsp m r nr)) (st h K m)) (by have : fuel = 1000 := rfl; omega) ?_ ?_
  · exact hG
  · intro n i hi
    have hi2 : i < 100 := by omega
    show B_X9_shipFor_4 (L_X9_shipFor_4 n) (some 22) (nI r) (oI (nsp m r i)) (nI i) (st h K m) = L_X9_shipFor_4 n (some 22) (nI r) (oI (nsp m r (i + 1))) (nI (i + 1)) (st h K m)
    have hstep : nsp m r (i + 1) = if m 43 i = -1 ∧ m 41 i = m 41 r ∧ apt m r i ≤ 2 ∧ (∀ k, nsp m r i = some k → apt m r i < apt m r k) then some i else nsp m r i := rfl
    unfold B_X9_shipFor_4 B_X9_shipFor_65 B_X9_shipFor_66 B_X9_shipFor_99 B_X9_shipFor_103 B_X9_shipFor_104
    rw [g22 F, hm, if_neg (nI_ge hi (by omega)), r22_24 F, d40 F hi2, r22_24 F, d40 F hr2, x_bnd, s_size, x_rtI, r22_27 F, d43 F hi2]
    simp only [x_bnd, nIs, if_true]
    by_cases h1 : m 43 i = -1
    · rw [if_neg (fun z => z h1), r22_25 F, d41 F hi2, r22_25 F, d41 F hr2]
      by_cases h2 : m 41 i = m 41 r
      · rw [if_neg (fun z => z h2)]
        by_cases h3 : apt m r i ≤ 2
        · rw [if_neg (show ¬ (2 : Int32) < ab (m 40 i - m 40 r) by rw [i_nlt]; exact h3), if_neg (show ¬ (1 : Int32) = 0 by decide)]
          cases hq : nsp m r i with
          | none =>
            rw [oI_n, if_pos rfl]
            have : nsp m r (i + 1) = some i := by rw [hstep, if_pos ⟨h1, h2, h3, fun k z => by rw [hq] at z; cases z⟩]
            rw [this, oI_s]
          | some k =>
            have hk1 := (nsp_some hq).1
            rw [oI_s, if_neg (by rw [nI_nm1 (by omega)]; exact id), r22_24 F, d40 F (by omega), r22_24 F, d40 F hr2, s_size, x_rtI]
            by_cases h4 : apt m r k ≤ apt m r i
            · have : nsp m r (i + 1) = some k := by
                rw [hstep, if_neg, hq]
                rintro ⟨-, -, -, z⟩
                have := z k hq
                rw [i_lt] at this; rw [i_le] at h4; omega
              rw [if_pos (show ab (m 40 k - m 40 r) ≤ ab (m 40 i - m 40 r) from h4), this, oI_s]
            · have : nsp m r (i + 1) = some i := by
                rw [hstep, if_pos ⟨h1, h2, h3, fun k2 z => by rw [hq] at z; cases z; rwa [i_nle] at h4⟩]
              rw [if_neg (show ¬ ab (m 40 k - m 40 r) ≤ ab (m 40 i - m 40 r) from h4), this, oI_s]
        · rw [if_pos (show (2 : Int32) < ab (m 40 i - m 40 r) by rw [← i_nle]; exact h3), hstep, if_neg (fun z => h3 z.2.2.1)]
      · rw [if_pos h2, hstep, if_neg (fun z => h2 z.2.1)]
    · rw [if_pos h1, hstep, if_neg (fun z => h1 z.1)]
  · intro n
    show B_X9_shipFor_4 (L_X9_shipFor_4 n) (some 22) (nI r) (oI (nsp m r nr)) (nI nr) (st h K m) = _
    unfold B_X9_shipFor_4
    rw [g22 F, hm, if_pos (nI_le (Nat.le_refl _) (by omega))]
