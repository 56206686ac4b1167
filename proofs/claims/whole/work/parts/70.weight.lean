/-! the weight of a reading for a map -/
def fr (a c : Nat) : Int32 := ab (nI (a % 10) - nI (c % 10)) + ab (nI (a / 10) - nI (c / 10))
def wgt (m : Nat → Nat → Int32) (nr c : Nat) (d span : Int32) (a r : Nat) : Int32 := if (8 : Int32) ≤ fr a c then 0 else if span < ab (m 40 r - d) then 0 else if flg m nr r ≠ 0 then 0 else 8 - fr a c
theorem s_weight {h : MH} {K m : Nat → Nat → Int32} {nb nr r a c : Nat} (F : Fix h) (hm : m 22 23 = nI nr) (hn : nr ≤ 100) (hr1 : r < nr) (hnb : nb ≤ 8) (hby : ∀ r, r < nr → m 43 r = -1 ∨ ∃ f, f < nb ∧ m 43 r = nI f) (ha : m 41 r = nI a) (ha2 : a < 60) (hc : c < 60) (d span : Int32) : M_X9_weight (some 22) (nI r) (nI c) d span (st h K m) = rtI (wgt m nr c d span a r) (st h K m) := by
  have hr2 : r < 100 := by omega
  unfold M_X9_weight wgt
  rw [r22_25 F, d41 F hr2, ha, q_rm (by decide), q_rm (by decide), nd_x ha2, nd_x hc, x_bnd, s_size, x_rtI, r22_25 F, d41 F hr2, ha, q_dv (by decide), q_dv (by decide), nd_y ha2, nd_y hc, x_bnd, s_size, x_rtI, x_bnd]
  show (if (8 : Int32) ≤ fr a c then _ else _) = _
  by_cases h1 : (8 : Int32) ≤ fr a c
  · rw [if_pos h1, if_pos h1]
  · rw [if_neg h1, if_neg h1, r22_24 F, d40 F hr2, x_bnd, s_size, x_rtI]
    by_cases h2 : span < ab (m 40 r - d)
    · rw [if_pos h2, if_pos h2]
    · rw [if_neg h2, if_neg h2, c22 F, s_flagOf F hm hn hr1 hnb hby, x_rtI]
      by_cases h3 : flg m nr r ≠ 0
      · rw [if_pos h3, if_pos h3]
      · rw [if_neg h3, if_neg h3, x_bnd]; rfl
