/-! the quotient of a map is the class's mean -/
theorem bm32 {z : Int} (h1 : -2147483648 ≤ z) (h2 : z < 2147483648) : z.bmod (2 ^ 32) = z := Int.bmod_eq_of_le (by omega) (by omega)
theorem bm64 {z : Int} (h1 : -2147483648 ≤ z) (h2 : z < 2147483648) : z.bmod (2 ^ 64) = z := Int.bmod_eq_of_le (by omega) (by omega)
def isum (m : Nat → Nat → Int32) (nr c : Nat) (d span : Int32) (wo : Option Nat) : Nat → Int := fo (fun r z => z + (if wo = some r then 0 else (wg m nr c d span r).toInt * (cor m r).toInt)) 0
theorem cor_b {g M : Nat → Nat → Int32} {nb nr ns nsm nst d r : Nat} (A : Abs g M nb nr ns nsm nst d) (hnb : nb ≤ 8) (hd : d ≤ 350) (hr1 : r < nr) : -2300000 ≤ (cor g r).toInt ∧ (cor g r).toInt ≤ 2300000 := by
  obtain ⟨dy, cl, e, x, y1, y2, y3, y4, y5⟩ := A.2.2.2.2.1.un hnb hr1
  have hV : V0 d + 100 ≤ 1134100 := by unfold V0; omega
  have hx : (nI x - 50).toInt = (x : Int) - 50 := vI_toInt (by omega)
  unfold cor
  rw [y2.2.2.1]
  rcases y4 with h | ⟨f, hf, h⟩
  · rw [if_pos h, hx]; omega
  · obtain ⟨-, -, y, z, hy, hz, ef⟩ := A.2.2.2.1.1 f hf
    have hyz : (nI y - nI z).toInt = (y : Int) - z := pk_sub_toInt (by omega) (by omega)
    rw [h, if_neg (by rw [nI_nm1 (by omega)]; exact id), nI_clamp (by omega), ef, Int32.toInt_sub, hx, hyz, bm32 (by omega) (by omega)]
    omega
theorem isum_b {g M : Nat → Nat → Int32} {nb nr ns nsm nst d c : Nat} {day span : Int32} {wo : Option Nat} (A : Abs g M nb nr ns nsm nst d) (hnb : nb ≤ 8) (hn : nr ≤ 63) (hd : d ≤ 350) (hc : c < 60) : ∀ n, n ≤ nr → (-18400000 * (n : Int) ≤ isum g nr c day span wo n ∧ isum g nr c day span wo n ≤ 18400000 * (n : Int)) ∧ (wss g nr c day span wo n).toInt = isum g nr c day span wo n ∧ (wsl g nr c day span wo n).toInt = isum g nr c day span wo n := by
  intro n
  induction n with
  | zero => intro _; exact ⟨⟨by show _ ≤ (0 : Int); omega, by show (0 : Int) ≤ _; omega⟩, rfl, rfl⟩
  | succ n ih =>
    intro hn1
    obtain ⟨⟨i1, i2⟩, i3, i4⟩ := ih (by omega)
    obtain ⟨dy, cl, e, x, y1, y2, y3, y4, y5⟩ := A.2.2.2.2.1.un hnb (show n < nr by omega)
    obtain ⟨w, hw, ew⟩ := wg_nI (nr := nr) (d := day) (span := span) y2.2.1 y1.2.1 hc
    obtain ⟨c1, c2⟩ := cor_b A hnb hd (show n < nr by omega)
    have e1 : isum g nr c day span wo (n + 1) = isum g nr c day span wo n + (if wo = some n then 0 else (wg g nr c day span n).toInt * (cor g n).toInt) := rfl
    have e2 : wss g nr c day span wo (n + 1) = wss g nr c day span wo n + (if wo = some n then 0 else wg g nr c day span n * cor g n) := rfl
    have e3 : wsl g nr c day span wo (n + 1) = wsl g nr c day span wo n + (if wo = some n then 0 else Int32.toInt64 (wg g nr c day span n) * Int32.toInt64 (cor g n)) := rfl
    rw [e1, e2, e3]
    by_cases q : wo = some n
    · rw [if_pos q, if_pos q, if_pos q, Int32.add_zero, Int64.add_zero, Int.add_zero]
      exact ⟨⟨by omega, by omega⟩, i3, i4⟩
    · rw [if_neg q, if_neg q, if_neg q]
      have hwi : (wg g nr c day span n).toInt = (w : Int) := by rw [ew]; exact nI_toInt (by omega)
      rw [hwi]
      have hp : -18400000 ≤ (w : Int) * (cor g n).toInt ∧ (w : Int) * (cor g n).toInt ≤ 18400000 := by
        have : w = 0 ∨ w = 1 ∨ w = 2 ∨ w = 3 ∨ w = 4 ∨ w = 5 ∨ w = 6 ∨ w = 7 ∨ w = 8 := by omega
        rcases this with rfl | rfl | rfl | rfl | rfl | rfl | rfl | rfl | rfl <;> constructor <;> push_cast <;> omega
      generalize hpp : (w : Int) * (cor g n).toInt = p at hp
      refine ⟨⟨by omega, by omega⟩, ?_, ?_⟩
      · rw [Int32.toInt_add, Int32.toInt_mul, hwi, hpp, i3, bm32 (z := p) (by omega) (by omega), bm32 (by omega) (by omega)]
      · rw [Int64.toInt_add, Int64.toInt_mul, Int32.toInt_toInt64, Int32.toInt_toInt64, hwi, hpp, i4, bm64 (z := p) (by omega) (by omega), bm64 (by omega) (by omega)]
theorem mean_q {g M : Nat → Nat → Int32} {nb nr ns nsm nst d c : Nat} {day span : Int32} {wo : Option Nat} (A : Abs g M nb nr ns nsm nst d) (hnb : nb ≤ 8) (hn : nr ≤ 63) (hd : d ≤ 350) (hc : c < 60) : wss g nr c day span wo nr / wsm g nr c day span wo nr = mnv g nr c day span wo := by
  obtain ⟨-, h1, h2⟩ := isum_b (day := day) (span := span) (wo := wo) A hnb hn hd hc nr (Nat.le_refl _)
  apply Int32.toInt.inj
  unfold mnv
  rw [Int64.toInt_toInt32, Int32.toInt_div, Int64.toInt_div, h1, h2, Int32.toInt_toInt64, Int.bmod_bmod_of_dvd (by decide)]
