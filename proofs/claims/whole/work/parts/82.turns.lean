/-! the turns of the law, one for each method; made by gen/law.py -/
theorem s_turn0 {L i B : Nat} {xs : Nat → Int32} {h : MH} {K m : Nat → Nat → Int32} (hL : L ≤ 2560) (hi : 5 * i + 5 ≤ L) (I : Inv B h K m) (rc : Option Nat → Option Nat → Option Nat → Int32 → MH → Res) (e : xs (5 * i) &&& (31 : Int32) = nI 0) : ∃ (h1 : MH) (K1 m1 : Nat → Nat → Int32), Inv (B + 1) h1 K1 m1 ∧ B_L_law_23 L xs rc (some 1) (some 22) (some 50) (nI (5 * i)) (st h K m) = rc (some 1) (some 22) (some 50) (nI (5 * (i + 1))) (st h1 K1 m1) := by
  obtain ⟨h1, K1, m1, I1, hS⟩ := s_case (op_land (xs (5 * i + 1))) (W := fun H => M_L_land (some 1) (xs (5 * i + 1)) (some 50) H) (fun H => rfl) (fun q t H w => hE2 1 1 3 2 w) I
  refine ⟨h1, K1, m1, I1, ?_⟩
  unfold B_L_law_23
  refine (turn_head hL hi e).trans ?_
  refine (if_neg (show ¬ nI 0 < (0 : Int32) by decide)).trans ?_
  refine (if_pos rfl).trans ?_
  simp only [x_bnd, pl1, sl1 hL hi]
  exact (hS (fun H => B_L_law_217 L xs rc (some 1) (some 22) (some 50) (nI (5 * i)) H)).trans (fin1903 (L := L) (xs := xs))
theorem s_turn1 {L i B : Nat} {xs : Nat → Int32} {h : MH} {K m : Nat → Nat → Int32} (hL : L ≤ 2560) (hi : 5 * i + 5 ≤ L) (I : Inv B h K m) (rc : Option Nat → Option Nat → Option Nat → Int32 → MH → Res) (e : xs (5 * i) &&& (31 : Int32) = nI 1) : ∃ (h1 : MH) (K1 m1 : Nat → Nat → Int32), Inv (B + 1) h1 K1 m1 ∧ B_L_law_23 L xs rc (some 1) (some 22) (some 50) (nI (5 * i)) (st h K m) = rc (some 1) (some 22) (some 50) (nI (5 * (i + 1))) (st h1 K1 m1) := by
  obtain ⟨h1, K1, m1, I1, hS⟩ := s_case (op_current (xs (5 * i + 1)) (xs (5 * i + 2))) (W := fun H => M_L_current (some 1) (xs (5 * i + 1)) (xs (5 * i + 2)) (some 50) H) (fun H => rfl) (fun q t H w => hE2 1 1 2 2 w) I
  refine ⟨h1, K1, m1, I1, ?_⟩
  unfold B_L_law_23
  refine (turn_head hL hi e).trans ?_
  refine (if_neg (show ¬ nI 1 < (0 : Int32) by decide)).trans ?_
  refine (if_neg (show ¬ nI 1 = (0 : Int32) by decide)).trans ?_
  refine (if_pos rfl).trans ?_
  simp only [x_bnd, pl1, pl2, sl1 hL hi, sl2 hL hi]
  exact (hS (fun H => B_L_law_285 L xs rc (some 1) (some 22) (some 50) (nI (5 * i)) H)).trans (fin1903 (L := L) (xs := xs))
theorem s_turn2 {L i B : Nat} {xs : Nat → Int32} {h : MH} {K m : Nat → Nat → Int32} (hL : L ≤ 2560) (hi : 5 * i + 5 ≤ L) (I : Inv B h K m) (rc : Option Nat → Option Nat → Option Nat → Int32 → MH → Res) (e : xs (5 * i) &&& (31 : Int32) = nI 2) : ∃ (h1 : MH) (K1 m1 : Nat → Nat → Int32), Inv (B + 1) h1 K1 m1 ∧ B_L_law_23 L xs rc (some 1) (some 22) (some 50) (nI (5 * i)) (st h K m) = rc (some 1) (some 22) (some 50) (nI (5 * (i + 1))) (st h1 K1 m1) := by
  obtain ⟨h1, K1, m1, I1, hS⟩ := s_case (op_sun (xs (5 * i + 1)) (xs (5 * i + 2))) (W := fun H => M_L_sun (some 1) (xs (5 * i + 1)) (xs (5 * i + 2)) (some 50) H) (fun H => rfl) (fun q t H w => hE1 2 1 w) I
  refine ⟨h1, K1, m1, I1, ?_⟩
  unfold B_L_law_23
  refine (turn_head hL hi e).trans ?_
  refine (if_neg (show ¬ nI 2 < (0 : Int32) by decide)).trans ?_
  refine (if_neg (show ¬ nI 2 = (0 : Int32) by decide)).trans ?_
  refine (if_neg (show ¬ nI 2 = (1 : Int32) by decide)).trans ?_
  refine (if_pos rfl).trans ?_
  simp only [x_bnd, pl1, pl2, sl1 hL hi, sl2 hL hi]
  exact (hS (fun H => B_L_law_353 L xs rc (some 1) (some 22) (some 50) (nI (5 * i)) H)).trans (fin1903 (L := L) (xs := xs))
theorem s_turn3 {L i B : Nat} {xs : Nat → Int32} {h : MH} {K m : Nat → Nat → Int32} (hL : L ≤ 2560) (hi : 5 * i + 5 ≤ L) (I : Inv B h K m) (rc : Option Nat → Option Nat → Option Nat → Int32 → MH → Res) (e : xs (5 * i) &&& (31 : Int32) = nI 3) : ∃ (h1 : MH) (K1 m1 : Nat → Nat → Int32), Inv (B + 1) h1 K1 m1 ∧ B_L_law_23 L xs rc (some 1) (some 22) (some 50) (nI (5 * i)) (st h K m) = rc (some 1) (some 22) (some 50) (nI (5 * (i + 1))) (st h1 K1 m1) := by
  obtain ⟨h1, K1, m1, I1, hS⟩ := s_case (op_pass (xs (5 * i + 1))) (W := fun H => M_L_pass (some 1) (xs (5 * i + 1)) (some 50) H) (fun H => rfl) (fun q t H w => hE2 2 1 3 2 w) I
  refine ⟨h1, K1, m1, I1, ?_⟩
  unfold B_L_law_23
  refine (turn_head hL hi e).trans ?_
  refine (if_neg (show ¬ nI 3 < (0 : Int32) by decide)).trans ?_
  refine (if_neg (show ¬ nI 3 = (0 : Int32) by decide)).trans ?_
  refine (if_neg (show ¬ nI 3 = (1 : Int32) by decide)).trans ?_
  refine (if_neg (show ¬ nI 3 = (2 : Int32) by decide)).trans ?_
  refine (if_pos rfl).trans ?_
  simp only [x_bnd, pl1, sl1 hL hi]
  exact (hS (fun H => B_L_law_409 L xs rc (some 1) (some 22) (some 50) (nI (5 * i)) H)).trans (fin1903 (L := L) (xs := xs))
theorem s_turn4 {L i B : Nat} {xs : Nat → Int32} {h : MH} {K m : Nat → Nat → Int32} (hL : L ≤ 2560) (hi : 5 * i + 5 ≤ L) (I : Inv B h K m) (rc : Option Nat → Option Nat → Option Nat → Int32 → MH → Res) (e : xs (5 * i) &&& (31 : Int32) = nI 4) : ∃ (h1 : MH) (K1 m1 : Nat → Nat → Int32), Inv (B + 1) h1 K1 m1 ∧ B_L_law_23 L xs rc (some 1) (some 22) (some 50) (nI (5 * i)) (st h K m) = rc (some 1) (some 22) (some 50) (nI (5 * (i + 1))) (st h1 K1 m1) := by
  obtain ⟨h1, K1, m1, I1, hS⟩ := s_case (op_lay (xs (5 * i + 1)) (xs (5 * i + 2)) (xs (5 * i + 3)) (xs (5 * i + 4))) (W := fun H => M_L_lay (some 1) (xs (5 * i + 1)) (xs (5 * i + 2)) (xs (5 * i + 3)) (xs (5 * i + 4)) (some 50) H) (fun H => rfl) (fun q t H w => hE3 1 1 2 2 3 3 w) I
  refine ⟨h1, K1, m1, I1, ?_⟩
  unfold B_L_law_23
  refine (turn_head hL hi e).trans ?_
  refine (if_neg (show ¬ nI 4 < (0 : Int32) by decide)).trans ?_
  refine (if_neg (show ¬ nI 4 = (0 : Int32) by decide)).trans ?_
  refine (if_neg (show ¬ nI 4 = (1 : Int32) by decide)).trans ?_
  refine (if_neg (show ¬ nI 4 = (2 : Int32) by decide)).trans ?_
  refine (if_neg (show ¬ nI 4 = (3 : Int32) by decide)).trans ?_
  refine (if_pos rfl).trans ?_
  simp only [x_bnd, pl1, pl2, pl3, pl4, sl1 hL hi, sl2 hL hi, sl3 hL hi, sl4 hL hi]
  exact (hS (fun H => B_L_law_501 L xs rc (some 1) (some 22) (some 50) (nI (5 * i)) H)).trans (fin1903 (L := L) (xs := xs))
theorem s_turn5 {L i B : Nat} {xs : Nat → Int32} {h : MH} {K m : Nat → Nat → Int32} (hL : L ≤ 2560) (hi : 5 * i + 5 ≤ L) (I : Inv B h K m) (rc : Option Nat → Option Nat → Option Nat → Int32 → MH → Res) (e : xs (5 * i) &&& (31 : Int32) = nI 5) : ∃ (h1 : MH) (K1 m1 : Nat → Nat → Int32), Inv (B + 1) h1 K1 m1 ∧ B_L_law_23 L xs rc (some 1) (some 22) (some 50) (nI (5 * i)) (st h K m) = rc (some 1) (some 22) (some 50) (nI (5 * (i + 1))) (st h1 K1 m1) := by
  obtain ⟨h1, K1, m1, I1, hS⟩ := s_case (op_station (xs (5 * i + 1)) (xs (5 * i + 2))) (W := fun H => M_L_station (some 1) (xs (5 * i + 1)) (xs (5 * i + 2)) (some 50) H) (fun H => rfl) (fun q t H w => hE3 1 1 2 2 3 3 w) I
  refine ⟨h1, K1, m1, I1, ?_⟩
  unfold B_L_law_23
  refine (turn_head hL hi e).trans ?_
  refine (if_neg (show ¬ nI 5 < (0 : Int32) by decide)).trans ?_
  refine (if_neg (show ¬ nI 5 = (0 : Int32) by decide)).trans ?_
  refine (if_neg (show ¬ nI 5 = (1 : Int32) by decide)).trans ?_
  refine (if_neg (show ¬ nI 5 = (2 : Int32) by decide)).trans ?_
  refine (if_neg (show ¬ nI 5 = (3 : Int32) by decide)).trans ?_
  refine (if_neg (show ¬ nI 5 = (4 : Int32) by decide)).trans ?_
  refine (if_pos rfl).trans ?_
  simp only [x_bnd, pl1, pl2, sl1 hL hi, sl2 hL hi]
  exact (hS (fun H => B_L_law_569 L xs rc (some 1) (some 22) (some 50) (nI (5 * i)) H)).trans (fin1903 (L := L) (xs := xs))
theorem s_turn6 {L i B : Nat} {xs : Nat → Int32} {h : MH} {K m : Nat → Nat → Int32} (hL : L ≤ 2560) (hi : 5 * i + 5 ≤ L) (I : Inv B h K m) (rc : Option Nat → Option Nat → Option Nat → Int32 → MH → Res) (e : xs (5 * i) &&& (31 : Int32) = nI 6) : ∃ (h1 : MH) (K1 m1 : Nat → Nat → Int32), Inv (B + 1) h1 K1 m1 ∧ B_L_law_23 L xs rc (some 1) (some 22) (some 50) (nI (5 * i)) (st h K m) = rc (some 1) (some 22) (some 50) (nI (5 * (i + 1))) (st h1 K1 m1) := by
  obtain ⟨h1, K1, m1, I1, hS⟩ := s_case (op_storm (xs (5 * i + 1)) (xs (5 * i + 2))) (W := fun H => M_L_storm (some 1) (xs (5 * i + 1)) (xs (5 * i + 2)) (some 50) H) (fun H => rfl) (fun q t H w => hE2 2 1 3 2 w) I
  refine ⟨h1, K1, m1, I1, ?_⟩
  unfold B_L_law_23
  refine (turn_head hL hi e).trans ?_
  refine (if_neg (show ¬ nI 6 < (0 : Int32) by decide)).trans ?_
  refine (if_neg (show ¬ nI 6 = (0 : Int32) by decide)).trans ?_
  refine (if_neg (show ¬ nI 6 = (1 : Int32) by decide)).trans ?_
  refine (if_neg (show ¬ nI 6 = (2 : Int32) by decide)).trans ?_
  refine (if_neg (show ¬ nI 6 = (3 : Int32) by decide)).trans ?_
  refine (if_neg (show ¬ nI 6 = (4 : Int32) by decide)).trans ?_
  refine (if_neg (show ¬ nI 6 = (5 : Int32) by decide)).trans ?_
  refine (if_pos rfl).trans ?_
  simp only [x_bnd, pl1, pl2, sl1 hL hi, sl2 hL hi]
  exact (hS (fun H => B_L_law_637 L xs rc (some 1) (some 22) (some 50) (nI (5 * i)) H)).trans (fin1903 (L := L) (xs := xs))
theorem s_turn7 {L i B : Nat} {xs : Nat → Int32} {h : MH} {K m : Nat → Nat → Int32} (hL : L ≤ 2560) (hi : 5 * i + 5 ≤ L) (I : Inv B h K m) (rc : Option Nat → Option Nat → Option Nat → Int32 → MH → Res) (e : xs (5 * i) &&& (31 : Int32) = nI 7) : ∃ (h1 : MH) (K1 m1 : Nat → Nat → Int32), Inv (B + 1) h1 K1 m1 ∧ B_L_law_23 L xs rc (some 1) (some 22) (some 50) (nI (5 * i)) (st h K m) = rc (some 1) (some 22) (some 50) (nI (5 * (i + 1))) (st h1 K1 m1) := by
  obtain ⟨h1, K1, m1, I1, hS⟩ := s_case (op_calibrate (xs (5 * i + 1))) (W := fun H => M_L_calibrate (some 1) (xs (5 * i + 1)) (some 50) H) (fun H => rfl) (fun q t H w => hE2 1 1 3 2 w) I
  refine ⟨h1, K1, m1, I1, ?_⟩
  unfold B_L_law_23
  refine (turn_head hL hi e).trans ?_
  refine (if_neg (show ¬ nI 7 < (0 : Int32) by decide)).trans ?_
  refine (if_neg (show ¬ nI 7 = (0 : Int32) by decide)).trans ?_
  refine (if_neg (show ¬ nI 7 = (1 : Int32) by decide)).trans ?_
  refine (if_neg (show ¬ nI 7 = (2 : Int32) by decide)).trans ?_
  refine (if_neg (show ¬ nI 7 = (3 : Int32) by decide)).trans ?_
  refine (if_neg (show ¬ nI 7 = (4 : Int32) by decide)).trans ?_
  refine (if_neg (show ¬ nI 7 = (5 : Int32) by decide)).trans ?_
  refine (if_neg (show ¬ nI 7 = (6 : Int32) by decide)).trans ?_
  refine (if_pos rfl).trans ?_
  simp only [x_bnd, pl1, sl1 hL hi]
  exact (hS (fun H => B_L_law_693 L xs rc (some 1) (some 22) (some 50) (nI (5 * i)) H)).trans (fin1903 (L := L) (xs := xs))
theorem s_turn8 {L i B : Nat} {xs : Nat → Int32} {h : MH} {K m : Nat → Nat → Int32} (hL : L ≤ 2560) (hi : 5 * i + 5 ≤ L) (I : Inv B h K m) (rc : Option Nat → Option Nat → Option Nat → Int32 → MH → Res) (e : xs (5 * i) &&& (31 : Int32) = nI 8) : ∃ (h1 : MH) (K1 m1 : Nat → Nat → Int32), Inv (B + 1) h1 K1 m1 ∧ B_L_law_23 L xs rc (some 1) (some 22) (some 50) (nI (5 * i)) (st h K m) = rc (some 1) (some 22) (some 50) (nI (5 * (i + 1))) (st h1 K1 m1) := by
  obtain ⟨h1, K1, m1, I1, hS⟩ := s_case (op_flag (xs (5 * i + 1)) (xs (5 * i + 2))) (W := fun H => M_L_flag (some 1) (xs (5 * i + 1)) (xs (5 * i + 2)) (some 50) H) (fun H => rfl) (fun q t H w => hE2 1 1 2 2 w) I
  refine ⟨h1, K1, m1, I1, ?_⟩
  unfold B_L_law_23
  refine (turn_head hL hi e).trans ?_
  refine (if_neg (show ¬ nI 8 < (0 : Int32) by decide)).trans ?_
  refine (if_neg (show ¬ nI 8 = (0 : Int32) by decide)).trans ?_
  refine (if_neg (show ¬ nI 8 = (1 : Int32) by decide)).trans ?_
  refine (if_neg (show ¬ nI 8 = (2 : Int32) by decide)).trans ?_
  refine (if_neg (show ¬ nI 8 = (3 : Int32) by decide)).trans ?_
  refine (if_neg (show ¬ nI 8 = (4 : Int32) by decide)).trans ?_
  refine (if_neg (show ¬ nI 8 = (5 : Int32) by decide)).trans ?_
  refine (if_neg (show ¬ nI 8 = (6 : Int32) by decide)).trans ?_
  refine (if_neg (show ¬ nI 8 = (7 : Int32) by decide)).trans ?_
  refine (if_pos rfl).trans ?_
  simp only [x_bnd, pl1, pl2, sl1 hL hi, sl2 hL hi]
  exact (hS (fun H => B_L_law_761 L xs rc (some 1) (some 22) (some 50) (nI (5 * i)) H)).trans (fin1903 (L := L) (xs := xs))
theorem s_turn9 {L i B : Nat} {xs : Nat → Int32} {h : MH} {K m : Nat → Nat → Int32} (hL : L ≤ 2560) (hi : 5 * i + 5 ≤ L) (I : Inv B h K m) (rc : Option Nat → Option Nat → Option Nat → Int32 → MH → Res) (e : xs (5 * i) &&& (31 : Int32) = nI 9) : ∃ (h1 : MH) (K1 m1 : Nat → Nat → Int32), Inv (B + 1) h1 K1 m1 ∧ B_L_law_23 L xs rc (some 1) (some 22) (some 50) (nI (5 * i)) (st h K m) = rc (some 1) (some 22) (some 50) (nI (5 * (i + 1))) (st h1 K1 m1) := by
  obtain ⟨h1, K1, m1, I1, hS⟩ := s_case (op_bound (xs (5 * i + 1))) (W := fun H => M_L_bound (some 1) (xs (5 * i + 1)) (some 50) H) (fun H => rfl) (fun q t H w => hE1 2 1 w) I
  refine ⟨h1, K1, m1, I1, ?_⟩
  unfold B_L_law_23
  refine (turn_head hL hi e).trans ?_
  refine (if_neg (show ¬ nI 9 < (0 : Int32) by decide)).trans ?_
  refine (if_neg (show ¬ nI 9 = (0 : Int32) by decide)).trans ?_
  refine (if_neg (show ¬ nI 9 = (1 : Int32) by decide)).trans ?_
  refine (if_neg (show ¬ nI 9 = (2 : Int32) by decide)).trans ?_
  refine (if_neg (show ¬ nI 9 = (3 : Int32) by decide)).trans ?_
  refine (if_neg (show ¬ nI 9 = (4 : Int32) by decide)).trans ?_
  refine (if_neg (show ¬ nI 9 = (5 : Int32) by decide)).trans ?_
  refine (if_neg (show ¬ nI 9 = (6 : Int32) by decide)).trans ?_
  refine (if_neg (show ¬ nI 9 = (7 : Int32) by decide)).trans ?_
  refine (if_neg (show ¬ nI 9 = (8 : Int32) by decide)).trans ?_
  refine (if_pos rfl).trans ?_
  simp only [x_bnd, pl1, sl1 hL hi]
  exact (hS (fun H => B_L_law_817 L xs rc (some 1) (some 22) (some 50) (nI (5 * i)) H)).trans (fin1903 (L := L) (xs := xs))
theorem s_turn10 {L i B : Nat} {xs : Nat → Int32} {h : MH} {K m : Nat → Nat → Int32} (hL : L ≤ 2560) (hi : 5 * i + 5 ≤ L) (I : Inv B h K m) (rc : Option Nat → Option Nat → Option Nat → Int32 → MH → Res) (e : xs (5 * i) &&& (31 : Int32) = nI 10) : ∃ (h1 : MH) (K1 m1 : Nat → Nat → Int32), Inv (B + 1) h1 K1 m1 ∧ B_L_law_23 L xs rc (some 1) (some 22) (some 50) (nI (5 * i)) (st h K m) = rc (some 1) (some 22) (some 50) (nI (5 * (i + 1))) (st h1 K1 m1) := by
  obtain ⟨h1, K1, m1, I1, hS⟩ := s_case (op_search (xs (5 * i + 1))) (W := fun H => M_L_search (some 1) (xs (5 * i + 1)) (some 50) H) (fun H => rfl) (fun q t H w => hE2 1 1 3 2 w) I
  refine ⟨h1, K1, m1, I1, ?_⟩
  unfold B_L_law_23
  refine (turn_head hL hi e).trans ?_
  refine (if_neg (show ¬ nI 10 < (0 : Int32) by decide)).trans ?_
  refine (if_neg (show ¬ nI 10 = (0 : Int32) by decide)).trans ?_
  refine (if_neg (show ¬ nI 10 = (1 : Int32) by decide)).trans ?_
  refine (if_neg (show ¬ nI 10 = (2 : Int32) by decide)).trans ?_
  refine (if_neg (show ¬ nI 10 = (3 : Int32) by decide)).trans ?_
  refine (if_neg (show ¬ nI 10 = (4 : Int32) by decide)).trans ?_
  refine (if_neg (show ¬ nI 10 = (5 : Int32) by decide)).trans ?_
  refine (if_neg (show ¬ nI 10 = (6 : Int32) by decide)).trans ?_
  refine (if_neg (show ¬ nI 10 = (7 : Int32) by decide)).trans ?_
  refine (if_neg (show ¬ nI 10 = (8 : Int32) by decide)).trans ?_
  refine (if_neg (show ¬ nI 10 = (9 : Int32) by decide)).trans ?_
  refine (if_pos rfl).trans ?_
  simp only [x_bnd, pl1, sl1 hL hi]
  exact (hS (fun H => B_L_law_873 L xs rc (some 1) (some 22) (some 50) (nI (5 * i)) H)).trans (fin1903 (L := L) (xs := xs))
theorem s_turn11 {L i B : Nat} {xs : Nat → Int32} {h : MH} {K m : Nat → Nat → Int32} (hL : L ≤ 2560) (hi : 5 * i + 5 ≤ L) (I : Inv B h K m) (rc : Option Nat → Option Nat → Option Nat → Int32 → MH → Res) (e : xs (5 * i) &&& (31 : Int32) = nI 11) : ∃ (h1 : MH) (K1 m1 : Nat → Nat → Int32), Inv (B + 1) h1 K1 m1 ∧ B_L_law_23 L xs rc (some 1) (some 22) (some 50) (nI (5 * i)) (st h K m) = rc (some 1) (some 22) (some 50) (nI (5 * (i + 1))) (st h1 K1 m1) := by
  obtain ⟨h1, K1, m1, I1, hS⟩ := s_case (op_leg (xs (5 * i + 1)) (xs (5 * i + 2)) (xs (5 * i + 3))) (W := fun H => M_L_leg (some 1) (xs (5 * i + 1)) (xs (5 * i + 2)) (xs (5 * i + 3)) (some 50) H) (fun H => rfl) (fun q t H w => hE2 1 1 2 2 w) I
  refine ⟨h1, K1, m1, I1, ?_⟩
  unfold B_L_law_23
  refine (turn_head hL hi e).trans ?_
  refine (if_neg (show ¬ nI 11 < (0 : Int32) by decide)).trans ?_
  refine (if_neg (show ¬ nI 11 = (0 : Int32) by decide)).trans ?_
  refine (if_neg (show ¬ nI 11 = (1 : Int32) by decide)).trans ?_
  refine (if_neg (show ¬ nI 11 = (2 : Int32) by decide)).trans ?_
  refine (if_neg (show ¬ nI 11 = (3 : Int32) by decide)).trans ?_
  refine (if_neg (show ¬ nI 11 = (4 : Int32) by decide)).trans ?_
  refine (if_neg (show ¬ nI 11 = (5 : Int32) by decide)).trans ?_
  refine (if_neg (show ¬ nI 11 = (6 : Int32) by decide)).trans ?_
  refine (if_neg (show ¬ nI 11 = (7 : Int32) by decide)).trans ?_
  refine (if_neg (show ¬ nI 11 = (8 : Int32) by decide)).trans ?_
  refine (if_neg (show ¬ nI 11 = (9 : Int32) by decide)).trans ?_
  refine (if_neg (show ¬ nI 11 = (10 : Int32) by decide)).trans ?_
  refine (if_pos rfl).trans ?_
  simp only [x_bnd, pl1, pl2, pl3, sl1 hL hi, sl2 hL hi, sl3 hL hi]
  exact (hS (fun H => B_L_law_953 L xs rc (some 1) (some 22) (some 50) (nI (5 * i)) H)).trans (fin1903 (L := L) (xs := xs))
theorem s_turn12 {L i B : Nat} {xs : Nat → Int32} {h : MH} {K m : Nat → Nat → Int32} (hL : L ≤ 2560) (hi : 5 * i + 5 ≤ L) (I : Inv B h K m) (rc : Option Nat → Option Nat → Option Nat → Int32 → MH → Res) (e : xs (5 * i) &&& (31 : Int32) = nI 12) : ∃ (h1 : MH) (K1 m1 : Nat → Nat → Int32), Inv (B + 1) h1 K1 m1 ∧ B_L_law_23 L xs rc (some 1) (some 22) (some 50) (nI (5 * i)) (st h K m) = rc (some 1) (some 22) (some 50) (nI (5 * (i + 1))) (st h1 K1 m1) := by
  obtain ⟨h1, K1, m1, I1, hS⟩ := s_case (op_part (xs (5 * i + 1)) (xs (5 * i + 2)) (xs (5 * i + 3))) (W := fun H => M_L_part (some 1) (xs (5 * i + 1)) (xs (5 * i + 2)) (xs (5 * i + 3)) (some 50) H) (fun H => rfl) (fun q t H w => hE2 2 1 3 2 w) I
  refine ⟨h1, K1, m1, I1, ?_⟩
  unfold B_L_law_23
  refine (turn_head hL hi e).trans ?_
  refine (if_neg (show ¬ nI 12 < (0 : Int32) by decide)).trans ?_
  refine (if_neg (show ¬ nI 12 = (0 : Int32) by decide)).trans ?_
  refine (if_neg (show ¬ nI 12 = (1 : Int32) by decide)).trans ?_
  refine (if_neg (show ¬ nI 12 = (2 : Int32) by decide)).trans ?_
  refine (if_neg (show ¬ nI 12 = (3 : Int32) by decide)).trans ?_
  refine (if_neg (show ¬ nI 12 = (4 : Int32) by decide)).trans ?_
  refine (if_neg (show ¬ nI 12 = (5 : Int32) by decide)).trans ?_
  refine (if_neg (show ¬ nI 12 = (6 : Int32) by decide)).trans ?_
  refine (if_neg (show ¬ nI 12 = (7 : Int32) by decide)).trans ?_
  refine (if_neg (show ¬ nI 12 = (8 : Int32) by decide)).trans ?_
  refine (if_neg (show ¬ nI 12 = (9 : Int32) by decide)).trans ?_
  refine (if_neg (show ¬ nI 12 = (10 : Int32) by decide)).trans ?_
  refine (if_neg (show ¬ nI 12 = (11 : Int32) by decide)).trans ?_
  refine (if_pos rfl).trans ?_
  simp only [x_bnd, pl1, pl2, pl3, sl1 hL hi, sl2 hL hi, sl3 hL hi]
  exact (hS (fun H => B_L_law_1033 L xs rc (some 1) (some 22) (some 50) (nI (5 * i)) H)).trans (fin1903 (L := L) (xs := xs))
theorem s_turn13 {L i B : Nat} {xs : Nat → Int32} {h : MH} {K m : Nat → Nat → Int32} (hL : L ≤ 2560) (hi : 5 * i + 5 ≤ L) (I : Inv B h K m) (rc : Option Nat → Option Nat → Option Nat → Int32 → MH → Res) (e : xs (5 * i) &&& (31 : Int32) = nI 13) : ∃ (h1 : MH) (K1 m1 : Nat → Nat → Int32), Inv (B + 1) h1 K1 m1 ∧ B_L_law_23 L xs rc (some 1) (some 22) (some 50) (nI (5 * i)) (st h K m) = rc (some 1) (some 22) (some 50) (nI (5 * (i + 1))) (st h1 K1 m1) := by
  obtain ⟨h1, K1, m1, I1, hS⟩ := s_ask op_day I
  refine ⟨h1, K1, m1, I1, ?_⟩
  unfold B_L_law_23
  refine (turn_head hL hi e).trans ?_
  refine (if_neg (show ¬ nI 13 < (0 : Int32) by decide)).trans ?_
  refine (if_neg (show ¬ nI 13 = (0 : Int32) by decide)).trans ?_
  refine (if_neg (show ¬ nI 13 = (1 : Int32) by decide)).trans ?_
  refine (if_neg (show ¬ nI 13 = (2 : Int32) by decide)).trans ?_
  refine (if_neg (show ¬ nI 13 = (3 : Int32) by decide)).trans ?_
  refine (if_neg (show ¬ nI 13 = (4 : Int32) by decide)).trans ?_
  refine (if_neg (show ¬ nI 13 = (5 : Int32) by decide)).trans ?_
  refine (if_neg (show ¬ nI 13 = (6 : Int32) by decide)).trans ?_
  refine (if_neg (show ¬ nI 13 = (7 : Int32) by decide)).trans ?_
  refine (if_neg (show ¬ nI 13 = (8 : Int32) by decide)).trans ?_
  refine (if_neg (show ¬ nI 13 = (9 : Int32) by decide)).trans ?_
  refine (if_neg (show ¬ nI 13 = (10 : Int32) by decide)).trans ?_
  refine (if_neg (show ¬ nI 13 = (11 : Int32) by decide)).trans ?_
  refine (if_neg (show ¬ nI 13 = (12 : Int32) by decide)).trans ?_
  refine (if_pos rfl).trans ?_
  exact (hS (fun H => B_L_law_1903 L xs rc (some 1) (some 22) (some 50) (nI (5 * i)) H)).trans (fin1903 (L := L) (xs := xs))
theorem s_turn14 {L i B : Nat} {xs : Nat → Int32} {h : MH} {K m : Nat → Nat → Int32} (hL : L ≤ 2560) (hi : 5 * i + 5 ≤ L) (I : Inv B h K m) (rc : Option Nat → Option Nat → Option Nat → Int32 → MH → Res) (e : xs (5 * i) &&& (31 : Int32) = nI 14) : ∃ (h1 : MH) (K1 m1 : Nat → Nat → Int32), Inv (B + 1) h1 K1 m1 ∧ B_L_law_23 L xs rc (some 1) (some 22) (some 50) (nI (5 * i)) (st h K m) = rc (some 1) (some 22) (some 50) (nI (5 * (i + 1))) (st h1 K1 m1) := by
  obtain ⟨h1, K1, m1, I1, hS⟩ := s_case (op_ofLayer (xs (5 * i + 1)) (xs (5 * i + 2)) (xs (5 * i + 3))) (W := fun H => M_L_ofLayer (some 1) (xs (5 * i + 1)) (xs (5 * i + 2)) (xs (5 * i + 3)) (some 50) H) (fun H => rfl) (fun q t H w => hE2 1 1 2 2 w) I
  refine ⟨h1, K1, m1, I1, ?_⟩
  unfold B_L_law_23
  refine (turn_head hL hi e).trans ?_
  refine (if_neg (show ¬ nI 14 < (0 : Int32) by decide)).trans ?_
  refine (if_neg (show ¬ nI 14 = (0 : Int32) by decide)).trans ?_
  refine (if_neg (show ¬ nI 14 = (1 : Int32) by decide)).trans ?_
  refine (if_neg (show ¬ nI 14 = (2 : Int32) by decide)).trans ?_
  refine (if_neg (show ¬ nI 14 = (3 : Int32) by decide)).trans ?_
  refine (if_neg (show ¬ nI 14 = (4 : Int32) by decide)).trans ?_
  refine (if_neg (show ¬ nI 14 = (5 : Int32) by decide)).trans ?_
  refine (if_neg (show ¬ nI 14 = (6 : Int32) by decide)).trans ?_
  refine (if_neg (show ¬ nI 14 = (7 : Int32) by decide)).trans ?_
  refine (if_neg (show ¬ nI 14 = (8 : Int32) by decide)).trans ?_
  refine (if_neg (show ¬ nI 14 = (9 : Int32) by decide)).trans ?_
  refine (if_neg (show ¬ nI 14 = (10 : Int32) by decide)).trans ?_
  refine (if_neg (show ¬ nI 14 = (11 : Int32) by decide)).trans ?_
  refine (if_neg (show ¬ nI 14 = (12 : Int32) by decide)).trans ?_
  refine (if_neg (show ¬ nI 14 = (13 : Int32) by decide)).trans ?_
  refine (if_pos rfl).trans ?_
  simp only [x_bnd, pl1, pl2, pl3, sl1 hL hi, sl2 hL hi, sl3 hL hi]
  exact (hS (fun H => B_L_law_1126 L xs rc (some 1) (some 22) (some 50) (nI (5 * i)) H)).trans (fin1903 (L := L) (xs := xs))
theorem s_turn15 {L i B : Nat} {xs : Nat → Int32} {h : MH} {K m : Nat → Nat → Int32} (hL : L ≤ 2560) (hi : 5 * i + 5 ≤ L) (I : Inv B h K m) (rc : Option Nat → Option Nat → Option Nat → Int32 → MH → Res) (e : xs (5 * i) &&& (31 : Int32) = nI 15) : ∃ (h1 : MH) (K1 m1 : Nat → Nat → Int32), Inv (B + 1) h1 K1 m1 ∧ B_L_law_23 L xs rc (some 1) (some 22) (some 50) (nI (5 * i)) (st h K m) = rc (some 1) (some 22) (some 50) (nI (5 * (i + 1))) (st h1 K1 m1) := by
  obtain ⟨h1, K1, m1, I1, hS⟩ := s_case (op_total (xs (5 * i + 1))) (W := fun H => M_L_total (some 1) (xs (5 * i + 1)) (some 50) H) (fun H => rfl) (fun q t H w => hE1 2 1 w) I
  refine ⟨h1, K1, m1, I1, ?_⟩
  unfold B_L_law_23
  refine (turn_head hL hi e).trans ?_
  refine (if_neg (show ¬ nI 15 < (0 : Int32) by decide)).trans ?_
  refine (if_neg (show ¬ nI 15 = (0 : Int32) by decide)).trans ?_
  refine (if_neg (show ¬ nI 15 = (1 : Int32) by decide)).trans ?_
  refine (if_neg (show ¬ nI 15 = (2 : Int32) by decide)).trans ?_
  refine (if_neg (show ¬ nI 15 = (3 : Int32) by decide)).trans ?_
  refine (if_neg (show ¬ nI 15 = (4 : Int32) by decide)).trans ?_
  refine (if_neg (show ¬ nI 15 = (5 : Int32) by decide)).trans ?_
  refine (if_neg (show ¬ nI 15 = (6 : Int32) by decide)).trans ?_
  refine (if_neg (show ¬ nI 15 = (7 : Int32) by decide)).trans ?_
  refine (if_neg (show ¬ nI 15 = (8 : Int32) by decide)).trans ?_
  refine (if_neg (show ¬ nI 15 = (9 : Int32) by decide)).trans ?_
  refine (if_neg (show ¬ nI 15 = (10 : Int32) by decide)).trans ?_
  refine (if_neg (show ¬ nI 15 = (11 : Int32) by decide)).trans ?_
  refine (if_neg (show ¬ nI 15 = (12 : Int32) by decide)).trans ?_
  refine (if_neg (show ¬ nI 15 = (13 : Int32) by decide)).trans ?_
  refine (if_neg (show ¬ nI 15 = (14 : Int32) by decide)).trans ?_
  refine (if_pos rfl).trans ?_
  simp only [x_bnd, pl1, sl1 hL hi]
  exact (hS (fun H => B_L_law_1182 L xs rc (some 1) (some 22) (some 50) (nI (5 * i)) H)).trans (fin1903 (L := L) (xs := xs))
theorem s_turn16 {L i B : Nat} {xs : Nat → Int32} {h : MH} {K m : Nat → Nat → Int32} (hL : L ≤ 2560) (hi : 5 * i + 5 ≤ L) (I : Inv B h K m) (rc : Option Nat → Option Nat → Option Nat → Int32 → MH → Res) (e : xs (5 * i) &&& (31 : Int32) = nI 16) : ∃ (h1 : MH) (K1 m1 : Nat → Nat → Int32), Inv (B + 1) h1 K1 m1 ∧ B_L_law_23 L xs rc (some 1) (some 22) (some 50) (nI (5 * i)) (st h K m) = rc (some 1) (some 22) (some 50) (nI (5 * (i + 1))) (st h1 K1 m1) := by
  obtain ⟨h1, K1, m1, I1, hS⟩ := s_case (op_ofFloat (xs (5 * i + 1)) (xs (5 * i + 2))) (W := fun H => M_L_ofFloat (some 1) (xs (5 * i + 1)) (xs (5 * i + 2)) (some 50) H) (fun H => rfl) (fun q t H w => hE2 1 1 2 2 w) I
  refine ⟨h1, K1, m1, I1, ?_⟩
  unfold B_L_law_23
  refine (turn_head hL hi e).trans ?_
  refine (if_neg (show ¬ nI 16 < (0 : Int32) by decide)).trans ?_
  refine (if_neg (show ¬ nI 16 = (0 : Int32) by decide)).trans ?_
  refine (if_neg (show ¬ nI 16 = (1 : Int32) by decide)).trans ?_
  refine (if_neg (show ¬ nI 16 = (2 : Int32) by decide)).trans ?_
  refine (if_neg (show ¬ nI 16 = (3 : Int32) by decide)).trans ?_
  refine (if_neg (show ¬ nI 16 = (4 : Int32) by decide)).trans ?_
  refine (if_neg (show ¬ nI 16 = (5 : Int32) by decide)).trans ?_
  refine (if_neg (show ¬ nI 16 = (6 : Int32) by decide)).trans ?_
  refine (if_neg (show ¬ nI 16 = (7 : Int32) by decide)).trans ?_
  refine (if_neg (show ¬ nI 16 = (8 : Int32) by decide)).trans ?_
  refine (if_neg (show ¬ nI 16 = (9 : Int32) by decide)).trans ?_
  refine (if_neg (show ¬ nI 16 = (10 : Int32) by decide)).trans ?_
  refine (if_neg (show ¬ nI 16 = (11 : Int32) by decide)).trans ?_
  refine (if_neg (show ¬ nI 16 = (12 : Int32) by decide)).trans ?_
  refine (if_neg (show ¬ nI 16 = (13 : Int32) by decide)).trans ?_
  refine (if_neg (show ¬ nI 16 = (14 : Int32) by decide)).trans ?_
  refine (if_neg (show ¬ nI 16 = (15 : Int32) by decide)).trans ?_
  refine (if_pos rfl).trans ?_
  simp only [x_bnd, pl1, pl2, sl1 hL hi, sl2 hL hi]
  exact (hS (fun H => B_L_law_1250 L xs rc (some 1) (some 22) (some 50) (nI (5 * i)) H)).trans (fin1903 (L := L) (xs := xs))
theorem s_turn17 {L i B : Nat} {xs : Nat → Int32} {h : MH} {K m : Nat → Nat → Int32} (hL : L ≤ 2560) (hi : 5 * i + 5 ≤ L) (I : Inv B h K m) (rc : Option Nat → Option Nat → Option Nat → Int32 → MH → Res) (e : xs (5 * i) &&& (31 : Int32) = nI 17) : ∃ (h1 : MH) (K1 m1 : Nat → Nat → Int32), Inv (B + 1) h1 K1 m1 ∧ B_L_law_23 L xs rc (some 1) (some 22) (some 50) (nI (5 * i)) (st h K m) = rc (some 1) (some 22) (some 50) (nI (5 * (i + 1))) (st h1 K1 m1) := by
  obtain ⟨h1, K1, m1, I1, hS⟩ := s_ask op_stations I
  refine ⟨h1, K1, m1, I1, ?_⟩
  unfold B_L_law_23
  refine (turn_head hL hi e).trans ?_
  refine (if_neg (show ¬ nI 17 < (0 : Int32) by decide)).trans ?_
  refine (if_neg (show ¬ nI 17 = (0 : Int32) by decide)).trans ?_
  refine (if_neg (show ¬ nI 17 = (1 : Int32) by decide)).trans ?_
  refine (if_neg (show ¬ nI 17 = (2 : Int32) by decide)).trans ?_
  refine (if_neg (show ¬ nI 17 = (3 : Int32) by decide)).trans ?_
  refine (if_neg (show ¬ nI 17 = (4 : Int32) by decide)).trans ?_
  refine (if_neg (show ¬ nI 17 = (5 : Int32) by decide)).trans ?_
  refine (if_neg (show ¬ nI 17 = (6 : Int32) by decide)).trans ?_
  refine (if_neg (show ¬ nI 17 = (7 : Int32) by decide)).trans ?_
  refine (if_neg (show ¬ nI 17 = (8 : Int32) by decide)).trans ?_
  refine (if_neg (show ¬ nI 17 = (9 : Int32) by decide)).trans ?_
  refine (if_neg (show ¬ nI 17 = (10 : Int32) by decide)).trans ?_
  refine (if_neg (show ¬ nI 17 = (11 : Int32) by decide)).trans ?_
  refine (if_neg (show ¬ nI 17 = (12 : Int32) by decide)).trans ?_
  refine (if_neg (show ¬ nI 17 = (13 : Int32) by decide)).trans ?_
  refine (if_neg (show ¬ nI 17 = (14 : Int32) by decide)).trans ?_
  refine (if_neg (show ¬ nI 17 = (15 : Int32) by decide)).trans ?_
  refine (if_neg (show ¬ nI 17 = (16 : Int32) by decide)).trans ?_
  refine (if_pos rfl).trans ?_
  exact (hS (fun H => B_L_law_1903 L xs rc (some 1) (some 22) (some 50) (nI (5 * i)) H)).trans (fin1903 (L := L) (xs := xs))
theorem s_turn18 {L i B : Nat} {xs : Nat → Int32} {h : MH} {K m : Nat → Nat → Int32} (hL : L ≤ 2560) (hi : 5 * i + 5 ≤ L) (I : Inv B h K m) (rc : Option Nat → Option Nat → Option Nat → Int32 → MH → Res) (e : xs (5 * i) &&& (31 : Int32) = nI 18) : ∃ (h1 : MH) (K1 m1 : Nat → Nat → Int32), Inv (B + 1) h1 K1 m1 ∧ B_L_law_23 L xs rc (some 1) (some 22) (some 50) (nI (5 * i)) (st h K m) = rc (some 1) (some 22) (some 50) (nI (5 * (i + 1))) (st h1 K1 m1) := by
  obtain ⟨h1, K1, m1, I1, hS⟩ := s_ask op_readings I
  refine ⟨h1, K1, m1, I1, ?_⟩
  unfold B_L_law_23
  refine (turn_head hL hi e).trans ?_
  refine (if_neg (show ¬ nI 18 < (0 : Int32) by decide)).trans ?_
  refine (if_neg (show ¬ nI 18 = (0 : Int32) by decide)).trans ?_
  refine (if_neg (show ¬ nI 18 = (1 : Int32) by decide)).trans ?_
  refine (if_neg (show ¬ nI 18 = (2 : Int32) by decide)).trans ?_
  refine (if_neg (show ¬ nI 18 = (3 : Int32) by decide)).trans ?_
  refine (if_neg (show ¬ nI 18 = (4 : Int32) by decide)).trans ?_
  refine (if_neg (show ¬ nI 18 = (5 : Int32) by decide)).trans ?_
  refine (if_neg (show ¬ nI 18 = (6 : Int32) by decide)).trans ?_
  refine (if_neg (show ¬ nI 18 = (7 : Int32) by decide)).trans ?_
  refine (if_neg (show ¬ nI 18 = (8 : Int32) by decide)).trans ?_
  refine (if_neg (show ¬ nI 18 = (9 : Int32) by decide)).trans ?_
  refine (if_neg (show ¬ nI 18 = (10 : Int32) by decide)).trans ?_
  refine (if_neg (show ¬ nI 18 = (11 : Int32) by decide)).trans ?_
  refine (if_neg (show ¬ nI 18 = (12 : Int32) by decide)).trans ?_
  refine (if_neg (show ¬ nI 18 = (13 : Int32) by decide)).trans ?_
  refine (if_neg (show ¬ nI 18 = (14 : Int32) by decide)).trans ?_
  refine (if_neg (show ¬ nI 18 = (15 : Int32) by decide)).trans ?_
  refine (if_neg (show ¬ nI 18 = (16 : Int32) by decide)).trans ?_
  refine (if_neg (show ¬ nI 18 = (17 : Int32) by decide)).trans ?_
  refine (if_pos rfl).trans ?_
  exact (hS (fun H => B_L_law_1903 L xs rc (some 1) (some 22) (some 50) (nI (5 * i)) H)).trans (fin1903 (L := L) (xs := xs))
theorem s_turn19 {L i B : Nat} {xs : Nat → Int32} {h : MH} {K m : Nat → Nat → Int32} (hL : L ≤ 2560) (hi : 5 * i + 5 ≤ L) (I : Inv B h K m) (rc : Option Nat → Option Nat → Option Nat → Int32 → MH → Res) (e : xs (5 * i) &&& (31 : Int32) = nI 19) : ∃ (h1 : MH) (K1 m1 : Nat → Nat → Int32), Inv (B + 1) h1 K1 m1 ∧ B_L_law_23 L xs rc (some 1) (some 22) (some 50) (nI (5 * i)) (st h K m) = rc (some 1) (some 22) (some 50) (nI (5 * (i + 1))) (st h1 K1 m1) := by
  obtain ⟨h1, K1, m1, I1, hS⟩ := s_case (op_ofReading (xs (5 * i + 1)) (xs (5 * i + 2))) (W := fun H => M_L_ofReading (some 1) (xs (5 * i + 1)) (xs (5 * i + 2)) (some 50) H) (fun H => rfl) (fun q t H w => hE2 1 1 2 2 w) I
  refine ⟨h1, K1, m1, I1, ?_⟩
  unfold B_L_law_23
  refine (turn_head hL hi e).trans ?_
  refine (if_neg (show ¬ nI 19 < (0 : Int32) by decide)).trans ?_
  refine (if_neg (show ¬ nI 19 = (0 : Int32) by decide)).trans ?_
  refine (if_neg (show ¬ nI 19 = (1 : Int32) by decide)).trans ?_
  refine (if_neg (show ¬ nI 19 = (2 : Int32) by decide)).trans ?_
  refine (if_neg (show ¬ nI 19 = (3 : Int32) by decide)).trans ?_
  refine (if_neg (show ¬ nI 19 = (4 : Int32) by decide)).trans ?_
  refine (if_neg (show ¬ nI 19 = (5 : Int32) by decide)).trans ?_
  refine (if_neg (show ¬ nI 19 = (6 : Int32) by decide)).trans ?_
  refine (if_neg (show ¬ nI 19 = (7 : Int32) by decide)).trans ?_
  refine (if_neg (show ¬ nI 19 = (8 : Int32) by decide)).trans ?_
  refine (if_neg (show ¬ nI 19 = (9 : Int32) by decide)).trans ?_
  refine (if_neg (show ¬ nI 19 = (10 : Int32) by decide)).trans ?_
  refine (if_neg (show ¬ nI 19 = (11 : Int32) by decide)).trans ?_
  refine (if_neg (show ¬ nI 19 = (12 : Int32) by decide)).trans ?_
  refine (if_neg (show ¬ nI 19 = (13 : Int32) by decide)).trans ?_
  refine (if_neg (show ¬ nI 19 = (14 : Int32) by decide)).trans ?_
  refine (if_neg (show ¬ nI 19 = (15 : Int32) by decide)).trans ?_
  refine (if_neg (show ¬ nI 19 = (16 : Int32) by decide)).trans ?_
  refine (if_neg (show ¬ nI 19 = (17 : Int32) by decide)).trans ?_
  refine (if_neg (show ¬ nI 19 = (18 : Int32) by decide)).trans ?_
  refine (if_pos rfl).trans ?_
  simp only [x_bnd, pl1, pl2, sl1 hL hi, sl2 hL hi]
  exact (hS (fun H => B_L_law_1344 L xs rc (some 1) (some 22) (some 50) (nI (5 * i)) H)).trans (fin1903 (L := L) (xs := xs))
theorem s_turn20 {L i B : Nat} {xs : Nat → Int32} {h : MH} {K m : Nat → Nat → Int32} (hL : L ≤ 2560) (hi : 5 * i + 5 ≤ L) (I : Inv B h K m) (rc : Option Nat → Option Nat → Option Nat → Int32 → MH → Res) (e : xs (5 * i) &&& (31 : Int32) = nI 20) : ∃ (h1 : MH) (K1 m1 : Nat → Nat → Int32), Inv (B + 1) h1 K1 m1 ∧ B_L_law_23 L xs rc (some 1) (some 22) (some 50) (nI (5 * i)) (st h K m) = rc (some 1) (some 22) (some 50) (nI (5 * (i + 1))) (st h1 K1 m1) := by
  obtain ⟨h1, K1, m1, I1, hS⟩ := s_case (op_mean (xs (5 * i + 1)) (xs (5 * i + 2)) (xs (5 * i + 3))) (W := fun H => M_L_mean (some 1) (xs (5 * i + 1)) (xs (5 * i + 2)) (xs (5 * i + 3)) (some 50) H) (fun H => rfl) (fun q t H w => hE3 1 1 2 2 3 3 w) I
  refine ⟨h1, K1, m1, I1, ?_⟩
  unfold B_L_law_23
  refine (turn_head hL hi e).trans ?_
  refine (if_neg (show ¬ nI 20 < (0 : Int32) by decide)).trans ?_
  refine (if_neg (show ¬ nI 20 = (0 : Int32) by decide)).trans ?_
  refine (if_neg (show ¬ nI 20 = (1 : Int32) by decide)).trans ?_
  refine (if_neg (show ¬ nI 20 = (2 : Int32) by decide)).trans ?_
  refine (if_neg (show ¬ nI 20 = (3 : Int32) by decide)).trans ?_
  refine (if_neg (show ¬ nI 20 = (4 : Int32) by decide)).trans ?_
  refine (if_neg (show ¬ nI 20 = (5 : Int32) by decide)).trans ?_
  refine (if_neg (show ¬ nI 20 = (6 : Int32) by decide)).trans ?_
  refine (if_neg (show ¬ nI 20 = (7 : Int32) by decide)).trans ?_
  refine (if_neg (show ¬ nI 20 = (8 : Int32) by decide)).trans ?_
  refine (if_neg (show ¬ nI 20 = (9 : Int32) by decide)).trans ?_
  refine (if_neg (show ¬ nI 20 = (10 : Int32) by decide)).trans ?_
  refine (if_neg (show ¬ nI 20 = (11 : Int32) by decide)).trans ?_
  refine (if_neg (show ¬ nI 20 = (12 : Int32) by decide)).trans ?_
  refine (if_neg (show ¬ nI 20 = (13 : Int32) by decide)).trans ?_
  refine (if_neg (show ¬ nI 20 = (14 : Int32) by decide)).trans ?_
  refine (if_neg (show ¬ nI 20 = (15 : Int32) by decide)).trans ?_
  refine (if_neg (show ¬ nI 20 = (16 : Int32) by decide)).trans ?_
  refine (if_neg (show ¬ nI 20 = (17 : Int32) by decide)).trans ?_
  refine (if_neg (show ¬ nI 20 = (18 : Int32) by decide)).trans ?_
  refine (if_neg (show ¬ nI 20 = (19 : Int32) by decide)).trans ?_
  refine (if_pos rfl).trans ?_
  simp only [x_bnd, pl1, pl2, pl3, sl1 hL hi, sl2 hL hi, sl3 hL hi]
  exact (hS (fun H => B_L_law_1424 L xs rc (some 1) (some 22) (some 50) (nI (5 * i)) H)).trans (fin1903 (L := L) (xs := xs))
theorem s_turn21 {L i B : Nat} {xs : Nat → Int32} {h : MH} {K m : Nat → Nat → Int32} (hL : L ≤ 2560) (hi : 5 * i + 5 ≤ L) (I : Inv B h K m) (rc : Option Nat → Option Nat → Option Nat → Int32 → MH → Res) (e : xs (5 * i) &&& (31 : Int32) = nI 21) : ∃ (h1 : MH) (K1 m1 : Nat → Nat → Int32), Inv (B + 1) h1 K1 m1 ∧ B_L_law_23 L xs rc (some 1) (some 22) (some 50) (nI (5 * i)) (st h K m) = rc (some 1) (some 22) (some 50) (nI (5 * (i + 1))) (st h1 K1 m1) := by
  obtain ⟨h1, K1, m1, I1, hS⟩ := s_case (op_error (xs (5 * i + 1)) (xs (5 * i + 2)) (xs (5 * i + 3))) (W := fun H => M_L_error (some 1) (xs (5 * i + 1)) (xs (5 * i + 2)) (xs (5 * i + 3)) (some 50) H) (fun H => rfl) (fun q t H w => hE3 1 1 2 2 3 3 w) I
  refine ⟨h1, K1, m1, I1, ?_⟩
  unfold B_L_law_23
  refine (turn_head hL hi e).trans ?_
  refine (if_neg (show ¬ nI 21 < (0 : Int32) by decide)).trans ?_
  refine (if_neg (show ¬ nI 21 = (0 : Int32) by decide)).trans ?_
  refine (if_neg (show ¬ nI 21 = (1 : Int32) by decide)).trans ?_
  refine (if_neg (show ¬ nI 21 = (2 : Int32) by decide)).trans ?_
  refine (if_neg (show ¬ nI 21 = (3 : Int32) by decide)).trans ?_
  refine (if_neg (show ¬ nI 21 = (4 : Int32) by decide)).trans ?_
  refine (if_neg (show ¬ nI 21 = (5 : Int32) by decide)).trans ?_
  refine (if_neg (show ¬ nI 21 = (6 : Int32) by decide)).trans ?_
  refine (if_neg (show ¬ nI 21 = (7 : Int32) by decide)).trans ?_
  refine (if_neg (show ¬ nI 21 = (8 : Int32) by decide)).trans ?_
  refine (if_neg (show ¬ nI 21 = (9 : Int32) by decide)).trans ?_
  refine (if_neg (show ¬ nI 21 = (10 : Int32) by decide)).trans ?_
  refine (if_neg (show ¬ nI 21 = (11 : Int32) by decide)).trans ?_
  refine (if_neg (show ¬ nI 21 = (12 : Int32) by decide)).trans ?_
  refine (if_neg (show ¬ nI 21 = (13 : Int32) by decide)).trans ?_
  refine (if_neg (show ¬ nI 21 = (14 : Int32) by decide)).trans ?_
  refine (if_neg (show ¬ nI 21 = (15 : Int32) by decide)).trans ?_
  refine (if_neg (show ¬ nI 21 = (16 : Int32) by decide)).trans ?_
  refine (if_neg (show ¬ nI 21 = (17 : Int32) by decide)).trans ?_
  refine (if_neg (show ¬ nI 21 = (18 : Int32) by decide)).trans ?_
  refine (if_neg (show ¬ nI 21 = (19 : Int32) by decide)).trans ?_
  refine (if_neg (show ¬ nI 21 = (20 : Int32) by decide)).trans ?_
  refine (if_pos rfl).trans ?_
  simp only [x_bnd, pl1, pl2, pl3, sl1 hL hi, sl2 hL hi, sl3 hL hi]
  exact (hS (fun H => B_L_law_1504 L xs rc (some 1) (some 22) (some 50) (nI (5 * i)) H)).trans (fin1903 (L := L) (xs := xs))
theorem s_turn22 {L i B : Nat} {xs : Nat → Int32} {h : MH} {K m : Nat → Nat → Int32} (hL : L ≤ 2560) (hi : 5 * i + 5 ≤ L) (I : Inv B h K m) (rc : Option Nat → Option Nat → Option Nat → Int32 → MH → Res) (e : xs (5 * i) &&& (31 : Int32) = nI 22) : ∃ (h1 : MH) (K1 m1 : Nat → Nat → Int32), Inv (B + 1) h1 K1 m1 ∧ B_L_law_23 L xs rc (some 1) (some 22) (some 50) (nI (5 * i)) (st h K m) = rc (some 1) (some 22) (some 50) (nI (5 * (i + 1))) (st h1 K1 m1) := by
  obtain ⟨h1, K1, m1, I1, hS⟩ := s_case (op_residual (xs (5 * i + 1)) (xs (5 * i + 2))) (W := fun H => M_L_residual (some 1) (xs (5 * i + 1)) (xs (5 * i + 2)) (some 50) H) (fun H => rfl) (fun q t H w => hE3 1 1 2 2 3 3 w) I
  refine ⟨h1, K1, m1, I1, ?_⟩
  unfold B_L_law_23
  refine (turn_head hL hi e).trans ?_
  refine (if_neg (show ¬ nI 22 < (0 : Int32) by decide)).trans ?_
  refine (if_neg (show ¬ nI 22 = (0 : Int32) by decide)).trans ?_
  refine (if_neg (show ¬ nI 22 = (1 : Int32) by decide)).trans ?_
  refine (if_neg (show ¬ nI 22 = (2 : Int32) by decide)).trans ?_
  refine (if_neg (show ¬ nI 22 = (3 : Int32) by decide)).trans ?_
  refine (if_neg (show ¬ nI 22 = (4 : Int32) by decide)).trans ?_
  refine (if_neg (show ¬ nI 22 = (5 : Int32) by decide)).trans ?_
  refine (if_neg (show ¬ nI 22 = (6 : Int32) by decide)).trans ?_
  refine (if_neg (show ¬ nI 22 = (7 : Int32) by decide)).trans ?_
  refine (if_neg (show ¬ nI 22 = (8 : Int32) by decide)).trans ?_
  refine (if_neg (show ¬ nI 22 = (9 : Int32) by decide)).trans ?_
  refine (if_neg (show ¬ nI 22 = (10 : Int32) by decide)).trans ?_
  refine (if_neg (show ¬ nI 22 = (11 : Int32) by decide)).trans ?_
  refine (if_neg (show ¬ nI 22 = (12 : Int32) by decide)).trans ?_
  refine (if_neg (show ¬ nI 22 = (13 : Int32) by decide)).trans ?_
  refine (if_neg (show ¬ nI 22 = (14 : Int32) by decide)).trans ?_
  refine (if_neg (show ¬ nI 22 = (15 : Int32) by decide)).trans ?_
  refine (if_neg (show ¬ nI 22 = (16 : Int32) by decide)).trans ?_
  refine (if_neg (show ¬ nI 22 = (17 : Int32) by decide)).trans ?_
  refine (if_neg (show ¬ nI 22 = (18 : Int32) by decide)).trans ?_
  refine (if_neg (show ¬ nI 22 = (19 : Int32) by decide)).trans ?_
  refine (if_neg (show ¬ nI 22 = (20 : Int32) by decide)).trans ?_
  refine (if_neg (show ¬ nI 22 = (21 : Int32) by decide)).trans ?_
  refine (if_pos rfl).trans ?_
  simp only [x_bnd, pl1, pl2, sl1 hL hi, sl2 hL hi]
  exact (hS (fun H => B_L_law_1572 L xs rc (some 1) (some 22) (some 50) (nI (5 * i)) H)).trans (fin1903 (L := L) (xs := xs))
theorem s_turn23 {L i B : Nat} {xs : Nat → Int32} {h : MH} {K m : Nat → Nat → Int32} (hL : L ≤ 2560) (hi : 5 * i + 5 ≤ L) (I : Inv B h K m) (rc : Option Nat → Option Nat → Option Nat → Int32 → MH → Res) (e : xs (5 * i) &&& (31 : Int32) = nI 23) : ∃ (h1 : MH) (K1 m1 : Nat → Nat → Int32), Inv (B + 1) h1 K1 m1 ∧ B_L_law_23 L xs rc (some 1) (some 22) (some 50) (nI (5 * i)) (st h K m) = rc (some 1) (some 22) (some 50) (nI (5 * (i + 1))) (st h1 K1 m1) := by
  obtain ⟨h1, K1, m1, I1, hS⟩ := s_case (op_chance (xs (5 * i + 1)) (xs (5 * i + 2))) (W := fun H => M_L_chance (some 1) (xs (5 * i + 1)) (xs (5 * i + 2)) (some 50) H) (fun H => rfl) (fun q t H w => hE1 1 1 w) I
  refine ⟨h1, K1, m1, I1, ?_⟩
  unfold B_L_law_23
  refine (turn_head hL hi e).trans ?_
  refine (if_neg (show ¬ nI 23 < (0 : Int32) by decide)).trans ?_
  refine (if_neg (show ¬ nI 23 = (0 : Int32) by decide)).trans ?_
  refine (if_neg (show ¬ nI 23 = (1 : Int32) by decide)).trans ?_
  refine (if_neg (show ¬ nI 23 = (2 : Int32) by decide)).trans ?_
  refine (if_neg (show ¬ nI 23 = (3 : Int32) by decide)).trans ?_
  refine (if_neg (show ¬ nI 23 = (4 : Int32) by decide)).trans ?_
  refine (if_neg (show ¬ nI 23 = (5 : Int32) by decide)).trans ?_
  refine (if_neg (show ¬ nI 23 = (6 : Int32) by decide)).trans ?_
  refine (if_neg (show ¬ nI 23 = (7 : Int32) by decide)).trans ?_
  refine (if_neg (show ¬ nI 23 = (8 : Int32) by decide)).trans ?_
  refine (if_neg (show ¬ nI 23 = (9 : Int32) by decide)).trans ?_
  refine (if_neg (show ¬ nI 23 = (10 : Int32) by decide)).trans ?_
  refine (if_neg (show ¬ nI 23 = (11 : Int32) by decide)).trans ?_
  refine (if_neg (show ¬ nI 23 = (12 : Int32) by decide)).trans ?_
  refine (if_neg (show ¬ nI 23 = (13 : Int32) by decide)).trans ?_
  refine (if_neg (show ¬ nI 23 = (14 : Int32) by decide)).trans ?_
  refine (if_neg (show ¬ nI 23 = (15 : Int32) by decide)).trans ?_
  refine (if_neg (show ¬ nI 23 = (16 : Int32) by decide)).trans ?_
  refine (if_neg (show ¬ nI 23 = (17 : Int32) by decide)).trans ?_
  refine (if_neg (show ¬ nI 23 = (18 : Int32) by decide)).trans ?_
  refine (if_neg (show ¬ nI 23 = (19 : Int32) by decide)).trans ?_
  refine (if_neg (show ¬ nI 23 = (20 : Int32) by decide)).trans ?_
  refine (if_neg (show ¬ nI 23 = (21 : Int32) by decide)).trans ?_
  refine (if_neg (show ¬ nI 23 = (22 : Int32) by decide)).trans ?_
  refine (if_pos rfl).trans ?_
  simp only [x_bnd, pl1, pl2, sl1 hL hi, sl2 hL hi]
  exact (hS (fun H => B_L_law_1640 L xs rc (some 1) (some 22) (some 50) (nI (5 * i)) H)).trans (fin1903 (L := L) (xs := xs))
theorem s_turn24 {L i B : Nat} {xs : Nat → Int32} {h : MH} {K m : Nat → Nat → Int32} (hL : L ≤ 2560) (hi : 5 * i + 5 ≤ L) (I : Inv B h K m) (rc : Option Nat → Option Nat → Option Nat → Int32 → MH → Res) (e : xs (5 * i) &&& (31 : Int32) = nI 24) : ∃ (h1 : MH) (K1 m1 : Nat → Nat → Int32), Inv (B + 1) h1 K1 m1 ∧ B_L_law_23 L xs rc (some 1) (some 22) (some 50) (nI (5 * i)) (st h K m) = rc (some 1) (some 22) (some 50) (nI (5 * (i + 1))) (st h1 K1 m1) := by
  obtain ⟨h1, K1, m1, I1, hS⟩ := s_case (op_best (xs (5 * i + 1))) (W := fun H => M_L_best (some 1) (xs (5 * i + 1)) (some 50) H) (fun H => rfl) (fun q t H w => hE1 1 1 w) I
  refine ⟨h1, K1, m1, I1, ?_⟩
  unfold B_L_law_23
  refine (turn_head hL hi e).trans ?_
  refine (if_neg (show ¬ nI 24 < (0 : Int32) by decide)).trans ?_
  refine (if_neg (show ¬ nI 24 = (0 : Int32) by decide)).trans ?_
  refine (if_neg (show ¬ nI 24 = (1 : Int32) by decide)).trans ?_
  refine (if_neg (show ¬ nI 24 = (2 : Int32) by decide)).trans ?_
  refine (if_neg (show ¬ nI 24 = (3 : Int32) by decide)).trans ?_
  refine (if_neg (show ¬ nI 24 = (4 : Int32) by decide)).trans ?_
  refine (if_neg (show ¬ nI 24 = (5 : Int32) by decide)).trans ?_
  refine (if_neg (show ¬ nI 24 = (6 : Int32) by decide)).trans ?_
  refine (if_neg (show ¬ nI 24 = (7 : Int32) by decide)).trans ?_
  refine (if_neg (show ¬ nI 24 = (8 : Int32) by decide)).trans ?_
  refine (if_neg (show ¬ nI 24 = (9 : Int32) by decide)).trans ?_
  refine (if_neg (show ¬ nI 24 = (10 : Int32) by decide)).trans ?_
  refine (if_neg (show ¬ nI 24 = (11 : Int32) by decide)).trans ?_
  refine (if_neg (show ¬ nI 24 = (12 : Int32) by decide)).trans ?_
  refine (if_neg (show ¬ nI 24 = (13 : Int32) by decide)).trans ?_
  refine (if_neg (show ¬ nI 24 = (14 : Int32) by decide)).trans ?_
  refine (if_neg (show ¬ nI 24 = (15 : Int32) by decide)).trans ?_
  refine (if_neg (show ¬ nI 24 = (16 : Int32) by decide)).trans ?_
  refine (if_neg (show ¬ nI 24 = (17 : Int32) by decide)).trans ?_
  refine (if_neg (show ¬ nI 24 = (18 : Int32) by decide)).trans ?_
  refine (if_neg (show ¬ nI 24 = (19 : Int32) by decide)).trans ?_
  refine (if_neg (show ¬ nI 24 = (20 : Int32) by decide)).trans ?_
  refine (if_neg (show ¬ nI 24 = (21 : Int32) by decide)).trans ?_
  refine (if_neg (show ¬ nI 24 = (22 : Int32) by decide)).trans ?_
  refine (if_neg (show ¬ nI 24 = (23 : Int32) by decide)).trans ?_
  refine (if_pos rfl).trans ?_
  simp only [x_bnd, pl1, sl1 hL hi]
  exact (hS (fun H => B_L_law_1696 L xs rc (some 1) (some 22) (some 50) (nI (5 * i)) H)).trans (fin1903 (L := L) (xs := xs))
theorem s_turn25 {L i B : Nat} {xs : Nat → Int32} {h : MH} {K m : Nat → Nat → Int32} (hL : L ≤ 2560) (hi : 5 * i + 5 ≤ L) (I : Inv B h K m) (rc : Option Nat → Option Nat → Option Nat → Int32 → MH → Res) (e : xs (5 * i) &&& (31 : Int32) = nI 25) : ∃ (h1 : MH) (K1 m1 : Nat → Nat → Int32), Inv (B + 1) h1 K1 m1 ∧ B_L_law_23 L xs rc (some 1) (some 22) (some 50) (nI (5 * i)) (st h K m) = rc (some 1) (some 22) (some 50) (nI (5 * (i + 1))) (st h1 K1 m1) := by
  obtain ⟨h1, K1, m1, I1, hS⟩ := s_case (op_plan (xs (5 * i + 1)) (xs (5 * i + 2)) (xs (5 * i + 3))) (W := fun H => M_L_plan (some 1) (xs (5 * i + 1)) (xs (5 * i + 2)) (xs (5 * i + 3)) (some 50) H) (fun H => rfl) (fun q t H w => hE2 1 1 2 2 w) I
  refine ⟨h1, K1, m1, I1, ?_⟩
  unfold B_L_law_23
  refine (turn_head hL hi e).trans ?_
  refine (if_neg (show ¬ nI 25 < (0 : Int32) by decide)).trans ?_
  refine (if_neg (show ¬ nI 25 = (0 : Int32) by decide)).trans ?_
  refine (if_neg (show ¬ nI 25 = (1 : Int32) by decide)).trans ?_
  refine (if_neg (show ¬ nI 25 = (2 : Int32) by decide)).trans ?_
  refine (if_neg (show ¬ nI 25 = (3 : Int32) by decide)).trans ?_
  refine (if_neg (show ¬ nI 25 = (4 : Int32) by decide)).trans ?_
  refine (if_neg (show ¬ nI 25 = (5 : Int32) by decide)).trans ?_
  refine (if_neg (show ¬ nI 25 = (6 : Int32) by decide)).trans ?_
  refine (if_neg (show ¬ nI 25 = (7 : Int32) by decide)).trans ?_
  refine (if_neg (show ¬ nI 25 = (8 : Int32) by decide)).trans ?_
  refine (if_neg (show ¬ nI 25 = (9 : Int32) by decide)).trans ?_
  refine (if_neg (show ¬ nI 25 = (10 : Int32) by decide)).trans ?_
  refine (if_neg (show ¬ nI 25 = (11 : Int32) by decide)).trans ?_
  refine (if_neg (show ¬ nI 25 = (12 : Int32) by decide)).trans ?_
  refine (if_neg (show ¬ nI 25 = (13 : Int32) by decide)).trans ?_
  refine (if_neg (show ¬ nI 25 = (14 : Int32) by decide)).trans ?_
  refine (if_neg (show ¬ nI 25 = (15 : Int32) by decide)).trans ?_
  refine (if_neg (show ¬ nI 25 = (16 : Int32) by decide)).trans ?_
  refine (if_neg (show ¬ nI 25 = (17 : Int32) by decide)).trans ?_
  refine (if_neg (show ¬ nI 25 = (18 : Int32) by decide)).trans ?_
  refine (if_neg (show ¬ nI 25 = (19 : Int32) by decide)).trans ?_
  refine (if_neg (show ¬ nI 25 = (20 : Int32) by decide)).trans ?_
  refine (if_neg (show ¬ nI 25 = (21 : Int32) by decide)).trans ?_
  refine (if_neg (show ¬ nI 25 = (22 : Int32) by decide)).trans ?_
  refine (if_neg (show ¬ nI 25 = (23 : Int32) by decide)).trans ?_
  refine (if_neg (show ¬ nI 25 = (24 : Int32) by decide)).trans ?_
  refine (if_pos rfl).trans ?_
  simp only [x_bnd, pl1, pl2, pl3, sl1 hL hi, sl2 hL hi, sl3 hL hi]
  exact (hS (fun H => B_L_law_1776 L xs rc (some 1) (some 22) (some 50) (nI (5 * i)) H)).trans (fin1903 (L := L) (xs := xs))
theorem s_turn26 {L i B : Nat} {xs : Nat → Int32} {h : MH} {K m : Nat → Nat → Int32} (hL : L ≤ 2560) (hi : 5 * i + 5 ≤ L) (I : Inv B h K m) (rc : Option Nat → Option Nat → Option Nat → Int32 → MH → Res) (e : xs (5 * i) &&& (31 : Int32) = nI 26) : ∃ (h1 : MH) (K1 m1 : Nat → Nat → Int32), Inv (B + 1) h1 K1 m1 ∧ B_L_law_23 L xs rc (some 1) (some 22) (some 50) (nI (5 * i)) (st h K m) = rc (some 1) (some 22) (some 50) (nI (5 * (i + 1))) (st h1 K1 m1) := by
  obtain ⟨h1, K1, m1, I1, hS⟩ := s_case (op_tide (xs (5 * i + 1))) (W := fun H => M_L_tide (some 1) (xs (5 * i + 1)) (some 50) H) (fun H => rfl) (fun q t H w => hE1 2 1 w) I
  refine ⟨h1, K1, m1, I1, ?_⟩
  unfold B_L_law_23
  refine (turn_head hL hi e).trans ?_
  refine (if_neg (show ¬ nI 26 < (0 : Int32) by decide)).trans ?_
  refine (if_neg (show ¬ nI 26 = (0 : Int32) by decide)).trans ?_
  refine (if_neg (show ¬ nI 26 = (1 : Int32) by decide)).trans ?_
  refine (if_neg (show ¬ nI 26 = (2 : Int32) by decide)).trans ?_
  refine (if_neg (show ¬ nI 26 = (3 : Int32) by decide)).trans ?_
  refine (if_neg (show ¬ nI 26 = (4 : Int32) by decide)).trans ?_
  refine (if_neg (show ¬ nI 26 = (5 : Int32) by decide)).trans ?_
  refine (if_neg (show ¬ nI 26 = (6 : Int32) by decide)).trans ?_
  refine (if_neg (show ¬ nI 26 = (7 : Int32) by decide)).trans ?_
  refine (if_neg (show ¬ nI 26 = (8 : Int32) by decide)).trans ?_
  refine (if_neg (show ¬ nI 26 = (9 : Int32) by decide)).trans ?_
  refine (if_neg (show ¬ nI 26 = (10 : Int32) by decide)).trans ?_
  refine (if_neg (show ¬ nI 26 = (11 : Int32) by decide)).trans ?_
  refine (if_neg (show ¬ nI 26 = (12 : Int32) by decide)).trans ?_
  refine (if_neg (show ¬ nI 26 = (13 : Int32) by decide)).trans ?_
  refine (if_neg (show ¬ nI 26 = (14 : Int32) by decide)).trans ?_
  refine (if_neg (show ¬ nI 26 = (15 : Int32) by decide)).trans ?_
  refine (if_neg (show ¬ nI 26 = (16 : Int32) by decide)).trans ?_
  refine (if_neg (show ¬ nI 26 = (17 : Int32) by decide)).trans ?_
  refine (if_neg (show ¬ nI 26 = (18 : Int32) by decide)).trans ?_
  refine (if_neg (show ¬ nI 26 = (19 : Int32) by decide)).trans ?_
  refine (if_neg (show ¬ nI 26 = (20 : Int32) by decide)).trans ?_
  refine (if_neg (show ¬ nI 26 = (21 : Int32) by decide)).trans ?_
  refine (if_neg (show ¬ nI 26 = (22 : Int32) by decide)).trans ?_
  refine (if_neg (show ¬ nI 26 = (23 : Int32) by decide)).trans ?_
  refine (if_neg (show ¬ nI 26 = (24 : Int32) by decide)).trans ?_
  refine (if_neg (show ¬ nI 26 = (25 : Int32) by decide)).trans ?_
  refine (if_pos rfl).trans ?_
  simp only [x_bnd, pl1, sl1 hL hi]
  exact (hS (fun H => B_L_law_1832 L xs rc (some 1) (some 22) (some 50) (nI (5 * i)) H)).trans (fin1903 (L := L) (xs := xs))
theorem s_turn27 {L i B : Nat} {xs : Nat → Int32} {h : MH} {K m : Nat → Nat → Int32} (hL : L ≤ 2560) (hi : 5 * i + 5 ≤ L) (I : Inv B h K m) (rc : Option Nat → Option Nat → Option Nat → Int32 → MH → Res) (e : xs (5 * i) &&& (31 : Int32) = nI 27) : ∃ (h1 : MH) (K1 m1 : Nat → Nat → Int32), Inv (B + 1) h1 K1 m1 ∧ B_L_law_23 L xs rc (some 1) (some 22) (some 50) (nI (5 * i)) (st h K m) = rc (some 1) (some 22) (some 50) (nI (5 * (i + 1))) (st h1 K1 m1) := by
  obtain ⟨h1, K1, m1, I1, hS⟩ := s_case (op_highest (xs (5 * i + 1)) (xs (5 * i + 2))) (W := fun H => M_L_highest (some 1) (xs (5 * i + 1)) (xs (5 * i + 2)) (some 50) H) (fun H => rfl) (fun q t H w => hE1 2 1 w) I
  refine ⟨h1, K1, m1, I1, ?_⟩
  unfold B_L_law_23
  refine (turn_head hL hi e).trans ?_
  refine (if_neg (show ¬ nI 27 < (0 : Int32) by decide)).trans ?_
  refine (if_neg (show ¬ nI 27 = (0 : Int32) by decide)).trans ?_
  refine (if_neg (show ¬ nI 27 = (1 : Int32) by decide)).trans ?_
  refine (if_neg (show ¬ nI 27 = (2 : Int32) by decide)).trans ?_
  refine (if_neg (show ¬ nI 27 = (3 : Int32) by decide)).trans ?_
  refine (if_neg (show ¬ nI 27 = (4 : Int32) by decide)).trans ?_
  refine (if_neg (show ¬ nI 27 = (5 : Int32) by decide)).trans ?_
  refine (if_neg (show ¬ nI 27 = (6 : Int32) by decide)).trans ?_
  refine (if_neg (show ¬ nI 27 = (7 : Int32) by decide)).trans ?_
  refine (if_neg (show ¬ nI 27 = (8 : Int32) by decide)).trans ?_
  refine (if_neg (show ¬ nI 27 = (9 : Int32) by decide)).trans ?_
  refine (if_neg (show ¬ nI 27 = (10 : Int32) by decide)).trans ?_
  refine (if_neg (show ¬ nI 27 = (11 : Int32) by decide)).trans ?_
  refine (if_neg (show ¬ nI 27 = (12 : Int32) by decide)).trans ?_
  refine (if_neg (show ¬ nI 27 = (13 : Int32) by decide)).trans ?_
  refine (if_neg (show ¬ nI 27 = (14 : Int32) by decide)).trans ?_
  refine (if_neg (show ¬ nI 27 = (15 : Int32) by decide)).trans ?_
  refine (if_neg (show ¬ nI 27 = (16 : Int32) by decide)).trans ?_
  refine (if_neg (show ¬ nI 27 = (17 : Int32) by decide)).trans ?_
  refine (if_neg (show ¬ nI 27 = (18 : Int32) by decide)).trans ?_
  refine (if_neg (show ¬ nI 27 = (19 : Int32) by decide)).trans ?_
  refine (if_neg (show ¬ nI 27 = (20 : Int32) by decide)).trans ?_
  refine (if_neg (show ¬ nI 27 = (21 : Int32) by decide)).trans ?_
  refine (if_neg (show ¬ nI 27 = (22 : Int32) by decide)).trans ?_
  refine (if_neg (show ¬ nI 27 = (23 : Int32) by decide)).trans ?_
  refine (if_neg (show ¬ nI 27 = (24 : Int32) by decide)).trans ?_
  refine (if_neg (show ¬ nI 27 = (25 : Int32) by decide)).trans ?_
  refine (if_neg (show ¬ nI 27 = (26 : Int32) by decide)).trans ?_
  refine (if_pos rfl).trans ?_
  simp only [x_bnd, pl1, pl2, sl1 hL hi, sl2 hL hi]
  exact (hS (fun H => B_L_law_1900 L xs rc (some 1) (some 22) (some 50) (nI (5 * i)) H)).trans (fin1903 (L := L) (xs := xs))
theorem s_turn99 {L i B : Nat} {xs : Nat → Int32} {h : MH} {K m : Nat → Nat → Int32} (hL : L ≤ 2560) (hi : 5 * i + 5 ≤ L) (I : Inv B h K m) (rc : Option Nat → Option Nat → Option Nat → Int32 → MH → Res) (q : Nat) (hq : 28 ≤ q ∧ q < 32) (e : xs (5 * i) &&& (31 : Int32) = nI q) : ∃ (h1 : MH) (K1 m1 : Nat → Nat → Int32), Inv (B + 1) h1 K1 m1 ∧ B_L_law_23 L xs rc (some 1) (some 22) (some 50) (nI (5 * i)) (st h K m) = rc (some 1) (some 22) (some 50) (nI (5 * (i + 1))) (st h1 K1 m1) := by
  refine ⟨h, K, m, I.up, ?_⟩
  unfold B_L_law_23
  refine (turn_head hL hi e).trans ?_
  refine (if_neg (show ¬ nI q < (0 : Int32) by rw [i_nlt]; exact nI_pos' (by omega))).trans ?_
  refine (if_neg (show ¬ nI q = (0 : Int32) from fun z => by have := (nI_eq (by omega) (by omega)).mp (show nI q = nI 0 from z); omega)).trans ?_
  refine (if_neg (show ¬ nI q = (1 : Int32) from fun z => by have := (nI_eq (by omega) (by omega)).mp (show nI q = nI 1 from z); omega)).trans ?_
  refine (if_neg (show ¬ nI q = (2 : Int32) from fun z => by have := (nI_eq (by omega) (by omega)).mp (show nI q = nI 2 from z); omega)).trans ?_
  refine (if_neg (show ¬ nI q = (3 : Int32) from fun z => by have := (nI_eq (by omega) (by omega)).mp (show nI q = nI 3 from z); omega)).trans ?_
  refine (if_neg (show ¬ nI q = (4 : Int32) from fun z => by have := (nI_eq (by omega) (by omega)).mp (show nI q = nI 4 from z); omega)).trans ?_
  refine (if_neg (show ¬ nI q = (5 : Int32) from fun z => by have := (nI_eq (by omega) (by omega)).mp (show nI q = nI 5 from z); omega)).trans ?_
  refine (if_neg (show ¬ nI q = (6 : Int32) from fun z => by have := (nI_eq (by omega) (by omega)).mp (show nI q = nI 6 from z); omega)).trans ?_
  refine (if_neg (show ¬ nI q = (7 : Int32) from fun z => by have := (nI_eq (by omega) (by omega)).mp (show nI q = nI 7 from z); omega)).trans ?_
  refine (if_neg (show ¬ nI q = (8 : Int32) from fun z => by have := (nI_eq (by omega) (by omega)).mp (show nI q = nI 8 from z); omega)).trans ?_
  refine (if_neg (show ¬ nI q = (9 : Int32) from fun z => by have := (nI_eq (by omega) (by omega)).mp (show nI q = nI 9 from z); omega)).trans ?_
  refine (if_neg (show ¬ nI q = (10 : Int32) from fun z => by have := (nI_eq (by omega) (by omega)).mp (show nI q = nI 10 from z); omega)).trans ?_
  refine (if_neg (show ¬ nI q = (11 : Int32) from fun z => by have := (nI_eq (by omega) (by omega)).mp (show nI q = nI 11 from z); omega)).trans ?_
  refine (if_neg (show ¬ nI q = (12 : Int32) from fun z => by have := (nI_eq (by omega) (by omega)).mp (show nI q = nI 12 from z); omega)).trans ?_
  refine (if_neg (show ¬ nI q = (13 : Int32) from fun z => by have := (nI_eq (by omega) (by omega)).mp (show nI q = nI 13 from z); omega)).trans ?_
  refine (if_neg (show ¬ nI q = (14 : Int32) from fun z => by have := (nI_eq (by omega) (by omega)).mp (show nI q = nI 14 from z); omega)).trans ?_
  refine (if_neg (show ¬ nI q = (15 : Int32) from fun z => by have := (nI_eq (by omega) (by omega)).mp (show nI q = nI 15 from z); omega)).trans ?_
  refine (if_neg (show ¬ nI q = (16 : Int32) from fun z => by have := (nI_eq (by omega) (by omega)).mp (show nI q = nI 16 from z); omega)).trans ?_
  refine (if_neg (show ¬ nI q = (17 : Int32) from fun z => by have := (nI_eq (by omega) (by omega)).mp (show nI q = nI 17 from z); omega)).trans ?_
  refine (if_neg (show ¬ nI q = (18 : Int32) from fun z => by have := (nI_eq (by omega) (by omega)).mp (show nI q = nI 18 from z); omega)).trans ?_
  refine (if_neg (show ¬ nI q = (19 : Int32) from fun z => by have := (nI_eq (by omega) (by omega)).mp (show nI q = nI 19 from z); omega)).trans ?_
  refine (if_neg (show ¬ nI q = (20 : Int32) from fun z => by have := (nI_eq (by omega) (by omega)).mp (show nI q = nI 20 from z); omega)).trans ?_
  refine (if_neg (show ¬ nI q = (21 : Int32) from fun z => by have := (nI_eq (by omega) (by omega)).mp (show nI q = nI 21 from z); omega)).trans ?_
  refine (if_neg (show ¬ nI q = (22 : Int32) from fun z => by have := (nI_eq (by omega) (by omega)).mp (show nI q = nI 22 from z); omega)).trans ?_
  refine (if_neg (show ¬ nI q = (23 : Int32) from fun z => by have := (nI_eq (by omega) (by omega)).mp (show nI q = nI 23 from z); omega)).trans ?_
  refine (if_neg (show ¬ nI q = (24 : Int32) from fun z => by have := (nI_eq (by omega) (by omega)).mp (show nI q = nI 24 from z); omega)).trans ?_
  refine (if_neg (show ¬ nI q = (25 : Int32) from fun z => by have := (nI_eq (by omega) (by omega)).mp (show nI q = nI 25 from z); omega)).trans ?_
  refine (if_neg (show ¬ nI q = (26 : Int32) from fun z => by have := (nI_eq (by omega) (by omega)).mp (show nI q = nI 26 from z); omega)).trans ?_
  refine (if_neg (show ¬ nI q = (27 : Int32) from fun z => by have := (nI_eq (by omega) (by omega)).mp (show nI q = nI 27 from z); omega)).trans ?_
  exact fin1903 (L := L) (xs := xs)
theorem s_turn {L i B : Nat} {xs : Nat → Int32} {h : MH} {K m : Nat → Nat → Int32} (hL : L ≤ 2560) (hi : 5 * i + 5 ≤ L) (I : Inv B h K m) (rc : Option Nat → Option Nat → Option Nat → Int32 → MH → Res) : ∃ (h1 : MH) (K1 m1 : Nat → Nat → Int32), Inv (B + 1) h1 K1 m1 ∧ B_L_law_23 L xs rc (some 1) (some 22) (some 50) (nI (5 * i)) (st h K m) = rc (some 1) (some 22) (some 50) (nI (5 * (i + 1))) (st h1 K1 m1) := by
  obtain ⟨j, hj, e⟩ := pk_andE (xs (5 * i)) (m := 31) 5 (by decide)
  have hj2 : j < 32 := hj
  by_cases q0 : j = 0
  · rw [q0] at e; exact s_turn0 hL hi I rc e
  by_cases q1 : j = 1
  · rw [q1] at e; exact s_turn1 hL hi I rc e
  by_cases q2 : j = 2
  · rw [q2] at e; exact s_turn2 hL hi I rc e
  by_cases q3 : j = 3
  · rw [q3] at e; exact s_turn3 hL hi I rc e
  by_cases q4 : j = 4
  · rw [q4] at e; exact s_turn4 hL hi I rc e
  by_cases q5 : j = 5
  · rw [q5] at e; exact s_turn5 hL hi I rc e
  by_cases q6 : j = 6
  · rw [q6] at e; exact s_turn6 hL hi I rc e
  by_cases q7 : j = 7
  · rw [q7] at e; exact s_turn7 hL hi I rc e
  by_cases q8 : j = 8
  · rw [q8] at e; exact s_turn8 hL hi I rc e
  by_cases q9 : j = 9
  · rw [q9] at e; exact s_turn9 hL hi I rc e
  by_cases q10 : j = 10
  · rw [q10] at e; exact s_turn10 hL hi I rc e
  by_cases q11 : j = 11
  · rw [q11] at e; exact s_turn11 hL hi I rc e
  by_cases q12 : j = 12
  · rw [q12] at e; exact s_turn12 hL hi I rc e
  by_cases q13 : j = 13
  · rw [q13] at e; exact s_turn13 hL hi I rc e
  by_cases q14 : j = 14
  · rw [q14] at e; exact s_turn14 hL hi I rc e
  by_cases q15 : j = 15
  · rw [q15] at e; exact s_turn15 hL hi I rc e
  by_cases q16 : j = 16
  · rw [q16] at e; exact s_turn16 hL hi I rc e
  by_cases q17 : j = 17
  · rw [q17] at e; exact s_turn17 hL hi I rc e
  by_cases q18 : j = 18
  · rw [q18] at e; exact s_turn18 hL hi I rc e
  by_cases q19 : j = 19
  · rw [q19] at e; exact s_turn19 hL hi I rc e
  by_cases q20 : j = 20
  · rw [q20] at e; exact s_turn20 hL hi I rc e
  by_cases q21 : j = 21
  · rw [q21] at e; exact s_turn21 hL hi I rc e
  by_cases q22 : j = 22
  · rw [q22] at e; exact s_turn22 hL hi I rc e
  by_cases q23 : j = 23
  · rw [q23] at e; exact s_turn23 hL hi I rc e
  by_cases q24 : j = 24
  · rw [q24] at e; exact s_turn24 hL hi I rc e
  by_cases q25 : j = 25
  · rw [q25] at e; exact s_turn25 hL hi I rc e
  by_cases q26 : j = 26
  · rw [q26] at e; exact s_turn26 hL hi I rc e
  by_cases q27 : j = 27
  · rw [q27] at e; exact s_turn27 hL hi I rc e
  exact s_turn99 hL hi I rc j (by omega) e
