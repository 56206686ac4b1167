/-! the law's way to put a float right -/
theorem ab_nI2 {x y : Nat} (hx : x < 1000000) (hy : y < 1000000) : ab (nI x - nI y) = nI (apd x y) := by
  have e : (0 ≤ nI x - nI y) = (y ≤ x) := by
    rw [i_le, pk_sub_toInt (by omega) (by omega), show (0 : Int32).toInt = 0 from by decide]
    exact propext (by omega)
  unfold ab apd
  by_cases q : y ≤ x
  · rw [if_pos (by rw [e]; exact q), pk_sub q, show x - y + (y - x) = x - y by omega]
  · rw [if_neg (by rw [e]; exact q), Int32.zero_sub, Int32.neg_sub, pk_sub (by omega), show x - y + (y - x) = y - x by omega]
abbrev cnd (g : Nat → Nat → Int32) (r i : Nat) : Prop := g 43 i = -1 ∧ g 41 i = g 41 r
theorem nsp_spec {g : Nat → Nat → Int32} {r : Nat} : ∀ n, (nsp g r n = none → ∀ i, i < n → cnd g r i → ¬ apt g r i ≤ 2) ∧ ∀ k, nsp g r n = some k → k < n ∧ cnd g r k ∧ apt g r k ≤ 2 ∧ (∀ i, i < n → cnd g r i → apt g r k ≤ apt g r i) ∧ ∀ i, i < k → cnd g r i → apt g r k < apt g r i := by
  intro n
  induction n with
  | zero => exact ⟨fun _ i hi => by omega, fun k h => by cases h⟩
  | succ n ih =>
    obtain ⟨ih1, ih2⟩ := ih
    have e : nsp g r (n + 1) = if g 43 n = -1 ∧ g 41 n = g 41 r ∧ apt g r n ≤ 2 ∧ (∀ k, nsp g r n = some k → apt g r n < apt g r k) then some n else nsp g r n := rfl
    by_cases q : g 43 n = -1 ∧ g 41 n = g 41 r ∧ apt g r n ≤ 2 ∧ (∀ k, nsp g r n = some k → apt g r n < apt g r k)
    · rw [if_pos q] at e
      rw [e]
      obtain ⟨q1, q2, q3, q4⟩ := q
      refine ⟨fun z => by (cases z), fun k hk1 => ?_⟩
      cases hk1
      have hlt : ∀ i, i < n → cnd g r i → apt g r n < apt g r i := by
        intro i hi hc
        cases hs : nsp g r n with
        | none =>
          have := ih1 hs i hi hc
          rw [i_lt]; rw [i_le] at q3 this; omega
        | some k =>
          have h1 := q4 k hs
          have h2 := (ih2 k hs).2.2.2.1 i hi hc
          rw [i_lt] at h1 ⊢; rw [i_le] at h2; omega
      refine ⟨by omega, ⟨q1, q2⟩, q3, fun i hi hc => ?_, hlt⟩
      by_cases e2 : i = n
      · rw [e2, i_le]; exact Int.le_refl _
      · have := hlt i (by omega) hc
        rw [i_lt] at this; rw [i_le]; omega
    · rw [if_neg q] at e
      rw [e]
      refine ⟨fun z i hi hc h2 => ?_, fun k hk1 => ?_⟩
      · by_cases e2 : i = n
        · subst e2
          exact q ⟨hc.1, hc.2, h2, fun k hk1 => by rw [z] at hk1; cases hk1⟩
        · exact ih1 z i (by omega) hc h2
      · obtain ⟨a1, a2, a3, a4, a5⟩ := ih2 k hk1
        refine ⟨by omega, a2, a3, fun i hi hc => ?_, a5⟩
        by_cases e2 : i = n
        · subst e2
          by_cases h2 : apt g r k ≤ apt g r i
          · exact h2
          · refine absurd ⟨hc.1, hc.2, ?_, fun k' hk' => ?_⟩ q
            · rw [i_le] at h2 a3 ⊢; omega
            · rw [hk1] at hk'; cases hk'
              rw [i_lt]; rw [i_le] at h2; omega
        · exact a4 i (by omega) hc
theorem first_or (P : Nat → Prop) : ∀ n, (∀ i, i < n → ¬ P i) ∨ ∃ i, i < n ∧ P i ∧ ∀ j, j < i → ¬ P j := by
  intro n
  induction n with
  | zero => exact Or.inl fun i hi => by omega
  | succ n ih =>
    rcases ih with h | ⟨i, h1, h2, h3⟩
    · by_cases q : P n
      · exact Or.inr ⟨n, by omega, q, h⟩
      · refine Or.inl fun i hi => ?_
        by_cases e : i = n
        · rw [e]; exact q
        · exact h i (by omega)
    · exact Or.inr ⟨i, by omega, h2, h3⟩
def calR1 (g : Nat → Nat → Int32) (nr f n : Nat) : Int32 := match csh g nr f n with
  | none => -2000000003
  | some (r, s) => g 42 r - g 42 s
theorem s_lcal {h : MH} {K g M : Nat → Nat → Int32} {nb nr ns nsm nst d f : Nat} (F : Fix h) (A : Abs g M nb nr ns nsm nst d) (hnb : nb ≤ 8) (hn : nr ≤ 63) (hd : d ≤ 1000) (hf : f < nb) : M_L_calibrated (nI f) (some 30) (some 31) (some 32) (some 37) (st h K M) = rtI (calR1 g nr f nr) (st h K M) := by
  have LR := A.2.2.2.2.1
  have h5 : M 37 5 = nI nr := A.2.2.2.2.2.2.2.1.2.2.2.2.1
  have hW16 : ∀ i, i < nr → ∀ k, rdI (st h K M) (some 32) 20 (nI i) (fun z => rmI z 16 k) = k (nI (bn (g 43 i))) := by
    intro i hi k
    obtain ⟨_, _, e', _, z1, _, z3, _, z5⟩ := LR.un hnb hi
    rw [d32 F (by omega), z3.2.2, rm16 (by omega), show (bn (g 43 i) + 16 * e') % 16 = bn (g 43 i) by omega]
  obtain ⟨dy, cl, hdc⟩ := pick (P := fun r x y => x ≤ d ∧ y < 60 ∧ g 40 r = nI x ∧ g 41 r = nI y ∧ M 30 r = nI (64 * x + y)) nr (fun r hr1 => by
    obtain ⟨x, y, _, _, z1, z2, z3, _, _⟩ := LR.un hnb hr1
    exact ⟨x, y, z1.1, z1.2.1, z2.1, z2.2.1, z3.1⟩)
  have hD64 : ∀ i, i < nr → ∀ k, rdI (st h K M) (some 30) 20 (nI i) (fun z => rmI z 64 k) = k (nI (cl i)) := by
    intro i hi k
    obtain ⟨a1, a2, a3, a4, a5⟩ := hdc i hi
    rw [d30 F (by omega), a5, rm64 (by omega), show (64 * dy i + cl i) % 64 = cl i by omega]
  have hDd : ∀ i, i < nr → ∀ k, rdI (st h K M) (some 30) 20 (nI i) (fun z => dvI z 64 k) = k (nI (dy i)) := by
    intro i hi k
    obtain ⟨a1, a2, a3, a4, a5⟩ := hdc i hi
    rw [d30 F (by omega), a5, dv64 (by omega), show (64 * dy i + cl i) / 64 = dy i by omega]
  have hv : ∀ i, i < nr → M 31 i = g 42 i := fun i hi => by
    obtain ⟨_, _, _, _, _, _, z3, _, _⟩ := LR.un hnb hi
    exact z3.2.1
  have hby : ∀ i, i < nr → Isb nb (g 43 i) ∧ bn (g 43 i) ≤ 8 := fun i hi => by
    obtain ⟨_, _, _, _, _, _, _, z4, z5⟩ := LR.un hnb hi
    exact ⟨z4, z5⟩
  have hapt : ∀ r i, r < nr → i < nr → apt g r i = nI (apd (dy i) (dy r)) := by
    intro r i h1 h2
    obtain ⟨a1, a2, a3, a4, a5⟩ := hdc i h2
    obtain ⟨b1, b2, b3, b4, b5⟩ := hdc r h1
    unfold apt
    rw [a3, b3, ab_nI2 (by omega) (by omega)]
  have hapd : ∀ r i, r < nr → i < nr → apd (dy i) (dy r) ≤ 1000 := by
    intro r i h1 h2
    have a1 := (hdc i h2).1
    have b1 := (hdc r h1).1
    unfold apd; omega
  have hship : ∀ i, i < nr → (nI (bn (g 43 i)) ≠ 0) = ¬ g 43 i = -1 := by
    intro i hi
    have := hby i hi
    refine propext ⟨fun z w => z (by rw [w]; rfl), fun z w => z ?_⟩
    have e : bn (g 43 i) = bn (-1) := by
      rw [bn_m1]
      exact (nI_eq (by omega) (by omega)).mp (show nI (bn (g 43 i)) = nI 0 from w)
    exact (isb_eq this.1 (Or.inl rfl) hnb).mp e
  have hcell : ∀ r i, r < nr → i < nr → (nI (cl i) ≠ nI (cl r)) = ¬ g 41 i = g 41 r := by
    intro r i h1 h2
    obtain ⟨a1, a2, a3, a4, a5⟩ := hdc i h2
    obtain ⟨b1, b2, b3, b4, b5⟩ := hdc r h1
    rw [a4, b4]
  -- one turn of the search among the readings of ships
  have turn : ∀ rc8 rc16 (n k i b : Nat), k < nr → i < nr → L_L_calibrated_38 rc8 rc16 (n + 1) (nI f) (some 30) (some 31) (some 32) (some 37) (nI k) (nI b) (nI i) (st h K M) = if cnd g k i ∧ nI (apd (dy i) (dy k)) = nI b then rtI (g 42 k - g 42 i) (st h K M) else L_L_calibrated_38 rc8 rc16 n (nI f) (some 30) (some 31) (some 32) (some 37) (nI k) (nI b) (nI (i + 1)) (st h K M) := by
    intro rc8 rc16 n k i b hk1 hi
    have a1 := (hdc i hi).1
    have b1 := (hdc k hk1).1
    show B_L_calibrated_38 rc8 rc16 (L_L_calibrated_38 rc8 rc16 n) (nI f) (some 30) (some 31) (some 32) (some 37) (nI k) (nI b) (nI i) (st h K M) = _
    unfold B_L_calibrated_38 B_L_calibrated_106
    rw [rq5 F, h5, if_neg (nI_ge hi (by omega)), hW16 i hi]
    by_cases q1 : g 43 i = -1
    · rw [if_neg (show ¬ nI (bn (g 43 i)) ≠ 0 by rw [hship i hi]; exact fun z => z q1), hD64 i hi, hD64 k hk1]
      by_cases q2 : g 41 i = g 41 k
      · rw [if_neg (show ¬ nI (cl i) ≠ nI (cl k) by rw [hcell k i hk1 hi]; exact fun z => z q2), hDd i hi, hDd k hk1, s_apart (by omega) (by omega), x_rtI]
        by_cases q3 : nI (apd (dy i) (dy k)) = nI b
        · rw [if_neg (fun z => z q3), if_pos ⟨⟨q1, q2⟩, q3⟩, d31 F (by omega), d31 F (by omega), hv k hk1, hv i hi, x_bnd]
        · rw [if_pos q3, if_neg (fun z => q3 z.2), x_bnd, nIs]
      · rw [if_pos (show nI (cl i) ≠ nI (cl k) by rw [hcell k i hk1 hi]; exact q2), if_neg (fun z => q2 z.1.2), x_bnd, nIs]
    · rw [if_pos (show nI (bn (g 43 i)) ≠ 0 by rw [hship i hi]; exact q1), if_neg (fun z => q1 z.1.1), x_bnd, nIs]
  have hitA : ∀ rc8 rc16 (k b i0 : Nat), k < nr → i0 < nr → cnd g k i0 ∧ apd (dy i0) (dy k) = b → (∀ j, j < i0 → ¬ (cnd g k j ∧ apd (dy j) (dy k) = b)) → L_L_calibrated_38 rc8 rc16 fuel (nI f) (some 30) (some 31) (some 32) (some 37) (nI k) (nI b) 0 (st h K M) = rtI (g 42 k - g 42 i0) (st h K M) := by
    intro rc8 rc16 k b i0 hk1 hi0 hP hno
    refine zlp (G := fun n i => L_L_calibrated_38 rc8 rc16 n (nI f) (some 30) (some 31) (some 32) (some 37) (nI k) (nI b) (nI i) (st h K M)) (fun i => i ≤ i0) nr _ (fun n i hi I => ?_) (fun n I => by omega) nr fuel 0 (by omega) (by have : fuel = 1000 := rfl; omega) (Nat.zero_le _)
    rw [turn rc8 rc16 n k i b hk1 hi]
    by_cases e : i = i0
    · rw [e, if_pos ⟨hP.1, by rw [hP.2]⟩]; exact Or.inl rfl
    · have h1 := hapd k i hk1 hi
      have h2 := hapd k i0 hk1 hi0
      rw [if_neg (fun z => hno i (by omega) ⟨z.1, by have := z.2; rwa [nI_inj (by omega) (by omega)] at this⟩)]
      exact Or.inr ⟨by omega, rfl⟩
  have missB : ∀ rc8 rc16 (k b : Nat), k < nr → b ≤ 3 → (∀ j, j < nr → ¬ (cnd g k j ∧ apd (dy j) (dy k) = b)) → L_L_calibrated_38 rc8 rc16 fuel (nI f) (some 30) (some 31) (some 32) (some 37) (nI k) (nI b) 0 (st h K M) = rc16 (nI f) (some 30) (some 31) (some 32) (some 37) (nI k) (nI (b + 1)) (st h K M) := by
    intro rc8 rc16 k b hk1 hb3 hno
    refine zlp (G := fun n i => L_L_calibrated_38 rc8 rc16 n (nI f) (some 30) (some 31) (some 32) (some 37) (nI k) (nI b) (nI i) (st h K M)) (fun i => True) nr _ (fun n i hi I => ?_) (fun n I => ?_) nr fuel 0 (by omega) (by have : fuel = 1000 := rfl; omega) trivial
    · have h1 := hapd k i hk1 hi
      rw [turn rc8 rc16 n k i b hk1 hi, if_neg (fun z => hno i hi ⟨z.1, by have := z.2; rwa [nI_inj (by omega) (by omega)] at this⟩)]
      exact Or.inr ⟨trivial, rfl⟩
    · show B_L_calibrated_38 rc8 rc16 (L_L_calibrated_38 rc8 rc16 n) (nI f) (some 30) (some 31) (some 32) (some 37) (nI k) (nI b) (nI nr) (st h K M) = _
      unfold B_L_calibrated_38
      rw [rq5 F, h5, if_pos (nI_le (Nat.le_refl _) (by omega)), x_bnd, nIs]
  -- a reading by the float: 16 at by = b
  have b16 : ∀ rc8 (n k b : Nat), k < nr → g 43 k = nI f → b ≤ 3 → L_L_calibrated_16 rc8 (n + 1) (nI f) (some 30) (some 31) (some 32) (some 37) (nI k) (nI b) (st h K M) = if b = 3 then rc8 (nI f) (some 30) (some 31) (some 32) (some 37) (nI k - 1) (st h K M) else L_L_calibrated_38 rc8 (L_L_calibrated_16 rc8 n) fuel (nI f) (some 30) (some 31) (some 32) (some 37) (nI k) (nI b) 0 (st h K M) := by
    intro rc8 n k b hk1 e hb3
    show B_L_calibrated_16 rc8 (L_L_calibrated_16 rc8 n) (nI f) (some 30) (some 31) (some 32) (some 37) (nI k) (nI b) (st h K M) = _
    unfold B_L_calibrated_16 B_L_calibrated_118
    by_cases q : b = 3
    · rw [if_pos (by rw [q]; decide), if_pos q, x_bnd, ← Int32.sub_eq_add_neg]
    · rw [if_neg (show ¬ (3 : Int32) ≤ nI b from nI_ge (b := 3) (by omega) (by decide)), if_neg q, hW16 k hk1, x_bnd, nIs, e, bn_f (by omega), if_neg (fun z => z rfl)]
  have m16 : ∀ rc8 (n k : Nat), k < nr → g 43 k ≠ nI f → L_L_calibrated_16 rc8 (n + 1) (nI f) (some 30) (some 31) (some 32) (some 37) (nI k) 0 (st h K M) = rc8 (nI f) (some 30) (some 31) (some 32) (some 37) (nI k - 1) (st h K M) := by
    intro rc8 n k hk1 e
    show B_L_calibrated_16 rc8 (L_L_calibrated_16 rc8 n) (nI f) (some 30) (some 31) (some 32) (some 37) (nI k) 0 (st h K M) = _
    unfold B_L_calibrated_16 B_L_calibrated_118
    have hk8 := hby k hk1
    rw [if_neg (by decide), hW16 k hk1, x_bnd, nIs, if_pos, x_bnd, ← Int32.sub_eq_add_neg]
    intro z
    rw [nI_inj (by omega) (by omega), ← bn_f (f := f) (by omega)] at z
    exact e ((isb_eq hk8.1 (Or.inr ⟨f, hf, rfl⟩) hnb).mp z)
  have k16 : ∀ rc8 (k : Nat), k < nr → g 43 k = nI f → L_L_calibrated_16 rc8 fuel (nI f) (some 30) (some 31) (some 32) (some 37) (nI k) 0 (st h K M) = match nsp g k nr with
      | some s => rtI (g 42 k - g 42 s) (st h K M)
      | none => rc8 (nI f) (some 30) (some 31) (some 32) (some 37) (nI k - 1) (st h K M) := by
    intro rc8 k hk1 e
    obtain ⟨n1, n2⟩ := nsp_spec (g := g) (r := k) nr
    have a0 := b16 rc8 999 k 0 hk1 e (by decide)
    have a1 := b16 rc8 998 k 1 hk1 e (by decide)
    have a2 := b16 rc8 997 k 2 hk1 e (by decide)
    have a3 := b16 rc8 996 k 3 hk1 e (by decide)
    rw [if_neg (by decide)] at a0 a1 a2
    rw [if_pos rfl] at a3
    refine Eq.trans (show L_L_calibrated_16 rc8 fuel (nI f) (some 30) (some 31) (some 32) (some 37) (nI k) 0 (st h K M) = L_L_calibrated_16 rc8 (999 + 1) (nI f) (some 30) (some 31) (some 32) (some 37) (nI k) (nI 0) (st h K M) from rfl) (a0.trans ?_)
    cases hs : nsp g k nr with
    | none =>
      have hno : ∀ b, b ≤ 2 → ∀ j, j < nr → ¬ (cnd g k j ∧ apd (dy j) (dy k) = b) := by
        intro b hb j hj z
        refine n1 hs j hj z.1 ?_
        rw [hapt k j hk1 hj, z.2]
        exact nI_le (b := 2) hb (by decide)
      rw [missB rc8 _ k 0 hk1 (by decide) (hno 0 (by decide))]
      refine a1.trans ?_
      rw [missB rc8 _ k 1 hk1 (by decide) (hno 1 (by decide))]
      refine a2.trans ?_
      rw [missB rc8 _ k 2 hk1 (by decide) (hno 2 (by decide))]
      exact a3
    | some s =>
      obtain ⟨s1, s2, s3, s4, s5⟩ := n2 s hs
      have hd2 : apd (dy s) (dy k) ≤ 2 := by
        have := hapd k s hk1 s1
        rw [hapt k s hk1 s1] at s3
        exact (nI_leI (b := 2) (by omega) (by decide)).mp s3
      have hno : ∀ b, b < apd (dy s) (dy k) → ∀ j, j < nr → ¬ (cnd g k j ∧ apd (dy j) (dy k) = b) := by
        intro b hb j hj z
        have := s4 j hj z.1
        have h1 := hapd k j hk1 hj
        rw [hapt k s hk1 s1, hapt k j hk1 hj, nI_leP (by omega) (by omega)] at this
        omega
      have hfirst : ∀ j, j < s → ¬ (cnd g k j ∧ apd (dy j) (dy k) = apd (dy s) (dy k)) := by
        intro j hj z
        have := s5 j hj z.1
        rw [hapt k s hk1 s1, hapt k j hk1 (by omega), z.2, i_lt] at this
        omega
      rcases (show apd (dy s) (dy k) = 0 ∨ apd (dy s) (dy k) = 1 ∨ apd (dy s) (dy k) = 2 by omega) with z | z | z
      · exact hitA rc8 _ k 0 s hk1 s1 ⟨s2, z⟩ (by rw [← z]; exact hfirst)
      · rw [missB rc8 _ k 0 hk1 (by decide) (hno 0 (by omega))]
        refine a1.trans ?_
        exact hitA rc8 _ k 1 s hk1 s1 ⟨s2, z⟩ (by rw [← z]; exact hfirst)
      · rw [missB rc8 _ k 0 hk1 (by decide) (hno 0 (by omega))]
        refine a1.trans ?_
        rw [missB rc8 _ k 1 hk1 (by decide) (hno 1 (by omega))]
        refine a2.trans ?_
        exact hitA rc8 _ k 2 s hk1 s1 ⟨s2, z⟩ (by rw [← z]; exact hfirst)
  have l8 : ∀ n k, n ≤ nr → n < k → L_L_calibrated_8 k (nI f) (some 30) (some 31) (some 32) (some 37) (nI n - 1) (st h K M) = rtI (calR1 g nr f n) (st h K M) := by
    intro n
    induction n with
    | zero =>
      intro k _ hk1
      obtain ⟨k, rfl⟩ : ∃ q, k = q + 1 := ⟨k - 1, by omega⟩
      show B_L_calibrated_8 (L_L_calibrated_8 k) (nI f) (some 30) (some 31) (some 32) (some 37) (nI 0 - 1) (st h K M) = _
      unfold B_L_calibrated_8
      rw [if_pos (by decide)]
      rfl
    | succ n ih =>
      intro k hn1 hk1
      obtain ⟨k, rfl⟩ : ∃ q, k = q + 1 := ⟨k - 1, by omega⟩
      have hn2 : n < nr := by omega
      show B_L_calibrated_8 (L_L_calibrated_8 k) (nI f) (some 30) (some 31) (some 32) (some 37) (nI (n + 1) - 1) (st h K M) = _
      unfold B_L_calibrated_8
      rw [nI_pred, if_neg (show ¬ nI n < 0 from nI_nlt (b := 0) (Nat.zero_le _) (by omega))]
      by_cases q : g 43 n = nI f
      · have hc : csh g nr f (n + 1) = match nsp g n nr with
          | some s => some (n, s)
          | none => csh g nr f n := if_pos q
        rw [k16 _ n hn2 q]
        unfold calR1
        rw [hc]
        cases hs : nsp g n nr with
        | none => exact ih k (by omega) (by omega)
        | some s => rfl
      · have hc : csh g nr f (n + 1) = csh g nr f n := if_neg q
        refine (m16 _ 999 n hn2 q).trans ?_
        unfold calR1
        rw [hc]
        exact ih k (by omega) (by omega)
  unfold M_L_calibrated
  rw [rq5 F, h5, x_bnd]
  exact l8 nr fuel (Nat.le_refl _) (by have : fuel = 1000 := rfl; omega)
