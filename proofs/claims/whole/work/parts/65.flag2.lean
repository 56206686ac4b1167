/-! the model's flag of a reading -/
theorem s_182 {h : MH} {K m : Nat → Nat → Int32} (F : Fix h) {o t : Int32} : B_X9_flagOf_182 (some 22) o t (st h K m) = rtI (s52 (m 22 29) o t) (st h K m) := by
  unfold B_X9_flagOf_182 B_X9_flagOf_202 s52
  rw [g22 F, x_bnd, g22 F, x_bnd]
  by_cases q : -m 22 29 ≤ o
  · rw [if_pos q, if_pos q]
  · rw [if_neg q, if_neg q]
    by_cases q2 : -m 22 29 ≤ t
    · rw [if_pos q2, if_pos q2]
    · rw [if_neg q2, if_neg q2]
theorem s_flagOf {h : MH} {K m : Nat → Nat → Int32} {nb nr r : Nat} (F : Fix h) (hm : m 22 23 = nI nr) (hn : nr ≤ 100) (hr1 : r < nr) (hnb : nb ≤ 8) (hby : ∀ r, r < nr → m 43 r = -1 ∨ ∃ f, f < nb ∧ m 43 r = nI f) : M_X9_flagOf (some 22) (nI r) (st h K m) = rtI (flg m nr r) (st h K m) := by
  have hr2 : r < 100 := by omega
  have e20 : m 44 r ≠ -1 ∨ m 43 r = -1 → B_X9_flagOf_20 (some 22) (nI r) (st h K m) = rtI (flg m nr r) (st h K m) := by
    intro hor
    unfold B_X9_flagOf_20 flg
    rw [r22_28 F, d44 F hr2]
    by_cases q : m 44 r = -1
    · rw [if_pos q, if_neg (fun z => z q), if_pos (by rcases hor with z | z; exact absurd q z; exact z)]
    · rw [if_neg q, if_pos q, r22_28 F, d44 F hr2]
  unfold M_X9_flagOf
  rw [r22_28 F, d44 F hr2]
  by_cases h44 : m 44 r = -1
  · rw [if_neg (fun z => z h44), r22_27 F, d43 F hr2]
    by_cases h43 : m 43 r = -1
    · rw [if_neg (fun z => z h43)]; exact e20 (Or.inr h43)
    · rw [if_pos h43]
      have hl1000 : ∀ n, ∀ q, lby (m 43) (m 43 r) n = some q → n ≤ 100 → q < 1000000 := fun n q z hn => by have := (lby_some z).1; omega
      have hG := zlp0 (G := fun n i => L_X9_flagOf_48 n (some 22) (nI r) (oI (lby (m 43) (m 43 r) (if i ≤ r then i else r))) (oI (nby (m 43) (m 43 r) r i)) (nI i) (st h K m)) (N := nr) (r := rtI (flg m nr r) (st h K m)) (by have : fuel = 1000 := rfl; omega) ?_ ?_
      · exact hG
      · intro n i hi
        show B_X9_flagOf_48 (L_X9_flagOf_48 n) (some 22) (nI r) _ _ (nI i) (st h K m) = L_X9_flagOf_48 n (some 22) (nI r) (oI (lby (m 43) (m 43 r) (if i + 1 ≤ r then i + 1 else r))) (oI (nby (m 43) (m 43 r) r (i + 1))) (nI (i + 1)) (st h K m)
        unfold B_X9_flagOf_48 B_X9_flagOf_84 B_X9_flagOf_85 B_X9_flagOf_118 B_X9_flagOf_119
        rw [g22 F, hm, if_neg (nI_ge hi (by omega))]
        have hnb0 : i ≤ r → nby (m 43) (m 43 r) r (i + 1) = nby (m 43) (m 43 r) r i := by
          intro hir
          show (match nby (m 43) (m 43 r) r i with
            | some k => some k
            | none => if r < i ∧ m 43 i = m 43 r then some i else none) = _
          cases nby (m 43) (m 43 r) r i with
          | some k => rfl
          | none => exact if_neg (by omega)
        by_cases h1 : i < r
        · have i1 : (if i ≤ r then i else r) = i := if_pos (by omega)
          have i2 : (if i + 1 ≤ r then i + 1 else r) = i + 1 := if_pos (by omega)
          rw [i1, i2, if_neg (nI_ge h1 (by omega)), r22_27 F, d43 F (by omega), r22_27 F, d43 F hr2, hnb0 (by omega), if_pos (nI_le (show i ≤ r by omega) (by omega)), if_pos (nI_le (show i ≤ r by omega) (by omega)), x_bnd, x_bnd, nIs]
          show _ = L_X9_flagOf_48 n (some 22) (nI r) (oI (if m 43 i = m 43 r then some i else lby (m 43) (m 43 r) i)) (oI (nby (m 43) (m 43 r) r i)) (nI (i + 1)) (st h K m)
          by_cases q : m 43 i = m 43 r
          · rw [if_neg (fun z => z q), if_pos q, oI_s]
          · rw [if_pos q, if_neg q]
        · have i2 : (if i + 1 ≤ r then i + 1 else r) = r := if_neg (by omega)
          have i1 : (if i ≤ r then i else r) = r := by split <;> omega
          rw [i1, i2, if_pos (nI_le (show r ≤ i by omega) (by omega))]
          by_cases h2 : i = r
          · rw [if_pos (nI_le (show i ≤ r by omega) (by omega)), x_bnd, nIs, hnb0 (by omega)]
          · rw [if_neg (nI_ge (show r < i by omega) (by omega)), r22_27 F, d43 F (by omega), r22_27 F, d43 F hr2, x_bnd, x_bnd, nIs]
            have hstep : nby (m 43) (m 43 r) r (i + 1) = match nby (m 43) (m 43 r) r i with
                | some k => some k
                | none => if r < i ∧ m 43 i = m 43 r then some i else none := rfl
            rw [hstep]
            cases hq : nby (m 43) (m 43 r) r i with
            | some k =>
              have := (nby_some hq).2.1
              rw [oI_s, if_pos (by rw [ne_eq, nI_nm1 (by omega)]; exact id)]
            | none =>
              rw [oI_n, if_neg (fun z => z rfl)]
              by_cases q : m 43 i = m 43 r
              · rw [if_neg (fun z => z q)]
                simp only
                rw [if_pos ⟨by omega, q⟩, oI_s]
              · rw [if_pos q]
                simp only
                rw [if_neg (fun z => q z.2), oI_n]
      · intro n
        show B_X9_flagOf_48 (L_X9_flagOf_48 n) (some 22) (nI r) _ _ (nI nr) (st h K m) = _
        have i1 : (if nr ≤ r then nr else r) = r := if_neg (by omega)
        unfold B_X9_flagOf_48 flg
        rw [i1, g22 F, hm, if_pos (nI_le (Nat.le_refl _) (by omega)), if_neg (show ¬ (m 44 r ≠ -1) from fun z => z h44), if_neg (show ¬ m 43 r = -1 from h43)]
        cases hl : lby (m 43) (m 43 r) r with
        | none => rw [oI_n, if_pos rfl]
        | some a =>
          have ha : a < nr := by have := (lby_some hl).1; omega
          rw [oI_s, if_neg (by rw [nI_nm1 (by omega)]; exact id)]
          cases hn2 : nby (m 43) (m 43 r) r nr with
          | none => rw [oI_n, if_neg (fun z => z rfl)]
          | some b =>
            have hb := (nby_some hn2).2.1
            rw [oI_s, if_pos (by rw [ne_eq, nI_nm1 (by omega)]; exact id), c22 F, s_mCor F hr2 hnb (hby r hr1), x_rtI, c22 F, s_mCor F (by omega) hnb (hby a ha), x_rtI, x_bnd, c22 F, s_mCor F hr2 hnb (hby r hr1), x_rtI, c22 F, s_mCor F (by omega) hnb (hby b hb), x_rtI, x_bnd, g22 F, g22 F, s_182 F]
            unfold spk B_X9_flagOf_202
            by_cases q1 : cor m r - cor m a ≤ m 22 29
            · simp only [if_pos q1]
            · simp only [if_neg q1]
              by_cases q2 : m 22 29 < cor m r - cor m b
              · simp only [if_pos q2]
              · simp only [if_neg q2]
  · rw [if_pos h44]; exact e20 (Or.inl h44)
