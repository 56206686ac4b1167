/-- the class: the nearest reading of a ship -/
theorem s_nearest {h : MH} {K m mm : Nat → Nat → Int32} {nb nr r : Nat} (F : Fix h) (R15 : Row h 15 100 4 nr) (hn : nr ≤ 100) (C4 : Crd h K m nb nr) (hnb : nb ≤ 8) (hr1 : r < nr) : M_X2_nearestOfShip (some 14) (some (rd h r)) (st h K mm) = rtR ((nsp m r nr).map (rd h)) (st h K mm) := by
  have qr := row_rd R15 hr1
  have hAr : cA (rd h r) := Or.inr (by omega)
  obtain ⟨⟨y0, y1, y2, y3⟩, -, -⟩ := C4 r hr1
  let lst : Nat → Int32 := fun i => match nsp m r i with
    | none => 3
    | some k => apt m r k
  unfold M_X2_nearestOfShip
  rw [r14_0 F, a15 F]
  have hG := zlp0 (G := fun n i => L_X2_nearestOfShip_18 n (some (rd h r)) ((nsp m r (if i ≤ nr then i else nr)).map (rd h)) (lst (if i ≤ nr then i else nr)) (some 15) (nI 100) (nI i) (st h K mm)) (N := 100) (r := rtR ((nsp m r nr).map (rd h)) (st h K mm)) (by decide) ?_ ?_
  · exact hG
  · intro n i hi
    show B_X2_nearestOfShip_18 (L_X2_nearestOfShip_18 n) (some (rd h r)) ((nsp m r (if i ≤ nr then i else nr)).map (rd h)) (lst (if i ≤ nr then i else nr)) (some 15) (nI 100) (nI i) (st h K mm) = L_X2_nearestOfShip_18 n (some (rd h r)) ((nsp m r (if i + 1 ≤ nr then i + 1 else nr)).map (rd h)) (lst (if i + 1 ≤ nr then i + 1 else nr)) (some 15) (nI 100) (nI (i + 1)) (st h K mm)
    unfold B_X2_nearestOfShip_18 B_X2_nearestOfShip_83
    rw [if_neg (nI_ge hi (by decide)), d15 F hi]
    simp only [x_bnd, nIs]
    by_cases hin : i < nr
    · have i1 : (if i ≤ nr then i else nr) = i := if_pos (by omega)
      have i2 : (if i + 1 ≤ nr then i + 1 else nr) = i + 1 := if_pos (by omega)
      have hstep : nsp m r (i + 1) = if m 43 i = -1 ∧ m 41 i = m 41 r ∧ apt m r i ≤ 2 ∧ (∀ k, nsp m r i = some k → apt m r i < apt m r k) then some i else nsp m r i := rfl
      have q := row_rd R15 hin
      have hA : cA (rd h i) := Or.inr (by omega)
      obtain ⟨⟨x0, x1, x2, x3⟩, -, x4⟩ := C4 i hin
      have hcl : ∀ H2 : MH, M_X4_daysFrom (some (rd h i)) (m 40 r) (st h K mm) = rtI (apt m r i) (st h K mm) := by
        intro _
        unfold M_X4_daysFrom
        rw [K_gf q.2.1 hA, x0, x_bnd, x_bnd]; rfl
      have hle : ¬ lst i ≤ apt m r i ↔ apt m r i ≤ 2 ∧ ∀ k, nsp m r i = some k → apt m r i < apt m r k := by
        show ¬ (match nsp m r i with | none => (3 : Int32) | some k => apt m r k) ≤ apt m r i ↔ _
        cases hq : nsp m r i with
        | none =>
          simp only
          rw [i_le, i_le, show (3 : Int32).toInt = 3 from by decide, show (2 : Int32).toInt = 2 from by decide]
          exact ⟨fun z => ⟨by omega, fun k w => by cases w⟩, fun z => by omega⟩
        | some k =>
          have h2 := (nsp_some hq).2
          simp only
          rw [i_le] at h2 ⊢
          constructor
          · intro z
            refine ⟨by rw [i_le]; omega, fun k2 w => ?_⟩
            cases w
            rw [i_lt]; omega
          · rintro ⟨-, z⟩
            have := z k rfl
            rw [i_lt] at this; omega
      rw [i1, i2, q.1, if_neg (by intro z; cases z), K_gr q.2.1]
      rcases x4 with ⟨w1, w2⟩ | ⟨f, f1, f2, f3⟩
      · rw [w2, if_neg (fun z => z rfl), K_gf q.2.1 hA, K_gf qr.2.1 hAr, x1, y1]
        by_cases h2 : m 41 i = m 41 r
        · rw [if_neg (fun z => z h2), K_gf qr.2.1 hAr, y0, K_ck q.2.1, hcl (st h K mm), x_rtI]
          by_cases h3 : lst i ≤ apt m r i
          · have : nsp m r (i + 1) = nsp m r i := by rw [hstep, if_neg (fun z => hle.mpr ⟨z.2.2.1, z.2.2.2⟩ h3)]
            rw [if_pos h3, show lst (i + 1) = lst i by show (match nsp m r (i + 1) with | none => (3 : Int32) | some k => apt m r k) = _; rw [this], this]
          · have : nsp m r (i + 1) = some i := by rw [hstep, if_pos ⟨w1, h2, (hle.mp h3).1, (hle.mp h3).2⟩]
            rw [if_neg h3, K_gf qr.2.1 hAr, y0, K_ck q.2.1, hcl (st h K mm), x_rtI, show lst (i + 1) = apt m r i by show (match nsp m r (i + 1) with | none => (3 : Int32) | some k => apt m r k) = _; rw [this], this]
            rfl
        · have : nsp m r (i + 1) = nsp m r i := by rw [hstep, if_neg (fun z => h2 z.2.1)]
          rw [if_pos h2, show lst (i + 1) = lst i by show (match nsp m r (i + 1) with | none => (3 : Int32) | some k => apt m r k) = _; rw [this], this]
      · have hne : ¬ m 43 i = -1 := by rw [f2, nI_nm1 (by omega)]; exact id
        have : nsp m r (i + 1) = nsp m r i := by rw [hstep, if_neg (fun z => hne z.1)]
        rw [f3, if_pos (by intro z; cases z), show lst (i + 1) = lst i by show (match nsp m r (i + 1) with | none => (3 : Int32) | some k => apt m r k) = _; rw [this], this]
    · have i1 : (if i ≤ nr then i else nr) = nr := by split <;> omega
      have i2 : (if i + 1 ≤ nr then i + 1 else nr) = nr := if_neg (by omega)
      rw [i1, i2, R15.2.1 i (by omega) hi, if_pos rfl]
  · intro n
    show B_X2_nearestOfShip_18 (L_X2_nearestOfShip_18 n) (some (rd h r)) _ _ (some 15) (nI 100) (nI 100) (st h K mm) = _
    have i1 : (if 100 ≤ nr then 100 else nr) = nr := by split <;> omega
    unfold B_X2_nearestOfShip_18
    rw [if_pos (nI_le (Nat.le_refl _) (by decide)), i1]
