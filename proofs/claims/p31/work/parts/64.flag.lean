/-! corrected values and flags -/
def cor (m : Nat → Nat → Int32) (r : Nat) : Int32 := if m 43 r = -1 then m 42 r else m 42 r - m 35 (m 43 r).toNatClampNeg
theorem s_cor {h : MH} {K m mm : Nat → Nat → Int32} {nb nr r : Nat} (R13 : Row h 13 8 0 nb) (R15 : Row h 15 100 4 nr) (hnb : nb ≤ 8) (C3 : Cbu h K m nb nr) (C4 : Crd h K m nb nr) (hr1 : r < nr) : M_X4_corrected (some (rd h r)) (st h K mm) = rtI (cor m r) (st h K mm) := by
  have q := row_rd R15 hr1
  have hA : cA (rd h r) := Or.inr (by omega)
  obtain ⟨⟨x0, x1, x2, x3⟩, -, x4⟩ := C4 r hr1
  unfold M_X4_corrected cor
  rcases x4 with ⟨y1, y2⟩ | ⟨f, f1, f2, f3⟩
  · rw [K_gr q.2.1, y2, if_neg (fun z => z rfl), K_gf q.2.1 hA, x2, if_pos y1]
  · have qf := row_bu R13 f1
    have hAf : cA (bu h f) := Or.inr (by omega)
    rw [K_gr q.2.1, f3, if_pos (by intro z; cases z), K_gf q.2.1 hA, x2, K_gr q.2.1, f3, K_gf qf.2.1 hAf, x_bnd, (C3.1 f f1).1.2.2.2.2.2.2.1, if_neg (by rw [f2, nI_nm1 (by omega)]; exact id), f2, nI_clamp (by omega)]
def s52 (b o t : Int32) : Int32 := if -b ≤ o then 0 else if -b ≤ t then 0 else 1
def spk (b o t : Int32) : Int32 := if o ≤ b then s52 b o t else if b < t then 1 else s52 b o t
def flg (m : Nat → Nat → Int32) (nr r : Nat) : Int32 := if m 44 r ≠ -1 then m 44 r else if m 43 r = -1 then 0 else match lby (m 43) (m 43 r) r, nby (m 43) (m 43 r) r nr with
  | some a, some b => spk (m 22 29) (cor m r - cor m a) (cor m r - cor m b)
  | _, _ => 0
theorem spk_01 {b o t : Int32} : spk b o t = 0 ∨ spk b o t = 1 := by
  unfold spk s52
  split
  · split
    · exact Or.inl rfl
    · split
      · exact Or.inl rfl
      · exact Or.inr rfl
  · split
    · exact Or.inr rfl
    · split
      · exact Or.inl rfl
      · split
        · exact Or.inl rfl
        · exact Or.inr rfl
theorem s_52 {h : MH} {b o t : Int32} : B_X4_isSpike_52 b o t h = rtI (s52 b o t) h := by
  unfold B_X4_isSpike_52 B_X4_isSpike_64 s52
  rw [x_bnd, x_bnd]
  by_cases q : -b ≤ o
  · rw [if_pos q, if_pos q, rtZ_0]
  · rw [if_neg q, if_neg q]
    by_cases q2 : -b ≤ t
    · rw [if_pos q2, if_pos q2, rtZ_0]
    · rw [if_neg q2, if_neg q2, rtZ_1]
/-- the class's flag of a reading -/
theorem s_flagBy {h : MH} {K m mm : Nat → Nat → Int32} {nb nr r : Nat} (R13 : Row h 13 8 0 nb) (R15 : Row h 15 100 4 nr) (hnb : nb ≤ 8) (C3 : Cbu h K m nb nr) (C4 : Crd h K m nb nr) (C5 : Clk h m nb nr) (hr1 : r < nr) : M_X4_flagBy (some (rd h r)) (m 22 29) (st h K mm) = rtI (flg m nr r) (st h K mm) := by
  have q := row_rd R15 hr1
  have hA : cA (rd h r) := Or.inr (by omega)
  obtain ⟨⟨x0, x1, x2, x3⟩, -, x4⟩ := C4 r hr1
  unfold M_X4_flagBy flg
  rw [K_gf q.2.1 hA, x3]
  by_cases h44 : m 44 r = -1
  · rw [if_pos h44, if_neg (fun z => z h44), K_ck q.2.1]
    have hsp : M_X4_isSpike (some (rd h r)) (m 22 29) (st h K mm) = rtI (if m 43 r = -1 then 0 else match lby (m 43) (m 43 r) r, nby (m 43) (m 43 r) r nr with
        | some a, some b => spk (m 22 29) (cor m r - cor m a) (cor m r - cor m b)
        | _, _ => 0) (st h K mm) := by
      unfold M_X4_isSpike
      rw [K_gr q.2.1]
      rcases C5.1 r hr1 with ⟨z1, z2⟩ | ⟨z1, z2, z3⟩
      · rw [z2, if_pos rfl, if_pos z1, rtZ_0]
      · rw [z2, if_neg z1]
        cases hl : lby (m 43) (m 43 r) r with
        | none => rw [show Option.map (rd h) none = none from rfl, if_pos rfl, rtZ_0]
        | some a =>
          have ha : a < nr := by have := (lby_some hl).1; omega
          rw [hl] at z2
          rw [show Option.map (rd h) (some a) = some (rd h a) from rfl, if_neg (by intro z; cases z), K_gr q.2.1, z3]
          cases hn2 : nby (m 43) (m 43 r) r nr with
          | none => rw [show Option.map (rd h) none = none from rfl, if_neg (fun z => z rfl), rtZ_0]
          | some b =>
            have hb := (nby_some hn2).2.1
            rw [hn2] at z3
            rw [show Option.map (rd h) (some b) = some (rd h b) from rfl, if_pos (by intro z; cases z), K_ck q.2.1, s_cor R13 R15 hnb C3 C4 hr1, x_rtI, K_gr q.2.1, z2, show Option.map (rd h) (some a) = some (rd h a) from rfl, K_ck (row_rd R15 ha).2.1, s_cor R13 R15 hnb C3 C4 ha, x_rtI, x_bnd, K_ck q.2.1, s_cor R13 R15 hnb C3 C4 hr1, x_rtI, K_gr q.2.1, z3, show Option.map (rd h) (some b) = some (rd h b) from rfl, K_ck (row_rd R15 hb).2.1, s_cor R13 R15 hnb C3 C4 hb, x_rtI, x_bnd, s_52]
            unfold spk B_X4_isSpike_64
            by_cases q1 : cor m r - cor m a ≤ m 22 29
            · simp only [if_pos q1]
            · simp only [if_neg q1]
              by_cases q2 : m 22 29 < cor m r - cor m b
              · simp only [if_pos q2, rtZ_1]
              · simp only [if_neg q2]
    rw [hsp, x_rtI]
    have h01 : ∀ z : Int32, (z = 0 ∨ z = 1) → (if z = 0 then rtI 0 (st h K mm) else rtI 1 (st h K mm)) = rtI z (st h K mm) := by
      intro z hz
      rcases hz with rfl | rfl <;> rfl
    apply h01
    split
    · exact Or.inl rfl
    · split
      · exact spk_01
      · exact Or.inl rfl
  · rw [if_neg h44, if_pos h44, K_gf q.2.1 hA, x3]
