/-! a float is put right -/
def csh (m : Nat → Nat → Int32) (nr f : Nat) : Nat → Option (Nat × Nat)
  | 0 => none
  | n + 1 => if m 43 n = nI f then (match nsp m n nr with
    | some s => some (n, s)
    | none => csh m nr f n) else csh m nr f n
theorem nsp_th {m : Nat → Nat → Int32} {t : Int32} {r : Nat} : ∀ n, nsp (thM m t) r n = nsp m r n := by
  intro n
  induction n with
  | zero => rfl
  | succ n ih =>
    unfold nsp
    have ha : ∀ k, apt (thM m t) r k = apt m r k := fun k => by unfold apt; rw [thM_o (by decide)]
    rw [ih, thM_o (show (43 : Nat) ≠ 22 by decide), thM_o (show (41 : Nat) ≠ 22 by decide)]
    simp only [ha]
theorem csh_lt {m : Nat → Nat → Int32} {nr f r s : Nat} : ∀ n, csh m nr f n = some (r, s) → r < n ∧ s < nr := by
  intro n
  induction n with
  | zero => intro h; cases h
  | succ n ih =>
    intro h
    unfold csh at h
    split at h
    · cases q : nsp m n nr with
      | none => rw [q] at h; have := ih h; omega
      | some s2 =>
        rw [q] at h
        have := (nsp_some q).1
        cases h
        omega
    · have := ih h; omega
theorem s_calC {h : MH} {K m mm : Nat → Nat → Int32} {nb nr f : Nat} (F : Fix h) (R13 : Row h 13 8 0 nb) (R15 : Row h 15 100 4 nr) (hn : nr ≤ 100) (C4 : Crd h K m nb nr) (C5 : Clk h m nb nr) (hnb : nb ≤ 8) (hf : f < nb) : ∀ n k, n ≤ nr → n < k → L_X8_calibrate_11 k (some 1) (some (bu h f)) ((lby (m 43) (nI f) n).map (rd h)) (st h K mm) = match csh m nr f n with
    | none => some (.inr 3, exc (st h K mm))
    | some (r, s) => rtI (m 42 r - m 42 s) (st h (upw K (bu h f) (upd (K (bu h f)) 6 (m 42 r - m 42 s))) mm) := by
  have qf := row_bu R13 hf
  have hAf : cA (bu h f) := Or.inr (by omega)
  intro n
  induction n with
  | zero =>
    intro k _ hk1
    obtain ⟨k, rfl⟩ : ∃ q, k = q + 1 := ⟨k - 1, by omega⟩
    show B_X8_calibrate_11 (L_X8_calibrate_11 k) (some 1) (some (bu h f)) none (st h K mm) = some (.inr 3, exc (st h K mm))
    unfold B_X8_calibrate_11
    rw [if_pos rfl]
  | succ n ih =>
    intro k hn1 hk1
    by_cases q : m 43 n = nI f
    · obtain ⟨k, rfl⟩ : ∃ q, k = q + 1 := ⟨k - 1, by omega⟩
      have hl : lby (m 43) (nI f) (n + 1) = some n := if_pos q
      have hc : csh m nr f (n + 1) = match nsp m n nr with
        | some s => some (n, s)
        | none => csh m nr f n := if_pos q
      have qn := row_rd R15 (show n < nr by omega)
      have hAn : cA (rd h n) := Or.inr (by omega)
      obtain ⟨⟨x0, x1, x2, x3⟩, -, -⟩ := C4 n (by omega)
      have hlk := C5.1 n (by omega)
      rw [hl, hc]
      show B_X8_calibrate_11 (L_X8_calibrate_11 k) (some 1) (some (bu h f)) (some (rd h n)) (st h K mm) = _
      unfold B_X8_calibrate_11
      rw [if_neg (by intro z; cases z), r1_2 F, c14 F, s_nearest F R15 hn C4 hnb (show n < nr by omega), x_rtR]
      cases hs : nsp m n nr with
      | none =>
        rcases hlk with ⟨z, -⟩ | ⟨-, z, -⟩
        · rw [q, nI_nm1 (by omega)] at z; exact z.elim
        · rw [show (none : Option Nat).map (rd h) = none from rfl, if_pos rfl, K_gr qn.2.1, z, q]
          exact ih k (by omega) (by omega)
      | some s =>
        have qs := row_rd R15 (nsp_some hs).1
        have hAs : cA (rd h s) := Or.inr (by omega)
        obtain ⟨⟨y0, y1, y2, y3⟩, -, -⟩ := C4 s (nsp_some hs).1
        rw [show (some s).map (rd h) = some (rd h s) from rfl, if_neg (by intro z; cases z), K_gf qn.2.1 hAn, K_gf qs.2.1 hAs, x_bnd, x2, y2, K_pf qf.2.1 hAf, K_gf qf.2.1 hAf, upw_s, upd_s]
    · have hl : lby (m 43) (nI f) (n + 1) = lby (m 43) (nI f) n := if_neg q
      have hc : csh m nr f (n + 1) = csh m nr f n := if_neg q
      rw [hl, hc]
      exact ih k (by omega) (by omega)
def calM (m : Nat → Nat → Int32) (f : Nat) (v : Int32) : Nat → Nat → Int32 := thM (upw (thM m 2) 35 (upd (thM m 2 35) f v)) 0
