/-! the stations of a day, whole -/
theorem s_countDue {h : MH} {K m : Nat → Nat → Int32} {nst d : Nat} {cd : Nat → Nat} (F : Fix h) (hc : K 16 0 = nI nst) (hn1 : nst ≤ 30) (hk17 : ∀ i, i < nst → K 17 i = nI (cd i) ∧ cd i < 100000) (hcd : ∀ i j, i < j → j < nst → cd i < cd j) (hd1 : d ≤ 1000) : M_X7_countDue (some 16) (nI d) (st h K m) = rtI (nI (fcn cd (60 * d + 60) nst)) (st h K m) := by
  refine zlp (G := fun n i => L_X7_countDue_2 n (some 16) (nI d) (nI i) (st h K m)) (fun i => ∀ j, j < i → cd j < 60 * d + 60) nst _ (fun n i hi hI => ?_) (fun n hI => ?_) nst fuel 0 (by omega) (by have : fuel = 1000 := rfl; omega) (fun j hj => by omega)
  · show B_X7_countDue_2 (L_X7_countDue_2 n) (some 16) (nI d) (nI i) (st h K m) = _ ∨ (_ ∧ B_X7_countDue_2 (L_X7_countDue_2 n) (some 16) (nI d) (nI i) (st h K m) = _)
    have hx := hk17 i hi
    unfold B_X7_countDue_2 M_X7_dayOf
    rw [g16 F, hc, if_neg (nI_ge hi (by omega)), r16_1 F, a17 F, if_neg (nI_ge (show i < 30 by omega) (by decide)), r16_1 F, d17 F (by omega), hx.1, q_dv (by decide), show nI (cd i) / 60 = nI (cd i / 60) from nI_div 60 (by omega) (by decide) (by decide), x_rtI]
    by_cases q : d < cd i / 60
    · rw [if_pos (nI_lt q (by omega))]
      refine Or.inl ?_
      rw [fcn_eq (T := 60 * d + 60) hcd (by omega) hI (fun _ => by omega)]
    · rw [if_neg (nI_nlt (by omega) (by omega)), x_bnd, nIs]
      refine Or.inr ⟨fun j hj => ?_, rfl⟩
      by_cases e : j = i
      · rw [e]; omega
      · exact hI j (by omega)
  · show B_X7_countDue_2 (L_X7_countDue_2 n) (some 16) (nI d) (nI nst) (st h K m) = _
    unfold B_X7_countDue_2
    rw [g16 F, hc, if_pos (nI_le (Nat.le_refl _) (by omega)), fcn_eq (T := 60 * d + 60) hcd (Nat.le_refl _) hI (fun z => by omega)]
def dropK (K : Nat → Nat → Int32) (q n : Nat) : Nat → Nat → Int32 := if q = 0 then K else upw (upw K 16 (upd (K 16) 0 (nI n))) 17 (va_cpy (K 17) (K 17) q 0 n)
theorem s_drop {h : MH} {K m : Nat → Nat → Int32} {nst q : Nat} (F : Fix h) (hc : K 16 0 = nI nst) (hn1 : nst ≤ 30) (hq : q ≤ nst) : M_X7_dropFirst (some 16) (nI q) (st h K m) = rtV (st h (dropK K q (nst - q)) m) := by
  unfold M_X7_dropFirst dropK
  by_cases h0 : q = 0
  · rw [if_pos (by rw [h0]; decide), if_pos h0]
  · rw [if_neg (nI_nle (by omega) (by omega)), g16 F, hc, if_neg (nI_nlt hq (by omega)), g16 F, r16_1 F, a17 F, hc, if_pos (nI_le hn1 (by omega)), g16 F, hc, x_bnd, pk_sub hq, p16 F, r16_1 F, r16_1 F, g16 F, upw_s, upd_s, show cpI (st h (upw K 16 (upd (K 16) 0 (nI (nst - q)))) m) (some 17) (nI q) (some 17) 0 (nI (nst - q)) = cpI (st h (upw K 16 (upd (K 16) 0 (nI (nst - q)))) m) (some 17) (nI q) (some 17) (nI 0) (nI (nst - q)) from rfl, K_cp (Fk17 F) (Fk17 F) (Fl17 F) (Fl17 F) (Or.inl (by decide)) (Or.inl (by decide)) (by omega) (by omega) (by decide) (by decide), if_neg h0, upw_o (show (17 : Nat) ≠ 16 by decide)]
