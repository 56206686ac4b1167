/-! the law's rows and the ghost's -/
def V0 (d : Nat) : Nat := 84000 + 3000 * d
def LHt (r26 r27 h u a b : Nat → Int32) (d : Nat) : Prop := (∀ c, c < 60 → h c = r26 c ∧ u c = r26 (60 + c) ∧ a c = r27 c ∧ b c = r27 (60 + c)) ∧ Hts r26 r27 (V0 d)
def LSu (r25 : Nat → Int32) (gift : Int32) (q : Nat → Int32) : Prop := (∀ y, y < 6 → q (8 + y) = r25 y) ∧ Suns r25 ∧ q 1 = gift
def LFl (r30 r31 r32 r33 r34 r35 f : Nat → Int32) (nb d : Nat) : Prop := (∀ k, k < nb → (f (8 * k) = r30 k ∧ f (8 * k + 1) = r31 k ∧ f (8 * k + 2) = r32 k ∧ f (8 * k + 3) = r33 k ∧ f (8 * k + 4) = r34 k ∧ f (8 * k + 5) = r35 k) ∧ (∃ b, b ≤ 100 ∧ r34 k = nI b - 50) ∧ ∃ y z, y ≤ V0 d + 100 ∧ z ≤ V0 d + 100 ∧ r35 k = nI y - nI z) ∧ ∀ k, nb ≤ k → k < 8 → f (8 * k + 5) = 0
def LRd (r40 r41 r42 r43 r44 D V W : Nat → Int32) (nb nr d : Nat) : Prop := ∀ r, r < nr → ∃ dy c b e x : Nat, (dy ≤ d ∧ c < 60 ∧ e ≤ 3 ∧ x ≤ V0 d + 100) ∧ (r40 r = nI dy ∧ r41 r = nI c ∧ r42 r = nI x - 50 ∧ r44 r = nI e - 1) ∧ (D r = nI (64 * dy + c) ∧ V r = r42 r ∧ W r = nI (b + 16 * e)) ∧ ((b = 0 ∧ r43 r = -1) ∨ ∃ f, f < nb ∧ b = f + 1 ∧ r43 r = nI f)
def LCh (r23 r46 p g : Nat → Int32) : Prop := (∀ c, c < 60 → p c = r46 c ∧ g c = r46 (60 + c)) ∧ ∃ ch : Nat → Nat, (∀ j, j < 120 → r46 j = nI (ch j)) ∧ smn ch 60 ≤ 10000 ∧ smn (fun j => ch (60 + j)) 60 ≤ 10000 ∧ ∀ c, c < 60 → r23 c ≠ 0 → ch c = 0 ∧ ch (60 + c) = 0
def LSt (r36 r37 r38 r39 t m : Nat → Int32) (nst nsm : Nat) : Prop := (∀ k, k < nst → ∃ D c : Nat, c < 60 ∧ D ≤ 1000 ∧ r36 k = nI D ∧ r37 k = nI c ∧ t k = nI (64 * D + c)) ∧ ∀ k, k < nsm → m (2 * k) = r38 k ∧ m (2 * k + 1) = r39 k
def LQ (r22 r45 q : Nat → Int32) (nb nr ns nsm nst d : Nat) : Prop := (q 0 = nI d ∧ q 2 = nI nb ∧ q 3 = nI nst ∧ q 4 = nI nsm ∧ q 5 = nI nr ∧ q 6 = nI ns) ∧ (q 7 = r22 29 ∧ ∃ b, b ≤ 1000 ∧ r22 29 = nI b) ∧ ∀ s, s < ns → q (14 + s) = r45 s
def Abs (g M : Nat → Nat → Int32) (nb nr ns nsm nst d : Nat) : Prop := LSea (g 23) (g 24) (M 22) ∧ LHt (g 26) (g 27) (M 23) (M 24) (M 25) (M 26) d ∧ LSu (g 25) (g 22 2) (M 37) ∧ LFl (g 30) (g 31) (g 32) (g 33) (g 34) (g 35) (M 27) nb d ∧ LRd (g 40) (g 41) (g 42) (g 43) (g 44) (M 30) (M 31) (M 32) nb nr d ∧ LCh (g 23) (g 46) (M 33) (M 34) ∧ LSt (g 36) (g 37) (g 38) (g 39) (M 28) (M 29) nst nsm ∧ LQ (g 22) (g 45) (M 37) nb nr ns nsm nst d
/-! the flow, the sun and the layers in the law's day -/
theorem inw_congr {la cu t s : Nat → Int32} {c k : Nat} (hc : c < 60) (h : ∀ x, x < 60 → t x = s x) : inw la cu t c k = inw la cu s c k := by
  unfold inw
  cases hb : bes la c k with
  | none => rfl
  | some q =>
    have := h q (bes_lt hc hb)
    simp only
    rw [this]
theorem flwd_congr {la cu A B : Nat → Int32} {c : Nat} (hc : c < 60) (h : ∀ x, x < 60 → A x = B x) : flwd la cu A c = flwd la cu B c := by
  have e : ∀ x, x < 60 → (fun x => A x / 10) x = (fun x => B x / 10) x := fun x hx => by show A x / 10 = B x / 10; rw [h x hx]
  unfold flwd
  rw [h c hc, inw_congr (k := 1) hc e, inw_congr (k := 2) hc e, inw_congr (k := 3) hc e, inw_congr (k := 4) hc e]
def fwd (la cu A : Nat → Int32) (c : Nat) : Int32 := if la c = 0 then flwd la cu A c else 0
def pA1 (la cu : Nat → Int32) (M : Nat → Nat → Int32) (i : Nat) : Nat → Nat → Int32 := upw (upw M 35 (ptw (fwd la cu (M 23)) (M 35) i)) 36 (ptw (fwd la cu (M 25)) (M 36) i)
def pA2 (la cu : Nat → Int32) (M : Nat → Nat → Int32) : Nat → Nat → Int32 := upw (pA1 la cu M 60) 25 (ptw (pA1 la cu M 60 36) (M 25) 60)
theorem s_pass11 {h : MH} {K M : Nat → Nat → Int32} {la cu : Nat → Int32} (F : Fix h) (S : LSea la cu (M 22)) : L_L_passes_11 fuel (some 22) (some 23) (some 24) (some 25) (some 26) (some 27) (some 28) (some 29) (some 30) (some 31) (some 32) (some 33) (some 34) (some 35) (some 36) (some 37) 0 (st h K M) = L_L_passes_83 fuel (some 22) (some 23) (some 24) (some 25) (some 26) (some 27) (some 28) (some 29) (some 30) (some 31) (some 32) (some 33) (some 34) (some 35) (some 36) (some 37) 0 (st h K (pA2 la cu M)) := by
  have e0 : pA1 la cu M 0 = M := by
    unfold pA1
    rw [ptw_0, ptw_0, upw_id, upw_id]
  have g (i a : Nat) (h1 : a ≠ 35) (h2 : a ≠ 36) : pA1 la cu M i a = M a := by unfold pA1; rw [upw_o h2, upw_o h1]
  have hG := zlp0 (G := fun n i => L_L_passes_11 n (some 22) (some 23) (some 24) (some 25) (some 26) (some 27) (some 28) (some 29) (some 30) (some 31) (some 32) (some 33) (some 34) (some 35) (some 36) (some 37) (nI i) (st h K (pA1 la cu M i))) (N := 60) (r := L_L_passes_83 fuel (some 22) (some 23) (some 24) (some 25) (some 26) (some 27) (some 28) (some 29) (some 30) (some 31) (some 32) (some 33) (some 34) (some 35) (some 36) (some 37) 0 (st h K (pA2 la cu M))) (by decide) ?_ ?_
  · rw [e0] at hG; exact hG
  · intro n i hi
    have S1 : LSea la cu (pA1 la cu M i 22) := by rw [g i 22 (by decide) (by decide)]; exact S
    have e35 : upd (pA1 la cu M i 35) i (fwd la cu (M 23) i) = ptw (fwd la cu (M 23)) (M 35) (i + 1) := by
      show upd (upw (upw M 35 _) 36 _ 35) i _ = _
      rw [upw_o (by decide), upw_s]; exact ptw_n rfl
    have e36 : upd (pA1 la cu M i 36) i (fwd la cu (M 25) i) = ptw (fwd la cu (M 25)) (M 36) (i + 1) := by
      show upd (upw (upw M 35 _) 36 _ 36) i _ = _
      rw [upw_s]; exact ptw_n rfl
    have fin : upw (upw (pA1 la cu M i) 35 (ptw (fwd la cu (M 23)) (M 35) (i + 1))) 36 (ptw (fwd la cu (M 25)) (M 36) (i + 1)) = pA1 la cu M (i + 1) := by
      funext a
      unfold pA1
      by_cases h1 : a = 36
      · subst h1; simp [upw]
      · by_cases h2 : a = 35
        · subst h2; simp [upw]
        · simp [upw, h1, h2]
    show B_L_passes_11 (L_L_passes_11 n) (some 22) (some 23) (some 24) (some 25) (some 26) (some 27) (some 28) (some 29) (some 30) (some 31) (some 32) (some 33) (some 34) (some 35) (some 36) (some 37) (nI i) (st h K (pA1 la cu M i)) = L_L_passes_11 n (some 22) (some 23) (some 24) (some 25) (some 26) (some 27) (some 28) (some 29) (some 30) (some 31) (some 32) (some 33) (some 34) (some 35) (some 36) (some 37) (nI (i + 1)) (st h K (pA1 la cu M (i + 1)))
    unfold B_L_passes_11 B_L_passes_42 B_L_passes_67
    rw [if_neg (show ¬ (60 : Int32) ≤ nI i from nI_ge (b := 60) hi (by decide)), d22 F hi]
    by_cases hl : la i = 0
    · have hn := (S1.sea hi hl).2.1
      have S2 : LSea la cu (upw (pA1 la cu M i) 35 (ptw (fwd la cu (M 23)) (M 35) (i + 1)) 22) := by rw [upw_o (by decide)]; exact S1
      have v23 : flwd la cu (pA1 la cu M i 23) i = fwd la cu (M 23) i := by rw [g i 23 (by decide) (by decide)]; exact (if_pos hl).symm
      have v25 : flwd la cu (upw (pA1 la cu M i) 35 (ptw (fwd la cu (M 23)) (M 35) (i + 1)) 25) i = fwd la cu (M 25) i := by rw [upw_o (by decide), g i 25 (by decide) (by decide)]; exact (if_pos hl).symm
      rw [if_neg hn, s_flowed F S1 (Fk23 F) (Fl23 F) ⟨by decide, by decide⟩ hi, x_rtI, v23, w35 F hi, e35, d22 F hi, upw_o (show (22 : Nat) ≠ 35 by decide), if_neg hn, s_flowed F S2 (Fk25 F) (Fl25 F) ⟨by decide, by decide⟩ hi, x_rtI, v25, w36 F hi, upw_o (show (36 : Nat) ≠ 35 by decide), e36, x_bnd, nIs, fin]
    · have hn := (S1.lnd hi hl).2.1
      have v23 : fwd la cu (M 23) i = 0 := if_neg hl
      have v25 : fwd la cu (M 25) i = 0 := if_neg hl
      rw [v23] at e35
      rw [v25] at e36
      rw [if_pos hn, w35 F hi, e35, d22 F hi, upw_o (show (22 : Nat) ≠ 35 by decide), if_pos hn, w36 F hi, upw_o (show (36 : Nat) ≠ 35 by decide), e36, x_bnd, nIs, fin]
  · intro n
    show B_L_passes_11 (L_L_passes_11 n) (some 22) (some 23) (some 24) (some 25) (some 26) (some 27) (some 28) (some 29) (some 30) (some 31) (some 32) (some 33) (some 34) (some 35) (some 36) (some 37) (nI 60) (st h K (pA1 la cu M 60)) = _
    unfold B_L_passes_11
    rw [if_pos (show (60 : Int32) ≤ nI 60 from nI_le (a := 60) (Nat.le_refl _) (by decide)), s_copies (Fk36 F) (Fl36 F) ⟨by decide, by decide⟩ (Fk25 F) (Fl25 F) ⟨by decide, by decide⟩ (by decide), x_rtV, g 60 25 (by decide) (by decide)]
    rfl
