/-! total -/
def smf (r : Nat → Int32) : Nat → Int32 := fo (fun k z => z + r k) 0
theorem smf_two {r : Nat → Int32} {n : Nat} : smf r (60 + n) = smf r 60 + smf (fun j => r (60 + j)) n := by
  induction n with
  | zero => exact (Int32.add_zero _).symm
  | succ n ih =>
    show smf r (60 + n) + r (60 + n) = smf r 60 + (smf (fun j => r (60 + j)) n + r (60 + n))
    rw [ih, Int32.add_assoc]
theorem smf_congr {r s : Nat → Int32} {n : Nat} (h : ∀ j, j < n → r j = s j) : smf r n = smf s n := fo_congr fun i hi t => by rw [h i hi]
theorem s_sumOf {h : MH} {K m : Nat → Nat → Int32} {a : Nat} (hka : hk h a = 20) (hla : hl h a = 60) (ha : cA a) : M_X8_sumOf (some a) (st h K m) = rtI (smf (K a) 60) (st h K m) := by
  unfold M_X8_sumOf
  rw [K_al hka (by decide) hla]
  have hG := zlp0 (G := fun n i => L_X8_sumOf_10 n (smf (K a) i) (some a) (nI 60) (nI i) (st h K m)) (N := 60) (r := rtI (smf (K a) 60) (st h K m)) (by decide) ?_ ?_
  · exact hG
  · intro n i hi
    show B_X8_sumOf_10 (L_X8_sumOf_10 n) (smf (K a) i) (some a) (nI 60) (nI i) (st h K m) = _
    unfold B_X8_sumOf_10
    rw [if_neg (nI_ge hi (by decide)), K_rd hka hla ha hi (by decide), x_bnd, x_bnd, nIs]
    rfl
  · intro n
    show B_X8_sumOf_10 (L_X8_sumOf_10 n) (smf (K a) 60) (some a) (nI 60) (nI 60) (st h K m) = _
    unfold B_X8_sumOf_10
    rw [if_pos (nI_le (Nat.le_refl _) (by decide))]
theorem s_mTotal {h : MH} {K m : Nat → Nat → Int32} (F : Fix h) (h0 : m 22 0 = 0) {w : Nat} (hw : w = 0 ∨ w = 1) : B_X9_total_37 (some 22) (nI w) (st h K m) = rtI (smf (m (26 + w)) 120) (st h K m) := by
  have hG := zlp0 (G := fun n i => L_X9_total_41 n (some 22) (nI w) (smf (m (26 + w)) i) (nI i) (st h K m)) (N := 120) (r := rtI (smf (m (26 + w)) 120) (st h K m)) (by decide) ?_ ?_
  · exact hG
  · intro n i hi
    show B_X9_total_41 (L_X9_total_41 n) (some 22) (nI w) (smf (m (26 + w)) i) (nI i) (st h K m) = L_X9_total_41 n (some 22) (nI w) (smf (m (26 + w)) (i + 1)) (nI (i + 1)) (st h K m)
    unfold B_X9_total_41 B_X9_total_79
    rw [if_neg (show ¬ (120 : Int32) ≤ nI i from nI_ge (b := 120) hi (by decide)), g22 F, h0, if_neg (fun z => z rfl), if_neg (show ¬ (2 : Int32) ≤ nI w from nI_ge (b := 2) (by omega) (by decide))]
    rcases hw with rfl | rfl
    · rw [if_neg (fun z => z rfl), r22_6 F, d26 F hi, x_bnd, x_bnd, nIs]; rfl
    · rw [if_pos (by decide), r22_7 F, d27 F hi, x_bnd, x_bnd, nIs]; rfl
  · intro n
    show B_X9_total_41 (L_X9_total_41 n) (some 22) (nI w) (smf (m (26 + w)) 120) (nI 120) (st h K m) = _
    unfold B_X9_total_41
    rw [if_pos (show (120 : Int32) ≤ nI 120 from nI_le (a := 120) (Nat.le_refl _) (by decide))]
theorem op_total (x : Int32) : OpR eS2 (M_X8_total (some 1) x) (M_X9_total (some 22) x) := by
  intro B h K m I
  have F := I.F
  have I0 := I
  obtain ⟨nb, nr, ns, np, nsm, nst, d, R, L⟩ := I
  have C := R.2.1
  by_cases hx : (0 : Int32) ≤ x ∧ x ≤ (2 : Int32)
  · obtain ⟨w, hw, rfl⟩ := nI_rng (x := x) (n := 2) (by decide) hx.1 hx.2
    rcases (show w = 0 ∨ w = 1 ∨ w = 2 by omega) with rfl | rfl | rfl
    · refine OpR_v I0 (smf (K 4) 60 + smf (K 7) 60) ?_ (fun h' F' => ?_)
      · unfold M_X8_total
        rw [s_needRange_t hx, x_rtV, if_pos (by decide), r1_0 F, r2_0 F, r3_0 F, s_sumOf (Fk4 F) (Fl4 F) (Or.inl (by decide)), x_rtI, r1_0 F, r2_1 F, r6_0 F, s_sumOf (Fk7 F) (Fl7 F) (Or.inl (by decide)), x_rtI, x_bnd]
      · unfold M_X9_total B_X9_total_15
        rw [s_in, x_rtI, bI_t hx, if_neg (by decide), p22 F', thM_eq, g22 F', thM_0, if_neg (fun z => z rfl), if_pos (by decide), s_mTotal F' thM_0 (Or.inl rfl), thM_o (by decide), show (120 : Nat) = 60 + 60 from rfl, smf_two, smf_congr (r := K 4) (s := m 26) (fun j hj => (C.2.1 j hj).1), smf_congr (r := K 7) (s := fun j => m 26 (60 + j)) (fun j hj => (C.2.1 j hj).2.1)]
    · refine OpR_v I0 (smf (K 5) 60 + smf (K 8) 60) ?_ (fun h' F' => ?_)
      · unfold M_X8_total
        rw [s_needRange_t hx, x_rtV, if_neg (by decide), if_pos (by decide), r1_0 F, r2_0 F, r3_1 F, s_sumOf (Fk5 F) (Fl5 F) (Or.inl (by decide)), x_rtI, r1_0 F, r2_1 F, r6_1 F, s_sumOf (Fk8 F) (Fl8 F) (Or.inl (by decide)), x_rtI, x_bnd]
      · unfold M_X9_total B_X9_total_15
        rw [s_in, x_rtI, bI_t hx, if_neg (by decide), p22 F', thM_eq, g22 F', thM_0, if_neg (fun z => z rfl), if_pos (by decide), s_mTotal F' thM_0 (Or.inr rfl), thM_o (by decide), show (120 : Nat) = 60 + 60 from rfl, smf_two, smf_congr (r := K 5) (s := m 27) (fun j hj => (C.2.1 j hj).2.2.1), smf_congr (r := K 8) (s := fun j => m 27 (60 + j)) (fun j hj => (C.2.1 j hj).2.2.2)]
    · refine OpR_v I0 (K 2 4) ?_ (fun h' F' => ?_)
      · unfold M_X8_total
        rw [s_needRange_t hx, x_rtV, if_neg (by decide), if_neg (by decide), r1_0 F, g2 F]
      · unfold M_X9_total B_X9_total_15
        rw [s_in, x_rtI, bI_t hx, if_neg (by decide), p22 F', thM_eq, g22 F', thM_0, if_neg (fun z => z rfl), if_neg (fun z => z rfl), g22 F', thM_22 (by decide), ← C.2.2.1]
        unfold B_X9_total_38
        rw [show fuel = 999 + 1 from rfl]
        show B_X9_total_41 (L_X9_total_41 999) (some 22) (nI 2) (K 2 4) 0 (st h' K (thM m 0)) = _
        unfold B_X9_total_41
        rw [if_neg (by decide), g22 F', thM_0, if_neg (fun z => z rfl), if_pos (by decide)]
  · refine OpR_t I0 2 1 (by decide) rfl ?_ (fun h' F' => ?_)
    · unfold M_X8_total
      rw [s_needRange_f hx, x_thr]
    · unfold M_X9_total B_X9_total_15
      rw [s_in, x_rtI, bI_f hx, if_pos rfl, p22 F', thM_eq, g22 F', thM_0, if_pos (by decide)]
      unfold B_X9_total_37 B_X9_total_38
      rw [show fuel = 999 + 1 from rfl]
      show B_X9_total_41 (L_X9_total_41 999) (some 22) x 0 0 (st h' K (thM m 1)) = _
      unfold B_X9_total_41
      rw [if_neg (by decide), g22 F', thM_0, if_pos (by decide)]
/-! what stays when an object is made -/
theorem Rel.new {h h1 : MH} {K m K1 m1 : Nat → Nat → Int32} {B nb nr ns np nsm d : Nat} {S : STy} (R : Rel h K m B nb nr ns np nsm d S) (E : Ext h h1) (e13 : ∀ k, k < nb → hr h1 13 k = hr h 13 k) (e15 : ∀ j, hr h1 15 j = hr h 15 j) (e20 : ∀ k, k < ns → hr h1 20 k = hr h 20 k) (e21 : ∀ k, k < np → hr h1 21 k = hr h 21 k) (ed : ∀ a j, 50 < a → a ≤ hn h → hr h1 a j = hr h a j) (kK : ∀ a, 50 < a → a ≤ hn h → K1 a = K a) (hm : ∀ a ∈ [40, 41, 42, 43, 44], m1 a = m a) : (∀ k, k < nb → bu h1 k = bu h k) ∧ (∀ s, s < ns → se h1 s = se h s ∧ ca h1 s = ca h s ∧ co h1 s = co h s) ∧ (∀ p, p < np → pa h1 p = pa h p) ∧ (∀ r, rd h1 r = rd h r) ∧ Crd h1 K1 m1 nb nr ∧ Clk h1 m1 nb nr := by
  obtain ⟨⟨F, hN, R13, R15, R20, R21, RS⟩, C1, C2, C3, C4, C5, C6, C7, C8, C9⟩ := R
  have b1 : ∀ k, k < nb → bu h1 k = bu h k := fun k hk1 => by unfold bu; rw [e13 k hk1]
  have s1 : ∀ s, s < ns → se h1 s = se h s := fun k hk1 => by unfold se; rw [e20 k hk1]
  have p1 : ∀ p, p < np → pa h1 p = pa h p := fun k hk1 => by unfold pa; rw [e21 k hk1]
  have r1 : ∀ r, rd h1 r = rd h r := fun r => by unfold rd; rw [e15]
  have rl : ∀ r, r < nr → rd h r ≤ hn h ∧ 50 < rd h r := fun r hr1 => by
    have q := row_rd R15 hr1
    exact ⟨F.le (by omega), q.2.2⟩
  have bl : ∀ k, k < nb → bu h k ≤ hn h ∧ 50 < bu h k := fun k hk1 => by
    have q := row_bu R13 hk1
    exact ⟨F.le (by omega), q.2.2⟩
  refine ⟨b1, fun s hs => ?_, p1, r1, ?_, ?_⟩
  · have q := row_se R20 hs
    have ql := F.le (a := se h s) (by omega)
    refine ⟨s1 s hs, ?_, ?_⟩
    · unfold ca; rw [s1 s hs, ed _ _ q.2.2 ql]
    · unfold co; rw [s1 s hs, ed _ _ q.2.2 ql]
  · intro r hr1
    have q := rl r hr1
    rw [r1, kK _ q.2 q.1, hm 40 (by decide), hm 41 (by decide), hm 42 (by decide), hm 43 (by decide), hm 44 (by decide), ed _ _ q.2 q.1]
    obtain ⟨x1, x2, x3⟩ := C4 r hr1
    refine ⟨x1, x2, ?_⟩
    rcases x3 with x3 | ⟨f, f1, f2, f3⟩
    · exact Or.inl x3
    · exact Or.inr ⟨f, f1, f2, by rw [b1 f f1]; exact f3⟩
  · have er : rd h1 = rd h := funext r1
    unfold Clk
    rw [er, hm 43 (by decide)]
    refine ⟨fun r hr1 => ?_, fun k hk1 => ?_⟩
    · have q := rl r hr1
      rw [ed _ _ q.2 q.1, ed _ _ q.2 q.1]
      exact C5.1 r hr1
    · have q := bl k hk1
      rw [b1 k hk1, ed _ _ q.2 q.1]
      exact C5.2 k hk1
