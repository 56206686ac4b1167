/-! total -/
def smf (r : Nat → Int32) : Nat → Int32 := fo (fun k z => z + r k) 0
theorem smf_two {r : Nat → Int32} {n : Nat} : smf r (60 + n) = smf r 60 + smf (fun j => r (60 + j)) n := by
  induction n with
  | zero => exact (Int32.add_zero _).symm
  | succ n ih =>
    show smf r (60 + n) + r (60 + n) = smf r 60 + (smf (fun j => r (60 + j)) n + r (60 + n))
    rw [ih, Int32.add_assoc]
theorem smf_congr {r s : Nat → Int32} {n : Nat} (h : ∀ j, j < n → r j = s j) : smf r n = smf s n := fo_congr fun i hi t => by rw [h i hi]
theorem s_sumOf {h : MH} {K m : Nat → Nat → Int32} {a : Nat} (hka : hk h a = 20) (hla : hl h a = 60) (ha : cA a) : M_X8_sumOf (some a) (st h K m) = rtI (smf (K a) 60) (st h K m) := by
  unfold M_X8_sumOf
  rw [K_al hka (by decide) hla]
  have hG := zlp0 (G := fun n i => L_X8_sumOf_10 n (smf (K a) i) (some a) (nI 60) (nI i) (st h K m)) (N := 60) (r := rtI (smf (K a) 60) (st h K m)) (by decide) ?_ ?_
  · exact hG
  · intro n i hi
    show B_X8_sumOf_10 (L_X8_sumOf_10 n) (smf (K a) i) (some a) (nI 60) (nI i) (st h K m) = _
    unfold B_X8_sumOf_10
    rw [if_neg (nI_ge hi (by decide)), K_rd hka hla ha hi (by decide), x_bnd, x_bnd, nIs]
    rfl
  · intro n
    show B_X8_sumOf_10 (L_X8_sumOf_10 n) (smf (K a) 60) (some a) (nI 60) (nI 60) (st h K m) = _
    unfold B_X8_sumOf_10
    rw [if_pos (nI_le (Nat.le_refl _) (by decide))]
/-! what stays when an object is made -/
theorem Rel.new {h h1 : MH} {K m K1 m1 : Nat → Nat → Int32} {B nb nr ns np nsm d : Nat} {S : STy} (R : Rel h K m B nb nr ns np nsm d S) (E : Ext h h1) (e13 : ∀ k, k < nb → hr h1 13 k = hr h 13 k) (e15 : ∀ j, hr h1 15 j = hr h 15 j) (e20 : ∀ k, k < ns → hr h1 20 k = hr h 20 k) (e21 : ∀ k, k < np → hr h1 21 k = hr h 21 k) (ed : ∀ a j, 37 < a → a ≤ hn h → hr h1 a j = hr h a j) (kK : ∀ a, 37 < a → a ≤ hn h → K1 a = K a) (hm : ∀ a ∈ [40, 41, 42, 43, 44], m1 a = m a) : (∀ k, k < nb → bu h1 k = bu h k) ∧ (∀ s, s < ns → se h1 s = se h s ∧ ca h1 s = ca h s ∧ co h1 s = co h s) ∧ (∀ p, p < np → pa h1 p = pa h p) ∧ (∀ r, rd h1 r = rd h r) ∧ Crd h1 K1 m1 nb nr ∧ Clk h1 m1 nb nr := by
  obtain ⟨⟨F, hN, R13, R15, R20, R21, RS⟩, C1, C2, C3, C4, C5, C6, C7, C8, C9⟩ := R
  have b1 : ∀ k, k < nb → bu h1 k = bu h k := fun k hk1 => by unfold bu; rw [e13 k hk1]
  have s1 : ∀ s, s < ns → se h1 s = se h s := fun k hk1 => by unfold se; rw [e20 k hk1]
  have p1 : ∀ p, p < np → pa h1 p = pa h p := fun k hk1 => by unfold pa; rw [e21 k hk1]
  have r1 : ∀ r, rd h1 r = rd h r := fun r => by unfold rd; rw [e15]
  have rl : ∀ r, r < nr → rd h r ≤ hn h ∧ 37 < rd h r := fun r hr1 => by
    have q := row_rd R15 hr1
    exact ⟨F.le (by omega), q.2.2⟩
  have bl : ∀ k, k < nb → bu h k ≤ hn h ∧ 37 < bu h k := fun k hk1 => by
    have q := row_bu R13 hk1
    exact ⟨F.le (by omega), q.2.2⟩
  refine ⟨b1, fun s hs => ?_, p1, r1, ?_, ?_⟩
  · have q := row_se R20 hs
    have ql := F.le (a := se h s) (by omega)
    refine ⟨s1 s hs, ?_, ?_⟩
    · unfold ca; rw [s1 s hs, ed _ _ q.2.2 ql]
    · unfold co; rw [s1 s hs, ed _ _ q.2.2 ql]
  · intro r hr1
    have q := rl r hr1
    rw [r1, kK _ q.2 q.1, hm 40 (by decide), hm 41 (by decide), hm 42 (by decide), hm 43 (by decide), hm 44 (by decide), ed _ _ q.2 q.1]
    obtain ⟨x1, x2, x3⟩ := C4 r hr1
    refine ⟨x1, x2, ?_⟩
    rcases x3 with x3 | ⟨f, f1, f2, f3⟩
    · exact Or.inl x3
    · exact Or.inr ⟨f, f1, f2, by rw [b1 f f1]; exact f3⟩
  · have er : rd h1 = rd h := funext r1
    unfold Clk
    rw [er, hm 43 (by decide)]
    refine ⟨fun r hr1 => ?_, fun k hk1 => ?_⟩
    · have q := rl r hr1
      rw [ed _ _ q.2 q.1, ed _ _ q.2 q.1]
      exact C5.1 r hr1
    · have q := bl k hk1
      rw [b1 k hk1, ed _ _ q.2 q.1]
      exact C5.2 k hk1
