/-! land: what is taken -/
def anB (p : Nat → Prop) [DecidablePred p] : Nat → Bool
  | 0 => false
  | n + 1 => anB p n || decide (p n)
theorem anB_iff {p : Nat → Prop} [DecidablePred p] {n : Nat} : anB p n = true ↔ ∃ k, k < n ∧ p k := by
  induction n with
  | zero => exact ⟨fun z => absurd z Bool.false_ne_true, fun ⟨k, h, _⟩ => absurd h (by omega)⟩
  | succ n ih =>
    unfold anB
    rw [Bool.or_eq_true, decide_eq_true_iff, ih]
    constructor
    · rintro (⟨k, h1, h2⟩ | h)
      · exact ⟨k, by omega, h2⟩
      · exact ⟨n, by omega, h⟩
    · rintro ⟨k, h1, h2⟩
      by_cases q : k = n
      · right; rw [← q]; exact h2
      · left; exact ⟨k, by omega, h2⟩
theorem anB_no {p : Nat → Prop} [DecidablePred p] {n : Nat} (h : ∀ k, k < n → ¬ p k) : anB p n = false := by
  cases q : anB p n with
  | false => rfl
  | true => obtain ⟨k, h1, h2⟩ := anB_iff.mp q; exact absurd h2 (h k h1)
def zI (b : Bool) : Int32 := if b = true then 1 else 0
theorem zI_t : zI true = 1 := rfl
theorem zI_f : zI false = 0 := rfl
/-- the class: a station in a cell -/
theorem s_hasIn {h : MH} {K m : Nat → Nat → Int32} {nst c : Nat} {cd : Nat → Nat} (F : Fix h) (h0 : K 16 0 = nI nst) (hn1 : nst ≤ 30) (hcd : ∀ i, i < nst → K 17 i = nI (cd i) ∧ cd i < 100000) (hc : c < 60) : M_X7_hasStationIn (some 16) (nI c) (st h K m) = rtI (zI (anB (fun i => cd i % 60 = c) nst)) (st h K m) := by
  refine zlp (G := fun n i => L_X7_hasStationIn_2 n (some 16) (nI c) (nI i) (st h K m)) (fun i => ∀ k, k < i → ¬ cd k % 60 = c) nst _ (fun n i hi hI => ?_) (fun n hI => ?_) nst fuel 0 (by omega) (by have : fuel = 1000 := rfl; omega) (fun k hk1 => absurd hk1 (by omega))
  · show B_X7_hasStationIn_2 (L_X7_hasStationIn_2 n) (some 16) (nI c) (nI i) (st h K m) = _ ∨ (_ ∧ B_X7_hasStationIn_2 (L_X7_hasStationIn_2 n) (some 16) (nI c) (nI i) (st h K m) = _)
    unfold B_X7_hasStationIn_2
    rw [g16 F, h0, if_neg (nI_ge hi (by omega)), r16_1 F, a17 F, if_neg (nI_ge (by omega) (by omega)), c16 F, s_cellOf F (by omega) (hcd i hi).1 (hcd i hi).2, x_rtI]
    by_cases q : cd i % 60 = c
    · left
      rw [if_neg (show ¬ nI (cd i % 60) ≠ nI c by rw [q]; exact fun z => z rfl), rtZ_1, anB_iff.mpr ⟨i, hi, q⟩, zI_t]
    · right
      refine ⟨fun k hk1 => ?_, ?_⟩
      · by_cases e : k = i
        · rw [e]; exact q
        · exact hI k (by omega)
      · rw [if_pos (show nI (cd i % 60) ≠ nI c from fun z => q ((nI_eq (by omega) (by omega)).mp z)), x_bnd, nIs]
  · show B_X7_hasStationIn_2 (L_X7_hasStationIn_2 n) (some 16) (nI c) (nI nst) (st h K m) = _
    unfold B_X7_hasStationIn_2
    rw [g16 F, h0, if_pos (nI_le (Nat.le_refl _) (by omega)), rtZ_0, anB_no hI, zI_f]
/-- the class: is a cell taken -/
theorem s_isTaken {h : MH} {K m mm : Nat → Nat → Int32} {nb ns nst c : Nat} {cd : Nat → Nat} (F : Fix h) (R13 : Row h 13 8 0 nb) (R20 : Row h 20 4 6 ns) (hnb : nb ≤ 8) (hns : ns ≤ 4) (hb : ∀ k, k < nb → K (bu h k) 3 = m 30 k) (hse : ∀ s, s < ns → K (se h s) 0 = m 45 s) (h0 : K 16 0 = nI nst) (hn1 : nst ≤ 30) (hcd : ∀ i, i < nst → K 17 i = nI (cd i) ∧ cd i < 100000) (hc : c < 60) : M_X8_isTaken (some 1) (nI c) (st h K mm) = rtI (zI (anB (fun k => m 30 k = nI c) nb || (anB (fun s => m 45 s = nI c) ns || anB (fun i => cd i % 60 = c) nst))) (st h K mm) := by
  have h56 : L_X8_isTaken_56 fuel (some 1) (nI c) (some 20) (nI 4) (nI 0) (st h K mm) = rtI (zI (anB (fun s => m 45 s = nI c) ns || anB (fun i => cd i % 60 = c) nst)) (st h K mm) := by
    refine zlp (G := fun n i => L_X8_isTaken_56 n (some 1) (nI c) (some 20) (nI 4) (nI i) (st h K mm)) (fun i => ∀ k, k < i → k < ns → ¬ m 45 k = nI c) 4 _ (fun n i hi hI => ?_) (fun n hI => ?_) 4 fuel 0 (by omega) (by decide) (fun k hk1 => absurd hk1 (by omega))
    · show B_X8_isTaken_56 (L_X8_isTaken_56 n) (some 1) (nI c) (some 20) (nI 4) (nI i) (st h K mm) = _ ∨ (_ ∧ B_X8_isTaken_56 (L_X8_isTaken_56 n) (some 1) (nI c) (some 20) (nI 4) (nI i) (st h K mm) = _)
      unfold B_X8_isTaken_56 B_X8_isTaken_84
      rw [if_neg (nI_ge hi (by decide)), d20 F hi]
      simp only [x_bnd, nIs]
      by_cases hin : i < ns
      · have q := row_se R20 hin
        have hA : cA (se h i) := Or.inr (by omega)
        rw [q.1, if_neg (by intro z; cases z), K_gf q.2.1 hA, hse i hin]
        by_cases h1 : m 45 i = nI c
        · left
          rw [if_neg (fun z => z h1), rtZ_1, anB_iff.mpr ⟨i, hin, h1⟩, Bool.true_or, zI_t]
        · right
          refine ⟨fun k hk1 hk2 => ?_, if_pos h1⟩
          by_cases e : k = i
          · rw [e]; exact h1
          · exact hI k (by omega) hk2
      · right
        refine ⟨fun k hk1 hk2 => hI k (by omega) hk2, ?_⟩
        rw [R20.2.1 i (by omega) hi, if_pos rfl]
    · show B_X8_isTaken_56 (L_X8_isTaken_56 n) (some 1) (nI c) (some 20) (nI 4) (nI 4) (st h K mm) = _
      unfold B_X8_isTaken_56
      rw [if_pos (nI_le (Nat.le_refl _) (by decide)), r1_3 F, c16 F, s_hasIn F h0 hn1 hcd hc, x_rtI, anB_no (fun k hk1 => hI k (by omega) hk1), Bool.false_or]
      cases anB (fun i => cd i % 60 = c) nst with
      | false => rw [zI_f, rtZ_0]
      | true => rw [zI_t, rtZ_1]
  unfold M_X8_isTaken
  rw [r1_1 F, a13 F]
  refine zlp (G := fun n i => L_X8_isTaken_11 n (some 1) (nI c) (some 13) (nI 8) (nI i) (st h K mm)) (fun i => ∀ k, k < i → k < nb → ¬ m 30 k = nI c) 8 _ (fun n i hi hI => ?_) (fun n hI => ?_) 8 fuel 0 (by omega) (by decide) (fun k hk1 => absurd hk1 (by omega))
  · show B_X8_isTaken_11 (L_X8_isTaken_11 n) (some 1) (nI c) (some 13) (nI 8) (nI i) (st h K mm) = _ ∨ (_ ∧ B_X8_isTaken_11 (L_X8_isTaken_11 n) (some 1) (nI c) (some 13) (nI 8) (nI i) (st h K mm) = _)
    unfold B_X8_isTaken_11 B_X8_isTaken_39
    rw [if_neg (nI_ge hi (by decide)), d13 F hi]
    simp only [x_bnd, nIs]
    by_cases hin : i < nb
    · have q := row_bu R13 hin
      have hA : cA (bu h i) := Or.inr (by omega)
      rw [q.1, if_neg (by intro z; cases z), K_gf q.2.1 hA, hb i hin]
      by_cases h1 : m 30 i = nI c
      · left
        rw [if_neg (fun z => z h1), rtZ_1, anB_iff.mpr ⟨i, hin, h1⟩, Bool.true_or, zI_t]
      · right
        refine ⟨fun k hk1 hk2 => ?_, if_pos h1⟩
        by_cases e : k = i
        · rw [e]; exact h1
        · exact hI k (by omega) hk2
    · right
      refine ⟨fun k hk1 hk2 => hI k (by omega) hk2, ?_⟩
      rw [R13.2.1 i (by omega) hi, if_pos rfl]
  · show B_X8_isTaken_11 (L_X8_isTaken_11 n) (some 1) (nI c) (some 13) (nI 8) (nI 8) (st h K mm) = _
    unfold B_X8_isTaken_11
    rw [if_pos (nI_le (Nat.le_refl _) (by decide)), r1_4 F, a20 F, anB_no (fun k hk1 => hI k (by omega) hk1), Bool.false_or]
    exact h56
