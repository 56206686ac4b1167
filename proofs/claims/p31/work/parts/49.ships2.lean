/-! the stations' part changes -/
theorem Rel.sS {h : MH} {K m K1 m1 : Nat → Nat → Int32} {B nb nr ns np nsm nsm1 d : Nat} {S S1 : STy} (R : Rel h K m B nb nr ns np nsm d S) (hK : ∀ a, a ∉ [16, 17, 18, 19] → K1 a = K a) (hm : ∀ a, a ∉ [22, 36, 37, 38, 39] → m1 a = m a) (h22 : ∀ j, j ∉ [17, 20, 0] → m1 22 j = m 22 j) (hs1 : (K1 16 4 = nI nsm1 ∧ m1 22 20 = nI nsm1) ∧ nsm1 ≤ 20) (hS : Cst K1 m1 S1) : Rel h K1 m1 B nb nr ns np nsm1 d S1 := by
  obtain ⟨⟨F, hN, R13, R15, R20, R21, RS⟩, C1, C2, C3, C4, C5, C6, C7, C8, C9⟩ := R
  have kd : ∀ a, 37 < a → K1 a = K a := fun a ha => hK a (by simp; omega)
  refine ⟨⟨F, hN, R13, R15, R20, R21, RS⟩, ?_, ?_, ?_, ?_, ?_, hS, ?_, ?_, C9⟩
  · exact C1.fr (fun b hb => hK b (by simp at hb ⊢; omega)) (fun b hb => hm b (by simp at hb ⊢; omega)) (h22 2 (by decide))
  · obtain ⟨a1, a2, a3, a4, a6, a7, a8, a9, a10⟩ := C2
    unfold Cct
    rw [hK 1 (by decide), hK 14 (by decide), h22 10 (by decide), h22 30 (by decide), h22 33 (by decide), h22 23 (by decide), h22 1 (by decide), h22 29 (by decide)]
    exact ⟨a1, a2, a3, a4, hs1.1, a7, a8, a9, hs1.2⟩
  · exact C3.fr R13 (fun b _ hb => kd b hb) (fun b hb => hm b (by simp at hb ⊢; omega))
  · exact C4.fr R15 (fun b _ hb => kd b hb) (fun b hb => hm b (by simp at hb ⊢; omega))
  · exact C5.fr (hm 43 (by decide))
  · exact C7.fr R20 RS (fun b hb _ => kd b hb) ⟨hm 45 (by decide), hm 46 (by decide)⟩
  · exact C8.fr R21 (fun b _ hb => kd b hb) (fun b hb => hm b (by simp at hb ⊢; omega))
def Slp (nst : Nat) (cd : Nat → Nat) (T : Nat) : STy := fun k0 k17 k18 k19 n0 m36 m37 m38 m39 => (k0 = nI nst ∧ nst ≤ 30) ∧ (k18 = m38 ∧ k19 = m39) ∧ (∀ i, i < nst → k17 i = nI (cd i) ∧ cd i < 100000) ∧ ∃ (n' : Nat) (sd sc : Nat → Nat), n' ≤ 30 ∧ n0 = nI n' ∧ (∀ i, i < n' → m36 i = nI (sd i) ∧ m37 i = nI (sc i) ∧ sc i < 60 ∧ sd i ≤ 1000) ∧ ((List.range n').map fun k => sd k * 60 + sc k).Perm (((List.range nst).map cd).filter fun y => decide (T ≤ y))
def outM (m : Nat → Nat → Int32) (k n : Nat) : Nat → Nat → Int32 := upw (upw (upw m 22 (upd (m 22) 17 (nI n))) 36 (upd (m 36) k (m 36 n))) 37 (upd (m 37) k (m 37 n))
theorem s_cellOf {h : MH} {K m : Nat → Nat → Int32} {i x : Nat} (F : Fix h) (hi : i < 30) (hx : K 17 i = nI x) (hx2 : x < 100000) : M_X7_cellOf (some 16) (nI i) (st h K m) = rtI (nI (x % 60)) (st h K m) := by
  unfold M_X7_cellOf
  rw [r16_1 F, a17 F, s_isIndex_t hi (by decide), x_rtI, if_neg (by decide), r16_1 F, d17 F hi, hx, q_rm (by decide), show nI x - nI x / 60 * 60 = nI (x % 60) from nI_mod 60 (by omega) (by decide) (by decide)]
theorem fcn_step {cd : Nat → Nat} {n T : Nat} (h : ∀ i j, i < j → j < n → cd i < cd j) : (T ∈ (List.range n).map cd → fcn cd T n < n ∧ cd (fcn cd T n) = T ∧ fcn cd (T + 1) n = fcn cd T n + 1) ∧ (T ∉ (List.range n).map cd → fcn cd (T + 1) n = fcn cd T n) := by
  have hle := fcn_le (cd := cd) (T := T) (n := n)
  constructor
  · intro hm
    obtain ⟨i, hi, e⟩ := List.mem_map.mp hm
    have hi := List.mem_range.mp hi
    have a1 : ¬ i < fcn cd T n := fun z => by have := (fcn_iff h hi).mp z; omega
    have e2 : fcn cd T n = i := by
      by_cases q : fcn cd T n < i
      · have h1 := h _ _ q hi
        have := (fcn_iff (T := T) h (i := fcn cd T n) (by omega)).mpr (by omega)
        omega
      · omega
    refine ⟨by omega, by rw [e2]; exact e, ?_⟩
    rw [e2]
    refine fcn_eq h (by omega) (fun j hj => ?_) (fun hj => ?_)
    · by_cases q : j = i
      · rw [q]; omega
      · have := h j i (by omega) hi; omega
    · have := h i (i + 1) (by omega) hj; omega
  · intro hm
    refine fcn_eq h hle (fun j hj => ?_) (fun hj => ?_)
    · have := (fcn_iff h (by omega)).mp hj; omega
    · have h1 : ¬ cd (fcn cd T n) < T := fun z => by have := (fcn_iff h hj).mpr z; omega
      have h2 : cd (fcn cd T n) ≠ T := fun z => hm (by rw [← z]; exact List.mem_map.mpr ⟨_, List.mem_range.mpr hj, rfl⟩)
      omega
