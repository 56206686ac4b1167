/-! calls that touch the sea alone, and calls that only ask -/
theorem Rel.seaX {h : MH} {K m K1 m1 : Nat → Nat → Int32} {B nb nr ns np nsm d : Nat} {S : STy} (R : Rel h K m B nb nr ns np nsm d S) (hK : ∀ a, a ∉ [2, 4, 5, 7, 8, 9, 10, 11] → K1 a = K a) (hm : ∀ a, a ∉ [22, 23, 24, 25, 26, 27] → m1 a = m a) (h22 : ∀ j, j ∉ [0, 2] → m1 22 j = m 22 j) (C : Csea K1 m1) : Rel h K1 m1 B nb nr ns np nsm d S := by
  obtain ⟨⟨F, hN, R13, R15, R20, R21, RS⟩, C1, C2, C3, C4, C5, C6, C7, C8, C9⟩ := R
  have kd : ∀ a, 37 < a → K1 a = K a := fun a ha => hK a (by simp; omega)
  refine ⟨⟨F, hN, R13, R15, R20, R21, RS⟩, C, ?_, ?_, ?_, ?_, ?_, ?_, ?_, C9⟩
  · unfold Cct
    rw [hK 1 (by decide), hK 14 (by decide), hK 16 (by decide), h22 10 (by decide), h22 30 (by decide), h22 33 (by decide), h22 23 (by decide), h22 20 (by decide), h22 1 (by decide), h22 29 (by decide)]
    exact C2
  · exact C3.fr R13 (fun b _ hb => kd b hb) (fun b hb => hm b (by simp at hb ⊢; omega))
  · exact C4.fr R15 (fun b _ hb => kd b hb) (fun b hb => hm b (by simp at hb ⊢; omega))
  · exact C5.fr (hm 43 (by decide))
  · exact C6.fr (fun b hb => hK b (by simp at hb ⊢; omega)) (fun b hb => hm b (by simp at hb ⊢; omega)) (by rw [hK 16 (by decide)]) (h22 17 (by decide))
  · exact C7.fr R20 RS (fun b hb _ => kd b hb) ⟨hm 45 (by decide), hm 46 (by decide)⟩
  · exact C8.fr R21 (fun b _ hb => kd b hb) (fun b hb => hm b (by simp at hb ⊢; omega))
