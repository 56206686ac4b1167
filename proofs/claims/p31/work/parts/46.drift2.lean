/-! one field of a float is set, on both sides -/
theorem Rel.pb {h : MH} {K m : Nat → Nat → Int32} {B nb nr ns np nsm d k : Nat} {S : STy} {v : Int32} (R : Rel h K m B nb nr ns np nsm d S) (hk1 : k < nb) (j a : Nat) (ja : (j = 3 ∧ a = 30 ∧ ∃ c, c < 60 ∧ v = nI c) ∨ (j = 4 ∧ a = 32) ∨ (j = 5 ∧ a = 33 ∧ ∃ b, b ≤ 100 ∧ v = nI b) ∨ (j = 6 ∧ a = 35)) : Rel h (upw K (bu h k) (upd (K (bu h k)) j v)) (upw m a (upd (m a) k v)) B nb nr ns np nsm d S := by
  obtain ⟨⟨F, hN, R13, R15, R20, R21, RS⟩, C1, C2, C3, C4, C5, C6, C7, C8, C9⟩ := R
  have q := row_bu R13 hk1
  have kO : ∀ b, b ≠ bu h k → upw K (bu h k) (upd (K (bu h k)) j v) b = K b := fun b hb => upw_o hb
  have kk : ∀ b, hk h b ≠ 0 → upw K (bu h k) (upd (K (bu h k)) j v) b = K b := fun b hb => kO b (fun z => hb (by rw [z]; exact q.2.1))
  have k22 : ∀ b, b < 22 → upw K (bu h k) (upd (K (bu h k)) j v) b = K b := fun b hb => kO b (by omega)
  have ha : a = 30 ∨ a = 32 ∨ a = 33 ∨ a = 35 := by omega
  have mO : ∀ b, b ≠ a → upw m a (upd (m a) k v) b = m b := fun b hb => upw_o hb
  refine ⟨⟨F, hN, R13, R15, R20, R21, RS⟩, ?_, ?_, ⟨fun k' hk2 => ?_, fun k' h1 h2 => ?_⟩, ?_, ?_, ?_, ?_, ?_, C9⟩
  · exact C1.fr (fun b hb => k22 b (by simp at hb; omega)) (fun b hb => mO b (by simp at hb; omega)) (by rw [mO 22 (by omega)])
  · unfold Cct
    rw [k22 1 (by omega), k22 14 (by omega), k22 16 (by omega), mO 22 (by omega)]; exact C2
  · obtain ⟨⟨b0, b1, b2, b3, b4, b5, b6, b7⟩, b8, b9, b10⟩ := C3.1 k' hk2
    by_cases e1 : k' = k
    · subst e1
      rw [upw_s, mO 43 (by omega), mO 31 (by omega), mO 34 (by omega)]
      rcases ja with ⟨rfl, rfl, hv⟩ | ⟨rfl, rfl⟩ | ⟨rfl, rfl, hv⟩ | ⟨rfl, rfl⟩
      · rw [upw_s, upd_s, upd_s, mO 32 (by decide), mO 33 (by decide), mO 35 (by decide)]
        exact ⟨⟨b0, b1, b2, rfl, b4, b5, b6, b7⟩, hv, b9, b10⟩
      · rw [upw_s, upd_s, upd_s, mO 30 (by decide), mO 33 (by decide), mO 35 (by decide)]
        exact ⟨⟨b0, b1, b2, b3, rfl, b5, b6, b7⟩, b8, b9, b10⟩
      · rw [upw_s, upd_s, upd_s, mO 30 (by decide), mO 32 (by decide), mO 35 (by decide)]
        exact ⟨⟨b0, b1, b2, b3, b4, rfl, b6, b7⟩, b8, b9, hv⟩
      · rw [upw_s, upd_s, upd_s, mO 30 (by decide), mO 32 (by decide), mO 33 (by decide)]
        exact ⟨⟨b0, b1, b2, b3, b4, b5, rfl, b7⟩, b8, b9, b10⟩
    · rw [kO _ (fun z => e1 (row_bui R13 hk2 hk1 z)), mO 43 (by omega), mO 31 (by omega), mO 34 (by omega)]
      have mm : ∀ b, upw m a (upd (m a) k v) b k' = m b k' := by
        intro b
        by_cases e2 : b = a
        · rw [e2, upw_s, upd_o e1]
        · rw [mO b e2]
      rw [mm, mm, mm, mm]
      exact ⟨⟨b0, b1, b2, b3, b4, b5, b6, b7⟩, b8, b9, b10⟩
  · have mm : ∀ b, upw m a (upd (m a) k v) b k' = m b k' := by
      intro b
      by_cases e2 : b = a
      · rw [e2, upw_s, upd_o (by omega)]
      · rw [mO b e2]
    rw [mm]; exact C3.2 k' h1 h2
  · exact C4.fr R15 (fun b hb _ => kk b (by omega)) (fun b hb => mO b (by simp at hb; omega))
  · exact C5.fr (mO 43 (by omega))
  · exact C6.fr (fun b hb => k22 b (by simp at hb; omega)) (fun b hb => mO b (by simp at hb; omega)) (by rw [k22 16 (by omega)]) (by rw [mO 22 (by omega)])
  · refine C7.fr R20 RS (fun b _ hb => kk b ?_) ⟨mO 45 (by omega), mO 46 (by omega)⟩
    rcases hb with hb | ⟨s, hs, rfl⟩
    · omega
    · have := (RS.1 s hs).1.2.1; omega
  · exact C8.fr R21 (fun b hb _ => kk b (by omega)) (fun b hb => mO b (by simp at hb; omega))
/-! a float drifts -/
def mvd (la cu : Nat → Int32) (c : Nat) : Nat := (lea la cu c).getD c
theorem mvd_lt {la cu : Nat → Int32} {c : Nat} (hc : c < 60) : mvd la cu c < 60 := by
  unfold mvd
  cases h : lea la cu c with
  | none => exact hc
  | some o => exact lea_lt hc h
theorem nI_sub1 {l : Nat} (h : 0 < l) : nI l - 1 = nI (l - 1) := by
  obtain ⟨q, rfl⟩ : ∃ q, l = q + 1 := ⟨l - 1, by omega⟩
  exact nI_pred q
