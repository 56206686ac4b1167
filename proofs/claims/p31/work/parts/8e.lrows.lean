/-! the law's best, corrected, flag -/
theorem rm16 {a : Nat} {k : Int32 → Res} (ha : a < 1000000) : rmI (nI a) (16 : Int32) k = k (nI (a % 16)) := by
  rw [q_rm (by decide), show nI a - nI a / 16 * 16 = nI (a % 16) from nI_mod 16 ha (by decide) (by decide)]
theorem dv16 {a : Nat} {k : Int32 → Res} (ha : a < 1000000) : dvI (nI a) (16 : Int32) k = k (nI (a / 16)) := by
  rw [q_dv (by decide), show nI a / 16 = nI (a / 16) from nI_div 16 ha (by decide) (by decide)]
theorem rm64 {a : Nat} {k : Int32 → Res} (ha : a < 1000000) : rmI (nI a) (64 : Int32) k = k (nI (a % 64)) := by
  rw [q_rm (by decide), show nI a - nI a / 64 * 64 = nI (a % 64) from nI_mod 64 ha (by decide) (by decide)]
theorem dv64 {a : Nat} {k : Int32 → Res} (ha : a < 1000000) : dvI (nI a) (64 : Int32) k = k (nI (a / 64)) := by
  rw [q_dv (by decide), show nI a / 64 = nI (a / 64) from nI_div 64 ha (by decide) (by decide)]
theorem rm10 {a : Nat} {k : Int32 → Res} (ha : a < 1000000) : rmI (nI a) (10 : Int32) k = k (nI (a % 10)) := by
  rw [q_rm (by decide), show nI a - nI a / 10 * 10 = nI (a % 10) from nI_mod 10 ha (by decide) (by decide)]
theorem dv10 {a : Nat} {k : Int32 → Res} (ha : a < 1000000) : dvI (nI a) (10 : Int32) k = k (nI (a / 10)) := by
  rw [q_dv (by decide), show nI a / 10 = nI (a / 10) from nI_div 10 ha (by decide) (by decide)]
/-- the number of a float and one, none for a ship -/
def bn (x : Int32) : Nat := if x = -1 then 0 else x.toNatClampNeg + 1
theorem bn_m1 : bn (-1) = 0 := rfl
theorem bn_f {f : Nat} (h : f < 1000) : bn (nI f) = f + 1 := by
  unfold bn
  rw [if_neg (by rw [nI_nm1 (by omega)]; exact id), nI_clamp (by omega)]
def Isb (nb : Nat) (x : Int32) : Prop := x = -1 ∨ ∃ f, f < nb ∧ x = nI f
theorem isb_bn {nb : Nat} {x : Int32} (h : Isb nb x) (hnb : nb ≤ 8) : bn x ≤ nb := by
  rcases h with rfl | ⟨f, hf, rfl⟩
  · rw [bn_m1]; omega
  · rw [bn_f (by omega)]; omega
theorem isb_eq {nb : Nat} {x y : Int32} (h : Isb nb x) (h2 : Isb nb y) (hnb : nb ≤ 8) : bn x = bn y ↔ x = y := by
  constructor
  · intro e
    rcases h with rfl | ⟨f, hf, rfl⟩
    · rcases h2 with rfl | ⟨f2, hf2, rfl⟩
      · rfl
      · rw [bn_m1, bn_f (by omega)] at e; omega
    · rcases h2 with rfl | ⟨f2, hf2, rfl⟩
      · rw [bn_m1, bn_f (by omega)] at e; omega
      · rw [bn_f (by omega), bn_f (by omega)] at e
        rw [show f = f2 by omega]
  · intro e; rw [e]
theorem LRd.un {r40 r41 r42 r43 r44 D V W : Nat → Int32} {nb nr d r : Nat} (L : LRd r40 r41 r42 r43 r44 D V W nb nr d) (hnb : nb ≤ 8) (hr1 : r < nr) : ∃ dy c e x : Nat, (dy ≤ d ∧ c < 60 ∧ e ≤ 3 ∧ x ≤ V0 d + 100) ∧ (r40 r = nI dy ∧ r41 r = nI c ∧ r42 r = nI x - 50 ∧ r44 r = nI e - 1) ∧ (D r = nI (64 * dy + c) ∧ V r = r42 r ∧ W r = nI (bn (r43 r) + 16 * e)) ∧ Isb nb (r43 r) ∧ bn (r43 r) ≤ 8 := by
  obtain ⟨dy, c, b, e, x, h1, h2, h3, h4⟩ := L r hr1
  have hb : b = bn (r43 r) ∧ Isb nb (r43 r) := by
    rcases h4 with ⟨rfl, h4⟩ | ⟨f, hf, rfl, h4⟩
    · rw [h4]; exact ⟨rfl, Or.inl rfl⟩
    · rw [h4, bn_f (by omega)]; exact ⟨rfl, Or.inr ⟨f, hf, rfl⟩⟩
  have := isb_bn hb.2 hnb
  exact ⟨dy, c, e, x, h1, h2, ⟨h3.1, h3.2.1, by rw [h3.2.2, hb.1]⟩, hb.2, by omega⟩
/-- the best of a row with bounded chances -/
theorem bst_max {r : Nat → Int32} {ch : Nat → Nat} (h : ∀ j, j < 60 → r j = nI (ch j) ∧ ch j ≤ 10000) : ∀ n, n < 60 → (∀ j, j ≤ n → ch j ≤ ch (bst r n)) ∧ ∀ j, j < bst r n → ch j < ch (bst r n) := by
  intro n
  induction n with
  | zero => intro _; exact ⟨fun j hj => by rw [show j = 0 by omega]; exact Nat.le_refl _, fun j hj => by have : bst r 0 = 0 := rfl; omega⟩
  | succ n ih =>
    intro hn
    obtain ⟨h1, h2⟩ := ih (by omega)
    have hle := bst_le (r := r) (n := n)
    have e1 := h (n + 1) hn
    have e2 := h (bst r n) (by omega)
    unfold bst
    by_cases q : r (n + 1) ≤ r (bst r n)
    · rw [if_pos q]
      rw [e1.1, e2.1, nI_leP (by omega) (by omega)] at q
      refine ⟨fun j hj => ?_, h2⟩
      by_cases e : j = n + 1
      · rw [e]; exact q
      · exact h1 j (by omega)
    · rw [if_neg q]
      rw [e1.1, e2.1, nI_leP (by omega) (by omega)] at q
      refine ⟨fun j hj => ?_, fun j hj => ?_⟩
      · by_cases e : j = n + 1
        · rw [e]; exact Nat.le_refl _
        · have := h1 j (by omega); omega
      · have := h1 j (by omega); omega
def mxn (ch : Nat → Nat) : Nat → Nat
  | 0 => 0
  | n + 1 => if ch n ≤ mxn ch n then mxn ch n else ch n
theorem mxn_ge {ch : Nat → Nat} {n j : Nat} (h : j < n) : ch j ≤ mxn ch n := by
  induction n with
  | zero => omega
  | succ n ih =>
    unfold mxn
    by_cases e : j = n
    · subst e; split <;> omega
    · have := ih (by omega); split <;> omega
theorem mxn_le {ch : Nat → Nat} {n v : Nat} (h : ∀ j, j < n → ch j ≤ v) : mxn ch n ≤ v := by
  induction n with
  | zero => exact Nat.zero_le _
  | succ n ih =>
    have := ih (fun j hj => h j (by omega))
    have := h n (by omega)
    unfold mxn
    split <;> omega
theorem s_lbest {h : MH} {K M : Nat → Nat → Int32} {a : Nat} {ch : Nat → Nat} (hka : hk h a = 20) (hla : hl h a = 60) (ha : mA a) (hch : ∀ j, j < 60 → M a j = nI (ch j) ∧ ch j ≤ 10000) : M_L_best (some a) (st h K M) = rtI (nI (bst (M a) 59)) (st h K M) := by
  obtain ⟨b1, b2⟩ := bst_max hch 59 (by decide)
  have hb := bst_le (r := M a) (n := 59)
  have hmx : mxn ch 60 = ch (bst (M a) 59) := by
    have l1 := mxn_le (ch := ch) (n := 60) (v := ch (bst (M a) 59)) (fun j hj => b1 j (by omega))
    have l2 := mxn_ge (ch := ch) (n := 60) (j := bst (M a) 59) (by omega)
    omega
  have hmb : ∀ n, n ≤ 60 → mxn ch n ≤ 10000 := fun n hn => mxn_le (fun j hj => (hch j (by omega)).2)
  have second : L_L_best_33 fuel (some a) (nI (mxn ch 60)) 0 (st h K M) = rtI (nI (bst (M a) 59)) (st h K M) := by
    refine zlp (G := fun n i => L_L_best_33 n (some a) (nI (mxn ch 60)) (nI i) (st h K M)) (fun _ => True) (bst (M a) 59) _ (fun n i hi _ => ?_) (fun n _ => ?_) (bst (M a) 59) fuel 0 (by omega) (by have : fuel = 1000 := rfl; omega) trivial
    · show B_L_best_33 (L_L_best_33 n) (some a) (nI (mxn ch 60)) (nI i) (st h K M) = _ ∨ (_ ∧ B_L_best_33 (L_L_best_33 n) (some a) (nI (mxn ch 60)) (nI i) (st h K M) = _)
      have := b2 i hi
      have h10 := (hch _ (show bst (M a) 59 < 60 by omega)).2
      unfold B_L_best_33
      rw [m_rd hka hla ha (by omega) (by decide), (hch i (by omega)).1, hmx, if_neg (nI_ge this (by omega)), x_bnd, nIs]
      exact Or.inr ⟨trivial, rfl⟩
    · show B_L_best_33 (L_L_best_33 n) (some a) (nI (mxn ch 60)) (nI (bst (M a) 59)) (st h K M) = _
      have h10 := (hch _ (show bst (M a) 59 < 60 by omega)).2
      unfold B_L_best_33
      rw [m_rd hka hla ha (by omega) (by decide), (hch _ (by omega)).1, hmx, if_pos (nI_le (Nat.le_refl _) (by omega))]
  have hG := zlp0 (G := fun n i => L_L_best_4 n (some a) (nI (mxn ch i)) (nI i) (st h K M)) (N := 60) (r := rtI (nI (bst (M a) 59)) (st h K M)) (by decide) ?_ ?_
  · exact hG
  · intro n i hi
    have c1 := (hch i hi).2
    have c2 := hmb i (by omega)
    show B_L_best_4 (L_L_best_4 n) (some a) (nI (mxn ch i)) (nI i) (st h K M) = L_L_best_4 n (some a) (nI (mxn ch (i + 1))) (nI (i + 1)) (st h K M)
    unfold B_L_best_4 B_L_best_24
    rw [if_neg (show ¬ (60 : Int32) ≤ nI i from nI_ge (b := 60) hi (by decide)), m_rd hka hla ha hi (by decide), m_rd hka hla ha hi (by decide), (hch i hi).1, x_bnd, x_bnd, nIs]
    have e : mxn ch (i + 1) = if ch i ≤ mxn ch i then mxn ch i else ch i := rfl
    by_cases q : ch i ≤ mxn ch i
    · rw [if_pos (nI_le q (by omega)), e, if_pos q]
    · rw [if_neg (nI_ge (by omega) (by omega)), e, if_neg q]
  · intro n
    show B_L_best_4 (L_L_best_4 n) (some a) (nI (mxn ch 60)) (nI 60) (st h K M) = _
    unfold B_L_best_4
    rw [if_pos (show (60 : Int32) ≤ nI 60 from nI_le (a := 60) (Nat.le_refl _) (by decide))]
    exact second
theorem s_lcor {h : MH} {K g M : Nat → Nat → Int32} {nb nr ns nsm nst d r : Nat} (F : Fix h) (A : Abs g M nb nr ns nsm nst d) (hnb : nb ≤ 8) (hn : nr ≤ 63) (hr1 : r < nr) : M_L_corrected (nI r) (some 31) (some 32) (some 27) (st h K M) = rtI (cor g r) (st h K M) := by
  obtain ⟨dy, c, e, x, h1, h2, h3, h4, h5⟩ := A.2.2.2.2.1.un hnb hr1
  unfold M_L_corrected cor
  rw [d31 F (by omega), d32 F (by omega), h3.2.1, h3.2.2, rm16 (by omega), show (bn (g 43 r) + 16 * e) % 16 = bn (g 43 r) by omega]
  rcases h4 with h4 | ⟨f, hf, h4⟩
  · rw [h4, bn_m1, if_pos (show nI 0 ≤ 0 by decide), x_bnd, if_pos rfl, Int32.sub_zero]
  · have hf8 := (A.2.2.2.1.1 f hf).1.2.2.2.2.2
    rw [h4, bn_f (by omega), if_neg (show ¬ nI (f + 1) ≤ 0 from nI_nle (by omega) (by omega)), d32 F (by omega), h3.2.2, h4, bn_f (by omega), rm16 (by omega), show (f + 1 + 16 * e) % 16 = f + 1 by omega, x_bnd, show nI (f + 1) - 1 = nI f from nI_pred f, x_bnd, show (8 : Int32) * nI f = nI (8 * f) from pk_mul 8 f, x_bnd, show nI (8 * f) + 5 = nI (8 * f + 5) from nI_add (8 * f) 5, d27 F (by omega), hf8, x_bnd, if_neg (by rw [nI_nm1 (by omega)]; exact id), nI_clamp (by omega)]
