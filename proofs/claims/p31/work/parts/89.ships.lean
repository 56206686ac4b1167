/-! storms in the law -/
theorem s_lstorm {h : MH} {K M : Nat → Nat → Int32} {f t : Nat → Int32} {nsm : Nat} (F : Fix h) (hc : M 37 4 = nI nsm) (hn1 : nsm ≤ 20) (hm : ∀ k, k < nsm → M 29 (2 * k) = f k ∧ M 29 (2 * k + 1) = t k) (d : Int32) : M_L_isStorm d (some 29) (some 37) (st h K M) = rtI (if stB f t d nsm = true then 1 else 0) (st h K M) := by
  have hG := zlp0 (G := fun n i => L_L_isStorm_5 n d (some 29) (some 37) (if stB f t d i = true then 1 else 0) (nI i) (st h K M)) (N := nsm) (r := rtI (if stB f t d nsm = true then 1 else 0) (st h K M)) (by have : fuel = 1000 := rfl; omega) ?_ ?_
  · exact hG
  · intro n i hi
    have i0 : 2 * i < 40 := by omega
    have i1 : 2 * i + 1 < 40 := by omega
    have e2 : (2 : Int32) * nI i = nI (2 * i) := pk_mul 2 i
    have e3 : nI (2 * i) + (1 : Int32) = nI (2 * i + 1) := nI_add _ 1
    obtain ⟨m1, m2⟩ := hm i hi
    show B_L_isStorm_5 (L_L_isStorm_5 n) d (some 29) (some 37) _ (nI i) (st h K M) = L_L_isStorm_5 n d (some 29) (some 37) _ (nI (i + 1)) (st h K M)
    unfold B_L_isStorm_5 B_L_isStorm_39 B_L_isStorm_43 B_L_isStorm_44
    rw [rq4 F, hc, if_neg (nI_ge hi (by omega))]
    cases hq : stB f t d i with
    | true =>
      rw [if_pos (show true = true from rfl), if_pos (show (1 : Int32) ≠ 0 by decide), x_bnd, nIs, show stB f t d (i + 1) = true by unfold stB; rw [hq]; rfl, if_pos rfl]
    | false =>
      rw [if_neg (show ¬ (false = true) by decide), if_neg (show ¬ ((0 : Int32) ≠ 0) by decide)]
      simp only [x_bnd, e2, e3, d29 F i0, d29 F i1, m1, m2, nIs]
      by_cases h1 : d < f i
      · rw [if_pos h1, show stB f t d (i + 1) = false by unfold stB; rw [hq, decide_eq_false (fun z => by have := z.1; rw [i_le] at this; rw [i_lt] at h1; omega)]; rfl, if_neg (by decide)]
      · rw [if_neg h1]
        by_cases h2 : t i < d
        · rw [if_pos h2, show stB f t d (i + 1) = false by unfold stB; rw [hq, decide_eq_false (fun z => by have := z.2; rw [i_le] at this; rw [i_lt] at h2; omega)]; rfl, if_neg (by decide)]
        · rw [if_neg h2, show stB f t d (i + 1) = true by unfold stB; rw [hq, decide_eq_true ⟨by rwa [i_nlt] at h1, by rwa [i_nlt] at h2⟩]; rfl, if_pos rfl]
  · intro n
    show B_L_isStorm_5 (L_L_isStorm_5 n) d (some 29) (some 37) _ (nI nsm) (st h K M) = _
    unfold B_L_isStorm_5
    rw [rq4 F, hc, if_pos (nI_le (Nat.le_refl _) (by omega)), rtZ_01]
    split
    · exact Or.inr rfl
    · exact Or.inl rfl
/-! a row without one value -/
def kN (T : Nat → Int32) (X : Int32) : Nat → Nat
  | 0 => 0
  | k + 1 => if T k = X then kN T X k else kN T X k + 1
def kR (T : Nat → Int32) (X : Int32) : Nat → Nat → Int32
  | 0 => T
  | k + 1 => upd (kR T X k) (kN T X k) (T k)
def kB (T : Nat → Int32) (X : Int32) : Nat → Bool
  | 0 => false
  | k + 1 => kB T X k || decide (T k = X)
theorem kN_le {T : Nat → Int32} {X : Int32} {k : Nat} : kN T X k ≤ k := by
  induction k with
  | zero => exact Nat.le_refl _
  | succ k ih => unfold kN; split <;> omega
theorem kN_lt {T : Nat → Int32} {X : Int32} {k : Nat} (h : kB T X k = true) : kN T X k + 1 ≤ k := by
  induction k with
  | zero => exact absurd h Bool.false_ne_true
  | succ k ih =>
    unfold kB at h
    unfold kN
    have := kN_le (T := T) (X := X) (k := k)
    by_cases e : T k = X
    · rw [if_pos e]; omega
    · rw [if_neg e]
      rw [decide_eq_false e, Bool.or_false] at h
      have := ih h; omega
theorem kR_o {T : Nat → Int32} {X : Int32} {k j : Nat} (h : k ≤ j) : kR T X k j = T j := by
  induction k with
  | zero => rfl
  | succ k ih =>
    have := kN_le (T := T) (X := X) (k := k)
    show upd (kR T X k) (kN T X k) (T k) j = T j
    rw [upd_o (by omega)]; exact ih (by omega)
theorem kB_iff {T : Nat → Int32} {X : Int32} {n : Nat} : kB T X n = true ↔ ∃ j, j < n ∧ T j = X := by
  induction n with
  | zero => exact ⟨fun z => absurd z Bool.false_ne_true, fun ⟨j, h, _⟩ => absurd h (by omega)⟩
  | succ n ih =>
    unfold kB
    rw [Bool.or_eq_true, decide_eq_true_iff, ih]
    constructor
    · rintro (⟨j, h1, h2⟩ | h)
      · exact ⟨j, by omega, h2⟩
      · exact ⟨n, by omega, h⟩
    · rintro ⟨j, h1, h2⟩
      by_cases e : j = n
      · right; rw [← e]; exact h2
      · left; exact ⟨j, by omega, h2⟩
theorem k_list {T : Nat → Int32} {x : Nat} {f : Nat → Nat} (hx : x < 100000) : ∀ n, (∀ k, k < n → T k = nI (f k) ∧ f k < 100000) → ∃ f' : Nat → Nat, (∀ j, j < kN T (nI x) n → kR T (nI x) n j = nI (f' j)) ∧ (List.range (kN T (nI x) n)).map f' = ((List.range n).map f).filter (fun y => decide (y ≠ x)) := by
  intro n
  induction n with
  | zero => intro _; exact ⟨f, fun j hj => absurd hj (by unfold kN; omega), rfl⟩
  | succ n ih =>
    intro hT
    obtain ⟨f', h1, h2⟩ := ih (fun k hk => hT k (by omega))
    obtain ⟨e1, e2⟩ := hT n (by omega)
    have hle := kN_le (T := T) (X := nI x) (k := n)
    have hiff : T n = nI x ↔ f n = x := by rw [e1, nI_inj (by omega) (by omega)]
    rw [List.range_succ, List.map_append, List.filter_append, ← h2]
    by_cases e : f n = x
    · have eN : kN T (nI x) (n + 1) = kN T (nI x) n := if_pos (hiff.mpr e)
      refine ⟨f', fun j hj => ?_, ?_⟩
      · rw [eN] at hj
        show upd (kR T (nI x) n) (kN T (nI x) n) (T n) j = _
        rw [upd_o (by omega)]; exact h1 j hj
      · rw [eN]
        simp [e]
    · have eN : kN T (nI x) (n + 1) = kN T (nI x) n + 1 := if_neg (fun z => e (hiff.mp z))
      refine ⟨fun j => if j = kN T (nI x) n then f n else f' j, fun j hj => ?_, ?_⟩
      · rw [eN] at hj
        show upd (kR T (nI x) n) (kN T (nI x) n) (T n) j = _
        by_cases q : j = kN T (nI x) n
        · rw [q, upd_s, e1]
          simp only [if_true]
        · rw [upd_o q]
          simp only [if_neg q]; exact h1 j (by omega)
      · rw [eN, List.range_succ, List.map_append]
        have e3 : (List.range (kN T (nI x) n)).map (fun j => if j = kN T (nI x) n then f n else f' j) = (List.range (kN T (nI x) n)).map f' := by
          apply List.map_congr_left
          intro j hj
          rw [List.mem_range] at hj
          rw [if_neg (by omega)]
        rw [e3]
        simp [e]
/-! the stations of one cell, in the law -/
def stM (M : Nat → Nat → Int32) (X : Int32) (n : Nat) : Nat → Nat → Int32 := upw (upw M 28 (kR (M 28) X n)) 37 (upd (M 37) 3 (nI (kN (M 28) X n)))
theorem s_pass564 {h : MH} {K M : Nat → Nat → Int32} {n d c : Nat} (F : Fix h) (rc : Option Nat → Option Nat → Option Nat → Option Nat → Option Nat → Option Nat → Option Nat → Int32 → MH → Res) (h3 : M 37 3 = nI n) (hn : n ≤ 30) (h0 : M 37 0 = nI d) : L_L_passes_564 rc fuel (some 23) (some 28) (some 29) (some 30) (some 31) (some 32) (some 37) (nI c) 0 0 0 (st h K M) = if kB (M 28) (nI (64 * d + c)) n = true then (rdI (st h K (stM M (nI (64 * d + c)) n)) (some 37) 20 (0 : Int32) fun z113 => calI (M_L_isStorm z113 (some 29) (some 37) (st h K (stM M (nI (64 * d + c)) n))) fun z114 h115 => if z114 ≠ 0 then rc (some 23) (some 28) (some 29) (some 30) (some 31) (some 32) (some 37) (nI (c + 1)) h115 else rdI h115 (some 23) 20 (nI c) fun z116 => calV (M_L_reads (nI c) (0 : Int32) z116 (some 30) (some 31) (some 32) (some 37) h115) fun h117 => rc (some 23) (some 28) (some 29) (some 30) (some 31) (some 32) (some 37) (nI (c + 1)) h117) else rc (some 23) (some 28) (some 29) (some 30) (some 31) (some 32) (some 37) (nI (c + 1)) (st h K (stM M (nI (64 * d + c)) n)) := by
  obtain ⟨X, hX⟩ : ∃ X, X = nI (64 * d + c) := ⟨_, rfl⟩
  rw [← hX]
  have e64 : (64 : Int32) * nI d = nI (64 * d) := pk_mul 64 d
  have e65 : nI (64 * d) + nI c = X := by rw [nI_add, hX]
  have zb : ∀ b : Bool, (zI b = 0) = (b = false) := by intro b; cases b <;> simp [zI]
  have hG := zlp0 (G := fun q i => L_L_passes_564 rc q (some 23) (some 28) (some 29) (some 30) (some 31) (some 32) (some 37) (nI c) (nI (kN (M 28) X i)) (zI (kB (M 28) X i)) (nI i) (st h K (upw M 28 (kR (M 28) X i)))) (N := n) (r := if kB (M 28) X n = true then (rdI (st h K (stM M X n)) (some 37) 20 (0 : Int32) fun z113 => calI (M_L_isStorm z113 (some 29) (some 37) (st h K (stM M X n))) fun z114 h115 => if z114 ≠ 0 then rc (some 23) (some 28) (some 29) (some 30) (some 31) (some 32) (some 37) (nI (c + 1)) h115 else rdI h115 (some 23) 20 (nI c) fun z116 => calV (M_L_reads (nI c) (0 : Int32) z116 (some 30) (some 31) (some 32) (some 37) h115) fun h117 => rc (some 23) (some 28) (some 29) (some 30) (some 31) (some 32) (some 37) (nI (c + 1)) h117) else rc (some 23) (some 28) (some 29) (some 30) (some 31) (some 32) (some 37) (nI (c + 1)) (st h K (stM M X n))) (by have : fuel = 1000 := rfl; omega) ?_ ?_
  · have e0 : upw M 28 (kR (M 28) X 0) = M := upw_id
    rw [e0] at hG
    exact hG
  · intro q i hi
    have hkl := kN_le (T := M 28) (X := X) (k := i)
    show B_L_passes_564 rc (L_L_passes_564 rc q) (some 23) (some 28) (some 29) (some 30) (some 31) (some 32) (some 37) (nI c) _ _ (nI i) (st h K (upw M 28 (kR (M 28) X i))) = L_L_passes_564 rc q (some 23) (some 28) (some 29) (some 30) (some 31) (some 32) (some 37) (nI c) _ _ (nI (i + 1)) (st h K (upw M 28 (kR (M 28) X (i + 1))))
    have eT : upw M 28 (kR (M 28) X i) 28 i = M 28 i := by rw [upw_s]; exact kR_o (Nat.le_refl _)
    have eR : upw (upw M 28 (kR (M 28) X i)) 28 (upd (upw M 28 (kR (M 28) X i) 28) (kN (M 28) X i) (M 28 i)) = upw M 28 (kR (M 28) X (i + 1)) := by rw [upw_w, upw_s]; rfl
    have b613 : ∀ (x20 s0 : Int32), B_L_passes_613 rc (L_L_passes_564 rc q) (some 23) (some 28) (some 29) (some 30) (some 31) (some 32) (some 37) (nI c) (nI (kN (M 28) X i)) (nI i) x20 s0 (st h K (upw M 28 (kR (M 28) X i))) = L_L_passes_564 rc q (some 23) (some 28) (some 29) (some 30) (some 31) (some 32) (some 37) (nI c) (nI (if x20 = 0 then kN (M 28) X i + 1 else kN (M 28) X i)) s0 (nI (i + 1)) (st h K (upw M 28 (kR (M 28) X (i + 1)))) := by
      intro x20 s0
      unfold B_L_passes_613 B_L_passes_637
      rw [d28 F (by omega), eT, w28 F (by omega), eR]
      by_cases z : x20 = 0
      · rw [if_pos z, if_pos z, x_bnd, x_bnd, nIs, nIs]
      · rw [if_neg z, if_neg z, x_bnd, x_bnd, Int32.add_zero, nIs]
    unfold B_L_passes_564 B_L_passes_596 B_L_passes_608
    rw [rq3 F, upw_o (show (37 : Nat) ≠ 28 by decide), h3, if_neg (nI_ge hi (by omega)), d28 F (by omega), eT, rq0 F, upw_o (show (37 : Nat) ≠ 28 by decide), h0, x_bnd, e64, x_bnd, e65]
    have eB : kB (M 28) X (i + 1) = (kB (M 28) X i || decide (M 28 i = X)) := rfl
    by_cases hx : M 28 i = X
    · have eN : kN (M 28) X (i + 1) = kN (M 28) X i := if_pos hx
      rw [if_neg (fun z => z hx), eB, decide_eq_true hx, Bool.or_true, zI_t, eN, b613, if_neg (show ¬ (1 : Int32) = 0 by decide), if_neg (show ¬ (1 : Int32) = 0 by decide)]
      split <;> rfl
    · have eN : kN (M 28) X (i + 1) = kN (M 28) X i + 1 := if_neg hx
      rw [if_pos hx, eB, decide_eq_false hx, Bool.or_false, eN, if_pos (show (0 : Int32) = 0 from rfl)]
      cases hb : kB (M 28) X i with
      | true => rw [zI_t, if_pos (show (1 : Int32) ≠ 0 by decide), b613, if_pos rfl]
      | false => rw [zI_f, if_neg (fun z => z rfl), b613, if_pos rfl]
  · intro q
    show B_L_passes_564 rc (L_L_passes_564 rc q) (some 23) (some 28) (some 29) (some 30) (some 31) (some 32) (some 37) (nI c) _ _ (nI n) (st h K (upw M 28 (kR (M 28) X n))) = _
    unfold B_L_passes_564 B_L_passes_689
    rw [rq3 F, upw_o (show (37 : Nat) ≠ 28 by decide), h3, if_pos (nI_le (Nat.le_refl _) (by omega)), wq3 F, upw_o (show (37 : Nat) ≠ 28 by decide)]
    simp only [x_bnd, nIs]
    cases hb : kB (M 28) X n with
    | true => rw [zI_t, if_neg (show ¬ (1 : Int32) = 0 by decide), if_pos rfl]; rfl
    | false => rw [zI_f, if_pos rfl, if_neg (show ¬ false = true by decide)]; rfl
