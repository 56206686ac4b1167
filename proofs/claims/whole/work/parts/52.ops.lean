/-! what stands between two calls -/
def Inv (B : Nat) (h : MH) (K m : Nat → Nat → Int32) : Prop := ∃ nb nr ns np nsm nst d, Rel h K m B nb nr ns np nsm d (Sst nst d) ∧ Cli m nb
def thM (m : Nat → Nat → Int32) (t : Int32) : Nat → Nat → Int32 := upw m 22 (upd (m 22) 0 t)
theorem thM_o {m : Nat → Nat → Int32} {t : Int32} {a : Nat} (h : a ≠ 22) : thM m t a = m a := upw_o h
theorem thM_22 {m : Nat → Nat → Int32} {t : Int32} {j : Nat} (h : j ≠ 0) : thM m t 22 j = m 22 j := by unfold thM; rw [upw_s, upd_o h]
theorem thM_0 {m : Nat → Nat → Int32} {t : Int32} : thM m t 22 0 = t := by unfold thM; rw [upw_s, upd_s]
theorem Rel.th {h : MH} {K m : Nat → Nat → Int32} {B nb nr ns np nsm d : Nat} {S : STy} (R : Rel h K m B nb nr ns np nsm d S) (t : Int32) : Rel h K (thM m t) B nb nr ns np nsm d S := by
  refine R.sS (K1 := K) (m1 := thM m t) (nsm1 := nsm) (fun _ _ => rfl) (fun a ha => thM_o (by simp at ha; omega)) (fun j hj => thM_22 (by simp at hj; omega)) ⟨⟨R.2.2.1.2.2.2.2.1.1, by rw [thM_22 (by decide)]; exact R.2.2.1.2.2.2.2.1.2⟩, R.2.2.1.2.2.2.2.2.2.2.2⟩ ?_
  have := R.2.2.2.2.2.2.1
  unfold Cst at this ⊢
  rw [thM_22 (by decide), thM_o (by decide), thM_o (by decide), thM_o (by decide), thM_o (by decide)]
  exact this
theorem Inv.th {B : Nat} {h : MH} {K m : Nat → Nat → Int32} (I : Inv B h K m) (t : Int32) : Inv B h K (thM m t) := by
  obtain ⟨nb, nr, ns, np, nsm, nst, d, R, L⟩ := I
  refine ⟨nb, nr, ns, np, nsm, nst, d, R.th t, fun k hk1 h1 => ?_⟩
  rw [thM_o (by decide)] at h1 ⊢
  exact L k hk1 h1
theorem Rel.up {h : MH} {K m : Nat → Nat → Int32} {B nb nr ns np nsm d : Nat} {S : STy} (R : Rel h K m B nb nr ns np nsm d S) : Rel h K m (B + 1) nb nr ns np nsm d S := by
  obtain ⟨c0, c1, c2, c3, c4, c5, c6, c7, c8, c9⟩ := R
  refine ⟨c0, c1, c2, c3, c4, c5, c6, c7, c8, ?_⟩
  unfold Cco at c9 ⊢
  omega
theorem Rel.ex {h : MH} {K m : Nat → Nat → Int32} {B nb nr ns np nsm d : Nat} {S : STy} (R : Rel h K m B nb nr ns np nsm d S) : Rel (exc h) K m (B + 1) nb nr ns np nsm d S := by
  obtain ⟨c0, c1, c2, c3, c4, c5, c6, c7, c8, c9⟩ := R
  refine ⟨c0, c1, c2, c3, c4, c5, c6, c7, c8, ?_⟩
  have e1 : CGyreWatchLaw_law_r1115_220210.hc (exc h) = CGyreWatchLaw_law_r1115_220210.hc h + 1 := rfl
  have e2 : hs (exc h) = hs h + 6 := rfl
  unfold Cco at c9 ⊢
  rw [e1, e2]
  omega
theorem Inv.up {B : Nat} {h : MH} {K m : Nat → Nat → Int32} (I : Inv B h K m) : Inv (B + 1) h K m := by
  obtain ⟨nb, nr, ns, np, nsm, nst, d, R, L⟩ := I
  exact ⟨nb, nr, ns, np, nsm, nst, d, R.up, L⟩
theorem Inv.thr {B : Nat} {h : MH} {K m : Nat → Nat → Int32} (I : Inv B h K m) (t : Int32) : Inv (B + 1) (exc h) K (thM m t) := by
  obtain ⟨nb, nr, ns, np, nsm, nst, d, R, L⟩ := I.th t
  exact ⟨nb, nr, ns, np, nsm, nst, d, R.ex, L⟩
theorem Inv.F {B : Nat} {h : MH} {K m : Nat → Nat → Int32} (I : Inv B h K m) : Fix h := by
  obtain ⟨nb, nr, ns, np, nsm, nst, d, R, L⟩ := I
  exact R.1.1
/-- a call: the class's result and the model's -/
def OpR (e : Nat → Option Int32) (C M : MH → Res) : Prop := ∀ B h K m, Inv B h K m → ∃ (t v b : Int32) (h1 : MH) (K1 m1 : Nat → Nat → Int32), ((t = 0 ∧ b = v ∧ C (st h K m) = rtI v (st h1 K1 m)) ∨ (t ≠ 0 ∧ ∃ x, e x = some t ∧ C (st h K m) = some (.inr x, st h1 K1 m))) ∧ (∀ h', Fix h' → M (st h' K1 m) = rtI b (st h' K1 m1)) ∧ m1 22 0 = t ∧ Inv (B + 1) h1 K1 m1
theorem OpR_t {e : Nat → Option Int32} {C M : MH → Res} {B : Nat} {h : MH} {K m : Nat → Nat → Int32} (I : Inv B h K m) (x : Nat) (t : Int32) (ht : t ≠ 0) (he : e x = some t) (hC : C (st h K m) = some (.inr x, exc (st h K m))) (hM : ∀ h', Fix h' → M (st h' K m) = rtI 0 (st h' K (thM m t))) : ∃ (t v b : Int32) (h1 : MH) (K1 m1 : Nat → Nat → Int32), ((t = 0 ∧ b = v ∧ C (st h K m) = rtI v (st h1 K1 m)) ∨ (t ≠ 0 ∧ ∃ x, e x = some t ∧ C (st h K m) = some (.inr x, st h1 K1 m))) ∧ (∀ h', Fix h' → M (st h' K1 m) = rtI b (st h' K1 m1)) ∧ m1 22 0 = t ∧ Inv (B + 1) h1 K1 m1 :=
  ⟨t, 0, 0, exc h, K, thM m t, Or.inr ⟨ht, x, he, hC⟩, hM, thM_0, I.thr t⟩
theorem OpR_v {e : Nat → Option Int32} {C M : MH → Res} {B : Nat} {h : MH} {K m : Nat → Nat → Int32} (I : Inv B h K m) (v : Int32) (hC : C (st h K m) = rtI v (st h K m)) (hM : ∀ h', Fix h' → M (st h' K m) = rtI v (st h' K (thM m 0))) : ∃ (t v b : Int32) (h1 : MH) (K1 m1 : Nat → Nat → Int32), ((t = 0 ∧ b = v ∧ C (st h K m) = rtI v (st h1 K1 m)) ∨ (t ≠ 0 ∧ ∃ x, e x = some t ∧ C (st h K m) = some (.inr x, st h1 K1 m))) ∧ (∀ h', Fix h' → M (st h' K1 m) = rtI b (st h' K1 m1)) ∧ m1 22 0 = t ∧ Inv (B + 1) h1 K1 m1 :=
  ⟨0, v, v, h, K, thM m 0, Or.inl ⟨rfl, rfl, hC⟩, hM, thM_0, (I.th 0).up⟩
/-! what calls need -/
theorem x_thr {x : Nat} {h : MH} {k : MH → Res} : calV (some (.inr x, h)) k = some (.inr x, h) := rfl
theorem x_thrI {x : Nat} {h : MH} {k : Int32 → MH → Res} : calI (some (.inr x, h)) k = some (.inr x, h) := rfl
theorem x_thrR {x : Nat} {h : MH} {k : Option Nat → MH → Res} : calR (some (.inr x, h)) k = some (.inr x, h) := rfl
theorem s_needCell_t {j : Nat} {h : MH} (hj : j < 60) : M_X8_needCell (nI j) h = rtV h := by
  unfold M_X8_needCell
  rw [s_isCell_t hj, x_rtI, if_pos (by decide)]
theorem s_needCell_f {c : Int32} {h : MH} (hc : c < 0 ∨ nI 60 ≤ c) : M_X8_needCell c h = some (.inr 1, exc h) := by
  unfold M_X8_needCell
  rw [s_isCell_f hc, x_rtI, if_neg (fun z => z rfl)]
theorem s_needRange_t {x a b : Int32} {h : MH} (hx : a ≤ x ∧ x ≤ b) : M_X8_needRange x a b h = rtV h := by
  unfold M_X8_needRange
  rw [if_neg (by rw [i_nlt]; exact hx.1), if_pos hx.2]
theorem s_needRange_f {x a b : Int32} {h : MH} (hx : ¬ (a ≤ x ∧ x ≤ b)) : M_X8_needRange x a b h = some (.inr 2, exc h) := by
  unfold M_X8_needRange
  by_cases h1 : x < a
  · rw [if_pos h1]
  · rw [if_neg h1, if_neg (fun z => hx ⟨by rwa [i_nlt] at h1, z⟩)]
theorem cell_or (c : Int32) : (c < 0 ∨ nI 60 ≤ c) ∨ ∃ j, j < 60 ∧ c = nI j := by
  rcases pk_ix c (n := 60) (by decide) with h | h | h
  · exact Or.inl (Or.inl h)
  · exact Or.inl (Or.inr h)
  · exact Or.inr h
theorem thM_eq {m : Nat → Nat → Int32} {t : Int32} : upw m 22 (upd (m 22) 0 t) = thM m t := rfl
/-! pass -/
theorem s_pass143 {h : MH} {K m : Nat → Nat → Int32} (F : Fix h) : B_X9_pass_143 (some 22) (st h K m) = rtI (if m 22 0 ≤ 0 then m 22 1 else 0) (st h K m) := by
  unfold B_X9_pass_143
  rw [g22 F]
  by_cases q : m 22 0 ≤ 0
  · rw [if_pos q, if_pos q, g22 F]
  · rw [if_neg q, if_neg q]
theorem s_pass_no {h : MH} {K m : Nat → Nat → Int32} (F : Fix h) {x t : Int32} (ht : ¬ t ≤ 0) (ht0 : t ≠ 0) : B_X9_pass_32 (some 22) x (some 22) t (st h K m) = rtI 0 (st h K (thM m t)) := by
  unfold B_X9_pass_32
  rw [p22 F, thM_eq, show fuel = 999 + 1 from rfl]
  show B_X9_pass_37 (L_X9_pass_37 999) (some 22) x 0 (st h K (thM m t)) = _
  unfold B_X9_pass_37
  rw [s_pass143 F, thM_0, if_neg ht, g22 F, thM_0, if_pos ht0]
  split <;> rfl
theorem days_ok {B nb ns np nsm q : Nat} (hq : q ≤ 50) : ∀ k i h K m nr nst d, i + k = q → d + k ≤ 1000 → Rel h K m B nb nr ns np nsm d (Sst nst d) → Cli m nb → m 22 0 = 0 → ∃ h2 K2 m2 nr2 nst2, (∀ mm n, k < n → L_X8_pass_31 n (some 1) (nI q) (nI i) (st h K mm) = rtI (nI (d + k)) (st h2 K2 mm)) ∧ (∀ h' K' n, Fix h' → k < n → L_X9_pass_37 n (some 22) (nI q) (nI i) (st h' K' m) = rtI (nI (d + k)) (st h' K' m2)) ∧ Rel h2 K2 m2 B nb nr2 ns np nsm (d + k) (Sst nst2 (d + k)) ∧ Cli m2 nb ∧ m2 22 0 = 0 := by
  intro k
  induction k with
  | zero =>
    intro i h K m nr nst d hi hd R L h0
    have hm1 : m 22 1 = nI d := R.2.2.1.2.2.2.2.2.1.2
    have hk9 : K 1 9 = nI d := R.2.2.1.2.2.2.2.2.1.1
    refine ⟨h, K, m, nr, nst, fun mm n hn1 => ?_, fun h' K' n F' hn1 => ?_, R, L, h0⟩
    · obtain ⟨n, rfl⟩ : ∃ q, n = q + 1 := ⟨n - 1, by omega⟩
      show B_X8_pass_31 (L_X8_pass_31 n) (some 1) (nI q) (nI i) (st h K mm) = _
      unfold B_X8_pass_31
      rw [if_pos (nI_le (by omega) (by omega)), g1 R.1.1, hk9]; rfl
    · obtain ⟨n, rfl⟩ : ∃ q, n = q + 1 := ⟨n - 1, by omega⟩
      show B_X9_pass_37 (L_X9_pass_37 n) (some 22) (nI q) (nI i) (st h' K' m) = _
      unfold B_X9_pass_37
      rw [if_pos (nI_le (by omega) (by omega)), s_pass143 F', h0, if_pos (by decide), hm1]; rfl
  | succ k ih =>
    intro i h K m nr nst d hi hd R L h0
    have F := R.1.1
    obtain ⟨h1, K1, m1, nr1, nst1, a1, a2, a3, a4, a5⟩ := day_ok R L (by omega)
    obtain ⟨h2, K2, m2, nr2, nst2, b1, b2, b3, b4, b5⟩ := ih (i + 1) h1 K1 m1 nr1 nst1 (d + 1) (by omega) (by omega) a3 a4 (a5.trans h0)
    have e1 : d + 1 + k = d + (k + 1) := by omega
    rw [e1] at b1 b2 b3
    refine ⟨h2, K2, m2, nr2, nst2, fun mm n hn1 => ?_, fun h' K' n F' hn1 => ?_, b3, b4, b5⟩
    · obtain ⟨n, rfl⟩ : ∃ q, n = q + 1 := ⟨n - 1, by omega⟩
      show B_X8_pass_31 (L_X8_pass_31 n) (some 1) (nI q) (nI i) (st h K mm) = _
      unfold B_X8_pass_31
      rw [if_neg (nI_ge (by omega) (by omega)), c1 F, a1 mm, x_rtV, x_bnd, nIs, b1 mm n (by omega)]
    · obtain ⟨n, rfl⟩ : ∃ q, n = q + 1 := ⟨n - 1, by omega⟩
      show B_X9_pass_37 (L_X9_pass_37 n) (some 22) (nI q) (nI i) (st h' K' m) = _
      unfold B_X9_pass_37
      rw [if_neg (nI_ge (by omega) (by omega)), g22 F', h0, if_neg (fun z => z rfl), g22 F', x_bnd, p22 F', c22 F', show upw m 22 (upd (m 22) 1 (m 22 1 + 1)) = m9 m from rfl, a2 _ _ _ h' K' F', nIs, b2 h' K' n F' (by omega)]
theorem op_pass (x : Int32) : OpR (fun q => if q = 2 then some 1 else if q = 3 then some 2 else none) (M_X8_pass (some 1) x) (M_X9_pass (some 22) x) := by
  intro B h K m I
  have F := I.F
  by_cases hx : (1 : Int32) ≤ x ∧ x ≤ (50 : Int32)
  · obtain ⟨q, hq, rfl⟩ := nI_rng (x := x) (n := 50) (by decide) (by rw [i_le] at hx ⊢; have := hx.1; rw [show (1 : Int32).toInt = 1 from by decide] at this; rw [show (0 : Int32).toInt = 0 from by decide]; omega) hx.2
    have I0 := I
    obtain ⟨nb, nr, ns, np, nsm, nst, d, R, L⟩ := I
    have hd1 : d ≤ 1000 := R.2.2.1.2.2.2.2.2.2.2.1
    have hm1 : m 22 1 = nI d := R.2.2.1.2.2.2.2.2.1.2
    have hk9 : K 1 9 = nI d := R.2.2.1.2.2.2.2.2.1.1
    by_cases hdq : d + q ≤ 1000
    · obtain ⟨nb', nr', ns', np', nsm', nst', d', R', L'⟩ := I0.th 0
      have R1 := R.th 0
      have L1 : Cli (thM m 0) nb := by
        intro k hk1 h1
        rw [thM_o (by decide)] at h1 ⊢
        exact L k hk1 h1
      obtain ⟨h2, K2, m2, nr2, nst2, b1, b2, b3, b4, b5⟩ := days_ok hq q 0 h K (thM m 0) nr nst d (by omega) hdq R1 L1 thM_0
      refine ⟨0, nI (d + q), nI (d + q), h2, K2, m2, Or.inl ⟨rfl, rfl, ?_⟩, fun h' F' => ?_, b5, ⟨nb, nr2, ns, np, nsm, nst2, d + q, b3.up, b4⟩⟩
      · unfold M_X8_pass
        rw [s_needRange_t hx, x_rtV, g1 F, hk9, x_bnd, show (1000 : Int32) - nI d = nI (1000 - d) from pk_sub (a := 1000) hd1, if_pos (nI_le (by omega) (by omega))]
        exact b1 m fuel (by have : fuel = 1000 := rfl; omega)
      · unfold M_X9_pass
        rw [s_in, x_rtI, bI_t hx, if_pos (by decide), g22 F', hm1, x_bnd, nI_add, if_pos (show nI (d + q) ≤ (1000 : Int32) from nI_le (b := 1000) hdq (by decide))]
        unfold B_X9_pass_32
        rw [p22 F', thM_eq]
        exact b2 h' K2 fuel F' (by have : fuel = 1000 := rfl; omega)
    · refine OpR_t I0 3 2 (by decide) rfl ?_ (fun h' F' => ?_)
      · unfold M_X8_pass
        rw [s_needRange_t hx, x_rtV, g1 F, hk9, x_bnd, show (1000 : Int32) - nI d = nI (1000 - d) from pk_sub (a := 1000) hd1, if_neg (nI_ge (by omega) (by omega))]
      · unfold M_X9_pass
        rw [s_in, x_rtI, bI_t hx, if_pos (by decide), g22 F', hm1, x_bnd, nI_add, if_neg (show ¬ nI (d + q) ≤ (1000 : Int32) from nI_ge (a := 1000) (by omega) (by omega)), s_pass_no F' (by decide) (by decide)]
  · refine OpR_t I 2 1 (by decide) rfl ?_ (fun h' F' => ?_)
    · unfold M_X8_pass
      rw [s_needRange_f hx, x_thr]
    · unfold M_X9_pass
      rw [s_in, x_rtI, bI_f hx, if_neg (fun z => z rfl), s_pass_no F' (by decide) (by decide)]
