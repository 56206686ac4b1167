/-! tides -/
def ab (x : Int32) : Int32 := if 0 ≤ x then x else 0 - x
theorem s_size {h : MH} {x : Int32} : M_X9_size x h = rtI (ab x) h := by
  unfold M_X9_size ab
  by_cases q : 0 ≤ x
  · simp only [q, if_true]
  · simp only [q, if_false, x_bnd]
    rw [Int32.zero_sub]
def hgt (pe he ph : Int32) (t : Int32) : Int32 := he * (2 * ab (2 * (t + ph - (t + ph) / pe * pe) - pe) - pe) / pe
def tid (m : Nat → Nat → Int32) (t : Int32) (n : Nat) : Int32 := fo (fun p z => z + hgt (m 47 p) (m 48 p) (m 49 p) t) 0 n
theorem s_mTide {h : MH} {K m : Nat → Nat → Int32} {np : Nat} (F : Fix h) (hm : m 22 33 = nI np) (hn : np ≤ 6) (hp : ∀ p, p < np → m 47 p ≠ 0) (t : Int32) : M_X9_tideAt (some 22) t (st h K m) = rtI (tid m t np) (st h K m) := by
  have hG := zlp0 (G := fun n i => L_X9_tideAt_4 n (some 22) t (tid m t i) (nI i) (st h K m)) (N := np) (r := rtI (tid m t np) (st h K m)) (by have : fuel = 1000 := rfl; omega) ?_ ?_
  · exact hG
  · intro n i hi
    have h6 : i < 6 := by omega
    show B_X9_tideAt_4 (L_X9_tideAt_4 n) (some 22) t (tid m t i) (nI i) (st h K m) = L_X9_tideAt_4 n (some 22) t (tid m t (i + 1)) (nI (i + 1)) (st h K m)
    unfold B_X9_tideAt_4
    rw [g22 F, hm, if_neg (nI_ge hi (by omega)), r22_36 F, d49 F h6, x_bnd, r22_34 F, d47 F h6, q_rm (hp i hi), r22_35 F, d48 F h6, x_bnd, r22_34 F, d47 F h6, x_bnd, s_size, x_rtI, x_bnd, r22_34 F, d47 F h6, x_bnd, x_bnd, r22_34 F, d47 F h6, q_dv (hp i hi), x_bnd, x_bnd, nIs]
    rfl
  · intro n
    show B_X9_tideAt_4 (L_X9_tideAt_4 n) (some 22) t (tid m t np) (nI np) (st h K m) = _
    unfold B_X9_tideAt_4
    rw [g22 F, hm, if_pos (nI_le (Nat.le_refl _) (by omega))]
theorem s_cTide {h : MH} {K m mm : Nat → Nat → Int32} {np : Nat} (F : Fix h) (R : Row h 21 6 3 np) (hn : np ≤ 6) (C : Cpa h K m np) (t : Int32) : M_X8_tideAt (some 1) t (st h K mm) = rtI (tid m t np) (st h K mm) := by
  unfold M_X8_tideAt
  rw [r1_5 F, a21 F]
  have hG := zlp0 (G := fun n i => L_X8_tideAt_14 n t (tid m t (if i ≤ np then i else np)) (some 21) (nI 6) (nI i) (st h K mm)) (N := 6) (r := rtI (tid m t np) (st h K mm)) (by decide) ?_ ?_
  · exact hG
  · intro n i hi
    show B_X8_tideAt_14 (L_X8_tideAt_14 n) t _ (some 21) (nI 6) (nI i) (st h K mm) = L_X8_tideAt_14 n t _ (some 21) (nI 6) (nI (i + 1)) (st h K mm)
    unfold B_X8_tideAt_14
    rw [if_neg (nI_ge hi (by decide)), d21 F hi]
    unfold B_X8_tideAt_41
    by_cases hp : i < np
    · have q := row_pa R hp
      obtain ⟨⟨p0, p1, p2⟩, pq, h2, h60, hpq⟩ := C i hp
      have hA : cA (pa h i) := Or.inr (by omega)
      have hpos : 0 < K (pa h i) 0 := by rw [p0, hpq, nI0, nI_ltP (by omega) (by omega)]; omega
      have hne : K (pa h i) 0 ≠ 0 := by rw [p0, hpq]; exact nI_ne0 (by omega) (by omega)
      have i1 : (if i ≤ np then i else np) = i := if_pos (by omega)
      have i2 : (if i + 1 ≤ np then i + 1 else np) = i + 1 := if_pos (by omega)
      rw [i1, i2, q.1, if_neg (by intro z; cases z), K_ck q.2.1]
      unfold M_X3_heightAt
      rw [K_gf q.2.1 hA, if_pos hpos, K_gf q.2.1 hA, x_bnd, K_gf q.2.1 hA, q_rm hne, K_gf q.2.1 hA, x_bnd, K_gf q.2.1 hA, x_bnd, x_bnd, x_bnd, K_gf q.2.1 hA, x_bnd, x_bnd, K_gf q.2.1 hA, q_dv hne, x_rtI, x_bnd, x_bnd, nIs, p0, p1, p2]
      rfl
    · rw [R.2.1 i (by omega) hi, if_pos rfl, x_bnd, nIs]
      have : (if i + 1 ≤ np then i + 1 else np) = (if i ≤ np then i else np) := by split <;> split <;> omega
      rw [this]
  · intro n
    show B_X8_tideAt_14 (L_X8_tideAt_14 n) t _ (some 21) (nI 6) (nI 6) (st h K mm) = _
    unfold B_X8_tideAt_14
    rw [if_pos (nI_le (Nat.le_refl _) (by decide))]
    have : (if 6 ≤ np then 6 else np) = np := by split <;> omega
    rw [this]
theorem Rel.per {h : MH} {K m : Nat → Nat → Int32} {B nb nr ns np nsm d : Nat} {S : STy} (R : Rel h K m B nb nr ns np nsm d S) : ∀ p, p < np → m 47 p ≠ 0 := by
  intro p hp
  obtain ⟨-, q, h2, h60, hq⟩ := R.2.2.2.2.2.2.2.2.1 p hp
  rw [hq]; exact nI_ne0 (by omega) (by omega)
theorem tid_th {m : Nat → Nat → Int32} {t x : Int32} {n : Nat} : tid (thM m t) x n = tid m x n := by
  unfold tid
  rw [thM_o (by decide), thM_o (by decide), thM_o (by decide)]
def eS2 : Nat → Option Int32 := fun q => if q = 2 then some 1 else none
theorem op_tide (x : Int32) : OpR eS2 (M_X8_tide (some 1) x) (M_X9_tide (some 22) x) := by
  intro B h K m I
  have F := I.F
  have I0 := I
  obtain ⟨nb, nr, ns, np, nsm, nst, d, R, L⟩ := I
  have np6 := R.1.2.1.2.2.2
  have R21 := R.1.2.2.2.2.2.1
  have hm33 : m 22 33 = nI np := R.2.2.1.2.2.1.2
  have hC := R.2.2.2.2.2.2.2.2.1
  by_cases hx : (0 : Int32) ≤ x ∧ x ≤ (100000 : Int32)
  · refine OpR_v I0 (tid m x np) ?_ (fun h' F' => ?_)
    · unfold M_X8_tide
      rw [s_needRange_t hx, x_rtV, c1 F, s_cTide F R21 np6 hC, x_rtI]
    · unfold M_X9_tide B_X9_tide_16
      rw [s_in, x_rtI, bI_t hx, if_neg (by decide), p22 F', thM_eq, g22 F', thM_0, if_pos (by decide), c22 F', s_mTide F' (np := np) (by rw [thM_22 (by decide)]; exact hm33) np6 (by rw [thM_o (by decide)]; exact R.per), x_rtI, tid_th]
  · refine OpR_t I0 2 1 (by decide) rfl ?_ (fun h' F' => ?_)
    · unfold M_X8_tide
      rw [s_needRange_f hx, x_thr]
    · unfold M_X9_tide B_X9_tide_16
      rw [s_in, x_rtI, bI_f hx, if_pos rfl, p22 F', thM_eq, g22 F', thM_0, if_neg (by decide)]
theorem high_loop {h : MH} {K m : Nat → Nat → Int32} {np t : Nat} (F : Fix h) (R : Row h 21 6 3 np) (hn : np ≤ 6) (C : Cpa h K m np) (hm : m 22 33 = nI np) (hp : ∀ p, p < np → m 47 p ≠ 0) (ht : t ≤ 100000) : ∀ k i f1, i + k = t + 1 → ∃ r, (∀ mm n, k < n → L_X8_highest_38 n (some 1) (nI t) f1 (tid m f1 np) (nI i) (st h K mm) = rtI r (st h K mm)) ∧ (∀ h' K' n, Fix h' → k < n → L_X9_highest_63 n (some 22) (nI t) f1 (nI i) (st h' K' m) = rtI r (st h' K' m)) := by
  intro k
  induction k with
  | zero =>
    intro i f1 hi
    refine ⟨f1, fun mm n hn1 => ?_, fun h' K' n F' hn1 => ?_⟩
    · obtain ⟨n, rfl⟩ : ∃ q, n = q + 1 := ⟨n - 1, by omega⟩
      show B_X8_highest_38 (L_X8_highest_38 n) (some 1) (nI t) f1 (tid m f1 np) (nI i) (st h K mm) = _
      unfold B_X8_highest_38
      rw [if_pos (nI_lt (by omega) (by omega))]
    · obtain ⟨n, rfl⟩ : ∃ q, n = q + 1 := ⟨n - 1, by omega⟩
      show B_X9_highest_63 (L_X9_highest_63 n) (some 22) (nI t) f1 (nI i) (st h' K' m) = _
      unfold B_X9_highest_63
      rw [if_pos (nI_lt (by omega) (by omega))]
  | succ k ih =>
    intro i f1 hi
    obtain ⟨r, w1, w2⟩ := ih (i + 1) (if tid m (nI i) np ≤ tid m f1 np then f1 else nI i) (by omega)
    refine ⟨r, fun mm n hn1 => ?_, fun h' K' n F' hn1 => ?_⟩
    · obtain ⟨n, rfl⟩ : ∃ q, n = q + 1 := ⟨n - 1, by omega⟩
      show B_X8_highest_38 (L_X8_highest_38 n) (some 1) (nI t) f1 (tid m f1 np) (nI i) (st h K mm) = _
      unfold B_X8_highest_38 B_X8_highest_66
      rw [if_neg (nI_nlt (by omega) (by omega)), c1 F, s_cTide F R hn C, x_rtI, x_bnd, x_bnd, nIs]
      have := w1 mm n (by omega)
      by_cases q : tid m (nI i) np ≤ tid m f1 np
      · rw [if_pos q]; rw [if_pos q] at this; exact this
      · rw [if_neg q]; rw [if_neg q] at this; exact this
    · obtain ⟨n, rfl⟩ : ∃ q, n = q + 1 := ⟨n - 1, by omega⟩
      show B_X9_highest_63 (L_X9_highest_63 n) (some 22) (nI t) f1 (nI i) (st h' K' m) = _
      unfold B_X9_highest_63 B_X9_highest_89
      rw [if_neg (nI_nlt (by omega) (by omega)), c22 F', s_mTide F' hm hn hp, x_rtI, c22 F', s_mTide F' hm hn hp, x_rtI, x_bnd, x_bnd, nIs]
      have := w2 h' K' n F' (by omega)
      by_cases q : tid m (nI i) np ≤ tid m f1 np
      · rw [if_pos q]; rw [if_pos q] at this; exact this
      · rw [if_neg q]; rw [if_neg q] at this; exact this
theorem op_highest (x y : Int32) : OpR eS2 (M_X8_highest (some 1) x y) (M_X9_highest (some 22) x y) := by
  intro B h K m I
  have F := I.F
  have I0 := I
  obtain ⟨nb, nr, ns, np, nsm, nst, d, R, L⟩ := I
  have np6 := R.1.2.1.2.2.2
  have R21 := R.1.2.2.2.2.2.1
  have hm33 : m 22 33 = nI np := R.2.2.1.2.2.1.2
  have hC := R.2.2.2.2.2.2.2.2.1
  by_cases hx : (0 : Int32) ≤ x ∧ x ≤ (100000 : Int32)
  · obtain ⟨f, hf, rfl⟩ := nI_rng (x := x) (n := 100000) (by decide) hx.1 hx.2
    obtain ⟨T, hTd⟩ : ∃ T : Nat, T = if f + 500 ≤ 100000 then f + 500 else 100000 := ⟨_, rfl⟩
    have hT : T ≤ f + 500 ∧ T ≤ 100000 := by rw [hTd]; split <;> omega
    have e500 : nI f + (500 : Int32) = nI (f + 500) := nI_add f 500
    have eT : (if (100000 : Int32) < nI (f + 500) then (100000 : Int32) else nI (f + 500)) = nI T := by
      by_cases q : f + 500 ≤ 100000
      · rw [if_pos q] at hTd
        rw [if_neg (show ¬ (100000 : Int32) < nI (f + 500) from nI_nlt (a := 100000) q (by decide)), hTd]
      · rw [if_neg q] at hTd
        rw [if_pos (show (100000 : Int32) < nI (f + 500) from nI_lt (a := 100000) (by omega) (by omega)), hTd]; rfl
    have hMod : ∀ h', Fix h' → M_X9_highest (some 22) (nI f) y (st h' K m) = B_X9_highest_33 (some 22) (nI f) y (some 22) y (nI f) (nI T) (st h' K m) := by
      intro h' F'
      unfold M_X9_highest
      rw [s_in, x_rtI, bI_t hx, if_neg (by decide), x_bnd, e500, x_bnd]
      by_cases q : f + 500 ≤ 100000
      · rw [if_pos q] at hTd
        rw [if_pos (show nI (f + 500) ≤ (100000 : Int32) from nI_le (b := 100000) q (by decide)), hTd]
      · rw [if_neg q] at hTd
        rw [if_neg (show ¬ nI (f + 500) ≤ (100000 : Int32) from nI_ge (a := 100000) (by omega) (by omega)), hTd]; rfl
    by_cases hy : nI f ≤ y ∧ y ≤ nI T
    · obtain ⟨t, ht, rfl⟩ := nI_rng (x := y) (n := T) (by omega) (by have h1 := hy.1; rw [i_le] at h1 ⊢; rw [nI_toInt (by omega)] at h1; rw [show (0 : Int32).toInt = 0 from by decide]; omega) hy.2
      have hft : f ≤ t := (nI_leI (by omega) (by omega)).mp hy.1
      have R1 := R.th 0
      obtain ⟨r, w1, w2⟩ := high_loop (m := thM m 0) (t := t) F R21 np6 (R1.2.2.2.2.2.2.2.2.1) (by rw [thM_22 (by decide)]; exact hm33) (by rw [thM_o (by decide)]; exact R.per) (by omega) (t - f) (f + 1) (nI f) (by omega)
      refine OpR_v I0 r ?_ (fun h' F' => ?_)
      · unfold M_X8_highest
        rw [s_needRange_t hx, x_rtV, x_bnd, e500, x_bnd, eT, s_needRange_t hy, x_rtV, c1 F, s_cTide F R21 np6 hC, x_rtI, x_bnd, nIs]
        have := w1 m fuel (by have : fuel = 1000 := rfl; omega)
        rw [tid_th] at this
        exact this
      · rw [hMod h' F']
        unfold B_X9_highest_33 B_X9_highest_44
        rw [s_in, x_rtI, bI_t hy, if_pos (by decide), p22 F', thM_eq, g22 F', thM_0, if_pos (by decide), x_bnd, nIs]
        exact w2 h' K fuel F' (by have : fuel = 1000 := rfl; omega)
    · refine OpR_t I0 2 1 (by decide) rfl ?_ (fun h' F' => ?_)
      · unfold M_X8_highest
        rw [s_needRange_t hx, x_rtV, x_bnd, e500, x_bnd, eT, s_needRange_f hy, x_thr]
      · rw [hMod h' F']
        unfold B_X9_highest_33 B_X9_highest_39 B_X9_highest_44
        rw [s_in, x_rtI, bI_f hy, if_neg (fun z => z rfl), p22 F', thM_eq, g22 F', thM_0, if_neg (by decide)]
  · refine OpR_t I0 2 1 (by decide) rfl ?_ (fun h' F' => ?_)
    · unfold M_X8_highest
      rw [s_needRange_f hx, x_thr]
    · unfold M_X9_highest B_X9_highest_39 B_X9_highest_44
      rw [s_in, x_rtI, bI_f hx, if_pos rfl, p22 F', thM_eq, g22 F', thM_0, if_neg (by decide)]
