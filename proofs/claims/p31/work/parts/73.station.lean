/-! a station is told -/
theorem nI_p1 {p : Nat} : nI (p + 1) + (-1) = nI p := by rw [← Int32.sub_eq_add_neg, nI_pred]
theorem code_eq (D c : Nat) : nI D * 60 + nI c = nI (D * 60 + c) := by
  rw [Int32.mul_comm, e60s, Nat.mul_comm]
theorem s_code {h : MH} {D c : Nat} : M_X7_stationOf (nI D) (nI c) h = rtI (nI (D * 60 + c)) h := by
  unfold M_X7_stationOf
  rw [x_bnd, x_bnd, code_eq]
theorem s_hasStation {h : MH} {K m : Nat → Nat → Int32} {nst D c : Nat} {cd : Nat → Nat} (F : Fix h) (h0 : K 16 0 = nI nst) (hn1 : nst ≤ 30) (hcd : ∀ i, i < nst → K 17 i = nI (cd i) ∧ cd i < 100000) (hD : D ≤ 1000) (hc : c < 60) : M_X7_hasStation (some 16) (nI D) (nI c) (st h K m) = rtI (zI (anB (fun i => cd i = D * 60 + c) nst)) (st h K m) := by
  unfold M_X7_hasStation
  rw [s_code, x_rtI]
  refine zlp (G := fun n i => L_X7_hasStation_9 n (some 16) (nI (D * 60 + c)) (nI i) (st h K m)) (fun i => ∀ k, k < i → ¬ cd k = D * 60 + c) nst _ (fun n i hi hI => ?_) (fun n hI => ?_) nst fuel 0 (by omega) (by have : fuel = 1000 := rfl; omega) (fun k hk1 => absurd hk1 (by omega))
  · show B_X7_hasStation_9 (L_X7_hasStation_9 n) (some 16) (nI (D * 60 + c)) (nI i) (st h K m) = _ ∨ (_ ∧ B_X7_hasStation_9 (L_X7_hasStation_9 n) (some 16) (nI (D * 60 + c)) (nI i) (st h K m) = _)
    have q2 := (hcd i hi).2
    unfold B_X7_hasStation_9
    rw [g16 F, h0, if_neg (nI_ge hi (by omega)), r16_1 F, a17 F, if_neg (nI_ge (by omega) (by omega)), r16_1 F, d17 F (by omega), (hcd i hi).1]
    by_cases q : cd i = D * 60 + c
    · left
      rw [if_neg (show ¬ nI (cd i) ≠ nI (D * 60 + c) by rw [q]; exact fun z => z rfl), rtZ_1, anB_iff.mpr ⟨i, hi, q⟩, zI_t]
    · right
      refine ⟨fun k hk1 => ?_, ?_⟩
      · by_cases e : k = i
        · rw [e]; exact q
        · exact hI k (by omega)
      · rw [if_pos (show nI (cd i) ≠ nI (D * 60 + c) from fun z => q ((nI_eq (by omega) (by omega)).mp z)), x_bnd, nIs]
  · show B_X7_hasStation_9 (L_X7_hasStation_9 n) (some 16) (nI (D * 60 + c)) (nI nst) (st h K m) = _
    unfold B_X7_hasStation_9
    rw [g16 F, h0, if_pos (nI_le (Nat.le_refl _) (by omega)), rtZ_0, anB_no hI, zI_f]
theorem s_allTold {h : MH} {K m : Nat → Nat → Int32} {nst : Nat} (F : Fix h) (h0 : K 16 0 = nI nst) (hn1 : nst ≤ 30) : M_X7_areAllStationsTold (some 16) (st h K m) = rtI (if nst < 30 then 0 else 1) (st h K m) := by
  unfold M_X7_areAllStationsTold
  rw [g16 F, h0, r16_1 F, a17 F]
  by_cases q : nst < 30
  · rw [s_isIndex_t q (by decide), x_rtI, if_pos (by decide), rtZ_0, if_pos q]
  · rw [s_isIndex_f (Or.inr (nI_le (by omega) (by omega))), x_rtI, if_neg (fun z => z rfl), rtZ_1, if_neg q]
/-- the codes behind p moved on by one -/
def shf (g : Nat → Int32) (n p : Nat) : Nat → Int32 := fun j => if p < j ∧ j ≤ n then g (j - 1) else g j
def insK (K : Nat → Nat → Int32) (n p T : Nat) : Nat → Nat → Int32 := upw (upw K 17 (upd (shf (K 17) n p) p (nI T))) 16 (upd (K 16) 0 (nI (n + 1)))
theorem shf_0 {g : Nat → Int32} {n : Nat} : shf g n n = g := by
  funext j; unfold shf; rw [if_neg (by omega)]
theorem shf_1 {g : Nat → Int32} {n p : Nat} (h : p + 1 ≤ n) : upd (shf g n (p + 1)) (p + 1) (g p) = shf g n p := by
  funext j
  by_cases q : j = p + 1
  · rw [q, upd_s]; unfold shf; rw [if_pos (by omega)]; rfl
  · rw [upd_o q]
    unfold shf
    by_cases q2 : p < j ∧ j ≤ n
    · rw [if_pos q2, if_pos (by omega)]
    · rw [if_neg q2, if_neg (by omega)]
theorem s_tell64 {h : MH} {K m : Nat → Nat → Int32} {nst p T : Nat} (F : Fix h) (h0 : K 16 0 = nI nst) (hn1 : nst < 30) (hp : p ≤ nst) : B_X7_tellStation_64 (some 16) (nI T) (nI p) (st h (upw K 17 (shf (K 17) nst p)) m) = rtI (nI (nst + 1)) (st h (insK K nst p T) m) := by
  unfold B_X7_tellStation_64
  rw [r16_1 F, w17 F (by omega), upw_s, upw_w, g16 F, upw_o (show (16 : Nat) ≠ 17 by decide), h0, x_bnd, nIs, p16 F, upw_o (show (16 : Nat) ≠ 17 by decide), g16 F, upw_s, upd_s]
  rfl
theorem s_tell {h : MH} {K mm : Nat → Nat → Int32} {nst T : Nat} {cd : Nat → Nat} (F : Fix h) (h0 : K 16 0 = nI nst) (hn1 : nst < 30) (hcd : ∀ i, i < nst → K 17 i = nI (cd i) ∧ cd i < 100000) (hs : ∀ i j, i < j → j < nst → cd i < cd j) (hT : T < 100000) (hno : ∀ i, i < nst → cd i ≠ T) : ∀ k n, fcn cd T nst + k ≤ nst → k < n → L_X7_tellStation_24 n (some 16) (nI T) (nI (fcn cd T nst + k)) (st h (upw K 17 (shf (K 17) nst (fcn cd T nst + k))) mm) = rtI (nI (nst + 1)) (st h (insK K nst (fcn cd T nst) T) mm) := by
  intro k
  induction k with
  | zero =>
    intro n hk1 hn
    obtain ⟨n, rfl⟩ : ∃ q, n = q + 1 := ⟨n - 1, by omega⟩
    rw [Nat.add_zero] at hk1 ⊢
    show B_X7_tellStation_24 (L_X7_tellStation_24 n) (some 16) (nI T) (nI (fcn cd T nst)) (st h (upw K 17 (shf (K 17) nst (fcn cd T nst))) mm) = _
    unfold B_X7_tellStation_24
    by_cases q : fcn cd T nst = 0
    · rw [if_pos (show nI (fcn cd T nst) ≤ 0 by rw [q]; decide)]
      exact s_tell64 F h0 hn1 hk1
    · obtain ⟨p, hp⟩ : ∃ p, fcn cd T nst = p + 1 := ⟨fcn cd T nst - 1, by omega⟩
      have h1 : cd p < T := (fcn_iff (T := T) hs (i := p) (by omega)).mp (by omega)
      have h2 := s_tell64 (T := T) (m := mm) F h0 hn1 hk1
      rw [hp] at h2 hk1 ⊢
      rw [if_neg (show ¬ nI (p + 1) ≤ 0 from nI_ge (a := 0) (by omega) (by omega)), r16_1 F, x_bnd, nI_pred, d17 F (by omega), upw_s, show shf (K 17) nst (p + 1) p = K 17 p from if_neg (by omega), (hcd p (by omega)).1, if_pos (nI_le (by omega) (by omega))]
      exact h2
  | succ k ih =>
    intro n hk1 hn
    obtain ⟨n, rfl⟩ : ∃ q, n = q + 1 := ⟨n - 1, by omega⟩
    obtain ⟨p, hp⟩ : ∃ p, p = fcn cd T nst + k := ⟨_, rfl⟩
    have e1 : fcn cd T nst + (k + 1) = p + 1 := by omega
    have ih := ih n (by omega) (by omega)
    rw [← hp] at ih
    rw [e1] at hk1 ⊢
    show B_X7_tellStation_24 (L_X7_tellStation_24 n) (some 16) (nI T) (nI (p + 1)) (st h (upw K 17 (shf (K 17) nst (p + 1))) mm) = _
    have h1 : T < cd p := by
      have h2 : ¬ cd p < T := fun z => by have := (fcn_iff (T := T) hs (i := p) (by omega)).mpr z; omega
      have := hno p (by omega)
      omega
    have hq := (hcd p (by omega)).2
    unfold B_X7_tellStation_24
    rw [if_neg (show ¬ nI (p + 1) ≤ 0 from nI_ge (a := 0) (by omega) (by omega)), r16_1 F, x_bnd, nI_pred, d17 F (by omega), upw_s, show shf (K 17) nst (p + 1) p = K 17 p from if_neg (by omega), (hcd p (by omega)).1, if_neg (nI_ge (by omega) (by omega)), r16_1 F, r16_1 F, x_bnd, d17 F (by omega), upw_s, show shf (K 17) nst (p + 1) p = K 17 p from if_neg (by omega), w17 F (by omega), upw_s, upw_w, shf_1 hk1, x_bnd, nI_p1]
    exact ih
/-- the codes with one more -/
def cdI (cd : Nat → Nat) (p T : Nat) : Nat → Nat := fun i => if i < p then cd i else if i = p then T else cd (i - 1)
theorem cdI_count {cd : Nat → Nat} {p T a : Nat} : ∀ k, ((List.range (p + k + 1)).map (cdI cd p T)).count a = ((List.range (p + k)).map cd).count a + if T = a then 1 else 0 := by
  intro k
  induction k with
  | zero =>
    rw [Nat.add_zero, count_map, show cdI cd p T p = T by unfold cdI; rw [if_neg (by omega), if_pos rfl]]
    congr 2
    apply List.map_congr_left
    intro j hj
    rw [List.mem_range] at hj
    unfold cdI; rw [if_pos hj]
  | succ k ih =>
    rw [show p + (k + 1) = p + k + 1 by omega, count_map, ih, count_map, show cdI cd p T (p + k + 1) = cd (p + k) by unfold cdI; rw [if_neg (by omega), if_neg (by omega)]; rfl]
    omega
theorem cdI_inc {cd : Nat → Nat} {T n : Nat} (hs : ∀ i j, i < j → j < n → cd i < cd j) (hno : ∀ i, i < n → cd i ≠ T) : ∀ i j, i < j → j < n + 1 → cdI cd (fcn cd T n) T i < cdI cd (fcn cd T n) T j := by
  intro i j hij hj
  have hle := fcn_le (cd := cd) (T := T) (n := n)
  have lo : ∀ i, i < fcn cd T n → cd i < T := fun i hi => (fcn_iff hs (by omega)).mp hi
  have hi2 : ∀ i, fcn cd T n ≤ i → i < n → T < cd i := by
    intro i h1 h2
    have h3 : ¬ cd i < T := fun z => by have := (fcn_iff hs h2).mpr z; omega
    have := hno i h2
    omega
  unfold cdI
  by_cases a1 : i < fcn cd T n
  · rw [if_pos a1]
    have := lo i a1
    by_cases b1 : j < fcn cd T n
    · rw [if_pos b1]; exact hs i j hij (by omega)
    · rw [if_neg b1]
      by_cases b2 : j = fcn cd T n
      · rw [if_pos b2]; exact this
      · rw [if_neg b2]
        have := hi2 (j - 1) (by omega) (by omega)
        omega
  · rw [if_neg a1, if_neg (show ¬ j < fcn cd T n by omega)]
    rw [if_neg (show ¬ j = fcn cd T n by omega)]
    by_cases a2 : i = fcn cd T n
    · rw [if_pos a2]
      exact hi2 (j - 1) (by omega) (by omega)
    · rw [if_neg a2]
      exact hs (i - 1) (j - 1) (by omega) (by omega)
def staM (m : Nat → Nat → Int32) (n D c : Nat) : Nat → Nat → Int32 := upw (upw (upw (thM m 0) 36 (upd (m 36) n (nI D))) 37 (upd (m 37) n (nI c))) 22 (upd (thM m 0 22) 17 (nI (n + 1)))
theorem stood {h : MH} {K m : Nat → Nat → Int32} {B nb nr ns np nsm d nst D c : Nat} {cd sd sc : Nat → Nat} (R : Rel h K m B nb nr ns np nsm d (Sst nst d)) (hn1 : nst < 30) (hD : d < D ∧ D ≤ 1000) (hc : c < 60) (h1 : ∀ i, i < nst → K 17 i = nI (cd i) ∧ m 36 i = nI (sd i) ∧ m 37 i = nI (sc i) ∧ sc i < 60 ∧ d < sd i ∧ sd i ≤ 1000) (hs : ∀ i j, i < j → j < nst → cd i < cd j) (hp : ((List.range nst).map cd).Perm ((List.range nst).map fun k => sd k * 60 + sc k)) (hno : ∀ i, i < nst → cd i ≠ D * 60 + c) : Rel h (insK K nst (fcn cd (D * 60 + c) nst) (D * 60 + c)) (staM m nst D c) B nb nr ns np nsm d (Sst (nst + 1) d) := by
  obtain ⟨p, hp0⟩ : ∃ p, p = fcn cd (D * 60 + c) nst := ⟨_, rfl⟩
  obtain ⟨T, hT⟩ : ∃ T, T = D * 60 + c := ⟨_, rfl⟩
  rw [← hT] at hp0 hno ⊢
  rw [← hp0]
  have hle : p ≤ nst := by rw [hp0]; exact fcn_le
  have CS := R.2.2.2.2.2.2.1
  obtain ⟨⟨s1, s2, s3⟩, ⟨s4, s5⟩, -⟩ := CS
  refine R.sS (K1 := insK K nst p T) (m1 := staM m nst D c) (nsm1 := nsm) (fun a ha => ?_) (fun a ha => ?_) (fun j hj => ?_) ⟨⟨?_, ?_⟩, R.2.2.1.2.2.2.2.2.2.2.2⟩ ?_
  · simp at ha
    unfold insK
    rw [upw_o (by omega), upw_o (by omega)]
  · simp at ha
    unfold staM
    rw [upw_o (by omega), upw_o (by omega), upw_o (by omega), thM_o (by omega)]
  · simp at hj
    unfold staM
    rw [upw_s, upd_o (by omega), thM_22 (by omega)]
  · unfold insK
    rw [upw_s, upd_o (by decide)]
    exact R.2.2.1.2.2.2.2.1.1
  · unfold staM
    rw [upw_s, upd_o (by decide), thM_22 (by decide)]
    exact R.2.2.1.2.2.2.2.1.2
  · have k17 : insK K nst p T 17 = upd (shf (K 17) nst p) p (nI T) := by unfold insK; rw [upw_o (by decide), upw_s]
    have k18 : insK K nst p T 18 = K 18 := by unfold insK; rw [upw_o (by decide), upw_o (by decide)]
    have k19 : insK K nst p T 19 = K 19 := by unfold insK; rw [upw_o (by decide), upw_o (by decide)]
    have k16 : insK K nst p T 16 0 = nI (nst + 1) := by unfold insK; rw [upw_s, upd_s]
    have m17 : staM m nst D c 22 17 = nI (nst + 1) := by unfold staM; rw [upw_s, upd_s]
    have m36 : staM m nst D c 36 = upd (m 36) nst (nI D) := by unfold staM; rw [upw_o (by decide), upw_o (by decide), upw_s]
    have m37 : staM m nst D c 37 = upd (m 37) nst (nI c) := by unfold staM; rw [upw_o (by decide), upw_s]
    have m38 : staM m nst D c 38 = m 38 := by unfold staM; rw [upw_o (by decide), upw_o (by decide), upw_o (by decide), thM_o (by decide)]
    have m39 : staM m nst D c 39 = m 39 := by unfold staM; rw [upw_o (by decide), upw_o (by decide), upw_o (by decide), thM_o (by decide)]
    unfold Cst
    rw [k17, k18, k19, k16, m17, m36, m37, m38, m39]
    obtain ⟨sd1, hsd⟩ : ∃ g : Nat → Nat, ∀ i, g i = if i = nst then D else sd i := ⟨_, fun _ => rfl⟩
    obtain ⟨sc1, hsc⟩ : ∃ g : Nat → Nat, ∀ i, g i = if i = nst then c else sc i := ⟨_, fun _ => rfl⟩
    refine ⟨⟨rfl, rfl, by omega⟩, ⟨s4, s5⟩, cdI cd p T, sd1, sc1, fun i hi => ⟨?_, ?_, ?_, ?_, ?_, ?_⟩, ?_, ?_⟩
    · unfold cdI
      by_cases q1 : i = p
      · rw [q1, upd_s, if_neg (Nat.lt_irrefl p), if_pos rfl]
      · rw [upd_o q1, if_neg q1]
        unfold shf
        by_cases q2 : i < p
        · rw [if_neg (by omega), if_pos q2]; exact (h1 i (by omega)).1
        · rw [if_pos (by omega), if_neg q2]; exact (h1 (i - 1) (by omega)).1
    · rw [hsd]
      by_cases q : i = nst
      · rw [if_pos q, q, upd_s]
      · rw [upd_o q, if_neg q]; exact (h1 i (by omega)).2.1
    · rw [hsc]
      by_cases q : i = nst
      · rw [if_pos q, q, upd_s]
      · rw [upd_o q, if_neg q]; exact (h1 i (by omega)).2.2.1
    · rw [hsc]
      by_cases q : i = nst
      · rw [if_pos q]; exact hc
      · rw [if_neg q]; exact (h1 i (by omega)).2.2.2.1
    · rw [hsd]
      by_cases q : i = nst
      · rw [if_pos q]; exact hD.1
      · rw [if_neg q]; exact (h1 i (by omega)).2.2.2.2.1
    · rw [hsd]
      by_cases q : i = nst
      · rw [if_pos q]; exact hD.2
      · rw [if_neg q]; exact (h1 i (by omega)).2.2.2.2.2
    · rw [hp0]; exact cdI_inc hs hno
    · rw [List.perm_iff_count]
      intro a
      have e1 := cdI_count (cd := cd) (p := p) (T := T) (a := a) (nst - p)
      rw [show p + (nst - p) = nst by omega] at e1
      have e2 : (List.range nst).map (fun k => sd1 k * 60 + sc1 k) = (List.range nst).map fun k => sd k * 60 + sc k := by
        apply List.map_congr_left
        intro j hj
        rw [List.mem_range] at hj
        rw [hsd, hsc, if_neg (by omega), if_neg (by omega)]
      rw [e1, count_map, e2, hsd, hsc, if_pos rfl, if_pos rfl, ← hT, hp.count_eq]
