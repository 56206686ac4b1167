/-! a station is told -/
theorem nI_p1 {p : Nat} : nI (p + 1) + (-1) = nI p := by rw [← Int32.sub_eq_add_neg, nI_pred]
theorem code_eq (D c : Nat) : nI D * 60 + nI c = nI (D * 60 + c) := by
  rw [Int32.mul_comm, e60s, Nat.mul_comm]
theorem s_code {h : MH} {D c : Nat} : M_X7_stationOf (nI D) (nI c) h = rtI (nI (D * 60 + c)) h := by
  unfold M_X7_stationOf
  rw [x_bnd, x_bnd, code_eq]
theorem s_hasStation {h : MH} {K m : Nat → Nat → Int32} {nst D c : Nat} {cd : Nat → Nat} (F : Fix h) (h0 : K 16 0 = nI nst) (hn1 : nst ≤ 30) (hcd : ∀ i, i < nst → K 17 i = nI (cd i) ∧ cd i < 100000) (hD : D ≤ 1000) (hc : c < 60) : M_X7_hasStation (some 16) (nI D) (nI c) (st h K m) = rtI (zI (anB (fun i => cd i = D * 60 + c) nst)) (st h K m) := by
  unfold M_X7_hasStation
  rw [s_code, x_rtI]
  refine zlp (G := fun n i => L_X7_hasStation_9 n (some 16) (nI (D * 60 + c)) (nI i) (st h K m)) (fun i => ∀ k, k < i → ¬ cd k = D * 60 + c) nst _ (fun n i hi hI => ?_) (fun n hI => ?_) nst fuel 0 (by omega) (by have : fuel = 1000 := rfl; omega) (fun k hk1 => absurd hk1 (by omega))
  · show B_X7_hasStation_9 (L_X7_hasStation_9 n) (some 16) (nI (D * 60 + c)) (nI i) (st h K m) = _ ∨ (_ ∧ B_X7_hasStation_9 (L_X7_hasStation_9 n) (some 16) (nI (D * 60 + c)) (nI i) (st h K m) = _)
    have q2 := (hcd i hi).2
    unfold B_X7_hasStation_9
    rw [g16 F, h0, if_neg (nI_ge hi (by omega)), r16_1 F, a17 F, if_neg (nI_ge (by omega) (by omega)), r16_1 F, d17 F (by omega), (hcd i hi).1]
    by_cases q : cd i = D * 60 + c
    · left
      rw [if_neg (show ¬ nI (cd i) ≠ nI (D * 60 + c) by rw [q]; exact fun z => z rfl), rtZ_1, anB_iff.mpr ⟨i, hi, q⟩, zI_t]
    · right
      refine ⟨fun k hk1 => ?_, ?_⟩
      · by_cases e : k = i
        · rw [e]; exact q
        · exact hI k (by omega)
      · rw [if_pos (show nI (cd i) ≠ nI (D * 60 + c) from fun z => q ((nI_eq (by omega) (by omega)).mp z)), x_bnd, nIs]
  · show B_X7_hasStation_9 (L_X7_hasStation_9 n) (some 16) (nI (D * 60 + c)) (nI nst) (st h K m) = _
    unfold B_X7_hasStation_9
    rw [g16 F, h0, if_pos (nI_le (Nat.le_refl _) (by omega)), rtZ_0, anB_no hI, zI_f]
theorem s_allTold {h : MH} {K m : Nat → Nat → Int32} {nst : Nat} (F : Fix h) (h0 : K 16 0 = nI nst) (hn1 : nst ≤ 30) : M_X7_areAllStationsTold (some 16) (st h K m) = rtI (if nst < 30 then 0 else 1) (st h K m) := by
  unfold M_X7_areAllStationsTold
  rw [g16 F, h0, r16_1 F, a17 F]
  by_cases q : nst < 30
  · rw [s_isIndex_t q (by decide), x_rtI, if_pos (by decide), rtZ_0, if_pos q]
  · rw [s_isIndex_f (Or.inr (nI_le (by omega) (by omega))), x_rtI, if_neg (fun z => z rfl), rtZ_1, if_neg q]
/-- the codes behind p moved on by one -/
def shf (g : Nat → Int32) (n p : Nat) : Nat → Int32 := fun j => if p < j ∧ j ≤ n then g (j - 1) else g j
def insK (K : Nat → Nat → Int32) (n p T : Nat) : Nat → Nat → Int32 := upw (upw K 17 (upd (shf (K 17) n p) p (nI T))) 16 (upd (K 16) 0 (nI (n + 1)))
theorem shf_0 {g : Nat → Int32} {n : Nat} : shf g n n = g := by
  funext j; unfold shf; rw [if_neg (by omega)]
theorem shf_1 {g : Nat → Int32} {n p : Nat} (h : p + 1 ≤ n) : upd (shf g n (p + 1)) (p + 1) (g p) = shf g n p := by
  funext j
  by_cases q : j = p + 1
  · rw [q, upd_s]; unfold shf; rw [if_pos (by omega)]; rfl
  · rw [upd_o q]
    unfold shf
    by_cases q2 : p < j ∧ j ≤ n
    · rw [if_pos q2, if_pos (by omega)]
    · rw [if_neg q2, if_neg (by omega)]
theorem s_tell64 {h : MH} {K m : Nat → Nat → Int32} {nst p T : Nat} (F : Fix h) (h0 : K 16 0 = nI nst) (hn1 : nst < 30) (hp : p ≤ nst) : B_X7_tellStation_64 (some 16) (nI T) (nI p) (st h (upw K 17 (shf (K 17) nst p)) m) = rtI (nI (nst + 1)) (st h (insK K nst p T) m) := by
  unfold B_X7_tellStation_64
  rw [r16_1 F, w17 F (by omega), upw_s, upw_w, g16 F, upw_o (show (16 : Nat) ≠ 17 by decide), h0, x_bnd, nIs, p16 F, upw_o (show (16 : Nat) ≠ 17 by decide), g16 F, upw_s, upd_s]
  rfl
theorem s_tell {h : MH} {K mm : Nat → Nat → Int32} {nst T : Nat} {cd : Nat → Nat} (F : Fix h) (h0 : K 16 0 = nI nst) (hn1 : nst < 30) (hcd : ∀ i, i < nst → K 17 i = nI (cd i) ∧ cd i < 100000) (hs : ∀ i j, i < j → j < nst → cd i < cd j) (hT : T < 100000) (hno : ∀ i, i < nst → cd i ≠ T) : ∀ k n, fcn cd T nst + k ≤ nst → k < n → L_X7_tellStation_24 n (some 16) (nI T) (nI (fcn cd T nst + k)) (st h (upw K 17 (shf (K 17) nst (fcn cd T nst + k))) mm) = rtI (nI (nst + 1)) (st h (insK K nst (fcn cd T nst) T) mm) := by
  intro k
  induction k with
  | zero =>
    intro n hk1 hn
    obtain ⟨n, rfl⟩ : ∃ q, n = q + 1 := ⟨n - 1, by omega⟩
    rw [Nat.add_zero] at hk1 ⊢
    show B_X7_tellStation_24 (L_X7_tellStation_24 n) (some 16) (nI T) (nI (fcn cd T nst)) (st h (upw K 17 (shf (K 17) nst (fcn cd T nst))) mm) = _
    unfold B_X7_tellStation_24
    by_cases q : fcn cd T nst = 0
    · rw [if_pos (show nI (fcn cd T nst) ≤ 0 by rw [q]; decide)]
      exact s_tell64 F h0 hn1 hk1
    · obtain ⟨p, hp⟩ : ∃ p, fcn cd T nst = p + 1 := ⟨fcn cd T nst - 1, by omega⟩
      have h1 : cd p < T := (fcn_iff (T := T) hs (i := p) (by omega)).mp (by omega)
      have h2 := s_tell64 (T := T) (m := mm) F h0 hn1 hk1
      rw [hp] at h2 hk1 ⊢
      rw [if_neg (show ¬ nI (p + 1) ≤ 0 from nI_ge (a := 0) (by omega) (by omega)), r16_1 F, x_bnd, nI_pred, d17 F (by omega), upw_s, show shf (K 17) nst (p + 1) p = K 17 p from if_neg (by omega), (hcd p (by omega)).1, if_pos (nI_le (by omega) (by omega))]
      exact h2
  | succ k ih =>
    intro n hk1 hn
    obtain ⟨n, rfl⟩ : ∃ q, n = q + 1 := ⟨n - 1, by omega⟩
    obtain ⟨p, hp⟩ : ∃ p, p = fcn cd T nst + k := ⟨_, rfl⟩
    have e1 : fcn cd T nst + (k + 1) = p + 1 := by omega
    have ih := ih n (by omega) (by omega)
    rw [← hp] at ih
    rw [e1] at hk1 ⊢
    show B_X7_tellStation_24 (L_X7_tellStation_24 n) (some 16) (nI T) (nI (p + 1)) (st h (upw K 17 (shf (K 17) nst (p + 1))) mm) = _
    have h1 : T < cd p := by
      have h2 : ¬ cd p < T := fun z => by have := (fcn_iff (T := T) hs (i := p) (by omega)).mpr z; omega
      have := hno p (by omega)
      omega
    have hq := (hcd p (by omega)).2
    unfold B_X7_tellStation_24
    rw [if_neg (show ¬ nI (p + 1) ≤ 0 from nI_ge (a := 0) (by omega) (by omega)), r16_1 F, x_bnd, nI_pred, d17 F (by omega), upw_s, show shf (K 17) nst (p + 1) p = K 17 p from if_neg (by omega), (hcd p (by omega)).1, if_neg (nI_ge (by omega) (by omega)), r16_1 F, r16_1 F, x_bnd, d17 F (by omega), upw_s, show shf (K 17) nst (p + 1) p = K 17 p from if_neg (by omega), w17 F (by omega), upw_s, upw_w, shf_1 hk1, x_bnd, nI_p1]
    exact ih
/-- the codes with one more -/
def cdI (cd : Nat → Nat) (p T : Nat) : Nat → Nat := fun i => if i < p then cd i else if i = p then T else cd (i - 1)
theorem cdI_count {cd : Nat → Nat} {p T a : Nat} : ∀ k, ((List.range (p + k + 1)).map (cdI cd p T)).count a = ((List.range (p + k)).map cd).count a + if T = a then 1 else 0 := by
  intro k
  induction k with
  | zero =>
    rw [Nat.add_zero, count_map, show cdI cd p T p = T by unfold cdI; rw [if_neg (by omega), if_pos rfl]]
    congr 2
    apply List.map_congr_left
    intro j hj
    rw [List.mem_range] at hj
    unfold cdI; rw [if_pos hj]
  | succ k ih =>
    rw [show p + (k + 1) = p + k + 1 by omega, count_map, ih, count_map, show cdI cd p T (p + k + 1) = cd (p + k) by unfold cdI; rw [if_neg (by omega), if_neg (by omega)]; rfl]
    omega
theorem cdI_inc {cd : Nat → Nat} {T n : Nat} (hs : ∀ i j, i < j → j < n → cd i < cd j) (hno : ∀ i, i < n → cd i ≠ T) : ∀ i j, i < j → j < n + 1 → cdI cd (fcn cd T n) T i < cdI cd (fcn cd T n) T j := by
  intro i j hij hj
  have hle := fcn_le (cd := cd) (T := T) (n := n)
  have lo : ∀ i, i < fcn cd T n → cd i < T := fun i hi => (fcn_iff hs (by omega)).mp hi
  have hi2 : ∀ i, fcn cd T n ≤ i → i < n → T < cd i := by
    intro i h1 h2
    have h3 : ¬ cd i < T := fun z => by have := (fcn_iff hs h2).mpr z; omega
    have := hno i h2
    omega
  unfold cdI
  by_cases a1 : i < fcn cd T n
  · rw [if_pos a1]
    have := lo i a1
    by_cases b1 : j < fcn cd T n
    · rw [if_pos b1]; exact hs i j hij (by omega)
    · rw [if_neg b1]
      by_cases b2 : j = fcn cd T n
      · rw [if_pos b2]; exact this
      · rw [if_neg b2]
        have := hi2 (j - 1) (by omega) (by omega)
        omega
  · rw [if_neg a1, if_neg (show ¬ j < fcn cd T n by omega)]
    rw [if_neg (show ¬ j = fcn cd T n by omega)]
    by_cases a2 : i = fcn cd T n
    · rw [if_pos a2]
      exact hi2 (j - 1) (by omega) (by omega)
    · rw [if_neg a2]
      exact hs (i - 1) (j - 1) (by omega) (by omega)
def staM (m : Nat → Nat → Int32) (n D c : Nat) : Nat → Nat → Int32 := upw (upw (upw (thM m 0) 36 (upd (m 36) n (nI D))) 37 (upd (m 37) n (nI c))) 22 (upd (thM m 0 22) 17 (nI (n + 1)))
theorem s_sta80n {h : MH} {K m : Nat → Nat → Int32} (F : Fix h) {x y t : Int32} (ht : ¬ t ≤ 0) : B_X9_station_80 (some 22) x y (some 22) t (st h K m) = rtI 0 (st h K (thM m t)) := by
  unfold B_X9_station_80
  rw [p22 F, thM_eq, g22 F, thM_0, if_neg ht]
theorem s_sta33n {h : MH} {K m : Nat → Nat → Int32} (F : Fix h) {x y t : Int32} (ht : ¬ t ≤ 0) (ht0 : t ≠ 0) : B_X9_station_33 (some 22) x y (some 22) t (st h K m) = rtI 0 (st h K (thM m t)) := by
  unfold B_X9_station_33 B_X9_station_76
  rw [p22 F, thM_eq, g22 F, thM_0, if_pos ht0, g22 F, thM_0, s_sta80n F ht]
  unfold thM
  rw [upw_w, upw_s, upd_upd]
theorem s_sta80y {h : MH} {K m : Nat → Nat → Int32} {n D c : Nat} (F : Fix h) (hn1 : n < 30) (hm : m 22 17 = nI n) : B_X9_station_80 (some 22) (nI D) (nI c) (some 22) 0 (st h K (thM m 0)) = rtI (nI (n + 1)) (st h K (staM m n D c)) := by
  have hm' : thM m 0 22 17 = nI n := by rw [thM_22 (by decide)]; exact hm
  have hn31 : n < 31 := by omega
  unfold B_X9_station_80
  rw [p22 F, thM_thM, g22 F, thM_0, if_pos (by decide)]
  simp only [g22 F, r22_18 F, r22_19 F, upw_at, Nat.reduceEqDiff, if_true, if_false, hm', w36 F hn31, w37 F hn31, p22 F, x_bnd, upd_s, nIs, thM_o (m := m) (t := 0) (show (36 : Nat) ≠ 22 by decide), thM_o (m := m) (t := 0) (show (37 : Nat) ≠ 22 by decide)]
  rfl
theorem stood {h : MH} {K m : Nat → Nat → Int32} {B nb nr ns np nsm d nst D c : Nat} {cd sd sc : Nat → Nat} (R : Rel h K m B nb nr ns np nsm d (Sst nst d)) (hn1 : nst < 30) (hD : d < D ∧ D ≤ 1000) (hc : c < 60) (h1 : ∀ i, i < nst → K 17 i = nI (cd i) ∧ m 36 i = nI (sd i) ∧ m 37 i = nI (sc i) ∧ sc i < 60 ∧ d < sd i ∧ sd i ≤ 1000) (hs : ∀ i j, i < j → j < nst → cd i < cd j) (hp : ((List.range nst).map cd).Perm ((List.range nst).map fun k => sd k * 60 + sc k)) (hno : ∀ i, i < nst → cd i ≠ D * 60 + c) : Rel h (insK K nst (fcn cd (D * 60 + c) nst) (D * 60 + c)) (staM m nst D c) B nb nr ns np nsm d (Sst (nst + 1) d) := by
  obtain ⟨p, hp0⟩ : ∃ p, p = fcn cd (D * 60 + c) nst := ⟨_, rfl⟩
  obtain ⟨T, hT⟩ : ∃ T, T = D * 60 + c := ⟨_, rfl⟩
  rw [← hT] at hp0 hno ⊢
  rw [← hp0]
  have hle : p ≤ nst := by rw [hp0]; exact fcn_le
  have CS := R.2.2.2.2.2.2.1
  obtain ⟨⟨s1, s2, s3⟩, ⟨s4, s5⟩, -⟩ := CS
  refine R.sS (K1 := insK K nst p T) (m1 := staM m nst D c) (nsm1 := nsm) (fun a ha => ?_) (fun a ha => ?_) (fun j hj => ?_) ⟨⟨?_, ?_⟩, R.2.2.1.2.2.2.2.2.2.2.2⟩ ?_
  · simp at ha
    unfold insK
    rw [upw_o (by omega), upw_o (by omega)]
  · simp at ha
    unfold staM
    rw [upw_o (by omega), upw_o (by omega), upw_o (by omega), thM_o (by omega)]
  · simp at hj
    unfold staM
    rw [upw_s, upd_o (by omega), thM_22 (by omega)]
  · unfold insK
    rw [upw_s, upd_o (by decide)]
    exact R.2.2.1.2.2.2.2.1.1
  · unfold staM
    rw [upw_s, upd_o (by decide), thM_22 (by decide)]
    exact R.2.2.1.2.2.2.2.1.2
  · have k17 : insK K nst p T 17 = upd (shf (K 17) nst p) p (nI T) := by unfold insK; rw [upw_o (by decide), upw_s]
    have k18 : insK K nst p T 18 = K 18 := by unfold insK; rw [upw_o (by decide), upw_o (by decide)]
    have k19 : insK K nst p T 19 = K 19 := by unfold insK; rw [upw_o (by decide), upw_o (by decide)]
    have k16 : insK K nst p T 16 0 = nI (nst + 1) := by unfold insK; rw [upw_s, upd_s]
    have m17 : staM m nst D c 22 17 = nI (nst + 1) := by unfold staM; rw [upw_s, upd_s]
    have m36 : staM m nst D c 36 = upd (m 36) nst (nI D) := by unfold staM; rw [upw_o (by decide), upw_o (by decide), upw_s]
    have m37 : staM m nst D c 37 = upd (m 37) nst (nI c) := by unfold staM; rw [upw_o (by decide), upw_s]
    have m38 : staM m nst D c 38 = m 38 := by unfold staM; rw [upw_o (by decide), upw_o (by decide), upw_o (by decide), thM_o (by decide)]
    have m39 : staM m nst D c 39 = m 39 := by unfold staM; rw [upw_o (by decide), upw_o (by decide), upw_o (by decide), thM_o (by decide)]
    unfold Cst
    rw [k17, k18, k19, k16, m17, m36, m37, m38, m39]
    obtain ⟨sd1, hsd⟩ : ∃ g : Nat → Nat, ∀ i, g i = if i = nst then D else sd i := ⟨_, fun _ => rfl⟩
    obtain ⟨sc1, hsc⟩ : ∃ g : Nat → Nat, ∀ i, g i = if i = nst then c else sc i := ⟨_, fun _ => rfl⟩
    refine ⟨⟨rfl, rfl, by omega⟩, ⟨s4, s5⟩, cdI cd p T, sd1, sc1, fun i hi => ⟨?_, ?_, ?_, ?_, ?_, ?_⟩, ?_, ?_⟩
    · unfold cdI
      by_cases q1 : i = p
      · rw [q1, upd_s, if_neg (Nat.lt_irrefl p), if_pos rfl]
      · rw [upd_o q1, if_neg q1]
        unfold shf
        by_cases q2 : i < p
        · rw [if_neg (by omega), if_pos q2]; exact (h1 i (by omega)).1
        · rw [if_pos (by omega), if_neg q2]; exact (h1 (i - 1) (by omega)).1
    · rw [hsd]
      by_cases q : i = nst
      · rw [if_pos q, q, upd_s]
      · rw [upd_o q, if_neg q]; exact (h1 i (by omega)).2.1
    · rw [hsc]
      by_cases q : i = nst
      · rw [if_pos q, q, upd_s]
      · rw [upd_o q, if_neg q]; exact (h1 i (by omega)).2.2.1
    · rw [hsc]
      by_cases q : i = nst
      · rw [if_pos q]; exact hc
      · rw [if_neg q]; exact (h1 i (by omega)).2.2.2.1
    · rw [hsd]
      by_cases q : i = nst
      · rw [if_pos q]; exact hD.1
      · rw [if_neg q]; exact (h1 i (by omega)).2.2.2.2.1
    · rw [hsd]
      by_cases q : i = nst
      · rw [if_pos q]; exact hD.2
      · rw [if_neg q]; exact (h1 i (by omega)).2.2.2.2.2
    · rw [hp0]; exact cdI_inc hs hno
    · rw [List.perm_iff_count]
      intro a
      have e1 := cdI_count (cd := cd) (p := p) (T := T) (a := a) (nst - p)
      rw [show p + (nst - p) = nst by omega] at e1
      have e2 : (List.range nst).map (fun k => sd1 k * 60 + sc1 k) = (List.range nst).map fun k => sd k * 60 + sc k := by
        apply List.map_congr_left
        intro j hj
        rw [List.mem_range] at hj
        rw [hsd, hsc, if_neg (by omega), if_neg (by omega)]
      rw [e1, count_map, e2, hsd, hsc, if_pos rfl, if_pos rfl, ← hT, hp.count_eq]
theorem op_station (x y : Int32) : OpR eLAY (M_X8_station (some 1) x y) (M_X9_station (some 22) x y) := by
  intro B h K m I
  have F := I.F
  have I0 := I
  obtain ⟨nb, nr, ns, np, nsm, nst, d, R, L⟩ := I
  have hd9 := R.2.2.1.2.2.2.2.2.1
  have hd1 : d ≤ 1000 := R.2.2.1.2.2.2.2.2.2.2.1
  have CS := R.2.2.2.2.2.2.1
  obtain ⟨⟨s1, s2, s3⟩, -, cd, sd, sc, s4, s5, s6⟩ := CS
  rcases cell_or y with hy | ⟨c, hc, rfl⟩
  · refine OpR_t I0 1 1 (by decide) rfl ?_ (fun h' F' => ?_)
    · unfold M_X8_station
      rw [s_needCell_f hy, x_thr]
    · unfold M_X9_station
      rw [s_mCell_f hy, x_rtI, if_neg (fun z => z rfl), s_sta33n F' (by decide) (by decide)]
  · by_cases hx : nI (d + 1) ≤ x ∧ x ≤ (1000 : Int32)
    · obtain ⟨D, hD1, hD2, rfl⟩ := rng1 (x := x) (a := d + 1) (n := 1000) (by decide) (by omega) hx.1 hx.2
      have hcd : ∀ i, i < nst → K 17 i = nI (cd i) ∧ cd i < 100000 := by
        intro i hi
        refine ⟨(s4 i hi).1, ?_⟩
        have hm : cd i ∈ (List.range nst).map fun k => sd k * 60 + sc k := s6.mem_iff.mp (List.mem_map.mpr ⟨i, List.mem_range.mpr hi, rfl⟩)
        obtain ⟨k, hk1, e2⟩ := List.mem_map.mp hm
        have q := s4 k (List.mem_range.mp hk1)
        omega
      have hin : anB (fun i => cd i = D * 60 + c) nst = true ↔ lsp (fun k => thM m 0 36 k = nI D ∧ thM m 0 37 k = nI c) nst ≠ none := by
        rw [anB_iff, thM_o (show (36 : Nat) ≠ 22 by decide), thM_o (show (37 : Nat) ≠ 22 by decide)]
        constructor
        · rintro ⟨i, hi, e⟩ z
          have hm : cd i ∈ (List.range nst).map fun k => sd k * 60 + sc k := s6.mem_iff.mp (List.mem_map.mpr ⟨i, List.mem_range.mpr hi, rfl⟩)
          obtain ⟨k, hk1, e2⟩ := List.mem_map.mp hm
          have hk2 := List.mem_range.mp hk1
          have q := s4 k hk2
          have q3 := q.2.2.2.1
          refine lsp_none z k hk2 ⟨?_, ?_⟩
          · rw [q.2.1]; congr 1; omega
          · rw [q.2.2.1]; congr 1; omega
        · intro z
          obtain ⟨k, hk1⟩ := Option.ne_none_iff_exists'.mp z
          obtain ⟨hk2, e1, e2⟩ := lsp_some hk1
          have q := s4 k hk2
          have q3 := q.2.2.2.1
          have q4 := q.2.2.2.2.2
          rw [q.2.1, nI_inj (by omega) (by omega)] at e1
          rw [q.2.2.1, nI_inj (by omega) (by omega)] at e2
          have hm : sd k * 60 + sc k ∈ (List.range nst).map cd := s6.mem_iff.mpr (List.mem_map.mpr ⟨k, List.mem_range.mpr hk2, rfl⟩)
          obtain ⟨i, hi, e3⟩ := List.mem_map.mp hm
          exact ⟨i, List.mem_range.mp hi, by rw [e3, e1, e2]⟩
      have hMo : ∀ h' K', Fix h' → M_X9_station (some 22) (nI D) (nI c) (st h' K' m) = if m 23 c ≠ 0 then rtI 0 (st h' K' (thM m 3)) else if anB (fun i => cd i = D * 60 + c) nst = true then rtI 0 (st h' K' (thM m 3)) else if nst < 30 then B_X9_station_80 (some 22) (nI D) (nI c) (some 22) 0 (st h' K' (thM m 0)) else rtI 0 (st h' K' (thM m 3)) := by
        intro h' K' F'
        have e72 : B_X9_station_72 (some 22) (nI D) (nI c) (some 22) (st h' K' (thM m 0)) = rtI 0 (st h' K' (thM m 3)) := by
          unfold B_X9_station_72
          rw [s_sta80n F' (by decide)]
          unfold thM
          rw [upw_w, upw_s, upd_upd]
        unfold M_X9_station
        rw [s_mCell_t hc, x_rtI, if_pos (by decide), g22 F', hd9.2, x_bnd, nIs, s_in, x_rtI, bI_t hx, if_pos (by decide)]
        unfold B_X9_station_33
        rw [p22 F', thM_eq, g22 F', thM_0, if_neg (fun z => z rfl), r22_3 F', d23 F' hc, thM_o (show (23 : Nat) ≠ 22 by decide)]
        by_cases q1 : m 23 c = 0
        · rw [if_neg (fun z => z q1), if_neg (fun z => z q1), c22 F', s_mStationOf F' (by rw [thM_22 (by decide)]; exact s2) (by omega), x_rtI]
          by_cases q2 : anB (fun i => cd i = D * 60 + c) nst = true
          · rw [if_pos q2]
            obtain ⟨k, hk1⟩ := Option.ne_none_iff_exists'.mp (hin.mp q2)
            have hk2 := (lsp_some hk1).1
            rw [hk1, oI_s, if_pos (show nI k ≠ -1 by intro z; rw [nI_nm1 (by omega)] at z; exact z), e72]
          · rw [if_neg q2]
            have hl : lsp (fun k => thM m 0 36 k = nI D ∧ thM m 0 37 k = nI c) nst = none := by
              cases e : lsp (fun k => thM m 0 36 k = nI D ∧ thM m 0 37 k = nI c) nst with
              | none => rfl
              | some k => exact absurd (hin.mpr (by rw [e]; exact fun z => by cases z)) q2
            rw [hl, oI_n, if_neg (fun z => z rfl), g22 F', thM_22 (by decide), s2]
            by_cases q3 : nst < 30
            · rw [if_pos q3, if_pos (show nI nst ≠ (30 : Int32) from fun z => by have := (nI_eq (by omega) (by omega)).mp (show nI nst = nI 30 from z); omega)]
              unfold B_X9_station_76
              rw [g22 F', thM_0]
            · rw [if_neg q3, show nst = 30 by omega, if_neg (show ¬ nI 30 ≠ (30 : Int32) from fun z => z rfl), e72]
        · rw [if_pos q1, if_pos q1, e72]
      have hCl : M_X8_station (some 1) (nI D) (nI c) (st h K m) = if m 23 c ≠ 0 then some (.inr 3, exc (st h K m)) else if anB (fun i => cd i = D * 60 + c) nst = true then some (.inr 3, exc (st h K m)) else if nst < 30 then (calI (M_X7_tellStation (some 16) (nI D) (nI c) (st h K m)) fun z15 h16 => rtI z15 h16) else some (.inr 3, exc (st h K m)) := by
        unfold M_X8_station
        rw [s_needCell_t hc, x_rtV, g1 F, hd9.1, x_bnd, nIs, s_needRange_t hx, x_rtV, r1_0 F, c2 F, s_isLand F hc, x_rtI, R.2.1.1.1]
        by_cases q1 : m 23 c = 0
        · rw [bI_f (fun z => z q1), if_neg (show ¬ (0 : Int32) ≠ 0 from fun z => z rfl), if_neg (fun z => z q1), r1_3 F, c16 F, s_hasStation F s1 s3 hcd hD2 hc, x_rtI]
          cases q2 : anB (fun i => cd i = D * 60 + c) nst with
          | true => rw [zI_t, if_pos (show (1 : Int32) ≠ 0 by decide), if_pos rfl]
          | false =>
            rw [zI_f, if_neg (show ¬ (0 : Int32) ≠ 0 from fun z => z rfl), if_neg (show ¬ false = true by decide), r1_3 F, c16 F, s_allTold F s1 s3, x_rtI]
            by_cases q3 : nst < 30
            · rw [if_pos q3, if_pos rfl, if_pos q3, r1_3 F, c16 F]
            · rw [if_neg q3, if_neg (show ¬ (1 : Int32) = 0 by decide), if_neg q3]
        · rw [bI_t q1, if_pos (show (1 : Int32) ≠ 0 by decide), if_pos q1]
      have thr : (m 23 c = 0 → ¬ anB (fun i => cd i = D * 60 + c) nst = true → ¬ nst < 30) → ∃ (t v b : Int32) (h1 : MH) (K1 m1 : Nat → Nat → Int32), ((t = 0 ∧ b = v ∧ M_X8_station (some 1) (nI D) (nI c) (st h K m) = rtI v (st h1 K1 m)) ∨ (t ≠ 0 ∧ ∃ x, eLAY x = some t ∧ M_X8_station (some 1) (nI D) (nI c) (st h K m) = some (.inr x, st h1 K1 m))) ∧ (∀ h', Fix h' → M_X9_station (some 22) (nI D) (nI c) (st h' K1 m) = rtI b (st h' K1 m1)) ∧ m1 22 0 = t ∧ Inv (B + 1) h1 K1 m1 := by
        intro hno
        refine OpR_t I0 3 3 (by decide) rfl ?_ (fun h' F' => ?_)
        · rw [hCl]
          by_cases q1 : m 23 c = 0
          · rw [if_neg (fun z => z q1)]
            by_cases q2 : anB (fun i => cd i = D * 60 + c) nst = true
            · rw [if_pos q2]
            · rw [if_neg q2, if_neg (hno q1 q2)]
          · rw [if_pos q1]
        · rw [hMo h' K F']
          by_cases q1 : m 23 c = 0
          · rw [if_neg (fun z => z q1)]
            by_cases q2 : anB (fun i => cd i = D * 60 + c) nst = true
            · rw [if_pos q2]
            · rw [if_neg q2, if_neg (hno q1 q2)]
          · rw [if_pos q1]
      by_cases q1 : m 23 c = 0
      · by_cases q2 : anB (fun i => cd i = D * 60 + c) nst = true
        · exact thr (fun _ z => absurd q2 z)
        · by_cases q3 : nst < 30
          · have hno : ∀ i, i < nst → cd i ≠ D * 60 + c := fun i hi e => q2 (anB_iff.mpr ⟨i, hi, e⟩)
            have R1 := stood R q3 ⟨by omega, hD2⟩ hc s4 s5 s6 hno
            refine ⟨0, nI (nst + 1), nI (nst + 1), h, _, _, Or.inl ⟨rfl, rfl, ?_⟩, fun h' F' => ?_, ?_, nb, nr, ns, np, nsm, nst + 1, d, R1.up, fun k hk1 h1 => ?_⟩
            · rw [hCl, if_neg (fun z => z q1), if_neg q2, if_pos q3]
              have hle := fcn_le (cd := cd) (T := D * 60 + c) (n := nst)
              have ht := s_tell (mm := m) (T := D * 60 + c) F s1 q3 hcd s5 (by omega) hno (nst - fcn cd (D * 60 + c) nst) fuel (by omega) (by have : fuel = 1000 := rfl; omega)
              rw [show fcn cd (D * 60 + c) nst + (nst - fcn cd (D * 60 + c) nst) = nst by omega, shf_0, upw_id] at ht
              unfold M_X7_tellStation
              rw [c16 F, s_allTold F s1 s3, x_rtI, if_pos q3, if_pos rfl, s_code, x_rtI, g16 F, s1, ht, x_rtI]
            · rw [hMo h' _ F', if_neg (fun z => z q1), if_neg q2, if_pos q3, s_sta80y F' q3 s2]
            · unfold staM
              rw [upw_s, upd_o (by decide), thM_0]
            · have e1 : staM m nst D c 33 = m 33 := by unfold staM; rw [upw_o (by decide), upw_o (by decide), upw_o (by decide), thM_o (by decide)]
              have e2 : staM m nst D c 32 = m 32 := by unfold staM; rw [upw_o (by decide), upw_o (by decide), upw_o (by decide), thM_o (by decide)]
              rw [e1] at h1
              rw [e2]
              exact L k hk1 h1
          · exact thr (fun _ _ => q3)
      · exact thr (fun z => absurd z q1)
    · refine OpR_t I0 2 2 (by decide) rfl ?_ (fun h' F' => ?_)
      · unfold M_X8_station
        rw [s_needCell_t hc, x_rtV, g1 F, hd9.1, x_bnd, nIs, s_needRange_f hx, x_thr]
      · unfold M_X9_station
        rw [s_mCell_t hc, x_rtI, if_pos (by decide), g22 F', hd9.2, x_bnd, nIs, s_in, x_rtI, bI_f hx, if_neg (fun z => z rfl), s_sta33n F' (by decide) (by decide)]
