/-! the stations' part changes -/
theorem Rel.sS {h : MH} {K m K1 m1 : Nat → Nat → Int32} {B nb nr ns np nsm nsm1 d : Nat} {S S1 : STy} (R : Rel h K m B nb nr ns np nsm d S) (hK : ∀ a, a ∉ [16, 17, 18, 19] → K1 a = K a) (hm : ∀ a, a ∉ [22, 36, 37, 38, 39] → m1 a = m a) (h22 : ∀ j, j ∉ [17, 20, 0] → m1 22 j = m 22 j) (hs1 : (K1 16 4 = nI nsm1 ∧ m1 22 20 = nI nsm1) ∧ nsm1 ≤ 20) (hS : Cst K1 m1 S1) : Rel h K1 m1 B nb nr ns np nsm1 d S1 := by
  obtain ⟨⟨F, hN, R13, R15, R20, R21, RS⟩, C1, C2, C3, C4, C5, C6, C7, C8, C9⟩ := R
  have kd : ∀ a, 50 < a → K1 a = K a := fun a ha => hK a (by simp; omega)
  refine ⟨⟨F, hN, R13, R15, R20, R21, RS⟩, ?_, ?_, ?_, ?_, ?_, hS, ?_, ?_, C9⟩
  · exact C1.fr (fun b hb => hK b (by simp at hb ⊢; omega)) (fun b hb => hm b (by simp at hb ⊢; omega)) (h22 2 (by decide))
  · obtain ⟨a1, a2, a3, a4, a6, a7, a8, a9, a10⟩ := C2
    unfold Cct
    rw [hK 1 (by decide), hK 14 (by decide), h22 10 (by decide), h22 30 (by decide), h22 33 (by decide), h22 23 (by decide), h22 1 (by decide), h22 29 (by decide)]
    exact ⟨a1, a2, a3, a4, hs1.1, a7, a8, a9, hs1.2⟩
  · exact C3.fr R13 (fun b _ hb => kd b hb) (fun b hb => hm b (by simp at hb ⊢; omega))
  · exact C4.fr R15 (fun b _ hb => kd b hb) (fun b hb => hm b (by simp at hb ⊢; omega))
  · exact C5.fr (hm 43 (by decide))
  · exact C7.fr R20 RS (fun b hb _ => kd b hb) ⟨hm 45 (by decide), hm 46 (by decide)⟩
  · exact C8.fr R21 (fun b _ hb => kd b hb) (fun b hb => hm b (by simp at hb ⊢; omega))
def Slp (nst : Nat) (cd : Nat → Nat) (T : Nat) : STy := fun k0 k17 k18 k19 n0 m36 m37 m38 m39 => (k0 = nI nst ∧ nst ≤ 30) ∧ (k18 = m38 ∧ k19 = m39) ∧ (∀ i, i < nst → k17 i = nI (cd i) ∧ cd i < 100000) ∧ ∃ (n' : Nat) (sd sc : Nat → Nat), n' ≤ 30 ∧ n0 = nI n' ∧ (∀ i, i < n' → m36 i = nI (sd i) ∧ m37 i = nI (sc i) ∧ sc i < 60 ∧ sd i ≤ 1000) ∧ ((List.range n').map fun k => sd k * 60 + sc k).Perm (((List.range nst).map cd).filter fun y => decide (T ≤ y))
def outM (m : Nat → Nat → Int32) (k n : Nat) : Nat → Nat → Int32 := upw (upw (upw m 22 (upd (m 22) 17 (nI n))) 36 (upd (m 36) k (m 36 n))) 37 (upd (m 37) k (m 37 n))
theorem s_ships41 {h : MH} {K m : Nat → Nat → Int32} {n k c : Nat} (F : Fix h) (rc : Option Nat → Int32 → MH → Res) (hc : m 22 17 = nI (n + 1)) (hk1 : k < n + 1) (hn1 : n < 30) : B_X9_ships_41 rc (some 22) (nI c) (nI k) (st h K m) = rc (some 22) (nI (c + 1)) (st h K (outM m k n)) := by
  have hn31 : n < 31 := by omega
  have hk31 : k < 31 := by omega
  unfold B_X9_ships_41 B_X9_ships_81
  simp only [g22 F, hc, nI_pred, p22 F, r22_18 F, r22_19 F, x_bnd, upw_at, if_true, upd_s, d36 F hn31, d37 F hn31, w36 F hk31, w37 F hk31, Nat.reduceEqDiff, if_false, nIs]
  rfl
theorem s_cellOf {h : MH} {K m : Nat → Nat → Int32} {i x : Nat} (F : Fix h) (hi : i < 30) (hx : K 17 i = nI x) (hx2 : x < 100000) : M_X7_cellOf (some 16) (nI i) (st h K m) = rtI (nI (x % 60)) (st h K m) := by
  unfold M_X7_cellOf
  rw [r16_1 F, a17 F, s_isIndex_t hi (by decide), x_rtI, if_neg (by decide), r16_1 F, d17 F hi, hx, q_rm (by decide), show nI x - nI x / 60 * 60 = nI (x % 60) from nI_mod 60 (by omega) (by decide) (by decide)]
theorem fcn_step {cd : Nat → Nat} {n T : Nat} (h : ∀ i j, i < j → j < n → cd i < cd j) : (T ∈ (List.range n).map cd → fcn cd T n < n ∧ cd (fcn cd T n) = T ∧ fcn cd (T + 1) n = fcn cd T n + 1) ∧ (T ∉ (List.range n).map cd → fcn cd (T + 1) n = fcn cd T n) := by
  have hle := fcn_le (cd := cd) (T := T) (n := n)
  constructor
  · intro hm
    obtain ⟨i, hi, e⟩ := List.mem_map.mp hm
    have hi := List.mem_range.mp hi
    have a1 : ¬ i < fcn cd T n := fun z => by have := (fcn_iff h hi).mp z; omega
    have e2 : fcn cd T n = i := by
      by_cases q : fcn cd T n < i
      · have h1 := h _ _ q hi
        have := (fcn_iff (T := T) h (i := fcn cd T n) (by omega)).mpr (by omega)
        omega
      · omega
    refine ⟨by omega, by rw [e2]; exact e, ?_⟩
    rw [e2]
    refine fcn_eq h (by omega) (fun j hj => ?_) (fun hj => ?_)
    · by_cases q : j = i
      · rw [q]; omega
      · have := h j i (by omega) hi; omega
    · have := h i (i + 1) (by omega) hj; omega
  · intro hm
    refine fcn_eq h hle (fun j hj => ?_) (fun hj => ?_)
    · have := (fcn_iff h (by omega)).mp hj; omega
    · have h1 : ¬ cd (fcn cd T n) < T := fun z => by have := (fcn_iff h hj).mpr z; omega
      have h2 : cd (fcn cd T n) ≠ T := fun z => hm (by rw [← z]; exact List.mem_map.mpr ⟨_, List.mem_range.mpr hj, rfl⟩)
      omega
theorem ships_ok {B nb ns np nsm d nst : Nat} {cd : Nat → Nat} {calm : Bool} (hcd : ∀ i j, i < j → j < nst → cd i < cd j) (hd : ∀ i, i < nst → 60 * d ≤ cd i) (hd1 : d ≤ 1000) : ∀ k c h K m nr, c + k = 60 → Rel h K m B nb nr ns np nsm d (Slp nst cd (60 * d + c)) → stB (m 38) (m 39) (nI d) nsm = !calm → ∃ h2 K2 m2 nr2, (calm = true → ∀ mm n, 30 - fcn cd (60 * d + c) nst < n → L_X8_readAtStations_34 n (some 1) 1 (nI (fcn cd (60 * d + 60) nst)) (nI (fcn cd (60 * d + c) nst)) (st h K mm) = B_X8_readAtStations_82 (some 1) (nI (fcn cd (60 * d + 60) nst)) (st h2 K2 mm)) ∧ (calm = false → h2 = h ∧ K2 = K) ∧ (∀ h' K' n, Fix h' → 60 - c < n → L_X9_ships_2 n (some 22) (nI c) (st h' K' m) = rtV (st h' K' m2)) ∧ Rel h2 K2 m2 B nb nr2 ns np nsm d (Slp nst cd (60 * d + 60)) ∧ m2 32 = m 32 ∧ m2 33 = m 33 ∧ m2 22 0 = m 22 0 := by
  intro k
  induction k with
  | zero =>
    intro c h K m nr hck R hst
    have : c = 60 := by omega
    subst this
    have F := R.1.1
    refine ⟨h, K, m, nr, fun _ mm n hn1 => ?_, fun _ => ⟨rfl, rfl⟩, fun h' K' n F' hn1 => ?_, R, rfl, rfl, rfl⟩
    · obtain ⟨n, rfl⟩ : ∃ q, n = q + 1 := ⟨n - 1, by omega⟩
      show B_X8_readAtStations_34 (L_X8_readAtStations_34 n) (some 1) 1 _ _ (st h K mm) = _
      unfold B_X8_readAtStations_34
      rw [if_pos (by rw [i_le]; omega)]
    · obtain ⟨n, rfl⟩ : ∃ q, n = q + 1 := ⟨n - 1, by omega⟩
      show B_X9_ships_2 (L_X9_ships_2 n) (some 22) (nI 60) (st h' K' m) = _
      unfold B_X9_ships_2
      rw [if_pos (show (60 : Int32) ≤ nI 60 from nI_le (a := 60) (Nat.le_refl _) (by decide))]
  | succ k ih =>
    intro c h K m nr hck R hst
    have F := R.1.1
    have hc60 : c < 60 := by omega
    obtain ⟨⟨k0, hn30⟩, ⟨k18, k19⟩, hk17, n', sd, sc, hn', hn0, hrow, hperm⟩ := R.2.2.2.2.2.2.1
    have hm1 : m 22 1 = nI d := R.2.2.1.2.2.2.2.2.1.2
    have hk9 : K 1 9 = nI d := R.2.2.1.2.2.2.2.2.1.1
    have hsm : m 22 20 = nI nsm := R.2.2.1.2.2.2.2.1.2
    have hsmK : K 16 4 = nI nsm := R.2.2.1.2.2.2.2.1.1
    have hsm20 : nsm ≤ 20 := R.2.2.1.2.2.2.2.2.2.2.2
    have hmono : fcn cd (60 * d + c + 1) nst ≤ fcn cd (60 * d + 60) nst := by
      by_cases q : fcn cd (60 * d + 60) nst < fcn cd (60 * d + c + 1) nst
      · have hle := fcn_le (cd := cd) (T := 60 * d + c + 1) (n := nst)
        have h1 := (fcn_iff hcd (i := fcn cd (60 * d + 60) nst) (T := 60 * d + c + 1) (by omega)).mp q
        have h2 := (fcn_iff hcd (i := fcn cd (60 * d + 60) nst) (T := 60 * d + 60) (by omega)).mpr (by omega)
        omega
      · omega
    have hmem : ∀ x, x ∈ (List.range n').map (fun k => sd k * 60 + sc k) ↔ x ∈ (List.range nst).map cd ∧ 60 * d + c ≤ x := by
      intro x
      rw [hperm.mem_iff, List.mem_filter, decide_eq_true_iff]
    cases hls : lsp (fun k => m 36 k = nI d ∧ m 37 k = nI c) n' with
    | none =>
      have hno : 60 * d + c ∉ (List.range nst).map cd := by
        intro z
        obtain ⟨j, hj, e⟩ := List.mem_map.mp ((hmem (60 * d + c)).mpr ⟨z, Nat.le_refl _⟩)
        have hj := List.mem_range.mp hj
        obtain ⟨e1, e2, e3, e4⟩ := hrow j hj
        have e5 : sd j = d ∧ sc j = c := by omega
        exact lsp_none hls j hj ⟨by rw [e1, e5.1], by rw [e2, e5.2]⟩
      have hS : Cst K m (Slp nst cd (60 * d + (c + 1))) := by
        refine ⟨⟨k0, hn30⟩, ⟨k18, k19⟩, hk17, n', sd, sc, hn', hn0, hrow, ?_⟩
        rw [← Nat.add_assoc, ← filter_no hno]; exact hperm
      have R1 := R.sS (K1 := K) (m1 := m) (nsm1 := nsm) (fun _ _ => rfl) (fun _ _ => rfl) (fun _ _ => rfl) ⟨⟨hsmK, hsm⟩, hsm20⟩ hS
      obtain ⟨h2, K2, m2, nr2, w1, w2, w3, w4, w5⟩ := ih (c + 1) h K m nr (by omega) R1 hst
      have hf := (fcn_step (T := 60 * d + c) hcd).2 hno
      refine ⟨h2, K2, m2, nr2, fun hcm mm n hn1 => ?_, w2, fun h' K' n F' hn1 => ?_, w4, w5⟩
      · have := w1 hcm mm n (by rw [← Nat.add_assoc, hf]; exact hn1)
        rw [← Nat.add_assoc, hf] at this
        exact this
      · obtain ⟨n, rfl⟩ : ∃ q, n = q + 1 := ⟨n - 1, by omega⟩
        show B_X9_ships_2 (L_X9_ships_2 n) (some 22) (nI c) (st h' K' m) = _
        unfold B_X9_ships_2
        rw [if_neg (show ¬ (60 : Int32) ≤ nI c from nI_ge (b := 60) hc60 (by decide)), g22 F', c22 F', hm1, s_mStationOf F' hn0 (by omega), x_rtI, hls, oI_n, if_pos rfl]
        unfold B_X9_ships_81
        rw [x_bnd, nIs]
        exact w3 h' K' n F' (by omega)
    | some j =>
      obtain ⟨hj, hj1, hj2⟩ := lsp_some hls
      obtain ⟨e1, e2, e3, e4⟩ := hrow j hj
      have ed : sd j = d := by rw [e1, nI_inj (by omega) (by omega)] at hj1; exact hj1
      have ec : sc j = c := by rw [e2, nI_inj (by omega) (by omega)] at hj2; exact hj2
      have hyes : 60 * d + c ∈ (List.range nst).map cd := ((hmem (60 * d + c)).mp (List.mem_map.mpr ⟨j, List.mem_range.mpr hj, by rw [ed, ec]; omega⟩)).1
      obtain ⟨f1, f2, f3⟩ := (fcn_step (T := 60 * d + c) hcd).1 hyes
      obtain ⟨n1, rfl⟩ : ∃ q, n' = q + 1 := ⟨n' - 1, by omega⟩
      -- the station is out
      have out : ∀ (hA : MH) (KA mA : Nat → Nat → Int32) (nrA : Nat), Rel hA KA mA B nb nrA ns np nsm d (Slp nst cd (60 * d + c)) → KA 16 = K 16 → KA 17 = K 17 → KA 18 = K 18 → KA 19 = K 19 → mA 36 = m 36 → mA 37 = m 37 → mA 38 = m 38 → mA 39 = m 39 → mA 22 17 = m 22 17 → Rel hA KA (outM mA j n1) B nb nrA ns np nsm d (Slp nst cd (60 * d + (c + 1))) := by
        intro hA KA mA nrA RA a16 a17 a18 a19 b36 b37 b38 b39 b17
        have o22 : outM mA j n1 22 = upd (mA 22) 17 (nI n1) := by unfold outM; rw [upw_o (by decide), upw_o (by decide), upw_s]
        have o36 : outM mA j n1 36 = upd (m 36) j (m 36 n1) := by unfold outM; rw [upw_o (by decide), upw_s, b36]
        have o37 : outM mA j n1 37 = upd (m 37) j (m 37 n1) := by unfold outM; rw [upw_s, b37]
        have oO : ∀ a, a ≠ 22 → a ≠ 36 → a ≠ 37 → outM mA j n1 a = mA a := fun a h1 h2 h3 => by unfold outM; rw [upw_o h3, upw_o h2, upw_o h1]
        refine RA.sS (K1 := KA) (m1 := outM mA j n1) (nsm1 := nsm) (fun _ _ => rfl) (fun a ha => oO a (by simp at ha; omega) (by simp at ha; omega) (by simp at ha; omega)) (fun q hq => by rw [o22, upd_o (by simp at hq; omega)]) ⟨⟨RA.2.2.1.2.2.2.2.1.1, by rw [o22, upd_o (by decide)]; exact RA.2.2.1.2.2.2.2.1.2⟩, hsm20⟩ ?_
        unfold Cst
        rw [a16, a17, a18, a19, o22, upd_s, o36, o37, oO 38 (by decide) (by decide) (by decide), oO 39 (by decide) (by decide) (by decide), b38, b39]
        refine ⟨⟨k0, hn30⟩, ⟨k18, k19⟩, hk17, n1, fun q => if q = j then sd n1 else sd q, fun q => if q = j then sc n1 else sc q, by omega, rfl, fun i hi => ?_, ?_⟩
        · by_cases q : i = j
          · subst q
            rw [upd_s, upd_s]; simp only [if_true]; exact hrow n1 (by omega)
          · rw [upd_o q, upd_o q]; simp only [q, if_false]; exact hrow i (by omega)
        · have p1 := (perm_out (f := fun k => sd k * 60 + sc k) (n := n1) (k := j) hj).symm.trans hperm
          have p2 := p1.trans (filter_yes (nodup_inc hcd) hyes)
          have e6 : sd j * 60 + sc j = 60 * d + c := by omega
          simp only [e6] at p2
          have p3 := p2.cons_inv
          have e7 : (fun k => (if k = j then sd n1 else sd k) * 60 + (if k = j then sc n1 else sc k)) = fun q => if q = j then sd n1 * 60 + sc n1 else sd q * 60 + sc q := by
            funext q; split <;> rfl
          rw [e7, ← Nat.add_assoc]
          exact p3
      cases calm with
      | false =>
        have R1 := out h K m nr R rfl rfl rfl rfl rfl rfl rfl rfl rfl
        have oO : ∀ a, a ≠ 22 → a ≠ 36 → a ≠ 37 → outM m j n1 a = m a := fun a h1 h2 h3 => by unfold outM; rw [upw_o h3, upw_o h2, upw_o h1]
        obtain ⟨h2, K2, m2, nr2, w1, w2, w3, w4, w5, w6, w7⟩ := ih (c + 1) h K (outM m j n1) nr (by omega) R1 (by rw [oO 38 (by decide) (by decide) (by decide), oO 39 (by decide) (by decide) (by decide)]; exact hst)
        refine ⟨h2, K2, m2, nr2, (fun z => absurd z (by decide)), w2, fun h' K' n F' hn1 => ?_, w4, by rw [w5, oO 32 (by decide) (by decide) (by decide)], by rw [w6, oO 33 (by decide) (by decide) (by decide)], by rw [w7]; unfold outM; rw [upw_o (by decide), upw_o (by decide), upw_s, upd_o (by decide)]⟩
        obtain ⟨n, rfl⟩ : ∃ q, n = q + 1 := ⟨n - 1, by omega⟩
        show B_X9_ships_2 (L_X9_ships_2 n) (some 22) (nI c) (st h' K' m) = _
        unfold B_X9_ships_2
        rw [if_neg (show ¬ (60 : Int32) ≤ nI c from nI_ge (b := 60) hc60 (by decide)), g22 F', c22 F', hm1, s_mStationOf F' hn0 (by omega), x_rtI, hls, oI_s, if_neg (by rw [nI_nm1 (by omega)]; exact id), g22 F', c22 F', hm1, s_isStorm F' hsm hsm20, x_rtI, hst, if_pos (show (!false) = true from rfl), if_pos (show (1 : Int32) ≠ 0 by decide), s_ships41 F' _ hn0 hj (by omega)]
        exact w3 h' K' n F' (by omega)
      | true =>
        obtain ⟨h1, K1, m1, nr1, v1, v2, v3, v4, v5, v6, v7⟩ := keep_ok (w := none) (c := c) (v := m 26 c) (more := 0) R hc60 (fun f z => by cases z) (Int32.add_zero _).symm
        simp only [Option.map_none] at v1
        have R1 := out h1 K1 m1 nr1 v3 (v7 16 (by decide) (by decide)) (v7 17 (by decide) (by decide)) (v7 18 (by decide) (by decide)) (v7 19 (by decide) (by decide)) (v5 36 (by decide)) (v5 37 (by decide)) (v5 38 (by decide)) (v5 39 (by decide)) (v6 17 (by decide))
        have oO : ∀ a, a ≠ 22 → a ≠ 36 → a ≠ 37 → outM m1 j n1 a = m1 a := fun a h1 h2 h3 => by unfold outM; rw [upw_o h3, upw_o h2, upw_o h1]
        obtain ⟨h2, K2, m2, nr2, w1, w2, w3, w4, w5, w6, w7⟩ := ih (c + 1) h1 K1 (outM m1 j n1) nr1 (by omega) R1 (by rw [oO 38 (by decide) (by decide) (by decide), oO 39 (by decide) (by decide) (by decide), v5 38 (by decide), v5 39 (by decide)]; exact hst)
        refine ⟨h2, K2, m2, nr2, fun _ mm n hn1 => ?_, (fun z => absurd z (by decide)), fun h' K' n F' hn1 => ?_, w4, by rw [w5, oO 32 (by decide) (by decide) (by decide), v5 32 (by decide)], by rw [w6, oO 33 (by decide) (by decide) (by decide), v5 33 (by decide)], by rw [w7]; unfold outM; rw [upw_o (by decide), upw_o (by decide), upw_s, upd_o (by decide), v6 0 (by decide)]⟩
        · obtain ⟨n, rfl⟩ : ∃ q, n = q + 1 := ⟨n - 1, by omega⟩
          have := w1 rfl mm n (by rw [← Nat.add_assoc, f3]; omega)
          rw [← Nat.add_assoc, f3] at this
          have hdle := fcn_le (cd := cd) (T := 60 * d + 60) (n := nst)
          have hK17 := hk17 _ f1
          rw [f2] at hK17
          have h4 := (R.2.1.2.1 c hc60).1
          show B_X8_readAtStations_34 (L_X8_readAtStations_34 n) (some 1) 1 _ _ (st h K mm) = _
          unfold B_X8_readAtStations_34
          rw [if_neg (nI_ge (by omega) (by omega)), if_neg (by decide), r1_3 F, c16 F, s_cellOf F (by omega) hK17.1 hK17.2, x_rtI, show (60 * d + c) % 60 = c by omega, r1_2 F, g1 F, r1_0 F, c2 F, s_upperHeat F hc60, x_rtI, c14 F, hk9, h4, v1 mm, x_rtV, x_bnd, nIs]
          exact this
        · obtain ⟨n, rfl⟩ : ∃ q, n = q + 1 := ⟨n - 1, by omega⟩
          show B_X9_ships_2 (L_X9_ships_2 n) (some 22) (nI c) (st h' K' m) = _
          unfold B_X9_ships_2
          have hn1' : m1 22 17 = nI (n1 + 1) := by rw [v6 17 (by decide)]; exact hn0
          have v2' := v2 h' K' F'
          rw [oI_n] at v2'
          rw [if_neg (show ¬ (60 : Int32) ≤ nI c from nI_ge (b := 60) hc60 (by decide)), g22 F', c22 F', hm1, s_mStationOf F' hn0 (by omega), x_rtI, hls, oI_s, if_neg (by rw [nI_nm1 (by omega)]; exact id), g22 F', c22 F', hm1, s_isStorm F' hsm hsm20, x_rtI, hst, if_neg (show ¬ ((!true) = true) by decide), if_neg (show ¬ ((0 : Int32) ≠ 0) by decide), c22 F', v2', x_rtV, s_ships41 F' _ hn1' hj (by omega)]
          exact w3 h' K' n F' (by omega)
