/-! the ships' day, both sides -/
def SlpN (nst : Nat) (cd : Nat → Nat) (T n' : Nat) : STy := fun k0 k17 k18 k19 n0 m36 m37 m38 m39 => (k0 = nI nst ∧ nst ≤ 30) ∧ (k18 = m38 ∧ k19 = m39) ∧ (∀ i, i < nst → k17 i = nI (cd i) ∧ cd i < 100000) ∧ ∃ (sd sc : Nat → Nat), n' ≤ 30 ∧ n0 = nI n' ∧ (∀ i, i < n' → m36 i = nI (sd i) ∧ m37 i = nI (sc i) ∧ sc i < 60 ∧ sd i ≤ 1000) ∧ ((List.range n').map fun k => sd k * 60 + sc k).Perm (((List.range nst).map cd).filter fun y => decide (T ≤ y))
/-- the ghost without the stations of a cell -/
def outG (g : Nat → Nat → Int32) (n : Nat) (f' : Nat → Nat) : Nat → Nat → Int32 := upw (upw (upw g 22 (upd (g 22) 17 (nI n))) 36 (fun i => nI (f' i / 64))) 37 (fun i => nI (f' i % 64))
theorem outG_o {g : Nat → Nat → Int32} {n a : Nat} {f' : Nat → Nat} (h : a ∉ [22, 36, 37]) : outG g n f' a = g a := by
  simp only [List.mem_cons, List.not_mem_nil, or_false, not_or] at h
  unfold outG
  rw [upw_o h.2.2, upw_o h.2.1, upw_o h.1]
theorem outG_22 {g : Nat → Nat → Int32} {n j : Nat} {f' : Nat → Nat} (h : j ≠ 17) : outG g n f' 22 j = g 22 j := by
  unfold outG
  rw [upw_o (by decide), upw_o (by decide), upw_s, upd_o h]
/-- a cell's stations are out, on both sides -/
theorem cell_out {h : MH} {K g M : Nat → Nat → Int32} {B nb nr ns np nsm d nst c n' : Nat} {cd : Nat → Nat} (hd1 : d ≤ 1000) (hc : c < 60) (R : Rel h K g B nb nr ns np nsm d (SlpN nst cd (60 * d + c) n')) (A : Abs g M nb nr ns nsm n' d) : ∃ f' : Nat → Nat, Rel h K (outG g (kN (M 28) (nI (64 * d + c)) n') f') B nb nr ns np nsm d (SlpN nst cd (60 * d + (c + 1)) (kN (M 28) (nI (64 * d + c)) n')) ∧ Abs (outG g (kN (M 28) (nI (64 * d + c)) n') f') (stM M (nI (64 * d + c)) n') nb nr ns nsm (kN (M 28) (nI (64 * d + c)) n') d ∧ (kB (M 28) (nI (64 * d + c)) n' = true ↔ 60 * d + c ∈ (List.range nst).map cd) := by
  obtain ⟨⟨k0, hn30⟩, ⟨k18, k19⟩, hk17, sd, sc, hn', hn0, hrow, hperm⟩ := R.2.2.2.2.2.2.1
  obtain ⟨A1, A2, A3, A4, A5, A6, A7, A8⟩ := A
  have hle := kN_le (T := M 28) (X := nI (64 * d + c)) (k := n')
  have hT : ∀ k, k < n' → M 28 k = nI (64 * sd k + sc k) ∧ 64 * sd k + sc k < 100000 := by
    intro k hk1
    obtain ⟨D, c1, h1, h2, h3, h4, h5⟩ := A7.1 k hk1
    obtain ⟨r1, r2, r3, r4⟩ := hrow k hk1
    have e1 : D = sd k := by rw [r1] at h3; exact ((nI_eq (by omega) (by omega)).mp h3).symm
    have e2 : c1 = sc k := by rw [r2] at h4; exact ((nI_eq (by omega) (by omega)).mp h4).symm
    rw [h5, e1, e2]
    exact ⟨rfl, by omega⟩
  obtain ⟨f', p1, p2⟩ := k_list (T := M 28) (x := 64 * d + c) (f := fun k => 64 * sd k + sc k) (by omega) n' hT
  -- what is left
  have hf : ∀ j, j < kN (M 28) (nI (64 * d + c)) n' → ∃ k, k < n' ∧ f' j = 64 * sd k + sc k := by
    intro j hj
    have hm : f' j ∈ (List.range (kN (M 28) (nI (64 * d + c)) n')).map f' := List.mem_map.mpr ⟨j, List.mem_range.mpr hj, rfl⟩
    rw [p2, List.mem_filter] at hm
    obtain ⟨k, hk1, e⟩ := List.mem_map.mp hm.1
    exact ⟨k, List.mem_range.mp hk1, e.symm⟩
  have hf2 : ∀ j, j < kN (M 28) (nI (64 * d + c)) n' → f' j % 64 < 60 ∧ f' j / 64 ≤ 1000 := by
    intro j hj
    obtain ⟨k, hk1, e⟩ := hf j hj
    obtain ⟨-, -, r3, r4⟩ := hrow k hk1
    omega
  have hB : kB (M 28) (nI (64 * d + c)) n' = true ↔ 60 * d + c ∈ (List.range nst).map cd := by
    rw [kB_iff]
    have hmem : 60 * d + c ∈ ((List.range nst).map cd).filter (fun y => decide (60 * d + c ≤ y)) ↔ 60 * d + c ∈ (List.range nst).map cd := by
      rw [List.mem_filter]
      exact ⟨fun z => z.1, fun z => ⟨z, by simp⟩⟩
    rw [← hmem, ← hperm.mem_iff]
    constructor
    · rintro ⟨j, hj, e⟩
      obtain ⟨-, -, r3, r4⟩ := hrow j hj
      rw [(hT j hj).1, nI_inj (by have := (hT j hj).2; omega) (by omega)] at e
      exact List.mem_map.mpr ⟨j, List.mem_range.mpr hj, by omega⟩
    · intro z
      obtain ⟨j, hj, e⟩ := List.mem_map.mp z
      have hj := List.mem_range.mp hj
      obtain ⟨-, -, r3, r4⟩ := hrow j hj
      exact ⟨j, hj, by rw [(hT j hj).1]; congr 1; omega⟩
  have hP : ((List.range (kN (M 28) (nI (64 * d + c)) n')).map fun k => f' k / 64 * 60 + f' k % 64).Perm (((List.range nst).map cd).filter fun y => decide (60 * d + (c + 1) ≤ y)) := by
    have e1 : ((List.range (kN (M 28) (nI (64 * d + c)) n')).map fun k => f' k / 64 * 60 + f' k % 64) = ((List.range (kN (M 28) (nI (64 * d + c)) n')).map f').map fun y => y / 64 * 60 + y % 64 := by
      rw [List.map_map]; rfl
    have e2 : (((List.range n').map fun k => 64 * sd k + sc k).filter fun y => decide (y ≠ 64 * d + c)).map (fun y => y / 64 * 60 + y % 64) = ((List.range n').map fun k => sd k * 60 + sc k).filter fun y => decide (y ≠ 60 * d + c) := by
      have e3 : ((List.range n').map fun k => sd k * 60 + sc k) = ((List.range n').map fun k => 64 * sd k + sc k).map fun y => y / 64 * 60 + y % 64 := by
        rw [List.map_map]
        apply List.map_congr_left
        intro k hk1
        obtain ⟨-, -, r3, r4⟩ := hrow k (List.mem_range.mp hk1)
        show sd k * 60 + sc k = (64 * sd k + sc k) / 64 * 60 + (64 * sd k + sc k) % 64
        omega
      rw [e3]
      refine Eq.trans ?_ (List.filter_map ..).symm
      congr 1
      apply List.filter_congr
      intro y hy
      obtain ⟨k, hk1, e⟩ := List.mem_map.mp hy
      obtain ⟨-, -, r3, r4⟩ := hrow k (List.mem_range.mp hk1)
      show decide (y ≠ 64 * d + c) = decide (y / 64 * 60 + y % 64 ≠ 60 * d + c)
      rw [decide_eq_decide]
      omega
    rw [e1, p2, e2]
    refine (hperm.filter _).trans (List.Perm.of_eq ?_)
    rw [List.filter_filter]
    apply List.filter_congr
    intro y _
    rw [Bool.eq_iff_iff, Bool.and_eq_true, decide_eq_true_iff, decide_eq_true_iff, decide_eq_true_iff]
    omega
  have g17 : outG g (kN (M 28) (nI (64 * d + c)) n') f' 22 17 = nI (kN (M 28) (nI (64 * d + c)) n') := by
    unfold outG
    rw [upw_o (by decide), upw_o (by decide), upw_s, upd_s]
  have g36 : outG g (kN (M 28) (nI (64 * d + c)) n') f' 36 = fun i => nI (f' i / 64) := by
    unfold outG
    rw [upw_o (by decide), upw_s]
  have g37 : outG g (kN (M 28) (nI (64 * d + c)) n') f' 37 = fun i => nI (f' i % 64) := by
    unfold outG
    rw [upw_s]
  refine ⟨f', ?_, ?_, hB⟩
  · refine R.sS (K1 := K) (m1 := outG g (kN (M 28) (nI (64 * d + c)) n') f') (nsm1 := nsm) (fun _ _ => rfl) (fun a ha => outG_o (by simp at ha ⊢; omega)) (fun j hj => outG_22 (by simp at hj; omega)) ⟨⟨R.2.2.1.2.2.2.2.1.1, by rw [outG_22 (by decide)]; exact R.2.2.1.2.2.2.2.1.2⟩, R.2.2.1.2.2.2.2.2.2.2.2⟩ ?_
    unfold Cst
    rw [g17, g36, g37, outG_o (a := 38) (by decide), outG_o (a := 39) (by decide)]
    exact ⟨⟨k0, hn30⟩, ⟨k18, k19⟩, hk17, fun i => f' i / 64, fun i => f' i % 64, by omega, rfl, fun i hi => ⟨rfl, rfl, (hf2 i hi).1, (hf2 i hi).2⟩, hP⟩
  · have mo : ∀ a, a ≠ 28 → a ≠ 37 → stM M (nI (64 * d + c)) n' a = M a := fun a h1 h2 => by unfold stM; rw [upw_o h2, upw_o h1]
    have mq : ∀ j, j ≠ 3 → stM M (nI (64 * d + c)) n' 37 j = M 37 j := fun j hj => by unfold stM; rw [upw_s, upd_o hj]
    have m3 : stM M (nI (64 * d + c)) n' 37 3 = nI (kN (M 28) (nI (64 * d + c)) n') := by unfold stM; rw [upw_s, upd_s]
    have m28 : stM M (nI (64 * d + c)) n' 28 = kR (M 28) (nI (64 * d + c)) n' := by unfold stM; rw [upw_o (by decide), upw_s]
    refine ⟨?_, ?_, ⟨fun y hy => ?_, ?_, ?_⟩, ?_, ?_, ?_, ⟨fun k hk1 => ?_, fun k hk1 => ?_⟩, ?_⟩
    · rw [outG_o (by decide), outG_o (by decide), mo 22 (by decide) (by decide)]; exact A1
    · rw [outG_o (by decide), outG_o (by decide), mo 23 (by decide) (by decide), mo 24 (by decide) (by decide), mo 25 (by decide) (by decide), mo 26 (by decide) (by decide)]; exact A2
    · rw [outG_o (by decide), mq _ (by omega)]; exact A3.1 y hy
    · rw [outG_o (by decide)]; exact A3.2.1
    · rw [mq 1 (by decide), outG_22 (by decide)]; exact A3.2.2
    · rw [outG_o (by decide), outG_o (by decide), outG_o (by decide), outG_o (by decide), outG_o (by decide), outG_o (by decide), mo 27 (by decide) (by decide)]; exact A4
    · rw [outG_o (by decide), outG_o (by decide), outG_o (by decide), outG_o (by decide), outG_o (by decide), mo 30 (by decide) (by decide), mo 31 (by decide) (by decide), mo 32 (by decide) (by decide)]; exact A5
    · rw [outG_o (by decide), outG_o (by decide), mo 33 (by decide) (by decide), mo 34 (by decide) (by decide)]; exact A6
    · rw [g36, g37, m28]
      refine ⟨f' k / 64, f' k % 64, (hf2 k hk1).1, (hf2 k hk1).2, rfl, rfl, ?_⟩
      rw [p1 k hk1, show 64 * (f' k / 64) + f' k % 64 = f' k by omega]
    · rw [outG_o (by decide), outG_o (by decide), mo 29 (by decide) (by decide)]; exact A7.2 k hk1
    · obtain ⟨⟨q0, q2, q3, q4, q5, q6⟩, ⟨q7, q8⟩, q9⟩ := A8
      refine ⟨⟨?_, ?_, m3, ?_, ?_, ?_⟩, ⟨?_, ?_⟩, fun s hs => ?_⟩
      · rw [mq 0 (by decide)]; exact q0
      · rw [mq 2 (by decide)]; exact q2
      · rw [mq 4 (by decide)]; exact q4
      · rw [mq 5 (by decide)]; exact q5
      · rw [mq 6 (by decide)]; exact q6
      · rw [mq 7 (by decide), outG_22 (by decide)]; exact q7
      · rw [outG_22 (by decide)]; exact q8
      · rw [mq _ (by omega), outG_o (by decide)]; exact q9 s hs
theorem ships_ok {B nb ns np nsm d nst : Nat} {cd : Nat → Nat} {calm : Bool} (hcd : ∀ i j, i < j → j < nst → cd i < cd j) (hd1 : d ≤ 1000) : ∀ k c h K g M nr n', c + k = 60 → nr + n' ≤ 63 → Rel h K g B nb nr ns np nsm d (SlpN nst cd (60 * d + c) n') → Cli g nb → Abs g M nb nr ns nsm n' d → stB (g 38) (g 39) (nI d) nsm = !calm → ∃ h2 K2 g2 M2 nr2 n2, (calm = true → ∀ mm n, 30 - fcn cd (60 * d + c) nst < n → L_X8_readAtStations_34 n (some 1) 1 (nI (fcn cd (60 * d + 60) nst)) (nI (fcn cd (60 * d + c) nst)) (st h K mm) = B_X8_readAtStations_82 (some 1) (nI (fcn cd (60 * d + 60) nst)) (st h2 K2 mm)) ∧ (calm = false → h2 = h ∧ K2 = K) ∧ (∀ h' K' n, Fix h' → 60 - c < n → L_L_passes_548 n (some 23) (some 28) (some 29) (some 30) (some 31) (some 32) (some 37) (nI c) (st h' K' M) = rtV (st h' K' M2)) ∧ Rel h2 K2 g2 B nb nr2 ns np nsm d (SlpN nst cd (60 * d + 60) n2) ∧ Cli g2 nb ∧ Abs g2 M2 nb nr2 ns nsm n2 d ∧ nr2 + n2 ≤ 63 := by
  intro k
  induction k with
  | zero =>
    intro c h K g M nr n' hck hnr R L A hst
    have : c = 60 := by omega
    subst this
    have F := R.1.1
    refine ⟨h, K, g, M, nr, n', fun _ mm n hn1 => ?_, fun _ => ⟨rfl, rfl⟩, fun h' K' n F' hn1 => ?_, R, L, A, hnr⟩
    · obtain ⟨n, rfl⟩ : ∃ q, n = q + 1 := ⟨n - 1, by omega⟩
      show B_X8_readAtStations_34 (L_X8_readAtStations_34 n) (some 1) 1 _ _ (st h K mm) = _
      unfold B_X8_readAtStations_34
      rw [if_pos (by rw [i_le]; omega)]
    · obtain ⟨n, rfl⟩ : ∃ q, n = q + 1 := ⟨n - 1, by omega⟩
      show B_L_passes_548 (L_L_passes_548 n) (some 23) (some 28) (some 29) (some 30) (some 31) (some 32) (some 37) (nI 60) (st h' K' M) = _
      unfold B_L_passes_548
      rw [if_pos (show (60 : Int32) ≤ nI 60 from nI_le (a := 60) (Nat.le_refl _) (by decide))]
  | succ k ih =>
    intro c h K g M nr n' hck hnr R L A hst
    have F := R.1.1
    have hc60 : c < 60 := by omega
    obtain ⟨f', R1, A1, hB⟩ := cell_out hd1 hc60 R A
    obtain ⟨⟨k0, hn30⟩, ⟨k18, k19⟩, hk17, sd, sc, hn', hn0, hrow, hperm⟩ := R.2.2.2.2.2.2.1
    have hle := kN_le (T := M 28) (X := nI (64 * d + c)) (k := n')
    have hk9 : K 1 9 = nI d := R.2.2.1.2.2.2.2.2.1.1
    have hsm20 : nsm ≤ 20 := R.2.2.1.2.2.2.2.2.2.2.2
    have hQ := A.2.2.2.2.2.2.2.1
    have hM3 : M 37 3 = nI n' := hQ.2.2.1
    have hM0 : M 37 0 = nI d := hQ.1
    obtain ⟨n2, hn2⟩ : ∃ n2, n2 = kN (M 28) (nI (64 * d + c)) n' := ⟨_, rfl⟩
    obtain ⟨gg, hg1⟩ : ∃ gg, gg = outG g (kN (M 28) (nI (64 * d + c)) n') f' := ⟨_, rfl⟩
    have hg1o : ∀ a, a ∉ [22, 36, 37] → gg a = g a := fun a ha => by rw [hg1]; exact outG_o ha
    have hg122 : ∀ j, j ≠ 17 → gg 22 j = g 22 j := fun j hj => by rw [hg1]; exact outG_22 hj
    rw [← hg1] at R1 A1
    have hst1 : stB (gg 38) (gg 39) (nI d) nsm = !calm := by rw [hg1o 38 (by decide), hg1o 39 (by decide)]; exact hst
    have L1 : Cli gg nb := by
      intro k hk1 h1
      rw [hg1o 33 (by decide)] at h1
      rw [hg1o 32 (by decide)]
      exact L k hk1 h1
    obtain ⟨M1, hM1⟩ : ∃ M1, M1 = stM M (nI (64 * d + c)) n' := ⟨_, rfl⟩
    have m29 : M1 29 = M 29 := by rw [hM1]; unfold stM; rw [upw_o (by decide), upw_o (by decide)]
    have m374 : M1 37 4 = nI nsm := by rw [hM1]; exact A1.2.2.2.2.2.2.2.1.2.2.2.1
    have m370 : M1 37 0 = nI d := by rw [hM1]; exact A1.2.2.2.2.2.2.2.1.1
    have m375 : M1 37 5 = nI nr := by rw [hM1]; exact A1.2.2.2.2.2.2.2.1.2.2.2.2.1
    have hsto : ∀ k, k < nsm → M1 29 (2 * k) = g 38 k ∧ M1 29 (2 * k + 1) = g 39 k := by rw [m29]; exact A.2.2.2.2.2.2.1.2
    rw [← hM1] at A1
    -- the law's turn
    have law : ∀ h' K' n, Fix h' → L_L_passes_548 (n + 1) (some 23) (some 28) (some 29) (some 30) (some 31) (some 32) (some 37) (nI c) (st h' K' M) = if kB (M 28) (nI (64 * d + c)) n' = true ∧ calm = true then (if nr < 64 then L_L_passes_548 n (some 23) (some 28) (some 29) (some 30) (some 31) (some 32) (some 37) (nI (c + 1)) (st h' K' (rdM M1 nr d c 0 (M1 23 c))) else none) else L_L_passes_548 n (some 23) (some 28) (some 29) (some 30) (some 31) (some 32) (some 37) (nI (c + 1)) (st h' K' M1) := by
      intro h' K' n F'
      show B_L_passes_548 (L_L_passes_548 n) (some 23) (some 28) (some 29) (some 30) (some 31) (some 32) (some 37) (nI c) (st h' K' M) = _
      unfold B_L_passes_548
      rw [if_neg (show ¬ (60 : Int32) ≤ nI c from nI_ge (b := 60) hc60 (by decide)), s_pass564 F' _ hM3 hn' hM0, ← hM1]
      by_cases hb : kB (M 28) (nI (64 * d + c)) n' = true
      · rw [if_pos hb, rq0 F', m370, s_lstorm F' m374 hsm20 hsto, x_rtI, hst]
        cases calm with
        | true =>
          rw [if_neg (show ¬ ((!true) = true) by decide), if_neg (show ¬ ((0 : Int32) ≠ 0) by decide), if_pos ⟨hb, rfl⟩, if_pos (show nr < 64 by omega), d23 F' hc60, show (0 : Int32) = nI 0 from rfl, s_lreads (d := d) F' (by omega) m375 m370, x_rtV]
        | false => rw [if_pos (show (!false) = true from rfl), if_pos (show (1 : Int32) ≠ 0 by decide), if_neg (fun z => absurd z.2 (by decide))]
      · rw [if_neg hb, if_neg (fun z => hb z.1)]
    have hmono : fcn cd (60 * d + c + 1) nst ≤ fcn cd (60 * d + 60) nst := by
      by_cases q : fcn cd (60 * d + 60) nst < fcn cd (60 * d + c + 1) nst
      · have hle := fcn_le (cd := cd) (T := 60 * d + c + 1) (n := nst)
        have h1 := (fcn_iff hcd (i := fcn cd (60 * d + 60) nst) (T := 60 * d + c + 1) (by omega)).mp q
        have h2 := (fcn_iff hcd (i := fcn cd (60 * d + 60) nst) (T := 60 * d + 60) (by omega)).mpr (by omega)
        omega
      · omega
    by_cases hrd : kB (M 28) (nI (64 * d + c)) n' = true ∧ calm = true
    · -- a reading
      obtain ⟨hb, hcm⟩ := hrd
      subst hcm
      have hyes := hB.mp hb
      have hlt := kN_lt hb
      obtain ⟨f1, f2, f3⟩ := (fcn_step (T := 60 * d + c) hcd).1 hyes
      have g22d : gg 22 1 = nI d := R1.2.2.1.2.2.2.2.2.1.2
      obtain ⟨he, sa, H1, H2, -⟩ := A1.2.1.2
      have hhe := smn_at (f := he) (n := 120) (j := c) (by omega)
      have ev : gg 26 c = nI (he c + 50) - 50 := by
        rw [(H1 _ (by omega)).1]
        exact (pk_sub (a := he c + 50) (b := 50) (by omega)).symm
      obtain ⟨h1, K1, v1, v3, v4, v6⟩ := keep_ok (w := none) (c := c) (v := gg 26 c) R1 (by omega) hc60 (fun f z => by cases z)
      have A2 := A1.read (c := c) (w := none) (v := gg 26 c) g22d hc60 (fun f z => by cases z) ev (by omega)
      simp only [Option.map_none] at v1
      have hM23 : M1 23 c = gg 26 c := (A1.2.1.1 c hc60).1
      obtain ⟨h2, K2, g2, M2, nr2, n3, w1, w2, w3, w4, w5, w6, w7⟩ := ih (c + 1) h1 K1 (readM gg nr (nI c) (oI none) (gg 26 c)) (rdM M1 nr d c 0 (gg 26 c)) (nr + 1) (kN (M 28) (nI (64 * d + c)) n') (by omega) (by omega) v3 (by
        intro k hk1 h1
        rw [readM_o (by decide)] at h1 ⊢
        exact L1 k hk1 h1) A2 (by rw [readM_o (by decide), readM_o (by decide)]; exact hst1)
      refine ⟨h2, K2, g2, M2, nr2, n3, fun _ mm n hn1 => ?_, (fun z => absurd z (by decide)), fun h' K' n F' hn1 => ?_, w4, w5, w6, w7⟩
      · obtain ⟨n, rfl⟩ : ∃ q, n = q + 1 := ⟨n - 1, by omega⟩
        have := w1 rfl mm n (by rw [← Nat.add_assoc, f3]; omega)
        rw [← Nat.add_assoc, f3] at this
        have hdle := fcn_le (cd := cd) (T := 60 * d + 60) (n := nst)
        have hK17 := hk17 _ f1
        rw [f2] at hK17
        have h4 := (R.2.1.2.1 c hc60).1
        have h26 : gg 26 c = g 26 c := by rw [hg1o 26 (by decide)]
        show B_X8_readAtStations_34 (L_X8_readAtStations_34 n) (some 1) 1 _ _ (st h K mm) = _
        unfold B_X8_readAtStations_34
        rw [if_neg (nI_ge (by omega) (by omega)), if_neg (by decide), r1_3 F, c16 F, s_cellOf F (by omega) hK17.1 hK17.2, x_rtI, show (60 * d + c) % 60 = c by omega, r1_2 F, g1 F, r1_0 F, c2 F, s_upperHeat F hc60, x_rtI, c14 F, hk9, h4, ← h26, v1 mm, x_rtV, x_bnd, nIs]
        exact this
      · obtain ⟨n, rfl⟩ : ∃ q, n = q + 1 := ⟨n - 1, by omega⟩
        rw [law h' K' n F', if_pos ⟨hb, rfl⟩, if_pos (show nr < 64 by omega), hM23]
        exact w3 h' K' n F' (by omega)
    · obtain ⟨h2, K2, g2, M2, nr2, n3, w1, w2, w3, w4, w5, w6, w7⟩ := ih (c + 1) h K gg M1 nr (kN (M 28) (nI (64 * d + c)) n') (by omega) (by omega) R1 L1 A1 hst1
      refine ⟨h2, K2, g2, M2, nr2, n3, fun hcm mm n hn1 => ?_, w2, fun h' K' n F' hn1 => ?_, w4, w5, w6, w7⟩
      · have hno : 60 * d + c ∉ (List.range nst).map cd := fun z => hrd ⟨hB.mpr z, hcm⟩
        have hf := (fcn_step (T := 60 * d + c) hcd).2 hno
        have := w1 hcm mm n (by rw [← Nat.add_assoc, hf]; exact hn1)
        rw [← Nat.add_assoc, hf] at this
        exact this
      · obtain ⟨n, rfl⟩ : ∃ q, n = q + 1 := ⟨n - 1, by omega⟩
        rw [law h' K' n F', if_neg hrd]
        exact w3 h' K' n F' (by omega)
