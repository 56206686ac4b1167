/-! calls that change, by the ghost -/
section
variable {h : MH} {K g : Nat → Nat → Int32} {B nb nr ns np nsm d nst : Nat} {S : STy}
theorem Rel.cds {e : Nat} (R : Rel h K g B nb nr ns np nsm d (Sst nst e)) : ∃ cd sd sc : Nat → Nat, (∀ i, i < nst → K 17 i = nI (cd i) ∧ cd i < 100000) ∧ (∀ i, i < nst → K 17 i = nI (cd i) ∧ g 36 i = nI (sd i) ∧ g 37 i = nI (sc i) ∧ sc i < 60 ∧ e < sd i ∧ sd i ≤ 1000) ∧ (∀ i j, i < j → j < nst → cd i < cd j) ∧ ((List.range nst).map cd).Perm ((List.range nst).map fun k => sd k * 60 + sc k) := by
  obtain ⟨-, -, cd, sd, sc, s4, s5, s6⟩ := R.2.2.2.2.2.2.1
  refine ⟨cd, sd, sc, fun i hi => ⟨(s4 i hi).1, ?_⟩, s4, s5, s6⟩
  have hm : cd i ∈ (List.range nst).map fun k => sd k * 60 + sc k := s6.mem_iff.mp (List.mem_map.mpr ⟨i, List.mem_range.mpr hi, rfl⟩)
  obtain ⟨k, hk1, e2⟩ := List.mem_map.mp hm
  have q := s4 k (List.mem_range.mp hk1)
  omega
theorem kk_current (R : Rel h K g B nb nr ns np nsm d S) {j q : Nat} (hj : j < 60) (hq : q ≤ 4) : ∃ K1, (∀ mm, M_X8_current (some 1) (nI j) (nI q) (st h K mm) = rtI (g 24 j) (st h K1 mm)) ∧ Rel h K1 (upw g 24 (upd (g 24) j (nI q))) B nb nr ns np nsm d S := by
  have F := R.1.1
  have C := R.2.1
  refine ⟨upw K 9 (upd (K 9) j (nI q)), fun mm => ?_, ?_⟩
  · unfold M_X8_current
    rw [s_needCell_t hj, x_rtV, s_needRange_t (show (0 : Int32) ≤ nI q ∧ nI q ≤ (4 : Int32) from ⟨nI_pos' (by omega), nI_le (b := 4) hq (by omega)⟩), x_rtV, r1_0 F, r2_2 F, d9 F hj, r1_0 F, r2_2 F, w9 F hj, C.1.2.1]
  · refine R.seaX (K1 := upw K 9 (upd (K 9) j (nI q))) (m1 := upw g 24 (upd (g 24) j (nI q))) (fun a ha => upw_o (by simp at ha; omega)) (fun a ha => upw_o (by simp at ha; omega)) (fun j hj => by rw [upw_o (by decide)]) ?_
    obtain ⟨⟨c1, c2, c3⟩, c4, c5, c6, c7, c8⟩ := C
    refine ⟨⟨?_, ?_, ?_⟩, ?_, ?_, ?_, ?_, ?_⟩
    · rw [upw_o (by decide), upw_o (by decide)]; exact c1
    · rw [upw_s, upw_s, c2]
    · rw [upw_o (by decide), upw_o (by decide)]; exact c3
    · intro i hi
      rw [upw_o (by decide), upw_o (by decide), upw_o (by decide), upw_o (by decide), upw_o (by decide), upw_o (by decide)]
      exact c4 i hi
    · rw [upw_o (by decide), upw_o (by decide)]; exact c5
    · rw [upw_o (by decide), upw_o (by decide)]; exact c6
    · intro i hi
      rw [upw_o (by decide), upw_o (by decide), upw_o (by decide)]
      exact c7 i hi
    · rw [upw_s]
      intro i hi
      unfold upd
      split
      · exact ⟨q, hq, rfl⟩
      · exact c8 i hi
theorem kk_sun (R : Rel h K g B nb nr ns np nsm d S) {j : Nat} {y : Int32} (hj : j < 6) (hy : (-50 : Int32) ≤ y ∧ y ≤ (50 : Int32)) : ∃ K1, (∀ mm, M_X8_sun (some 1) (nI j) y (st h K mm) = rtI (g 25 j) (st h K1 mm)) ∧ Rel h K1 (upw g 25 (upd (g 25) j y)) B nb nr ns np nsm d S := by
  have F := R.1.1
  have C := R.2.1
  refine ⟨upw K 10 (upd (K 10) j y), fun mm => ?_, ?_⟩
  · unfold M_X8_sun
    rw [s_needRange_t (show (0 : Int32) ≤ nI j ∧ nI j ≤ (5 : Int32) from ⟨nI_pos' (by omega), nI_le (b := 5) (by omega) (by omega)⟩), x_rtV, s_needRange_t hy, x_rtV, r1_0 F, r2_3 F, d10 F hj, r1_0 F, r2_3 F, w10 F hj, C.1.2.2]
  · refine R.seaX (K1 := upw K 10 (upd (K 10) j y)) (m1 := upw g 25 (upd (g 25) j y)) (fun a ha => upw_o (by simp at ha; omega)) (fun a ha => upw_o (by simp at ha; omega)) (fun j hj => by rw [upw_o (by decide)]) ?_
    obtain ⟨⟨c1, c2, c3⟩, c4, c5, c6, c7, c8⟩ := C
    refine ⟨⟨?_, ?_, ?_⟩, ?_, ?_, ?_, ?_, ?_⟩
    · rw [upw_o (by decide), upw_o (by decide)]; exact c1
    · rw [upw_o (by decide), upw_o (by decide)]; exact c2
    · rw [upw_s, upw_s, c3]
    · intro i hi
      rw [upw_o (by decide), upw_o (by decide), upw_o (by decide), upw_o (by decide), upw_o (by decide), upw_o (by decide)]
      exact c4 i hi
    · rw [upw_o (by decide), upw_o (by decide)]; exact c5
    · rw [upw_o (by decide), upw_o (by decide)]; exact c6
    · intro i hi
      rw [upw_o (by decide), upw_o (by decide), upw_o (by decide)]
      exact c7 i hi
    · rw [upw_o (by decide)]; exact c8
theorem kk_bound (R : Rel h K g B nb nr ns np nsm d S) {x : Int32} (hx : (0 : Int32) ≤ x ∧ x ≤ (1000 : Int32)) : ∃ K1, (∀ mm, M_X8_bound (some 1) x (st h K mm) = rtI (g 22 29) (st h K1 mm)) ∧ Rel h K1 (upw g 22 (upd (g 22) 29 x)) B nb nr ns np nsm d S := by
  have F := R.1.1
  refine ⟨upw K 14 (upd (K 14) 2 x), fun mm => ?_, ?_⟩
  · unfold M_X8_bound
    rw [s_needRange_t hx, x_rtV, r1_2 F, g14 F, r1_2 F, p14 F, R.2.2.1.2.2.2.2.2.2.1]
  · obtain ⟨⟨F, hN, R13, R15, R20, R21, RS⟩, C1, C2, C3, C4, C5, C6, C7, C8, C9⟩ := R
    have kd : ∀ a, a ≠ 14 → upw K 14 (upd (K 14) 2 x) a = K a := fun a ha => upw_o ha
    have md : ∀ a, a ≠ 22 → upw g 22 (upd (g 22) 29 x) a = g a := fun a ha => upw_o ha
    have m22 : ∀ j, j ≠ 29 → upw g 22 (upd (g 22) 29 x) 22 j = g 22 j := fun j hj => by rw [upw_s, upd_o hj]
    refine ⟨⟨F, hN, R13, R15, R20, R21, RS⟩, ?_, ?_, ?_, ?_, ?_, ?_, ?_, ?_, C9⟩
    · exact C1.fr (fun b hb => kd b (by simp at hb; omega)) (fun b hb => md b (by simp at hb; omega)) (m22 2 (by decide))
    · obtain ⟨a1, a2, a3, a4, a6, a7, a8, a9, a10⟩ := C2
      unfold Cct
      rw [kd 1 (by decide), kd 16 (by decide), upw_s (f := K), upd_o (show (1 : Nat) ≠ 2 by decide), upd_s, m22 10 (by decide), m22 30 (by decide), m22 33 (by decide), m22 23 (by decide), m22 20 (by decide), m22 1 (by decide), upw_s (f := g), upd_s]
      exact ⟨a1, a2, a3, a4, a6, a7, rfl, a9, a10⟩
    · exact C3.fr R13 (fun b hb _ => kd b (by omega)) (fun b hb => md b (by simp at hb; omega))
    · exact C4.fr R15 (fun b hb _ => kd b (by omega)) (fun b hb => md b (by simp at hb; omega))
    · exact C5.fr (md 43 (by decide))
    · exact C6.fr (fun b hb => kd b (by simp at hb; omega)) (fun b hb => md b (by simp at hb; omega)) (by rw [kd 16 (by decide)]) (m22 17 (by decide))
    · exact C7.fr R20 RS (fun b hb _ => kd b (by omega)) ⟨md 45 (by decide), md 46 (by decide)⟩
    · exact C8.fr R21 (fun b hb _ => kd b (by omega)) (fun b hb => md b (by simp at hb; omega))
theorem kk_flag (R : Rel h K g B nb nr ns np nsm d S) {r : Nat} {y : Int32} (hr1 : r < nr) (hy : (-1 : Int32) ≤ y ∧ y ≤ (2 : Int32)) : ∃ K1, (∀ mm, M_X8_flag (some 1) (nI r) y (st h K mm) = rtI (flg g nr r) (st h K1 mm)) ∧ Rel h K1 (upw g 44 (upd (g 44) r y)) B nb nr ns np nsm d S := by
  have F := R.1.1
  have nb8 := R.1.2.1.1
  have nr100 := R.1.2.1.2.1
  have R13 := R.1.2.2.1
  have R15 := R.1.2.2.2.1
  have hbd : K 14 2 = g 22 29 := R.2.2.1.2.2.2.2.2.2.1
  have q := row_rd R15 hr1
  have hA : cA (rd h r) := Or.inr (by omega)
  refine ⟨upw K (rd h r) (upd (K (rd h r)) 4 y), fun mm => ?_, ?_⟩
  · unfold M_X8_flag
    rw [c1 F, s_rdg_t F R15 nr100 hr1, x_rtR, s_needRange_t hy, x_rtV, r1_2 F, g14 F, K_ck q.2.1, hbd, s_flagBy R13 R15 nb8 R.2.2.2.1 R.2.2.2.2.1 R.2.2.2.2.2.1 hr1, x_rtI, K_pf q.2.1 hA]
  · have kd : ∀ a, hk h a ≠ 4 → upw K (rd h r) (upd (K (rd h r)) 4 y) a = K a := fun a ha => upw_o (fun z => ha (by rw [z]; exact q.2.1))
    have k22 : ∀ a, a < 22 → upw K (rd h r) (upd (K (rd h r)) 4 y) a = K a := fun a ha => upw_o (by omega)
    have mO : ∀ a, a ≠ 44 → upw g 44 (upd (g 44) r y) a = g a := fun a h2 => upw_o h2
    obtain ⟨⟨F, hN, R13, R15, R20, R21, RS⟩, C1, C2, C3, C4, C5, C6, C7, C8, C9⟩ := R
    refine ⟨⟨F, hN, R13, R15, R20, R21, RS⟩, ?_, ?_, ?_, ?_, ?_, ?_, ?_, ?_, C9⟩
    · exact C1.fr (fun b hb => k22 b (by simp at hb; omega)) (fun b hb => mO b (by simp at hb; omega)) (by rw [mO 22 (by decide)])
    · unfold Cct
      rw [k22 1 (by decide), k22 14 (by decide), k22 16 (by decide), mO 22 (by decide)]; exact C2
    · exact C3.fr R13 (fun b hb _ => kd b (by omega)) (fun b hb => mO b (by simp at hb; omega))
    · intro r2 hr2
      rw [mO 40 (by decide), mO 41 (by decide), mO 42 (by decide), mO 43 (by decide), upw_s]
      obtain ⟨⟨x0, x1, x2, x3⟩, x4, x5⟩ := C4 r2 hr2
      by_cases e : r2 = r
      · subst e
        rw [upw_s, upd_o (by decide), upd_o (by decide), upd_o (by decide), upd_s, upd_s]
        exact ⟨⟨x0, x1, x2, rfl⟩, x4, x5⟩
      · rw [upw_o (fun z => e (row_rdi R15 hr2 hr1 z)), upd_o e]
        exact ⟨⟨x0, x1, x2, x3⟩, x4, x5⟩
    · exact C5.fr (mO 43 (by decide))
    · exact C6.fr (fun b hb => k22 b (by simp at hb; omega)) (fun b hb => mO b (by simp at hb; omega)) (by rw [k22 16 (by decide)]) (by rw [mO 22 (by decide)])
    · refine C7.fr R20 RS (fun b _ hb => kd b ?_) ⟨mO 45 (by decide), mO 46 (by decide)⟩
      rcases hb with hb | ⟨s, hs, rfl⟩
      · omega
      · have := (RS.1 s hs).1.2.1; omega
    · exact C8.fr R21 (fun b hb _ => kd b (by omega)) (fun b hb => mO b (by simp at hb; omega))
theorem kk_lay (R : Rel h K g B nb nr ns np nsm d S) (L : Cli g nb) {c i p : Nat} {mo : Int32} (hc : c < 60) (hi1 : 1 ≤ i ∧ i ≤ 20) (hp : 1 ≤ p ∧ p ≤ 100) (h3 : (-50 : Int32) ≤ mo ∧ mo ≤ (50 : Int32)) (hl : g 23 c = 0) (hnb : nb < 8) : ∃ h1 K1, (∀ mm, M_X8_lay (some 1) (nI c) (nI i) (nI p) mo (st h K mm) = rtI (nI nb) (st h1 K1 mm)) ∧ Rel h1 K1 (layM g nb (nI c) (nI i) (nI p) mo) (B + 1) (nb + 1) nr ns np nsm d S ∧ Cli (layM g nb (nI c) (nI i) (nI p) mo) (nb + 1) := by
  have F := R.1.1
  have hK6 : K 1 6 = nI nb := R.2.2.1.1.1
  have hland : K 11 c = 0 := by rw [R.2.1.1.1]; exact hl
  obtain ⟨w1, w2⟩ := laid (mo := mo) R L hnb hc hi1 hp
  refine ⟨_, _, fun mm => ?_, w1, w2⟩
  unfold M_X8_lay
  rw [s_needCell_t hc, x_rtV, s_needRange_t (show (1 : Int32) ≤ nI i ∧ nI i ≤ (20 : Int32) from ⟨nI_le (a := 1) hi1.1 (by omega), nI_le (b := 20) hi1.2 (by omega)⟩), x_rtV, s_needRange_t (show (1 : Int32) ≤ nI p ∧ nI p ≤ (100 : Int32) from ⟨nI_le (a := 1) hp.1 (by omega), nI_le (b := 100) hp.2 (by omega)⟩), x_rtV, s_needRange_t h3, x_rtV, g1 F, hK6, r1_0 F, c2 F, s_isLand F hc, x_rtI, bI_f (fun z => z hland), if_neg (fun z => z rfl), r1_1 F, a13 F, s_isIndex_t hnb (by decide), x_rtI, if_pos (by decide), r1_1 F]
  exact s_layNew F hnb
theorem kk_layN (R : Rel h K g B nb nr ns np nsm d S) {c i p : Nat} {mo : Int32} (hc : c < 60) (hi1 : 1 ≤ i ∧ i ≤ 20) (hp : 1 ≤ p ∧ p ≤ 100) (h3 : (-50 : Int32) ≤ mo ∧ mo ≤ (50 : Int32)) (hn : ¬ (g 23 c = 0 ∧ nb < 8)) {mm : Nat → Nat → Int32} : M_X8_lay (some 1) (nI c) (nI i) (nI p) mo (st h K mm) = some (.inr 3, exc (st h K mm)) := by
  have F := R.1.1
  have nb8 := R.1.2.1.1
  have hK6 : K 1 6 = nI nb := R.2.2.1.1.1
  unfold M_X8_lay
  rw [s_needCell_t hc, x_rtV, s_needRange_t (show (1 : Int32) ≤ nI i ∧ nI i ≤ (20 : Int32) from ⟨nI_le (a := 1) hi1.1 (by omega), nI_le (b := 20) hi1.2 (by omega)⟩), x_rtV, s_needRange_t (show (1 : Int32) ≤ nI p ∧ nI p ≤ (100 : Int32) from ⟨nI_le (a := 1) hp.1 (by omega), nI_le (b := 100) hp.2 (by omega)⟩), x_rtV, s_needRange_t h3, x_rtV, g1 F, hK6, r1_0 F, c2 F, s_isLand F hc, x_rtI, R.2.1.1.1]
  by_cases hl : g 23 c = 0
  · have hnb : ¬ nb < 8 := fun z => hn ⟨hl, z⟩
    rw [bI_f (fun z => z hl), if_neg (fun z => z rfl), r1_1 F, a13 F, s_isIndex_f (Or.inr (nI_le (by omega) (by omega))), x_rtI, if_neg (fun z => z rfl)]
  · rw [bI_t hl, if_pos (by decide)]
/-- a cell can be land -/
def CanL (g : Nat → Nat → Int32) (nb ns nst d c : Nat) : Prop := d = 0 ∧ g 23 c = 0 ∧ (∀ k, k < nb → g 30 k ≠ nI c) ∧ (∀ s, s < ns → g 45 s ≠ nI c) ∧ ∀ k, k < nst → g 37 k ≠ nI c
theorem kk_land0 (R : Rel h K g B nb nr ns np nsm d (Sst nst d)) {c : Nat} (hc : c < 60) : ∃ T : Bool, ((d = 0 ∧ g 23 c = 0 ∧ T = false) ↔ CanL g nb ns nst d c) ∧ ∀ mm, M_X8_land (some 1) (nI c) (st h K mm) = if nI d ≠ 0 then some (.inr 3, exc (st h K mm)) else if g 23 c ≠ 0 then some (.inr 3, exc (st h K mm)) else if zI T = 0 then (calI (M_X5_makeLand (some 2) (nI c) (st h K mm)) fun z9 h10 => rtI z9 h10) else some (.inr 3, exc (st h K mm)) := by
  have F := R.1.1
  have hN := R.1.2.1
  have hd9 := R.2.2.1.2.2.2.2.2.1
  obtain ⟨cd, sd, sc, hcd, s4, s5, s6⟩ := R.cds
  obtain ⟨⟨s1, s2, s3⟩, -⟩ := R.2.2.2.2.2.2.1
  have hin : anB (fun i => cd i % 60 = c) nst = anB (fun k => g 37 k = nI c) nst := by
    rw [Bool.eq_iff_iff, anB_iff, anB_iff]
    constructor
    · rintro ⟨i, hi, e⟩
      have hm : cd i ∈ (List.range nst).map fun k => sd k * 60 + sc k := s6.mem_iff.mp (List.mem_map.mpr ⟨i, List.mem_range.mpr hi, rfl⟩)
      obtain ⟨k, hk1, e2⟩ := List.mem_map.mp hm
      have hk2 := List.mem_range.mp hk1
      have q := s4 k hk2
      refine ⟨k, hk2, ?_⟩
      rw [q.2.2.1]
      congr 1
      have := q.2.2.2.1
      omega
    · rintro ⟨k, hk1, e⟩
      have q := s4 k hk1
      have hm : sd k * 60 + sc k ∈ (List.range nst).map cd := s6.mem_iff.mpr (List.mem_map.mpr ⟨k, List.mem_range.mpr hk1, rfl⟩)
      obtain ⟨i, hi, e2⟩ := List.mem_map.mp hm
      refine ⟨i, List.mem_range.mp hi, ?_⟩
      have h3 := q.2.2.2.1
      rw [q.2.2.1, nI_inj (by omega) (by omega)] at e
      omega
  refine ⟨(anB (fun k => g 30 k = nI c) nb || (anB (fun s => g 45 s = nI c) ns || anB (fun i => cd i % 60 = c) nst)), ?_, fun mm => ?_⟩
  · rw [hin, Bool.or_eq_false_iff, Bool.or_eq_false_iff]
    have key : ∀ (p : Nat → Prop) [DecidablePred p] (n : Nat), anB p n = false ↔ ∀ k, k < n → ¬ p k := by
      intro p _ n
      rw [← Bool.not_eq_true, anB_iff]
      exact ⟨fun z k hk1 hp => z ⟨k, hk1, hp⟩, fun z ⟨k, hk1, hp⟩ => z k hk1 hp⟩
    rw [key, key, key]
    exact Iff.rfl
  · unfold M_X8_land
    rw [s_needCell_t hc, x_rtV, g1 F, hd9.1, r1_0 F, c2 F, s_isLand F hc, x_rtI, c1 F, s_isTaken (m := g) F R.1.2.2.1 R.1.2.2.2.2.1 hN.1 hN.2.2.1 (fun k hk1 => (R.2.2.2.1.1 k hk1).1.2.2.2.1) (fun s hs => (R.2.2.2.2.2.2.2.1.1 s hs).1) s1 s3 hcd hc, x_rtI, r1_0 F, c2 F, R.2.1.1.1]
    by_cases q1 : g 23 c = 0
    · rw [bI_f (fun z => z q1), if_neg (show ¬ (0 : Int32) ≠ 0 from fun z => z rfl), if_neg (show ¬ g 23 c ≠ 0 from fun z => z q1)]
    · rw [bI_t q1, if_pos (show (1 : Int32) ≠ 0 by decide), if_pos (show g 23 c ≠ 0 from q1)]
theorem kk_land (R : Rel h K g B nb nr ns np nsm d (Sst nst d)) {c : Nat} (hc : c < 60) (can : CanL g nb ns nst d c) : (∀ mm, M_X8_land (some 1) (nI c) (st h K mm) = rtI (lsum (g 23) 60 + 1) (st h (landK K c) mm)) ∧ Rel h (landK K c) (landM g c) B nb nr ns np nsm d (Sst nst d) := by
  have F := R.1.1
  obtain ⟨T, hT, hC⟩ := kk_land0 R hc
  obtain ⟨e1, e2, e3⟩ := hT.mpr can
  refine ⟨fun mm => ?_, landed R hc e2⟩
  rw [hC mm, e1, if_neg (show ¬ nI 0 ≠ 0 from fun z => z rfl), if_neg (show ¬ g 23 c ≠ 0 from fun z => z e2), e3, zI_f, if_pos rfl, s_makeLand F hc (by rw [R.2.1.1.1]; exact e2), x_rtI, R.2.1.2.2.2.1]
theorem kk_landN (R : Rel h K g B nb nr ns np nsm d (Sst nst d)) {c : Nat} (hc : c < 60) (can : ¬ CanL g nb ns nst d c) {mm : Nat → Nat → Int32} : M_X8_land (some 1) (nI c) (st h K mm) = some (.inr 3, exc (st h K mm)) := by
  have hd1 : d ≤ 1000 := R.2.2.1.2.2.2.2.2.2.2.1
  obtain ⟨T, hT, hC⟩ := kk_land0 R hc
  rw [hC mm]
  by_cases q2 : d = 0
  · rw [q2, if_neg (show ¬ nI 0 ≠ 0 from fun z => z rfl)]
    by_cases q1 : g 23 c = 0
    · rw [if_neg (show ¬ g 23 c ≠ 0 from fun z => z q1)]
      cases hh : T with
      | true => rw [zI_t, if_neg (by decide)]
      | false => exact absurd (hT.mp ⟨q2, q1, hh⟩) can
    · rw [if_pos q1]
  · rw [if_pos (show nI d ≠ 0 from fun z => q2 ((nI_eq (by omega) (by omega)).mp (show nI d = nI 0 from z)))]
/-- a station can be told -/
def CanS (g : Nat → Nat → Int32) (nst D c : Nat) : Prop := g 23 c = 0 ∧ nst < 30 ∧ ∀ k, k < nst → ¬ (g 36 k = nI D ∧ g 37 k = nI c)
theorem kk_station0 (R : Rel h K g B nb nr ns np nsm d (Sst nst d)) {D c : Nat} (hc : c < 60) (hD : d < D ∧ D ≤ 1000) {cd sd sc : Nat → Nat} (hcd : ∀ i, i < nst → K 17 i = nI (cd i) ∧ cd i < 100000) (s4 : ∀ i, i < nst → K 17 i = nI (cd i) ∧ g 36 i = nI (sd i) ∧ g 37 i = nI (sc i) ∧ sc i < 60 ∧ d < sd i ∧ sd i ≤ 1000) (s6 : ((List.range nst).map cd).Perm ((List.range nst).map fun k => sd k * 60 + sc k)) : ((∃ i, i < nst ∧ cd i = D * 60 + c) ↔ ∃ k, k < nst ∧ g 36 k = nI D ∧ g 37 k = nI c) ∧ ∀ mm, M_X8_station (some 1) (nI D) (nI c) (st h K mm) = if g 23 c ≠ 0 then some (.inr 3, exc (st h K mm)) else if anB (fun i => cd i = D * 60 + c) nst = true then some (.inr 3, exc (st h K mm)) else if nst < 30 then (calI (M_X7_tellStation (some 16) (nI D) (nI c) (st h K mm)) fun z15 h16 => rtI z15 h16) else some (.inr 3, exc (st h K mm)) := by
  have F := R.1.1
  have hd9 := R.2.2.1.2.2.2.2.2.1
  obtain ⟨⟨s1, s2, s3⟩, -⟩ := R.2.2.2.2.2.2.1
  refine ⟨?_, fun mm => ?_⟩
  · constructor
    · rintro ⟨i, hi, e⟩
      have hm : cd i ∈ (List.range nst).map fun k => sd k * 60 + sc k := s6.mem_iff.mp (List.mem_map.mpr ⟨i, List.mem_range.mpr hi, rfl⟩)
      obtain ⟨k, hk1, e2⟩ := List.mem_map.mp hm
      have hk2 := List.mem_range.mp hk1
      have q := s4 k hk2
      have q3 := q.2.2.2.1
      refine ⟨k, hk2, ?_, ?_⟩
      · rw [q.2.1]; congr 1; omega
      · rw [q.2.2.1]; congr 1; omega
    · rintro ⟨k, hk2, e1, e2⟩
      have q := s4 k hk2
      have q3 := q.2.2.2.1
      have q4 := q.2.2.2.2.2
      rw [q.2.1, nI_inj (by omega) (by omega)] at e1
      rw [q.2.2.1, nI_inj (by omega) (by omega)] at e2
      have hm : sd k * 60 + sc k ∈ (List.range nst).map cd := s6.mem_iff.mpr (List.mem_map.mpr ⟨k, List.mem_range.mpr hk2, rfl⟩)
      obtain ⟨i, hi, e3⟩ := List.mem_map.mp hm
      exact ⟨i, List.mem_range.mp hi, by rw [e3, e1, e2]⟩
  · unfold M_X8_station
    rw [s_needCell_t hc, x_rtV, g1 F, hd9.1, x_bnd, nIs, s_needRange_t (show nI (d + 1) ≤ nI D ∧ nI D ≤ (1000 : Int32) from ⟨nI_le (by omega) (by omega), nI_le (b := 1000) hD.2 (by omega)⟩), x_rtV, r1_0 F, c2 F, s_isLand F hc, x_rtI, R.2.1.1.1]
    by_cases q1 : g 23 c = 0
    · rw [bI_f (fun z => z q1), if_neg (show ¬ (0 : Int32) ≠ 0 from fun z => z rfl), if_neg (fun z => z q1), r1_3 F, c16 F, s_hasStation F s1 s3 hcd hD.2 hc, x_rtI]
      cases q2 : anB (fun i => cd i = D * 60 + c) nst with
      | true => rw [zI_t, if_pos (show (1 : Int32) ≠ 0 by decide), if_pos rfl]
      | false =>
        rw [zI_f, if_neg (show ¬ (0 : Int32) ≠ 0 from fun z => z rfl), if_neg (show ¬ false = true by decide), r1_3 F, c16 F, s_allTold F s1 s3, x_rtI]
        by_cases q3 : nst < 30
        · rw [if_pos q3, if_pos rfl, if_pos q3, r1_3 F, c16 F]
        · rw [if_neg q3, if_neg (show ¬ (1 : Int32) = 0 by decide), if_neg q3]
    · rw [bI_t q1, if_pos (show (1 : Int32) ≠ 0 by decide), if_pos q1]
theorem kk_station (R : Rel h K g B nb nr ns np nsm d (Sst nst d)) {D c : Nat} (hc : c < 60) (hD : d < D ∧ D ≤ 1000) (can : CanS g nst D c) : ∃ K1, (∀ mm, M_X8_station (some 1) (nI D) (nI c) (st h K mm) = rtI (nI (nst + 1)) (st h K1 mm)) ∧ Rel h K1 (staM g nst D c) B nb nr ns np nsm d (Sst (nst + 1) d) := by
  have F := R.1.1
  obtain ⟨cd, sd, sc, hcd, s4, s5, s6⟩ := R.cds
  obtain ⟨⟨s1, s2, s3⟩, -⟩ := R.2.2.2.2.2.2.1
  obtain ⟨hI, hC⟩ := kk_station0 R hc hD hcd s4 s6
  obtain ⟨q1, q3, q2⟩ := can
  have hno : ∀ i, i < nst → cd i ≠ D * 60 + c := fun i hi e => by
    obtain ⟨k, hk1, e1⟩ := hI.mp ⟨i, hi, e⟩
    exact q2 k hk1 e1
  refine ⟨_, fun mm => ?_, stood R q3 hD hc s4 s5 s6 hno⟩
  have hD2 := hD.2
  rw [hC mm, if_neg (fun z => z q1), if_neg (fun z => by obtain ⟨i, hi, e⟩ := anB_iff.mp z; exact hno i hi e), if_pos q3]
  have hle := fcn_le (cd := cd) (T := D * 60 + c) (n := nst)
  have ht := s_tell (mm := mm) (T := D * 60 + c) F s1 q3 hcd s5 (by omega) hno (nst - fcn cd (D * 60 + c) nst) fuel (by omega) (by have : fuel = 1000 := rfl; omega)
  rw [show fcn cd (D * 60 + c) nst + (nst - fcn cd (D * 60 + c) nst) = nst by omega, shf_0, upw_id] at ht
  unfold M_X7_tellStation
  rw [c16 F, s_allTold F s1 s3, x_rtI, if_pos q3, if_pos rfl, s_code, x_rtI, g16 F, s1, ht, x_rtI]
theorem kk_stationN (R : Rel h K g B nb nr ns np nsm d (Sst nst d)) {D c : Nat} (hc : c < 60) (hD : d < D ∧ D ≤ 1000) (can : ¬ CanS g nst D c) {mm : Nat → Nat → Int32} : M_X8_station (some 1) (nI D) (nI c) (st h K mm) = some (.inr 3, exc (st h K mm)) := by
  obtain ⟨cd, sd, sc, hcd, s4, s5, s6⟩ := R.cds
  obtain ⟨hI, hC⟩ := kk_station0 R hc hD hcd s4 s6
  rw [hC mm]
  by_cases q1 : g 23 c = 0
  · rw [if_neg (fun z => z q1)]
    by_cases q2 : anB (fun i => cd i = D * 60 + c) nst = true
    · rw [if_pos q2]
    · rw [if_neg q2, if_neg (fun q3 => can ⟨q1, q3, fun k hk1 e => ?_⟩)]
      exact q2 (anB_iff.mpr (hI.mpr ⟨k, hk1, e⟩))
  · rw [if_pos q1]
theorem kk_storm0 (R : Rel h K g B nb nr ns np nsm d (Sst nst d)) {a b : Nat} (ha : d < a ∧ a ≤ b ∧ b ≤ 1000) : ∃ sd : Nat → Nat, (∀ k, k < nst → g 36 k = nI (sd k) ∧ sd k ≤ 1000) ∧ (∀ mm, M_X8_storm (some 1) (nI a) (nI b) (st h K mm) = if nsm < 20 then rtI (csm (cwt (g 38) (g 39) nsm (nI a) (nI b)) ((List.range nst).map sd)) (st h (stoK K nsm (nI a) (nI b)) mm) else some (.inr 3, exc (st h K mm))) ∧ (nsm < 20 → Rel h (stoK K nsm (nI a) (nI b)) (stoM g nsm (nI a) (nI b)) B nb nr ns np (nsm + 1) d (Sst nst d)) := by
  have F := R.1.1
  have hd9 := R.2.2.1.2.2.2.2.2.1
  have hsm := R.2.2.1.2.2.2.2.1
  have hsm2 : nsm ≤ 20 := R.2.2.1.2.2.2.2.2.2.2.2
  obtain ⟨cd, sd, sc, hcd, s4, s5, s6⟩ := R.cds
  obtain ⟨⟨s1, s2, s3⟩, ⟨z4, z5⟩, -⟩ := R.2.2.2.2.2.2.1
  refine ⟨sd, fun k hk1 => ⟨(s4 k hk1).2.1, (s4 k hk1).2.2.2.2.2⟩, fun mm => ?_, fun q3 => stormed R q3 _ _⟩
  unfold M_X8_storm
  rw [g1 F, hd9.1, x_bnd, nIs, s_needRange_t (show nI (d + 1) ≤ nI a ∧ nI a ≤ (1000 : Int32) from ⟨nI_le (by omega) (by omega), nI_le (b := 1000) (by omega) (by omega)⟩), x_rtV, s_needRange_t (show nI a ≤ nI b ∧ nI b ≤ (1000 : Int32) from ⟨nI_le (by omega) (by omega), nI_le (b := 1000) (by omega) (by omega)⟩), x_rtV, r1_3 F, c16 F, s_stormsTold F hsm.1 hsm2, x_rtI]
  by_cases q3 : nsm < 20
  · have hsum := sto_sum (K := K) (m := g) (nsm := nsm) (a := nI a) (b := nI b) z4 z5 (fun i hi => (s4 i hi).2.2.2.1) s6
    rw [if_pos q3, if_pos rfl, if_pos q3, r1_3 F, c16 F, s_calm F s1 s3 hcd hsm.1 hsm2, x_rtI, r1_3 F, c16 F, s_tellStorm F hsm.1 q3, x_rtV, hsum]
  · rw [if_neg q3, if_neg (show ¬ (1 : Int32) = 0 by decide), if_neg q3]
theorem kk_calibrate (R : Rel h K g B nb nr ns np nsm d S) {f : Nat} (hf : f < nb) : match csh g nr f nr with
    | none => ∀ mm, M_X8_calibrate (some 1) (nI f) (st h K mm) = some (.inr 3, exc (st h K mm))
    | some (r, s) => ∃ K1, (∀ mm, M_X8_calibrate (some 1) (nI f) (st h K mm) = rtI (g 42 r - g 42 s) (st h K1 mm)) ∧ Rel h K1 (upw g 35 (upd (g 35) f (g 42 r - g 42 s))) B nb nr ns np nsm d S := by
  have F := R.1.1
  have nb8 := R.1.2.1.1
  have nr100 := R.1.2.1.2.1
  have R13 := R.1.2.2.1
  have R15 := R.1.2.2.2.1
  have q := row_bu R13 hf
  have hCl : ∀ mm, M_X8_calibrate (some 1) (nI f) (st h K mm) = L_X8_calibrate_11 fuel (some 1) (some (bu h f)) ((lby (g 43) (nI f) nr).map (rd h)) (st h K mm) := by
    intro mm
    unfold M_X8_calibrate
    rw [c1 F, s_buoy_t F R13 nb8 hf, x_rtR, K_gr q.2.1, R.2.2.2.2.2.1.2 f hf]
  have h1 := fun mm => s_calC (mm := mm) F R13 R15 nr100 R.2.2.2.2.1 R.2.2.2.2.2.1 nb8 hf nr fuel (Nat.le_refl _) (by have : fuel = 1000 := rfl; omega)
  cases hc : csh g nr f nr with
  | none =>
    rw [hc] at h1
    exact fun mm => (hCl mm).trans (h1 mm)
  | some p =>
    obtain ⟨r, s⟩ := p
    rw [hc] at h1
    exact ⟨_, fun mm => (hCl mm).trans (h1 mm), R.pb hf (v := g 42 r - g 42 s) 6 35 (Or.inr (Or.inr (Or.inr ⟨rfl, rfl⟩)))⟩
theorem kk_search (R : Rel h K g B nb nr ns np nsm d S) {c : Nat} (hc : c < 60) (hl : g 23 c = 0) (hns : ns < 4) : (∀ mm, M_X8_search (some 1) (nI c) (st h K mm) = rtI (nI ns) (st (srH h ns) (srK K (hn h + 1) ns c) mm)) ∧ Rel (srH h ns) (srK K (hn h + 1) ns c) (srM g ns c) (B + 1) nb nr (ns + 1) np nsm d S := by
  have F := R.1.1
  have hK7 : K 1 7 = nI ns := R.2.2.1.2.1.1
  have hland : K 11 c = 0 := by rw [R.2.1.1.1]; exact hl
  refine ⟨fun mm => ?_, srched R hns hc⟩
  unfold M_X8_search
  rw [s_needCell_t hc, x_rtV, g1 F, hK7, r1_0 F, c2 F, s_isLand F hc, x_rtI, bI_f (fun z => z hland), if_neg (fun z => z rfl), r1_4 F, a20 F, s_isIndex_t hns (by decide), x_rtI, if_pos (by decide), r1_4 F]
  exact s_srchNew F hns hc
theorem kk_searchN (R : Rel h K g B nb nr ns np nsm d S) {c : Nat} (hc : c < 60) (hl : g 23 c ≠ 0) {mm : Nat → Nat → Int32} : M_X8_search (some 1) (nI c) (st h K mm) = some (.inr 3, exc (st h K mm)) := by
  have F := R.1.1
  have hland : K 11 c ≠ 0 := by rw [R.2.1.1.1]; exact hl
  unfold M_X8_search
  rw [s_needCell_t hc, x_rtV, g1 F, R.2.2.1.2.1.1, r1_0 F, c2 F, s_isLand F hc, x_rtI, bI_t hland, if_pos (by decide)]
theorem kk_leg (R : Rel h K g B nb nr ns np nsm d S) {s j : Nat} {z : Int32} (hs : s < ns) (hj : j < 60) (hz : (1 : Int32) ≤ z ∧ z ≤ (100 : Int32)) : ∃ K1, (∀ mm, M_X8_leg (some 1) (nI s) (nI j) z (st h K mm) = rtI (g 46 (60 * s + j) * z / 100) (st h K1 mm)) ∧ Rel h K1 (upw g 46 (upd (g 46) (60 * s + j) (g 46 (60 * s + j) - g 46 (60 * s + j) * z / 100))) B nb nr ns np nsm d S := by
  have F := R.1.1
  have R20 := R.1.2.2.2.2.1
  have ns4 := R.1.2.1.2.2.1
  have q := row_se R20 hs
  obtain ⟨⟨q1, q2, q3, q4⟩, -⟩ := R.1.2.2.2.2.2.2.1 s hs
  have hv := (R.2.2.2.2.2.2.2.1.1 s hs).2
  refine ⟨upw K (ca h s) (upd (K (ca h s)) j (K (ca h s) j - K (ca h s) j * z / 100)), fun mm => ?_, ?_⟩
  · unfold M_X8_leg
    rw [c1 F, s_search_t F R20 ns4 hs, x_rtR, s_needCell_t hj, x_rtV, s_needRange_t hz, x_rtV, K_gr q.2.1, q1, s_lookAt q2 q3 (Or.inr (by omega)) hj, x_rtI, hv j hj]
  · refine R.srch hs (fun a h1 _ => upw_o h1) (fun a h1 h2 => by rw [upw_o h1]) (fun i hi => by rw [upw_o (by decide)]) (fun c hc => ?_) (fun i h1 h2 => ?_)
    · rw [upw_s, upw_s]
      unfold upd
      by_cases e : c = j
      · rw [if_pos e, if_pos (by omega), hv j hj]
      · rw [if_neg e, if_neg (by omega)]; exact hv c hc
    · rw [upw_s, upd_o (by omega)]
theorem kk_pass1 {M : Nat → Nat → Int32} (R : Rel h K g B nb nr ns np nsm d (Sst nst d)) (L : Cli g nb) (A : Abs g M nb nr ns nsm nst d) (hd : d < 1000) (hnr : nr ≤ 25) : ∃ h2 K2 g2 M2 nr2 nst2, (∀ mm, M_X8_pass (some 1) (1 : Int32) (st h K mm) = rtI (nI (d + 1)) (st h2 K2 mm)) ∧ (∀ h' K', Fix h' → M_L_passes (some 22) (some 23) (some 24) (some 25) (some 26) (some 27) (some 28) (some 29) (some 30) (some 31) (some 32) (some 33) (some 34) (some 35) (some 36) (some 37) (st h' K' M) = rtV (st h' K' M2)) ∧ Rel h2 K2 g2 B nb nr2 ns np nsm (d + 1) (Sst nst2 (d + 1)) ∧ Cli g2 nb ∧ Abs g2 M2 nb nr2 ns nsm nst2 (d + 1) ∧ nr2 ≤ 63 := by
  have F := R.1.1
  have hk9 : K 1 9 = nI d := R.2.2.1.2.2.2.2.2.1.1
  obtain ⟨h2, K2, g2, M2, nr2, nst2, a1, a2, a3, a4, a5, a6⟩ := day_ok R L A hd hnr
  have F2 := a3.1.1
  have hk92 : K2 1 9 = nI (d + 1) := a3.2.2.1.2.2.2.2.2.1.1
  refine ⟨h2, K2, g2, M2, nr2, nst2, fun mm => ?_, a2, a3, a4, a5, a6⟩
  unfold M_X8_pass
  rw [s_needRange_t (by decide), x_rtV, g1 F, hk9, x_bnd, show (1000 : Int32) - nI d = nI (1000 - d) from pk_sub (a := 1000) (by omega), if_pos (show (1 : Int32) ≤ nI (1000 - d) from nI_le (a := 1) (by omega) (by omega)), show fuel = 998 + 1 + 1 from rfl]
  show B_X8_pass_31 (L_X8_pass_31 (998 + 1)) (some 1) 1 0 (st h K mm) = _
  unfold B_X8_pass_31
  rw [if_neg (by decide), c1 F, a1 mm, x_rtV, x_bnd]
  show B_X8_pass_31 (L_X8_pass_31 998) (some 1) 1 (0 + 1) (st h2 K2 mm) = _
  unfold B_X8_pass_31
  rw [if_pos (by decide), g1 F2, hk92]
end
