/-! the law's day up to the floats keeps the rows together -/
theorem cond_iff {w y p q : Nat} (hw : w < 2 ^ 30) (hy : y < 2 ^ 30) (hp : p < 2 ^ 27) (hq : q < 2 ^ 27) : (5 * nI p - nI w ≤ 5 * nI q - nI y) ↔ (5 * (nI p - nI q) ≤ nI w - nI y) := by
  have e1 : (5 : Int32) * nI p = nI (5 * p) := pk_mul 5 p
  have e2 : (5 : Int32) * nI q = nI (5 * q) := pk_mul 5 q
  have e3 : (5 : Int32) * (nI p - nI q) = nI (5 * p) - nI (5 * q) := by rw [Int32.mul_sub, e1, e2]
  rw [e3, e1, e2, i_le, i_le, pk_sub_toInt (by omega) (by omega), pk_sub_toInt (by omega) (by omega), pk_sub_toInt (by omega) (by omega), pk_sub_toInt (by omega) (by omega)]
  omega
theorem Hts.flow {g : Nat → Nat → Int32} {T : Nat} (H : Hts (g 26) (g 27) T) (hT : T < 2 ^ 26) (hz : ∀ c, c < 60 → g 23 c ≠ 0 → g 26 c = 0 ∧ g 26 (60 + c) = 0 ∧ g 27 c = 0 ∧ g 27 (60 + c) = 0) : ∀ j, j < 120 → ∃ x y : Nat, x < 2 ^ 26 ∧ y < 2 ^ 26 ∧ flowM (m9 g) 26 j = nI x ∧ flowM (m9 g) 27 j = nI y := by
  obtain ⟨he, sa, h1, h2, h3⟩ := H
  have e9 : ∀ a, a ≠ 22 → m9 g a = g a := fun a ha => by unfold m9; rw [upw_o ha]
  have hz9 : ∀ c, c < 60 → m9 g 23 c ≠ 0 → m9 g 26 c = 0 ∧ m9 g 26 (60 + c) = 0 ∧ m9 g 27 c = 0 ∧ m9 g 27 (60 + c) = 0 := by
    rw [e9 23 (by decide), e9 26 (by decide), e9 27 (by decide)]; exact hz
  have s1 : smn he 60 ≤ smn he 120 := by rw [two60]; omega
  have s2 : smn sa 60 ≤ smn sa 120 := by rw [two60]; omega
  obtain ⟨f, f1, f2⟩ := flow_nI (la := g 23) (cu := g 24) (A := g 26) (fun j hj => (h1 j (by omega)).1) (by omega)
  obtain ⟨q, q1, q2⟩ := flow_nI (la := g 23) (cu := g 24) (A := g 27) (fun j hj => (h1 j (by omega)).2) (by omega)
  intro j hj
  by_cases h6 : j < 60
  · refine ⟨f j, q j, ?_, ?_, ?_, ?_⟩
    · have := smn_at (f := f) h6; omega
    · have := smn_at (f := q) h6; omega
    · rw [flowM_26 (fun c hc hl => (hz9 c hc hl).1) j h6, e9 23 (by decide), e9 24 (by decide), e9 26 (by decide)]; exact f1 j h6
    · rw [flowM_27 (fun c hc hl => (hz9 c hc hl).2.2.1) j h6, e9 23 (by decide), e9 24 (by decide), e9 27 (by decide)]; exact q1 j h6
  · refine ⟨he j, sa j, ?_, ?_, ?_, ?_⟩
    · have := smn_at (f := he) hj; omega
    · have := smn_at (f := sa) hj; omega
    · rw [flowM_26h _ (by omega), e9 26 (by decide)]; exact (h1 j hj).1
    · rw [flowM_27h _ (by omega), e9 27 (by decide)]; exact (h1 j hj).2
theorem V0_s {d : Nat} : V0 d + 3000 = V0 (d + 1) := by unfold V0; omega
theorem LFl.mono {r30 r31 r32 r33 r34 r35 f : Nat → Int32} {nb d d' : Nat} (L : LFl r30 r31 r32 r33 r34 r35 f nb d) (h : d ≤ d') : LFl r30 r31 r32 r33 r34 r35 f nb d' := by
  refine ⟨fun k hk1 => ?_, L.2⟩
  obtain ⟨h1, h2, y, z, hy, hz, e⟩ := L.1 k hk1
  refine ⟨h1, h2, y, z, ?_, ?_, e⟩
  · unfold V0 at hy ⊢; omega
  · unfold V0 at hz ⊢; omega
theorem LRd.mono {r40 r41 r42 r43 r44 D V W : Nat → Int32} {nb nr d d' : Nat} (L : LRd r40 r41 r42 r43 r44 D V W nb nr d) (h : d ≤ d') : LRd r40 r41 r42 r43 r44 D V W nb nr d' := by
  intro r hr1
  obtain ⟨dy, c, b, e, x, ⟨a1, a2, a3, a4⟩, a5⟩ := L r hr1
  refine ⟨dy, c, b, e, x, ⟨by omega, a2, a3, ?_⟩, a5⟩
  unfold V0 at a4 ⊢; omega
theorem dayM1_222 {g : Nat → Nat → Int32} : dayM1 g 22 2 = fo (gft (flowM (m9 g) 23) (flowM (m9 g) 25) (flowM (m9 g) 26)) (flowM (m9 g) 22 2) 60 := by
  unfold dayM1
  rw [warmM_22, upd_s]
def M1d (M : Nat → Nat → Int32) (d : Nat) : Nat → Nat → Int32 := upw M 37 (upd (M 37) 0 (nI (d + 1)))
def MdA (la cu : Nat → Int32) (M : Nat → Nat → Int32) (d : Nat) : Nat → Nat → Int32 := sB la (pA2 la cu (M1d M d)) 60
theorem pA2_r {la cu : Nat → Int32} {M : Nat → Nat → Int32} {a : Nat} (h : a ∉ [25, 35, 36]) : pA2 la cu M a = M a := by
  simp only [List.mem_cons, List.not_mem_nil, or_false, not_or] at h
  unfold pA2 pA1
  simp [upw, h]
theorem MdA_o {la cu : Nat → Int32} {M : Nat → Nat → Int32} {d a : Nat} (h : a ∉ [23, 24, 25, 26, 35, 36, 37]) : MdA la cu M d a = M a := by
  simp only [List.mem_cons, List.not_mem_nil, or_false, not_or] at h
  unfold MdA
  rw [sB_o (by simp; omega), pA2_r (by simp; omega)]
  unfold M1d
  rw [upw_o (by omega)]
theorem MdA_37 {la cu : Nat → Int32} {M : Nat → Nat → Int32} {d j : Nat} (h : j ≠ 1) : MdA la cu M d 37 j = upd (M 37) 0 (nI (d + 1)) j := by
  unfold MdA
  rw [sB_r.2.2.2.2, upd_o h, pA2_r (by decide)]
  unfold M1d
  rw [upw_s]
theorem s_passA {h : MH} {K M : Nat → Nat → Int32} {la cu : Nat → Int32} {d : Nat} (F : Fix h) (S : LSea la cu (M 22)) (hd : M 37 0 = nI d) : M_L_passes (some 22) (some 23) (some 24) (some 25) (some 26) (some 27) (some 28) (some 29) (some 30) (some 31) (some 32) (some 33) (some 34) (some 35) (some 36) (some 37) (st h K M) = L_L_passes_256 fuel (some 22) (some 23) (some 27) (some 28) (some 29) (some 30) (some 31) (some 32) (some 33) (some 34) (some 35) (some 36) (some 37) 0 (st h K (MdA la cu M d)) := by
  unfold M_L_passes
  rw [rq0 F, hd, x_bnd, nIs, wq0 F]
  have S1 : LSea la cu (M1d M d 22) := S
  rw [show upw M 37 (upd (M 37) 0 (nI (d + 1))) = M1d M d from rfl, s_pass11 F S1, s_pass83 F (N := pA2 la cu (M1d M d)) (by rw [pA2_r (by decide)]; exact S1)]
  rfl
theorem Abs.A {g M : Nat → Nat → Int32} {nb nr ns nsm nst d : Nat} (A : Abs g M nb nr ns nsm nst d) (hd : d < 1000) (hz : ∀ c, c < 60 → g 23 c ≠ 0 → g 26 c = 0 ∧ g 26 (60 + c) = 0 ∧ g 27 c = 0 ∧ g 27 (60 + c) = 0) (hz' : ∀ c, c < 60 → dayM1 g 23 c ≠ 0 → dayM1 g 26 c = 0 ∧ dayM1 g 26 (60 + c) = 0 ∧ dayM1 g 27 c = 0 ∧ dayM1 g 27 (60 + c) = 0) : Abs (dayM1 g) (MdA (g 23) (g 24) M d) nb nr ns nsm nst (d + 1) := by
  obtain ⟨A1, A2, A3, A4, A5, A6, A7, A8⟩ := A
  obtain ⟨A2a, A2b⟩ := A2
  obtain ⟨A3a, A3b, A3c⟩ := A3
  have hT : V0 d < 2 ^ 26 := by unfold V0; omega
  have HF := A2b.flow hT hz
  have hdm : ∀ a, a ∉ [22, 26, 27, 28, 29] → dayM1 g a = g a := fun a ha => dayM1_o ha
  have e9 : ∀ a, a ≠ 22 → m9 g a = g a := fun a ha => by unfold m9; rw [upw_o ha]
  have fo9 : ∀ a, a ∉ [22, 26, 27, 28, 29] → flowM (m9 g) a = g a := fun a ha => by
    simp only [List.mem_cons, List.not_mem_nil, or_false, not_or] at ha
    rw [flowM_o (by omega), e9 a ha.1]
  have hz9 : ∀ c, c < 60 → m9 g 23 c ≠ 0 → m9 g 26 c = 0 ∧ m9 g 26 (60 + c) = 0 ∧ m9 g 27 c = 0 ∧ m9 g 27 (60 + c) = 0 := by
    rw [e9 23 (by decide), e9 26 (by decide), e9 27 (by decide)]; exact hz
  have f26 : ∀ c, c < 60 → flowM (m9 g) 26 c = fo (flw (g 23) (g 24) (g 26)) (g 26) 60 c := fun c hc => by
    rw [flowM_26 (fun c hc hl => (hz9 c hc hl).1) c hc, e9 23 (by decide), e9 24 (by decide), e9 26 (by decide)]
  have f27 : ∀ c, c < 60 → flowM (m9 g) 27 c = fo (flw (g 23) (g 24) (g 27)) (g 27) 60 c := fun c hc => by
    rw [flowM_27 (fun c hc hl => (hz9 c hc hl).2.2.1) c hc, e9 23 (by decide), e9 24 (by decide), e9 27 (by decide)]
  have hcu : Cur (g 24) := A1.cur
  have w26 : ∀ c, c < 60 → fwd (g 23) (g 24) (M 23) c = flowM (m9 g) 26 c := fun c hc => by
    rw [f26 c hc]
    unfold fwd
    by_cases hl : g 23 c = 0
    · rw [if_pos hl, flwd_congr hc (fun x hx => (A2a x hx).1), flow_gather hcu (fun x hx hlx => (hz x hx hlx).1) hc]
    · rw [if_neg hl, flw_land (fun x hx hlx => (hz x hx hlx).1) (Nat.le_refl _) hl, (hz c hc hl).1]
  have w27 : ∀ c, c < 60 → fwd (g 23) (g 24) (M 25) c = flowM (m9 g) 27 c := fun c hc => by
    rw [f27 c hc]
    unfold fwd
    by_cases hl : g 23 c = 0
    · rw [if_pos hl, flwd_congr hc (fun x hx => (A2a x hx).2.2.1), flow_gather hcu (fun x hx hlx => (hz x hx hlx).2.2.1) hc]
    · rw [if_neg hl, flw_land (fun x hx hlx => (hz x hx hlx).2.2.1) (Nat.le_refl _) hl, (hz c hc hl).2.2.1]
  obtain ⟨N, hN⟩ : ∃ N, N = pA2 (g 23) (g 24) (M1d M d) := ⟨_, rfl⟩
  have n35 : ∀ c, c < 60 → N 35 c = flowM (m9 g) 26 c := fun c hc => by
    rw [← w26 c hc, hN]
    unfold pA2 pA1
    rw [upw_o (by decide), upw_o (by decide), upw_s]
    unfold ptw
    rw [if_pos hc]; rfl
  have n25 : ∀ c, c < 60 → N 25 c = flowM (m9 g) 27 c := fun c hc => by
    rw [← w27 c hc, hN]
    unfold pA2
    rw [upw_s]
    unfold pA1
    rw [upw_s]
    unfold ptw
    rw [if_pos hc, if_pos hc]; rfl
  have n24 : ∀ c, c < 60 → N 24 c = hi6 (flowM (m9 g) 26) c := fun c hc => by
    rw [hN, pA2_r (by decide)]
    show M 24 c = flowM (m9 g) 26 (60 + c)
    rw [flowM_26h _ (by omega), e9 26 (by decide)]; exact (A2a c hc).2.1
  have n26 : ∀ c, c < 60 → N 26 c = hi6 (flowM (m9 g) 27) c := fun c hc => by
    rw [hN, pA2_r (by decide)]
    show M 26 c = flowM (m9 g) 27 (60 + c)
    rw [flowM_27h _ (by omega), e9 27 (by decide)]; exact (A2a c hc).2.2.2
  have n37 : ∀ j, j ≠ 0 → N 37 j = M 37 j := fun j hj => by
    rw [hN, pA2_r (by decide)]
    show upw M 37 _ 37 j = _
    rw [upw_s, upd_o hj]
  have hit : ∀ c, c < 60 → itN (g 23) N c = wr1 (flowM (m9 g)) c := fun c hc => by
    show _ = wrm _ _ _ c
    unfold itN wrm
    rw [fo9 23 (by decide), fo9 25 (by decide), n35 c hc, n37 _ (by omega), A3a _ (by omega)]
    by_cases hl : g 23 c = 0
    · rw [if_pos hl, if_pos hl]
    · rw [if_neg hl, if_neg hl, f26 c hc, flw_land (fun x hx hlx => (hz x hx hlx).1) (Nat.le_refl _) hl, (hz c hc hl).1]
  have hwb : ∀ c, c < 60 → ∃ w, w < 2 ^ 30 ∧ wr1 (flowM (m9 g)) c = nI w := fun c hc => by
    show ∃ w, w < 2 ^ 30 ∧ wrm _ _ _ c = nI w
    obtain ⟨x, y, hx, hy, e1, e2⟩ := HF c (by omega)
    unfold wrm
    rw [fo9 23 (by decide), fo9 25 (by decide), e1]
    by_cases hl : g 23 c = 0
    · rw [if_pos hl]
      obtain ⟨k, hk, ek⟩ := A3b (c / 10) (by omega)
      rw [ek]
      obtain ⟨y, hy, ey⟩ := mx0_nI (x := x) (k := k) (by omega) hk
      exact ⟨y, by omega, ey⟩
    · rw [if_neg hl]; exact ⟨x, by omega, rfl⟩
  have hcd : ∀ c, c < 60 → ((5 * flowM (m9 g) 27 c - wr1 (flowM (m9 g)) c ≤ 5 * hi6 (flowM (m9 g) 27) c - hi6 (flowM (m9 g) 26) c) ↔ (5 * (N 25 c - N 26 c) ≤ itN (g 23) N c - N 24 c)) := fun c hc => by
    obtain ⟨w, hw, ew⟩ := hwb c hc
    obtain ⟨x1, y1, hx1, hy1, e1, e2⟩ := HF c (by omega)
    obtain ⟨x2, y2, hx2, hy2, e3, e4⟩ := HF (60 + c) (by omega)
    rw [hit c hc, n25 c hc, n26 c hc, n24 c hc, ew, e2]
    unfold hi6
    rw [e3, e4]
    exact cond_iff hw (by omega) (by omega) (by omega)
  have hM : MdA (g 23) (g 24) M d = sB (g 23) N 60 := by rw [hN]; rfl
  obtain ⟨v23, v24, v25, v26, v37⟩ := sB_r (la := g 23) (N := N) (i := 60)
  have hq0 : ∀ j, j ≠ 1 → j ≠ 0 → MdA (g 23) (g 24) M d 37 j = M 37 j := fun j h1 h0 => by rw [MdA_37 h1, upd_o h0]
  refine ⟨?_, ⟨?_, ?_⟩, ⟨?_, ?_, ?_⟩, ?_, ?_, ?_, ?_, ?_⟩
  · rw [hdm 23 (by decide), hdm 24 (by decide), MdA_o (by decide)]; exact A1
  · intro c hc
    rw [hM, v23, v24, v25, v26]
    obtain ⟨r1, r2, r3, r4⟩ := warmM_r (m := flowM (m9 g)) hc
    have pt : ∀ w r : Nat → Int32, ptw w r 60 c = w c := fun w r => if_pos hc
    rw [pt, pt, pt, pt]
    by_cases hl : g 23 c = 0
    · unfold dayM1
      rw [r1, r2, r3, r4]
      unfold tHN tUN tAN tBN tnA tnB tnS tnT
      rw [if_pos hl, if_pos hl, if_pos hl, if_pos hl]
      by_cases hcn : 5 * flowM (m9 g) 27 c - wr1 (flowM (m9 g)) c ≤ 5 * hi6 (flowM (m9 g) 27) c - hi6 (flowM (m9 g) 26) c
      · have hcn' := (hcd c hc).mp hcn
        rw [if_pos hcn', if_pos hcn', if_pos hcn', if_pos hcn', if_pos hcn, if_pos hcn, if_pos hcn, if_pos hcn]
        exact ⟨hit c hc, n24 c hc, n25 c hc, n26 c hc⟩
      · have hcn' : ¬ 5 * (N 25 c - N 26 c) ≤ itN (g 23) N c - N 24 c := fun z => hcn ((hcd c hc).mpr z)
        rw [if_neg hcn', if_neg hcn', if_neg hcn', if_neg hcn', if_neg hcn, if_neg hcn, if_neg hcn, if_neg hcn, hit c hc, n24 c hc, n25 c hc, n26 c hc]
        exact ⟨rfl, rfl, rfl, rfl⟩
    · obtain ⟨z1, z2, z3, z4⟩ := hz' c hc (by rw [hdm 23 (by decide)]; exact hl)
      obtain ⟨y1, y2, y3, y4⟩ := hz c hc hl
      rw [z1, z2, z3, z4]
      unfold tHN tUN tAN tBN
      rw [if_neg hl, if_neg hl, if_neg hl, if_neg hl, n24 c hc, n25 c hc, n26 c hc]
      unfold hi6
      rw [flowM_26h (60 + c) (by omega), flowM_27h (60 + c) (by omega), e9 26 (by decide), e9 27 (by decide), y2, y4, f27 c hc, flw_land (fun x hx hlx => (hz x hx hlx).2.2.1) (Nat.le_refl _) hl, y3]
      exact ⟨rfl, rfl, rfl, rfl⟩
  · rw [← V0_s]
    exact A2b.day A3b (by omega) hz
  · intro y hy
    rw [hq0 _ (by omega) (by omega), hdm 25 (by decide)]; exact A3a y hy
  · rw [hdm 25 (by decide)]; exact A3b
  · rw [hM, v37, upd_s, dayM1_222, n37 1 (by decide), A3c, fo9 23 (by decide), fo9 25 (by decide)]
    have e22 : flowM (m9 g) 22 2 = g 22 2 := by
      rw [flowM_o (by decide)]
      unfold m9
      rw [upw_s, upd_o (by decide)]
    rw [e22]
    refine fo_congr (fun i hi t => ?_)
    unfold ggN gft
    have h1 := hit i hi
    rw [h1, n35 i hi]
    show t + (wrm (flowM (m9 g) 23) (flowM (m9 g) 25) (flowM (m9 g) 26) i - flowM (m9 g) 26 i) = _
    unfold wrm
    rw [fo9 23 (by decide), fo9 25 (by decide)]
    by_cases hl : g 23 i = 0
    · rw [if_pos hl, if_pos hl]
    · rw [if_neg hl, if_neg hl, Int32.sub_self, Int32.add_zero]
  · rw [hdm 30 (by decide), hdm 31 (by decide), hdm 32 (by decide), hdm 33 (by decide), hdm 34 (by decide), hdm 35 (by decide), MdA_o (by decide)]
    exact A4.mono (Nat.le_succ d)
  · rw [hdm 40 (by decide), hdm 41 (by decide), hdm 42 (by decide), hdm 43 (by decide), hdm 44 (by decide), MdA_o (by decide), MdA_o (by decide), MdA_o (by decide)]
    exact A5.mono (Nat.le_succ d)
  · rw [hdm 23 (by decide), hdm 46 (by decide), MdA_o (by decide), MdA_o (by decide)]; exact A6
  · rw [hdm 36 (by decide), hdm 37 (by decide), hdm 38 (by decide), hdm 39 (by decide), MdA_o (by decide), MdA_o (by decide)]; exact A7
  · obtain ⟨⟨q0, q2, q3, q4, q5, q6⟩, ⟨q7, q8⟩, q9⟩ := A8
    have e29 : dayM1 g 22 29 = g 22 29 := by rw [dayM1_22 (by decide), upd_o (by decide)]
    refine ⟨⟨?_, ?_, ?_, ?_, ?_, ?_⟩, ⟨?_, ?_⟩, ?_⟩
    · rw [MdA_37 (by decide), upd_s]
    · rw [hq0 _ (by decide) (by decide)]; exact q2
    · rw [hq0 _ (by decide) (by decide)]; exact q3
    · rw [hq0 _ (by decide) (by decide)]; exact q4
    · rw [hq0 _ (by decide) (by decide)]; exact q5
    · rw [hq0 _ (by decide) (by decide)]; exact q6
    · rw [hq0 _ (by decide) (by decide), e29]; exact q7
    · rw [e29]; exact q8
    · intro s hs
      rw [hq0 _ (by omega) (by omega), hdm 45 (by decide)]; exact q9 s hs
