/-! the chances of a day, in the law -/
theorem bsw_congr {la A B : Nat → Int32} {c k : Nat} (hc : c < 60) (h : ∀ x, x < 60 → A x = B x) : bsw la A c k = bsw la B c k := by
  unfold bsw
  cases hb : bes la c k with
  | none => rfl
  | some q =>
    simp only
    rw [h q (bes_lt hc hb)]
theorem drfd_congr {la cu A B : Nat → Int32} {c : Nat} (hc : c < 60) (h : ∀ x, x < 60 → A x = B x) : drfd la cu A c = drfd la cu B c := by
  have e : ∀ x, x < 60 → (fun x => 4 * A x / 10) x = (fun x => 4 * B x / 10) x := fun x hx => by show 4 * A x / 10 = 4 * B x / 10; rw [h x hx]
  unfold drfd
  simp only
  rw [h c hc, inw_congr (k := 1) hc e, inw_congr (k := 2) hc e, inw_congr (k := 3) hc e, inw_congr (k := 4) hc e, bsw_congr (k := 1) hc h, bsw_congr (k := 2) hc h, bsw_congr (k := 3) hc h, bsw_congr (k := 4) hc h]
def dwd (la cu A : Nat → Int32) (c : Nat) : Int32 := if la c = 0 then drfd la cu A c else 0
theorem dwd_eq {la cu A B : Nat → Int32} {c : Nat} (hcu : Cur cu) (hA : ∀ x, x < 60 → la x ≠ 0 → B x = 0) (hAB : ∀ x, x < 60 → A x = B x) (hc : c < 60) : dwd la cu A c = fo (drf la cu B) B 60 c := by
  unfold dwd
  by_cases hl : la c = 0
  · rw [if_pos hl, drfd_congr hc hAB, drift_gather hcu hA hc hl]
  · rw [if_neg hl, drift_land hA (Nat.le_refl _) hl, hA c hc hl]
def pD (la cu : Nat → Int32) (M : Nat → Nat → Int32) (i : Nat) : Nat → Nat → Int32 := upw (upw M 35 (ptw (dwd la cu (M 33)) (M 35) i)) 36 (ptw (dwd la cu (M 34)) (M 36) i)
def pD2 (la cu : Nat → Int32) (M : Nat → Nat → Int32) : Nat → Nat → Int32 := upw (upw (pD la cu M 60) 33 (ptw (pD la cu M 60 35) (M 33) 60)) 34 (ptw (pD la cu M 60 36) (M 34) 60)
theorem s_pass466 {h : MH} {K M : Nat → Nat → Int32} {la cu : Nat → Int32} (F : Fix h) (S : LSea la cu (M 22)) : L_L_passes_466 fuel (some 22) (some 23) (some 28) (some 29) (some 30) (some 31) (some 32) (some 33) (some 34) (some 35) (some 36) (some 37) 0 (st h K M) = L_L_passes_548 fuel (some 23) (some 28) (some 29) (some 30) (some 31) (some 32) (some 37) 0 (st h K (pD2 la cu M)) := by
  have e0 : pD la cu M 0 = M := by
    unfold pD
    rw [ptw_0, ptw_0, upw_id, upw_id]
  have g (i a : Nat) (h1 : a ≠ 35) (h2 : a ≠ 36) : pD la cu M i a = M a := by unfold pD; rw [upw_o h2, upw_o h1]
  have hG := zlp0 (G := fun n i => L_L_passes_466 n (some 22) (some 23) (some 28) (some 29) (some 30) (some 31) (some 32) (some 33) (some 34) (some 35) (some 36) (some 37) (nI i) (st h K (pD la cu M i))) (N := 60) (r := L_L_passes_548 fuel (some 23) (some 28) (some 29) (some 30) (some 31) (some 32) (some 37) 0 (st h K (pD2 la cu M))) (by decide) ?_ ?_
  · rw [e0] at hG; exact hG
  · intro n i hi
    have S1 : LSea la cu (pD la cu M i 22) := by rw [g i 22 (by decide) (by decide)]; exact S
    have e35 : upd (pD la cu M i 35) i (dwd la cu (M 33) i) = ptw (dwd la cu (M 33)) (M 35) (i + 1) := by
      show upd (upw (upw M 35 _) 36 _ 35) i _ = _
      rw [upw_o (by decide), upw_s]; exact ptw_n rfl
    have e36 : upd (pD la cu M i 36) i (dwd la cu (M 34) i) = ptw (dwd la cu (M 34)) (M 36) (i + 1) := by
      show upd (upw (upw M 35 _) 36 _ 36) i _ = _
      rw [upw_s]; exact ptw_n rfl
    have fin : upw (upw (pD la cu M i) 35 (ptw (dwd la cu (M 33)) (M 35) (i + 1))) 36 (ptw (dwd la cu (M 34)) (M 36) (i + 1)) = pD la cu M (i + 1) := by
      funext a
      unfold pD
      by_cases h1 : a = 36
      · subst h1; simp [upw]
      · by_cases h2 : a = 35
        · subst h2; simp [upw]
        · simp [upw, h1, h2]
    show B_L_passes_466 (L_L_passes_466 n) (some 22) (some 23) (some 28) (some 29) (some 30) (some 31) (some 32) (some 33) (some 34) (some 35) (some 36) (some 37) (nI i) (st h K (pD la cu M i)) = L_L_passes_466 n (some 22) (some 23) (some 28) (some 29) (some 30) (some 31) (some 32) (some 33) (some 34) (some 35) (some 36) (some 37) (nI (i + 1)) (st h K (pD la cu M (i + 1)))
    unfold B_L_passes_466 B_L_passes_498 B_L_passes_524
    rw [if_neg (show ¬ (60 : Int32) ≤ nI i from nI_ge (b := 60) hi (by decide)), d22 F hi]
    by_cases hl : la i = 0
    · have hn := (S1.sea hi hl).2.2.1
      have S2 : LSea la cu (upw (pD la cu M i) 35 (ptw (dwd la cu (M 33)) (M 35) (i + 1)) 22) := by rw [upw_o (by decide)]; exact S1
      have v33 : drfd la cu (pD la cu M i 33) i = dwd la cu (M 33) i := by rw [g i 33 (by decide) (by decide)]; exact (if_pos hl).symm
      have v34 : drfd la cu (upw (pD la cu M i) 35 (ptw (dwd la cu (M 33)) (M 35) (i + 1)) 34) i = dwd la cu (M 34) i := by rw [upw_o (by decide), g i 34 (by decide) (by decide)]; exact (if_pos hl).symm
      rw [if_pos hn, s_drifted F S1 (Fk33 F) (Fl33 F) ⟨by decide, by decide⟩ hi, x_rtI, v33, w35 F hi, e35, d22 F hi, upw_o (show (22 : Nat) ≠ 35 by decide), if_pos hn, s_drifted F S2 (Fk34 F) (Fl34 F) ⟨by decide, by decide⟩ hi, x_rtI, v34, w36 F hi, upw_o (show (36 : Nat) ≠ 35 by decide), e36, x_bnd, nIs, fin]
    · have hn := (S1.lnd hi hl).2.2.1
      have v33 : dwd la cu (M 33) i = 0 := if_neg hl
      have v34 : dwd la cu (M 34) i = 0 := if_neg hl
      rw [v33] at e35
      rw [v34] at e36
      rw [if_neg hn, w35 F hi, e35, d22 F hi, upw_o (show (22 : Nat) ≠ 35 by decide), if_neg hn, w36 F hi, upw_o (show (36 : Nat) ≠ 35 by decide), e36, x_bnd, nIs, fin]
  · intro n
    show B_L_passes_466 (L_L_passes_466 n) (some 22) (some 23) (some 28) (some 29) (some 30) (some 31) (some 32) (some 33) (some 34) (some 35) (some 36) (some 37) (nI 60) (st h K (pD la cu M 60)) = _
    unfold B_L_passes_466
    rw [if_pos (show (60 : Int32) ≤ nI 60 from nI_le (a := 60) (Nat.le_refl _) (by decide)), s_copies (Fk35 F) (Fl35 F) ⟨by decide, by decide⟩ (Fk33 F) (Fl33 F) ⟨by decide, by decide⟩ (by decide), x_rtV, s_copies (Fk36 F) (Fl36 F) ⟨by decide, by decide⟩ (Fk34 F) (Fl34 F) ⟨by decide, by decide⟩ (by decide), x_rtV, g 60 33 (by decide) (by decide), upw_o (show (36 : Nat) ≠ 33 by decide), upw_o (show (34 : Nat) ≠ 33 by decide), g 60 34 (by decide) (by decide)]
    rfl
/-- the chances of one search, a day on -/
def drw (g : Nat → Nat → Int32) (s c : Nat) : Int32 := fo (drf (g 23) (g 24) (fun c => g 46 (60 * s + c))) (fun c => g 46 (60 * s + c)) 60 c
theorem searches_ok {B nb nr ns np nsm d : Nat} {S : STy} {h : MH} : ∀ k i K g, i + k = ns → Rel h K g B nb nr ns np nsm d S → Cli g nb → ∃ K2 g2, (∀ mm n, 4 - i < n → L_X8_passOneDay_86 n (some 1) (some 20) (nI 4) (nI i) (st h K mm) = calV (M_X8_readAtStations (some 1) (st h K2 mm)) fun h18 => rtV h18) ∧ Rel h K2 g2 B nb nr ns np nsm d S ∧ Cli g2 nb ∧ (∀ a, a ≠ 28 → a ≠ 46 → g2 a = g a) ∧ ∀ s c, c < 60 → g2 46 (60 * s + c) = if i ≤ s ∧ s < ns then drw g s c else g 46 (60 * s + c) := by
  intro k
  induction k with
  | zero =>
    intro i K g hi R L
    have ns4 := R.1.2.1.2.2.1
    exact ⟨K, g, fun mm n hn1 => s_skip86 R.1.1 R.1.2.2.2.2.1 (4 - i) n i (by omega) hn1 (by omega), R, L, fun a _ _ => rfl, fun s c _ => by rw [if_neg (by omega)]⟩
  | succ k ih =>
    intro i K g hi R L
    have ns4 := R.1.2.1.2.2.1
    have F := R.1.1
    have hin : i < ns := by omega
    have q := row_se R.1.2.2.2.2.1 hin
    obtain ⟨⟨q1, q2, q3, q4⟩, q5, q6, q7, q8⟩ := R.1.2.2.2.2.2.2.1 i hin
    have hne := R.1.2.2.2.2.2.2.2.2 i i hin hin
    have C1 := R.2.1
    have hcur : Cur (g 24) := C1.2.2.2.2.2
    have L1 : Cli (driftM g i) nb := by
      intro k hk1 h1
      rw [drift_o (by decide)] at h1 ⊢
      exact L k hk1 h1
    obtain ⟨K2, g2, w1, w3, w4, w5, w6⟩ := ih (i + 1) _ _ (by omega) (R.go hin) L1
    refine ⟨K2, g2, fun mm n hn1 => ?_, w3, w4, fun a h1 h2 => by rw [w5 a h1 h2, drift_o ⟨h1, h2⟩], fun s c hc => ?_⟩
    · obtain ⟨n, rfl⟩ : ∃ q, n = q + 1 := ⟨n - 1, by omega⟩
      show B_X8_passOneDay_86 (L_X8_passOneDay_86 n) (some 1) (some 20) (nI 4) (nI i) (st h K mm) = _
      unfold B_X8_passOneDay_86
      rw [if_neg (nI_ge (by omega) (by decide)), d20 F (by omega), q.1, if_neg (by intro z; cases z), r1_0 F, K_ck q.2.1, s_goOn F (by rw [C1.1.2.1]; exact hcur) q.2.1 q1 q5 q2 q3 q4 q6 q7 q8 hne, x_rtV]
      unfold B_X8_passOneDay_110
      rw [x_bnd, nIs, w1 mm n (by omega)]
    · rw [w6 s c hc]
      by_cases e : s = i
      · subst e
        rw [if_neg (by omega), if_pos ⟨Nat.le_refl _, hin⟩, drift_46 hc]; rfl
      · have hrow : ∀ c, c < 60 → driftM g i 46 (60 * s + c) = g 46 (60 * s + c) := fun c hc => drift_46o (by omega)
        by_cases h2 : i + 1 ≤ s ∧ s < ns
        · rw [if_pos h2, if_pos ⟨by omega, h2.2⟩]
          unfold drw
          rw [drift_o (by decide), drift_o (by decide)]
          exact fo_drf_congr (Nat.le_refl _) (fun x hx => hrow x hx) (hrow c hc)
        · rw [if_neg h2, if_neg (by omega)]
          exact hrow c hc
theorem drw_0 {g : Nat → Nat → Int32} {s c : Nat} (h : ∀ x, x < 60 → g 46 (60 * s + x) = 0) (hc : c < 60) : drw g s c = 0 := by
  have hz : smn (fun _ => 0) 60 = 0 := rfl
  obtain ⟨f, h1, h2⟩ := drift_nI (la := g 23) (cu := g 24) (A := fun c => g 46 (60 * s + c)) (a := fun _ => 0) (fun j hj => h j hj) (by rw [hz]; decide)
  rw [hz] at h2
  have := smn_at (f := f) hc
  unfold drw
  rw [h1 c hc, show f c = 0 by omega]; rfl
theorem Abs.C {g g2 M : Nat → Nat → Int32} {nb nr ns nsm nst d : Nat} (A : Abs g M nb nr ns nsm nst d) (hg : ∀ a, a ≠ 28 → a ≠ 46 → g2 a = g a) (h46 : ∀ s c, c < 60 → g2 46 (60 * s + c) = if 0 ≤ s ∧ s < ns then drw g s c else g 46 (60 * s + c)) (hz : ∀ j, 60 * ns ≤ j → j < 240 → g 46 j = 0) : Abs g2 (pD2 (g 23) (g 24) M) nb nr ns nsm nst d := by
  obtain ⟨A1, A2, A3, A4, A5, A6, A7, A8⟩ := A
  obtain ⟨A6a, ch, B1, B2, B3, B4⟩ := A6
  have hcu : Cur (g 24) := A1.cur
  have mo : ∀ a, a ∉ [33, 34, 35, 36] → pD2 (g 23) (g 24) M a = M a := fun a ha => by
    simp only [List.mem_cons, List.not_mem_nil, or_false, not_or] at ha
    unfold pD2 pD
    simp [upw, ha]
  have hrow : ∀ s c, s < 2 → c < 60 → g2 46 (60 * s + c) = drw g s c := fun s c hs hc => by
    rw [h46 s c hc]
    by_cases q : s < ns
    · rw [if_pos ⟨Nat.zero_le _, q⟩]
    · rw [if_neg (by omega), hz _ (by omega) (by omega), drw_0 (fun x hx => hz _ (by omega) (by omega)) hc]
  have hland : ∀ s, s < 2 → ∀ x, x < 60 → g 23 x ≠ 0 → g 46 (60 * s + x) = 0 := fun s hs x hx hl => by
    rw [B1 _ (by omega)]
    obtain ⟨z1, z2⟩ := B4 x hx hl
    rcases (show s = 0 ∨ s = 1 by omega) with rfl | rfl
    · rw [show 60 * 0 + x = x by omega, z1]; rfl
    · rw [show 60 * 1 + x = 60 + x by omega, z2]; rfl
  have m33 : ∀ c, c < 60 → pD2 (g 23) (g 24) M 33 c = g2 46 c := fun c hc => by
    have e1 : pD2 (g 23) (g 24) M 33 c = dwd (g 23) (g 24) (M 33) c := by
      unfold pD2
      rw [upw_o (by decide), upw_s]
      unfold ptw
      rw [if_pos hc]
      unfold pD
      rw [upw_o (by decide), upw_s]
      unfold ptw
      rw [if_pos hc]
    have e2 := hrow 0 c (by decide) hc
    rw [show 60 * 0 + c = c by omega] at e2
    rw [e1, e2, dwd_eq (B := fun c => g 46 (60 * 0 + c)) hcu (hland 0 (by decide)) (fun x hx => by show M 33 x = g 46 (60 * 0 + x); rw [show 60 * 0 + x = x by omega]; exact (A6a x hx).1) hc]
    rfl
  have m34 : ∀ c, c < 60 → pD2 (g 23) (g 24) M 34 c = g2 46 (60 + c) := fun c hc => by
    have e1 : pD2 (g 23) (g 24) M 34 c = dwd (g 23) (g 24) (M 34) c := by
      unfold pD2
      rw [upw_s]
      unfold ptw
      rw [if_pos hc]
      unfold pD
      rw [upw_s]
      unfold ptw
      rw [if_pos hc]
    have e2 := hrow 1 c (by decide) hc
    rw [show 60 * 1 + c = 60 + c by omega] at e2
    rw [e1, e2, dwd_eq (B := fun c => g 46 (60 * 1 + c)) hcu (hland 1 (by decide)) (fun x hx => by show M 34 x = g 46 (60 * 1 + x); rw [show 60 * 1 + x = 60 + x by omega]; exact (A6a x hx).2) hc]
    rfl
  obtain ⟨f0, p1, p2⟩ := drift_nI (la := g 23) (cu := g 24) (A := fun c => g 46 (60 * 0 + c)) (a := ch) (fun j hj => by show g 46 (60 * 0 + j) = _; rw [show 60 * 0 + j = j by omega]; exact B1 j (by omega)) (by omega)
  obtain ⟨f1, r1, r2⟩ := drift_nI (la := g 23) (cu := g 24) (A := fun c => g 46 (60 * 1 + c)) (a := fun j => ch (60 + j)) (fun j hj => by show g 46 (60 * 1 + j) = _; rw [show 60 * 1 + j = 60 + j by omega]; exact B1 _ (by omega)) (by omega)
  have n0 : ∀ x : Nat, x ≤ 10000 → nI x = 0 → x = 0 := fun x hx e => (nI_eq (by omega) (by omega)).mp (show nI x = nI 0 from e)
  refine ⟨?_, ?_, ?_, ?_, ?_, ⟨fun c hc => ⟨m33 c hc, m34 c hc⟩, fun j => if j < 60 then f0 j else f1 (j - 60), fun j hj => ?_, ?_, ?_, fun c hc hl => ?_⟩, ?_, ?_⟩
  · rw [hg 23 (by decide) (by decide), hg 24 (by decide) (by decide), mo 22 (by decide)]; exact A1
  · rw [hg 26 (by decide) (by decide), hg 27 (by decide) (by decide), mo 23 (by decide), mo 24 (by decide), mo 25 (by decide), mo 26 (by decide)]; exact A2
  · rw [hg 25 (by decide) (by decide), hg 22 (by decide) (by decide), mo 37 (by decide)]; exact A3
  · rw [hg 30 (by decide) (by decide), hg 31 (by decide) (by decide), hg 32 (by decide) (by decide), hg 33 (by decide) (by decide), hg 34 (by decide) (by decide), hg 35 (by decide) (by decide), mo 27 (by decide)]; exact A4
  · rw [hg 40 (by decide) (by decide), hg 41 (by decide) (by decide), hg 42 (by decide) (by decide), hg 43 (by decide) (by decide), hg 44 (by decide) (by decide), mo 30 (by decide), mo 31 (by decide), mo 32 (by decide)]; exact A5
  · by_cases q : j < 60
    · have e2 := hrow 0 j (by decide) q
      rw [show 60 * 0 + j = j by omega] at e2
      rw [e2]
      simp only [if_pos q]; exact p1 j q
    · have e2 := hrow 1 (j - 60) (by decide) (by omega)
      rw [show 60 * 1 + (j - 60) = j by omega] at e2
      rw [e2]
      simp only [if_neg q]; exact r1 (j - 60) (by omega)
  · rw [smn_congr (g := f0) (fun j hj => if_pos hj), p2]; exact B2
  · rw [smn_congr (g := f1) (fun j hj => by show (if 60 + j < 60 then f0 (60 + j) else f1 (60 + j - 60)) = f1 j; rw [if_neg (by omega), show 60 + j - 60 = j by omega]), r2]; exact B3
  · rw [hg 23 (by decide) (by decide)] at hl
    simp only [if_pos hc, show ¬ 60 + c < 60 by omega, if_false, show 60 + c - 60 = c by omega]
    constructor
    · refine n0 _ (by have := smn_at (f := f0) hc; omega) ?_
      rw [← p1 c hc, drift_land (hland 0 (by decide)) (Nat.le_refl _) hl]
      exact hland 0 (by decide) c hc hl
    · refine n0 _ (by have := smn_at (f := f1) hc; omega) ?_
      rw [← r1 c hc, drift_land (hland 1 (by decide)) (Nat.le_refl _) hl]
      exact hland 1 (by decide) c hc hl
  · rw [hg 36 (by decide) (by decide), hg 37 (by decide) (by decide), hg 38 (by decide) (by decide), hg 39 (by decide) (by decide), mo 28 (by decide), mo 29 (by decide)]; exact A7
  · rw [hg 22 (by decide) (by decide), hg 45 (by decide) (by decide), mo 37 (by decide)]; exact A8
