/-! the start: the constructor is run, then the law's rows -/
theorem sI_sIr {h : MH} {a j : Nat} {g : Nat → Int32} {v : Int32} : sI (sIr h a g) a j v = sIr h a (upd g j v) := by
  have e : up2 (upr (hi h) a g) a j v = upr (hi h) a (upd g j v) := by
    funext b k
    unfold up2 upr upd
    by_cases h1 : b = a
    · by_cases h2 : k = j
      · rw [if_pos ⟨h1, h2⟩, if_pos h1, if_pos h2]
      · rw [if_neg (fun z => h2 z.2), if_pos h1, if_pos h1, if_neg h2]
    · rw [if_neg (fun z => h1 z.1), if_neg h1, if_neg h1]
  show (hk h, hl h, up2 (upr (hi h) a g) a j v, hr h, hq h, hn h, hc h, hs h) = _
  rw [e]; rfl
def fl (g : Nat → Int32) (v : Int32) (n : Nat) : Nat → Int32 := fun j => if j < n then v else g j
theorem fl_0 {g : Nat → Int32} {v : Int32} : fl g v 0 = g := by
  funext j; unfold fl; rw [if_neg (by omega)]
theorem fl_s {g : Nat → Int32} {v : Int32} {n : Nat} : upd (fl g v n) n v = fl g v (n + 1) := by
  funext j
  by_cases q : j = n
  · rw [q, upd_s]; unfold fl; rw [if_pos (by omega)]
  · rw [upd_o q]; unfold fl
    by_cases q2 : j < n
    · rw [if_pos q2, if_pos (by omega)]
    · rw [if_neg q2, if_neg (by omega)]
theorem sIr_id {h : MH} {a : Nat} : sIr h a (hi h a) = h := by
  have e : upr (hi h) a (hi h a) = hi h := by
    funext b k
    unfold upr
    by_cases h1 : b = a
    · rw [if_pos h1, h1]
    · rw [if_neg h1]
  show (hk h, hl h, upr (hi h) a (hi h a), hr h, hq h, hn h, hc h, hs h) = _
  rw [e]; rfl
theorem s_fill {h : MH} {a n : Nat} {v : Int32} (hk1 : hk h a = 20) (hl1 : hl h a = n) (hn1 : n ≤ 500) : M_J7_fill_53178 (some a) v h = rtV (sIr h a (fl (hi h a) v n)) := by
  unfold M_J7_fill_53178
  rw [q_aln (n := n) hk1 (by decide) hl1]
  have hG := zlp0 (G := fun k i => L_J7_fill_53178_5 k (some a) v (nI i) (nI n) (sIr h a (fl (hi h a) v i))) (N := n) (r := rtV (sIr h a (fl (hi h a) v n))) (by have : fuel = 1000 := rfl; omega) ?_ ?_
  · have hG := hG
    simp only [fl_0, sIr_id] at hG
    exact hG
  · intro k i hi1
    show B_J7_fill_53178_5 (L_J7_fill_53178_5 k) (some a) v (nI i) (nI n) (sIr h a (fl (hi h a) v i)) = L_J7_fill_53178_5 k (some a) v (nI (i + 1)) (nI n) (sIr h a (fl (hi h a) v (i + 1)))
    unfold B_J7_fill_53178_5
    rw [if_neg (nI_ge hi1 (by omega)), q_wrI (h := sIr h a (fl (hi h a) v i)) (kd := 20) (n := n) hk1 hl1 hi1 (by omega) (fun z => absurd z (by decide)), x_bnd, nIs, sI_sIr, fl_s]
  · intro k
    show B_J7_fill_53178_5 (L_J7_fill_53178_5 k) (some a) v (nI n) (nI n) (sIr h a (fl (hi h a) v n)) = _
    unfold B_J7_fill_53178_5
    rw [if_pos (nI_le (Nat.le_refl _) (by omega))]
def hP1 : MH := alc (alc (alc h00 8 10) 5 8) 1 2
def hF1 : MH := sR (alc (sR (alc hP1 20 60) 3 0 (some 4)) 20 60) 3 1 (some 5)
def hG1 : MH := sIr hF1 4 (fl (hi hF1 4) 1000 60)
def hQ1 : MH := sIr hG1 5 (fl (hi hG1 5) 350 60)
theorem i1 : M_X1_init (some 3) 1000 350 hP1 = rtV hQ1 := by
  have e1 : M_X1_init (some 3) 1000 350 hP1 = calV (M_J7_fill_53178 (some 4) 1000 hF1) fun h8 => gfR h8 (some 3) 1 1 fun r9 => calV (M_J7_fill_53178 r9 350 h8) fun h10 => rtV h10 := rfl
  have e2 : (gfR hG1 (some 3) 1 1 fun r9 => calV (M_J7_fill_53178 r9 350 hG1) fun h10 => rtV h10) = calV (M_J7_fill_53178 (some 5) 350 hG1) fun h10 => rtV h10 := rfl
  rw [e1, s_fill (n := 60) rfl rfl (by decide), x_rtV, show sIr hF1 4 (fl (hi hF1 4) 1000 60) = hG1 from rfl, e2, s_fill (n := 60) rfl rfl (by decide), x_rtV]
  rfl
def hP2 : MH := alc (sR hQ1 2 0 (some 3)) 1 2
def hF2 : MH := sR (alc (sR (alc hP2 20 60) 6 0 (some 7)) 20 60) 6 1 (some 8)
def hG2 : MH := sIr hF2 7 (fl (hi hF2 7) 400 60)
def hQ2 : MH := sIr hG2 8 (fl (hi hG2 8) 360 60)
theorem i2 : M_X1_init (some 6) 400 360 hP2 = rtV hQ2 := by
  have e1 : M_X1_init (some 6) 400 360 hP2 = calV (M_J7_fill_53178 (some 7) 400 hF2) fun h8 => gfR h8 (some 6) 1 1 fun r9 => calV (M_J7_fill_53178 r9 360 h8) fun h10 => rtV h10 := rfl
  have e2 : (gfR hG2 (some 6) 1 1 fun r9 => calV (M_J7_fill_53178 r9 360 hG2) fun h10 => rtV h10) = calV (M_J7_fill_53178 (some 8) 360 hG2) fun h10 => rtV h10 := rfl
  rw [e1, s_fill (n := 60) rfl rfl (by decide), x_rtV, show sIr hF2 7 (fl (hi hF2 7) 400 60) = hG2 from rfl, e2, s_fill (n := 60) rfl rfl (by decide), x_rtV]
  rfl
/-- a new thing at b, set into a field of a -/
def alN (h : MH) (k n b : Nat) : MH := (up1 (hk h) b k, up1 (hl h) b n, upr (hi h) b (fun _ => 0), upr (hr h) b (fun _ => none), upr (hq h) b (fun _ => 0), b, hc h + 1, hs h + n)
theorem alN_eq {h : MH} {k n b : Nat} (hb : hn h + 1 = b) : alc h k n = alN h k n b := by
  subst hb; rfl
def nwr (h : MH) (k n a j b : Nat) : MH := sR (alN h k n b) a j (some b)
theorem x_nnl {a : Nat} {k : Res} : nnl (some a) k = k := rfl
theorem x_nwO {h : MH} {ci : Nat} {k : Option Nat → MH → Res} (b n : Nat) (hb : hn h + 1 = b) (hn1 : nF ci = n) : nwO h ci k = k (some b) (alN h ci n b) := by
  show k (some (hn h + 1)) (alc h ci (nF ci)) = _
  rw [alN_eq hb, hb, hn1]
theorem x_nwA {h : MH} {kd : Nat} {z : Int32} {k : Option Nat → MH → Res} (b n : Nat) (hb : hn h + 1 = b) (hz : z = nI n) (hn1 : n ≤ 1000) : nwA h kd z k = k (some b) (alN h kd n b) := by
  unfold nwA
  rw [hz, nI_clamp (by omega), if_pos ⟨nI_pos' (by omega), hn1⟩, alN_eq hb, hb]
theorem x_pfR {h : MH} {a ci j : Nat} {v : Option Nat} {k : MH → Res} (hk1 : hk h a = ci) : pfR h (some a) ci j v k = k (sR h a j v) := if_pos hk1
theorem x_new {h : MH} {a ci j kd : Nat} {z : Int32} {k : MH → Res} (b n : Nat) (hb : hn h + 1 = b) (hz : z = nI n) (hn1 : n ≤ 1000) (ha : a ≠ b) (hk1 : hk h a = ci) : (nwA h kd z fun r h' => pfR h' (some a) ci j r k) = k (nwr h kd n a j b) := by
  rw [x_nwA b n hb hz hn1]
  exact x_pfR (h := alN h kd n b) (show up1 (hk h) b kd a = ci from (if_neg ha).trans hk1)
def hQ5 : MH := nwr (nwr (nwr (nwr (sR hQ2 2 1 (some 6)) 20 60 2 2 9) 20 6 2 3 10) 21 60 2 5 11) 20 60 2 6 12
def hP0 : MH := alc (alc h00 8 10) 5 8
theorem i5 : M_X5_init (some 2) hP0 = rtV hQ5 := by
  unfold M_X5_init
  rw [x_nnl, x_nwO 3 2 (by rfl) (by rfl), x_nnl, show alN hP0 1 2 3 = hP1 from rfl, i1, x_rtV, x_pfR (by rfl), x_nwO 6 2 (by rfl) (by rfl), x_nnl, show alN (sR hQ1 2 0 (some 3)) 1 2 6 = hP2 from rfl, i2, x_rtV, x_pfR (by rfl)]
  rw [x_new 9 60 (by rfl) (by rfl) (by decide) (by decide) (by rfl), x_new 10 6 (by rfl) (by rfl) (by decide) (by decide) (by rfl), x_new 11 60 (by rfl) (by rfl) (by decide) (by decide) (by rfl), x_new 12 60 (by rfl) (by rfl) (by decide) (by decide) (by rfl)]
  unfold hQ5
  rfl
def hQ6 : MH := nwr (sR hQ5 1 0 (some 2)) 22 8 1 1 13
def hQ7 : MH := sI (nwr (alN hQ6 2 3 14) 24 100 14 0 15) 14 2 100
theorem i6 : M_X2_init (some 14) (alN hQ6 2 3 14) = rtV hQ7 := by
  unfold M_X2_init
  rw [x_nnl, x_new 15 100 (by rfl) (by rfl) (by decide) (by decide) (by rfl), q_pfI (by rfl)]
  unfold hQ7
  rfl
def hQ10 : MH := sR hQ7 1 2 (some 14)
def hQ11 : MH := nwr (nwr (nwr (alN hQ10 7 5 16) 20 30 16 1 17) 20 20 16 2 18) 20 20 16 3 19
theorem i7 : M_X7_init (some 16) (alN hQ10 7 5 16) = rtV hQ11 := by
  unfold M_X7_init
  rw [x_nnl, x_new 17 30 (by rfl) (by rfl) (by decide) (by decide) (by rfl), x_new 18 20 (by rfl) (by rfl) (by decide) (by decide) (by rfl), x_new 19 20 (by rfl) (by rfl) (by decide) (by decide) (by rfl)]
  unfold hQ11
  rfl
def hQ8 : MH := nwr (nwr (sR hQ11 1 3 (some 16)) 25 4 1 4 20) 23 6 1 5 21
theorem i8 : M_X8_init (some 1) (alc h00 8 10) = rtV hQ8 := by
  unfold M_X8_init
  rw [x_nnl, x_nwO 2 8 (by rfl) (by rfl), x_nnl, show alN (alc h00 8 10) 5 8 2 = hP0 from rfl, i5, x_rtV, x_pfR (by rfl), x_new 13 8 (by rfl) (by rfl) (by decide) (by decide) (by rfl), show nwr (sR hQ5 1 0 (some 2)) 22 8 1 1 13 = hQ6 from rfl, x_nwO 14 3 (by rfl) (by rfl), x_nnl, i6, x_rtV, x_pfR (by rfl), show sR hQ7 1 2 (some 14) = hQ10 from rfl, x_nwO 16 5 (by rfl) (by rfl), x_nnl, i7, x_rtV, x_pfR (by rfl), x_new 20 4 (by rfl) (by rfl) (by decide) (by decide) (by rfl), x_new 21 6 (by rfl) (by rfl) (by decide) (by decide) (by rfl)]
  unfold hQ8
  rfl
def hM1 : MH := (alN (alN (alN (alN (alN (alN (alN (alN hQ8 20 60 22) 20 60 23) 20 60 24) 20 60 25) 20 60 26) 20 64 27) 20 30 28) 20 40 29)
def hQ9 : MH := (alN (alN (alN (alN (alN (alN (alN (alN hM1 20 64 30) 20 64 31) 20 64 32) 20 60 33) 20 60 34) 20 60 35) 20 60 36) 20 16 37)
theorem hn9 : hn hQ9 = 37 := rfl
theorem s_start0 (L : Nat) (xs : Nat → Int32) : M_L_law L xs h00 = L_L_law_105 L xs fuel (some 1) (some 22) (some 23) (some 24) (some 25) (some 26) (some 27) (some 28) (some 29) (some 30) (some 31) (some 32) (some 33) (some 34) (some 35) (some 36) (some 37) 0 hQ9 := by
  unfold M_L_law
  rw [x_nwO 1 10 (by rfl) (by rfl), x_nnl, show alN h00 8 10 1 = alc h00 8 10 from rfl, i8, x_rtV]
  rw [x_nwA 22 60 (by rfl) (by rfl) (by decide)]
  rw [x_nwA 23 60 (by rfl) (by rfl) (by decide)]
  rw [x_nwA 24 60 (by rfl) (by rfl) (by decide)]
  rw [x_nwA 25 60 (by rfl) (by rfl) (by decide)]
  rw [x_nwA 26 60 (by rfl) (by rfl) (by decide)]
  rw [x_nwA 27 64 (by rfl) (by rfl) (by decide)]
  rw [x_nwA 28 30 (by rfl) (by rfl) (by decide)]
  rw [x_nwA 29 40 (by rfl) (by rfl) (by decide)]
  rw [show (alN (alN (alN (alN (alN (alN (alN (alN hQ8 20 60 22) 20 60 23) 20 60 24) 20 60 25) 20 60 26) 20 64 27) 20 30 28) 20 40 29) = hM1 from rfl]
  rw [x_nwA 30 64 (by rfl) (by rfl) (by decide)]
  rw [x_nwA 31 64 (by rfl) (by rfl) (by decide)]
  rw [x_nwA 32 64 (by rfl) (by rfl) (by decide)]
  rw [x_nwA 33 60 (by rfl) (by rfl) (by decide)]
  rw [x_nwA 34 60 (by rfl) (by rfl) (by decide)]
  rw [x_nwA 35 60 (by rfl) (by rfl) (by decide)]
  rw [x_nwA 36 60 (by rfl) (by rfl) (by decide)]
  rw [x_nwA 37 16 (by rfl) (by rfl) (by decide)]
  rw [show (alN (alN (alN (alN (alN (alN (alN (alN hM1 20 64 30) 20 64 31) 20 64 32) 20 60 33) 20 60 34) 20 60 35) 20 60 36) 20 16 37) = hQ9 from rfl]
def fM (m : Nat → Nat → Int32) (i : Nat) : Nat → Nat → Int32 := upw (upw (upw (upw m 23 (fl (m 23) 1000 i)) 24 (fl (m 24) 400 i)) 25 (fl (m 25) 350 i)) 26 (fl (m 26) 360 i)
theorem fM_r {m : Nat → Nat → Int32} {i : Nat} : fM m i 23 = fl (m 23) 1000 i ∧ fM m i 24 = fl (m 24) 400 i ∧ fM m i 25 = fl (m 25) 350 i ∧ fM m i 26 = fl (m 26) 360 i := ⟨rfl, rfl, rfl, rfl⟩
theorem fM_o {m : Nat → Nat → Int32} {i a : Nat} (h1 : a ≠ 23) (h2 : a ≠ 24) (h3 : a ≠ 25) (h4 : a ≠ 26) : fM m i a = m a := by
  unfold fM
  rw [upw_o h4, upw_o h3, upw_o h2, upw_o h1]
theorem fM_s {m : Nat → Nat → Int32} {i : Nat} : upw (upw (upw (upw (fM m i) 23 (upd (fM m i 23) i 1000)) 24 (upd (fM m i 24) i 400)) 25 (upd (fM m i 25) i 350)) 26 (upd (fM m i 26) i 360) = fM m (i + 1) := by
  obtain ⟨r1, r2, r3, r4⟩ := @fM_r m i
  rw [r1, r2, r3, r4, fl_s, fl_s, fl_s, fl_s]
  funext a
  by_cases h4 : a = 26
  · subst h4; rw [upw_s]; rfl
  · rw [upw_o h4]
    by_cases h3 : a = 25
    · subst h3; rw [upw_s]; rfl
    · rw [upw_o h3]
      by_cases h2 : a = 24
      · subst h2; rw [upw_s]; rfl
      · rw [upw_o h2]
        by_cases h1 : a = 23
        · subst h1; rw [upw_s]; rfl
        · rw [upw_o h1, fM_o h1 h2 h3 h4, fM_o h1 h2 h3 h4]
def mL (m : Nat → Nat → Int32) : Nat → Nat → Int32 := upw (fM m 60) 37 (upd (m 37) 7 100)
theorem s_105 {L : Nat} {xs : Nat → Int32} {h : MH} {K m : Nat → Nat → Int32} (F : Fix h) : L_L_law_105 L xs fuel (some 1) (some 22) (some 23) (some 24) (some 25) (some 26) (some 27) (some 28) (some 29) (some 30) (some 31) (some 32) (some 33) (some 34) (some 35) (some 36) (some 37) 0 (st h K m) = L_L_law_162 L xs fuel (some 1) (some 22) (some 23) (some 24) (some 25) (some 26) (some 27) (some 28) (some 29) (some 30) (some 31) (some 32) (some 33) (some 34) (some 35) (some 36) (some 37) 1 0 (st h K (mL m)) := by
  have e0 : fM m 0 = m := by
    unfold fM
    rw [fl_0, fl_0, fl_0, fl_0, upw_id, upw_id, upw_id, upw_id]
  have hG := zlp0 (G := fun n i => L_L_law_105 L xs n (some 1) (some 22) (some 23) (some 24) (some 25) (some 26) (some 27) (some 28) (some 29) (some 30) (some 31) (some 32) (some 33) (some 34) (some 35) (some 36) (some 37) (nI i) (st h K (fM m i))) (N := 60) (r := L_L_law_162 L xs fuel (some 1) (some 22) (some 23) (some 24) (some 25) (some 26) (some 27) (some 28) (some 29) (some 30) (some 31) (some 32) (some 33) (some 34) (some 35) (some 36) (some 37) 1 0 (st h K (mL m))) (by decide) (fun n i hi => ?_) (fun n => ?_)
  · rw [e0] at hG; exact hG
  · show B_L_law_105 L xs (L_L_law_105 L xs n) (some 1) (some 22) (some 23) (some 24) (some 25) (some 26) (some 27) (some 28) (some 29) (some 30) (some 31) (some 32) (some 33) (some 34) (some 35) (some 36) (some 37) (nI i) (st h K (fM m i)) = L_L_law_105 L xs n (some 1) (some 22) (some 23) (some 24) (some 25) (some 26) (some 27) (some 28) (some 29) (some 30) (some 31) (some 32) (some 33) (some 34) (some 35) (some 36) (some 37) (nI (i + 1)) (st h K (fM m (i + 1)))
    unfold B_L_law_105
    rw [if_neg (show ¬ (60 : Int32) ≤ nI i from nI_ge (b := 60) hi (by decide)), w23 F hi, w24 F hi, upw_o (show (24 : Nat) ≠ 23 by decide), w25 F hi, upw_o (show (25 : Nat) ≠ 24 by decide), upw_o (show (25 : Nat) ≠ 23 by decide), w26 F hi, upw_o (show (26 : Nat) ≠ 25 by decide), upw_o (show (26 : Nat) ≠ 24 by decide), upw_o (show (26 : Nat) ≠ 23 by decide), x_bnd, nIs, fM_s]
  · show B_L_law_105 L xs (L_L_law_105 L xs n) (some 1) (some 22) (some 23) (some 24) (some 25) (some 26) (some 27) (some 28) (some 29) (some 30) (some 31) (some 32) (some 33) (some 34) (some 35) (some 36) (some 37) (nI 60) (st h K (fM m 60)) = _
    unfold B_L_law_105
    rw [if_pos (show (60 : Int32) ≤ nI 60 from nI_le (a := 60) (Nat.le_refl _) (by decide)), wq7 F]
    rfl
