/-! the start: both constructors are run; made by gen/start.py -/
theorem sI_sIr {h : MH} {a j : Nat} {g : Nat → Int32} {v : Int32} : sI (sIr h a g) a j v = sIr h a (upd g j v) := by
  have e : up2 (upr (hi h) a g) a j v = upr (hi h) a (upd g j v) := by
    funext b k
    unfold up2 upr upd
    by_cases h1 : b = a
    · by_cases h2 : k = j
      · rw [if_pos ⟨h1, h2⟩, if_pos h1, if_pos h2]
      · rw [if_neg (fun z => h2 z.2), if_pos h1, if_pos h1, if_neg h2]
    · rw [if_neg (fun z => h1 z.1), if_neg h1, if_neg h1]
  show (hk h, hl h, up2 (upr (hi h) a g) a j v, hr h, hq h, hn h, hc h, hs h) = _
  rw [e]; rfl
def fl (g : Nat → Int32) (v : Int32) (n : Nat) : Nat → Int32 := fun j => if j < n then v else g j
theorem fl_0 {g : Nat → Int32} {v : Int32} : fl g v 0 = g := by
  funext j; unfold fl; rw [if_neg (by omega)]
theorem fl_s {g : Nat → Int32} {v : Int32} {n : Nat} : upd (fl g v n) n v = fl g v (n + 1) := by
  funext j
  by_cases q : j = n
  · rw [q, upd_s]; unfold fl; rw [if_pos (by omega)]
  · rw [upd_o q]; unfold fl
    by_cases q2 : j < n
    · rw [if_pos q2, if_pos (by omega)]
    · rw [if_neg q2, if_neg (by omega)]
theorem sIr_id {h : MH} {a : Nat} : sIr h a (hi h a) = h := by
  have e : upr (hi h) a (hi h a) = hi h := by
    funext b k
    unfold upr
    by_cases h1 : b = a
    · rw [if_pos h1, h1]
    · rw [if_neg h1]
  show (hk h, hl h, upr (hi h) a (hi h a), hr h, hq h, hn h, hc h, hs h) = _
  rw [e]; rfl
theorem s_fill {h : MH} {a n : Nat} {v : Int32} (hk1 : hk h a = 20) (hl1 : hl h a = n) (hn1 : n ≤ 500) : M_J7_fill_53178 (some a) v h = rtV (sIr h a (fl (hi h a) v n)) := by
  unfold M_J7_fill_53178
  rw [q_aln (n := n) hk1 (by decide) hl1]
  have hG := zlp0 (G := fun k i => L_J7_fill_53178_5 k (some a) v (nI i) (nI n) (sIr h a (fl (hi h a) v i))) (N := n) (r := rtV (sIr h a (fl (hi h a) v n))) (by have : fuel = 1000 := rfl; omega) ?_ ?_
  · have hG := hG
    simp only [fl_0, sIr_id] at hG
    exact hG
  · intro k i hi1
    show B_J7_fill_53178_5 (L_J7_fill_53178_5 k) (some a) v (nI i) (nI n) (sIr h a (fl (hi h a) v i)) = L_J7_fill_53178_5 k (some a) v (nI (i + 1)) (nI n) (sIr h a (fl (hi h a) v (i + 1)))
    unfold B_J7_fill_53178_5
    rw [if_neg (nI_ge hi1 (by omega)), q_wrI (h := sIr h a (fl (hi h a) v i)) (kd := 20) (n := n) hk1 hl1 hi1 (by omega) (fun z => absurd z (by decide)), x_bnd, nIs, sI_sIr, fl_s]
  · intro k
    show B_J7_fill_53178_5 (L_J7_fill_53178_5 k) (some a) v (nI n) (nI n) (sIr h a (fl (hi h a) v n)) = _
    unfold B_J7_fill_53178_5
    rw [if_pos (nI_le (Nat.le_refl _) (by omega))]
def hP1 : MH := alc (alc (alc h00 8 10) 5 8) 1 2
def hF1 : MH := sR (alc (sR (alc hP1 20 60) 3 0 (some 4)) 20 60) 3 1 (some 5)
def hG1 : MH := sIr hF1 4 (fl (hi hF1 4) 1000 60)
def hQ1 : MH := sIr hG1 5 (fl (hi hG1 5) 350 60)
theorem i1 : M_X1_init (some 3) 1000 350 hP1 = rtV hQ1 := by
  have e1 : M_X1_init (some 3) 1000 350 hP1 = calV (M_J7_fill_53178 (some 4) 1000 hF1) fun h8 => gfR h8 (some 3) 1 1 fun r9 => calV (M_J7_fill_53178 r9 350 h8) fun h10 => rtV h10 := rfl
  have e2 : (gfR hG1 (some 3) 1 1 fun r9 => calV (M_J7_fill_53178 r9 350 hG1) fun h10 => rtV h10) = calV (M_J7_fill_53178 (some 5) 350 hG1) fun h10 => rtV h10 := rfl
  rw [e1, s_fill (n := 60) rfl rfl (by decide), x_rtV, show sIr hF1 4 (fl (hi hF1 4) 1000 60) = hG1 from rfl, e2, s_fill (n := 60) rfl rfl (by decide), x_rtV]
  rfl
def hP2 : MH := alc (sR hQ1 2 0 (some 3)) 1 2
def hF2 : MH := sR (alc (sR (alc hP2 20 60) 6 0 (some 7)) 20 60) 6 1 (some 8)
def hG2 : MH := sIr hF2 7 (fl (hi hF2 7) 400 60)
def hQ2 : MH := sIr hG2 8 (fl (hi hG2 8) 360 60)
theorem i2 : M_X1_init (some 6) 400 360 hP2 = rtV hQ2 := by
  have e1 : M_X1_init (some 6) 400 360 hP2 = calV (M_J7_fill_53178 (some 7) 400 hF2) fun h8 => gfR h8 (some 6) 1 1 fun r9 => calV (M_J7_fill_53178 r9 360 h8) fun h10 => rtV h10 := rfl
  have e2 : (gfR hG2 (some 6) 1 1 fun r9 => calV (M_J7_fill_53178 r9 360 hG2) fun h10 => rtV h10) = calV (M_J7_fill_53178 (some 8) 360 hG2) fun h10 => rtV h10 := rfl
  rw [e1, s_fill (n := 60) rfl rfl (by decide), x_rtV, show sIr hF2 7 (fl (hi hF2 7) 400 60) = hG2 from rfl, e2, s_fill (n := 60) rfl rfl (by decide), x_rtV]
  rfl
/-- a new thing at b, set into a field of a -/
def alN (h : MH) (k n b : Nat) : MH := (up1 (hk h) b k, up1 (hl h) b n, upr (hi h) b (fun _ => 0), upr (hr h) b (fun _ => none), upr (hq h) b (fun _ => 0), b, hc h + 1, hs h + n)
theorem alN_eq {h : MH} {k n b : Nat} (hb : hn h + 1 = b) : alc h k n = alN h k n b := by
  subst hb; rfl
def nwr (h : MH) (k n a j b : Nat) : MH := sR (alN h k n b) a j (some b)
theorem x_nnl {a : Nat} {k : Res} : nnl (some a) k = k := rfl
theorem x_nwO {h : MH} {ci : Nat} {k : Option Nat → MH → Res} (b n : Nat) (hb : hn h + 1 = b) (hn1 : nF ci = n) : nwO h ci k = k (some b) (alN h ci n b) := by
  show k (some (hn h + 1)) (alc h ci (nF ci)) = _
  rw [alN_eq hb, hb, hn1]
theorem x_nwA {h : MH} {kd : Nat} {z : Int32} {k : Option Nat → MH → Res} (b n : Nat) (hb : hn h + 1 = b) (hz : z = nI n) (hn1 : n ≤ 1000) : nwA h kd z k = k (some b) (alN h kd n b) := by
  unfold nwA
  rw [hz, nI_clamp (by omega), if_pos ⟨nI_pos' (by omega), hn1⟩, alN_eq hb, hb]
theorem x_pfR {h : MH} {a ci j : Nat} {v : Option Nat} {k : MH → Res} (hk1 : hk h a = ci) : pfR h (some a) ci j v k = k (sR h a j v) := if_pos hk1
theorem x_new {h : MH} {a ci j kd : Nat} {z : Int32} {k : MH → Res} (b n : Nat) (hb : hn h + 1 = b) (hz : z = nI n) (hn1 : n ≤ 1000) (ha : a ≠ b) (hk1 : hk h a = ci) : (nwA h kd z fun r h' => pfR h' (some a) ci j r k) = k (nwr h kd n a j b) := by
  rw [x_nwA b n hb hz hn1]
  exact x_pfR (h := alN h kd n b) (show up1 (hk h) b kd a = ci from (if_neg ha).trans hk1)
def hQ5 : MH := nwr (nwr (nwr (nwr (sR hQ2 2 1 (some 6)) 20 60 2 2 9) 20 6 2 3 10) 21 60 2 5 11) 20 60 2 6 12
def hP0 : MH := alc (alc h00 8 10) 5 8
theorem i5 : M_X5_init (some 2) hP0 = rtV hQ5 := by
  unfold M_X5_init
  rw [x_nnl, x_nwO 3 2 (by rfl) (by rfl), x_nnl, show alN hP0 1 2 3 = hP1 from rfl, i1, x_rtV, x_pfR (by rfl), x_nwO 6 2 (by rfl) (by rfl), x_nnl, show alN (sR hQ1 2 0 (some 3)) 1 2 6 = hP2 from rfl, i2, x_rtV, x_pfR (by rfl)]
  rw [x_new 9 60 (by rfl) (by rfl) (by decide) (by decide) (by rfl), x_new 10 6 (by rfl) (by rfl) (by decide) (by decide) (by rfl), x_new 11 60 (by rfl) (by rfl) (by decide) (by decide) (by rfl), x_new 12 60 (by rfl) (by rfl) (by decide) (by decide) (by rfl)]
  unfold hQ5
  rfl
def hQ6 : MH := nwr (sR hQ5 1 0 (some 2)) 22 8 1 1 13
def hQ7 : MH := sI (nwr (alN hQ6 2 3 14) 24 100 14 0 15) 14 2 100
theorem i6 : M_X2_init (some 14) (alN hQ6 2 3 14) = rtV hQ7 := by
  unfold M_X2_init
  rw [x_nnl, x_new 15 100 (by rfl) (by rfl) (by decide) (by decide) (by rfl), q_pfI (by rfl)]
  unfold hQ7
  rfl
def hQ10 : MH := sR hQ7 1 2 (some 14)
def hQ11 : MH := nwr (nwr (nwr (alN hQ10 7 5 16) 20 30 16 1 17) 20 20 16 2 18) 20 20 16 3 19
theorem i7 : M_X7_init (some 16) (alN hQ10 7 5 16) = rtV hQ11 := by
  unfold M_X7_init
  rw [x_nnl, x_new 17 30 (by rfl) (by rfl) (by decide) (by decide) (by rfl), x_new 18 20 (by rfl) (by rfl) (by decide) (by decide) (by rfl), x_new 19 20 (by rfl) (by rfl) (by decide) (by decide) (by rfl)]
  unfold hQ11
  rfl
def hQ8 : MH := nwr (nwr (sR hQ11 1 3 (some 16)) 25 4 1 4 20) 23 6 1 5 21
theorem i8 : M_X8_init (some 1) (alc h00 8 10) = rtV hQ8 := by
  unfold M_X8_init
  rw [x_nnl, x_nwO 2 8 (by rfl) (by rfl), x_nnl, show alN (alc h00 8 10) 5 8 2 = hP0 from rfl, i5, x_rtV, x_pfR (by rfl), x_new 13 8 (by rfl) (by rfl) (by decide) (by decide) (by rfl), show nwr (sR hQ5 1 0 (some 2)) 22 8 1 1 13 = hQ6 from rfl, x_nwO 14 3 (by rfl) (by rfl), x_nnl, i6, x_rtV, x_pfR (by rfl), show sR hQ7 1 2 (some 14) = hQ10 from rfl, x_nwO 16 5 (by rfl) (by rfl), x_nnl, i7, x_rtV, x_pfR (by rfl), x_new 20 4 (by rfl) (by rfl) (by decide) (by decide) (by rfl), x_new 21 6 (by rfl) (by rfl) (by decide) (by decide) (by rfl)]
  unfold hQ8
  rfl
def hP9 : MH := alN hQ8 9 37 22
def hM1 : MH := (nwr (nwr (nwr (nwr (nwr (nwr (nwr (nwr hP9 21 60 22 3 23) 20 60 22 4 24) 20 6 22 5 25) 20 120 22 6 26) 20 120 22 7 27) 20 60 22 8 28) 20 60 22 9 29) 20 8 22 11 30)
def hM2 : MH := (nwr (nwr (nwr (nwr (nwr (nwr (nwr (nwr hM1 20 8 22 12 31) 20 8 22 13 32) 20 8 22 14 33) 20 8 22 15 34) 20 8 22 16 35) 20 31 22 18 36) 20 31 22 19 37) 20 20 22 21 38)
def hM3 : MH := (nwr (sI (nwr (nwr (nwr (nwr (nwr (nwr hM2 20 20 22 22 39) 20 100 22 24 40) 20 100 22 25 41) 20 100 22 26 42) 20 100 22 27 43) 20 100 22 28 44) 22 29 100) 20 4 22 31 45)
def hQ9 : MH := (nwr (nwr (nwr (nwr hM3 20 300 22 32 46) 20 6 22 34 47) 20 6 22 35 48) 20 6 22 36 49)
theorem i9 : M_X9_init (some 22) hP9 = L_X9_init_228 fuel (some 22) 0 hQ9 := by
  unfold M_X9_init
  rw [x_nnl]
  rw [x_new 23 60 (by rfl) (by rfl) (by decide) (by decide) (by rfl)]
  rw [x_new 24 60 (by rfl) (by rfl) (by decide) (by decide) (by rfl)]
  rw [x_new 25 6 (by rfl) (by rfl) (by decide) (by decide) (by rfl)]
  rw [x_new 26 120 (by rfl) (by rfl) (by decide) (by decide) (by rfl)]
  rw [x_new 27 120 (by rfl) (by rfl) (by decide) (by decide) (by rfl)]
  rw [x_new 28 60 (by rfl) (by rfl) (by decide) (by decide) (by rfl)]
  rw [x_new 29 60 (by rfl) (by rfl) (by decide) (by decide) (by rfl)]
  rw [x_new 30 8 (by rfl) (by rfl) (by decide) (by decide) (by rfl)]
  rw [show (nwr (nwr (nwr (nwr (nwr (nwr (nwr (nwr hP9 21 60 22 3 23) 20 60 22 4 24) 20 6 22 5 25) 20 120 22 6 26) 20 120 22 7 27) 20 60 22 8 28) 20 60 22 9 29) 20 8 22 11 30) = hM1 from rfl]
  rw [x_new 31 8 (by rfl) (by rfl) (by decide) (by decide) (by rfl)]
  rw [x_new 32 8 (by rfl) (by rfl) (by decide) (by decide) (by rfl)]
  rw [x_new 33 8 (by rfl) (by rfl) (by decide) (by decide) (by rfl)]
  rw [x_new 34 8 (by rfl) (by rfl) (by decide) (by decide) (by rfl)]
  rw [x_new 35 8 (by rfl) (by rfl) (by decide) (by decide) (by rfl)]
  rw [x_new 36 31 (by rfl) (by rfl) (by decide) (by decide) (by rfl)]
  rw [x_new 37 31 (by rfl) (by rfl) (by decide) (by decide) (by rfl)]
  rw [x_new 38 20 (by rfl) (by rfl) (by decide) (by decide) (by rfl)]
  rw [show (nwr (nwr (nwr (nwr (nwr (nwr (nwr (nwr hM1 20 8 22 12 31) 20 8 22 13 32) 20 8 22 14 33) 20 8 22 15 34) 20 8 22 16 35) 20 31 22 18 36) 20 31 22 19 37) 20 20 22 21 38) = hM2 from rfl]
  rw [x_new 39 20 (by rfl) (by rfl) (by decide) (by decide) (by rfl)]
  rw [x_new 40 100 (by rfl) (by rfl) (by decide) (by decide) (by rfl)]
  rw [x_new 41 100 (by rfl) (by rfl) (by decide) (by decide) (by rfl)]
  rw [x_new 42 100 (by rfl) (by rfl) (by decide) (by decide) (by rfl)]
  rw [x_new 43 100 (by rfl) (by rfl) (by decide) (by decide) (by rfl)]
  rw [x_new 44 100 (by rfl) (by rfl) (by decide) (by decide) (by rfl)]
  rw [q_pfI (by rfl)]
  rw [x_new 45 4 (by rfl) (by rfl) (by decide) (by decide) (by rfl)]
  rw [show (nwr (sI (nwr (nwr (nwr (nwr (nwr (nwr hM2 20 20 22 22 39) 20 100 22 24 40) 20 100 22 25 41) 20 100 22 26 42) 20 100 22 27 43) 20 100 22 28 44) 22 29 100) 20 4 22 31 45) = hM3 from rfl]
  rw [x_new 46 300 (by rfl) (by rfl) (by decide) (by decide) (by rfl)]
  rw [x_new 47 6 (by rfl) (by rfl) (by decide) (by decide) (by rfl)]
  rw [x_new 48 6 (by rfl) (by rfl) (by decide) (by decide) (by rfl)]
  rw [x_new 49 6 (by rfl) (by rfl) (by decide) (by decide) (by rfl)]
  unfold hQ9
  rfl
def inR (g : Nat → Int32) (u v : Int32) (i : Nat) : Nat → Int32 := fun j => if j < i then u else if 60 ≤ j ∧ j < 60 + i then v else g j
theorem inR_0 {g : Nat → Int32} {u v : Int32} : inR g u v 0 = g := by
  funext j; unfold inR; rw [if_neg (by omega), if_neg (by omega)]
theorem inR_s {g : Nat → Int32} {u v : Int32} {i : Nat} (hi1 : i < 60) : upd (upd (inR g u v i) i u) (60 + i) v = inR g u v (i + 1) := by
  funext j
  by_cases q : j = 60 + i
  · rw [q, upd_s]; unfold inR; rw [if_neg (by omega), if_pos (by omega)]
  · rw [upd_o q]
    by_cases q2 : j = i
    · rw [q2, upd_s]; unfold inR; rw [if_pos (by omega)]
    · rw [upd_o q2]; unfold inR
      by_cases q3 : j < i
      · rw [if_pos q3, if_pos (by omega)]
      · rw [if_neg q3, if_neg (show ¬ j < i + 1 by omega)]
        by_cases q4 : 60 ≤ j ∧ j < 60 + i
        · rw [if_pos q4, if_pos (by omega)]
        · rw [if_neg q4, if_neg (by omega)]
theorem s_init228 {h : MH} {K m : Nat → Nat → Int32} (k22 : hk h 22 = 9) (r6 : hr h 22 6 = some 26) (r7 : hr h 22 7 = some 27) (k26 : hk h 26 = 20) (l26 : hl h 26 = 120) (k27 : hk h 27 = 20) (l27 : hl h 27 = 120) : L_X9_init_228 fuel (some 22) 0 (st h K m) = rtV (st h K (upw (upw m 26 (inR (m 26) 1000 400 60)) 27 (inR (m 27) 350 360 60))) := by
  let M : Nat → Nat → Nat → Int32 := fun i => upw (upw m 26 (inR (m 26) 1000 400 i)) 27 (inR (m 27) 350 360 i)
  have M6 : ∀ i, M i 26 = inR (m 26) 1000 400 i := fun i => by show upw _ _ _ _ = _; rw [upw_o (by decide), upw_s]
  have M7 : ∀ i, M i 27 = inR (m 27) 350 360 i := fun i => by show upw _ _ _ _ = _; rw [upw_s]
  have e0 : M 0 = m := by
    show upw (upw m 26 (inR (m 26) 1000 400 0)) 27 (inR (m 27) 350 360 0) = m
    rw [inR_0, inR_0, upw_id, upw_id]
  have hG := zlp0 (G := fun k i => L_X9_init_228 k (some 22) (nI i) (st h K (M i))) (N := 60) (r := rtV (st h K (M 60))) (by decide) ?_ ?_
  · have hG := hG
    rw [e0] at hG
    exact hG
  · intro k i hi1
    show B_X9_init_228 (L_X9_init_228 k) (some 22) (nI i) (st h K (M i)) = L_X9_init_228 k (some 22) (nI (i + 1)) (st h K (M (i + 1)))
    have eM : upw (upw (upw (upw (M i) 26 (upd (M i 26) i 1000)) 26 (upd (upd (M i 26) i 1000) (60 + i) 400)) 27 (upd (M i 27) i 350)) 27 (upd (upd (M i 27) i 350) (60 + i) 360) = M (i + 1) := by
      rw [upw_w, upw_w, M6, M7, inR_s hi1, inR_s hi1]
      show upw (upw (upw (upw m 26 _) 27 _) 26 _) 27 _ = upw (upw m 26 _) 27 _
      rw [upw_comm (a := 27) (b := 26) (by decide), upw_w, upw_w]
    have p60 : (60 : Int32) + nI i = nI (60 + i) := by rw [show (60 : Int32) = nI 60 from rfl, nI_add]
    unfold B_X9_init_228
    rw [if_neg (show ¬ (60 : Int32) ≤ nI i from nI_ge (b := 60) hi1 (by decide)), K_gr k22, r6, m_wr k26 l26 ⟨by decide, by decide⟩ (by omega) (by decide) (fun z => absurd z (by decide)), K_gr k22, r6, p60, x_bnd, m_wr k26 l26 ⟨by decide, by decide⟩ (by omega) (by decide) (fun z => absurd z (by decide)), upw_s, K_gr k22, r7, m_wr k27 l27 ⟨by decide, by decide⟩ (by omega) (by decide) (fun z => absurd z (by decide)), K_gr k22, r7, x_bnd, m_wr k27 l27 ⟨by decide, by decide⟩ (by omega) (by decide) (fun z => absurd z (by decide)), upw_s, upw_o (show (27 : Nat) ≠ 26 by decide), upw_o (show (27 : Nat) ≠ 26 by decide), eM, x_bnd, nIs]
  · intro k
    show B_X9_init_228 (L_X9_init_228 k) (some 22) (nI 60) (st h K (M 60)) = _
    unfold B_X9_init_228
    rw [if_pos (show (60 : Int32) ≤ nI 60 from nI_le (Nat.le_refl 60) (by decide))]
def hL : MH := alc hQ9 30 1
def KL : Nat → Nat → Int32 := upw (hi hQ9) 50 (fun _ => 0)
def mL : Nat → Nat → Int32 := upw (upw (hi hQ9) 26 (inR (hi hQ9 26) 1000 400 60)) 27 (inR (hi hQ9 27) 350 360 60)
theorem st_alc50 {h : MH} {K m : Nat → Nat → Int32} {k n : Nat} (hn1 : hn h = 49) : alc (st h K m) k n = st (alc h k n) (upw K 50 (fun _ => 0)) m := by
  have e : upr (fun a => if 22 ≤ a ∧ a < 50 then m a else K a) 50 (fun _ => 0) = (fun b => if 22 ≤ b ∧ b < 50 then m b else upw K 50 (fun _ => 0) b) := by
    funext b k
    unfold upr upw
    by_cases hb : b = 50
    · subst hb; simp only [if_neg (show ¬ (22 ≤ 50 ∧ 50 < 50) by omega), if_true]
    · simp only [hb, if_false]
  have e2 : alc (st h K m) k n = (up1 (hk h) (hn h + 1) k, up1 (hl h) (hn h + 1) n, upr (fun a => if 22 ≤ a ∧ a < 50 then m a else K a) (hn h + 1) (fun _ => 0), upr (hr h) (hn h + 1) (fun _ => none), upr (hq h) (hn h + 1) (fun _ => 0), hn h + 1, hc h + 1, hs h + n) := rfl
  rw [e2, show hn h + 1 = 50 by omega, e]
  unfold st alc
  rw [show hn h + 1 = 50 by omega]
  rfl
theorem hn9 : hn hQ9 = 49 := rfl
theorem s_start (L : Nat) (xs : Nat → Int32) : M_L_law L xs h00 = L_L_law_23 L xs fuel (some 1) (some 22) (some 50) 0 (st hL KL mL) := by
  have h1 : L_X9_init_228 fuel (some 22) 0 hQ9 = rtV (st hQ9 (hi hQ9) mL) := by
    have := s_init228 (h := hQ9) (K := hi hQ9) (m := hi hQ9) (by rfl) (by rfl) (by rfl) (by rfl) (by rfl) (by rfl) (by rfl)
    rw [st_id] at this
    exact this
  have h2 : alc (st hQ9 (hi hQ9) mL) 30 1 = st hL KL mL := st_alc50 hn9
  have h3 : alN (st hQ9 (hi hQ9) mL) 30 1 50 = st hL KL mL := (alN_eq (h := st hQ9 (hi hQ9) mL) (show hn hQ9 + 1 = 50 by rw [hn9])).symm.trans h2
  unfold M_L_law
  rw [x_nwO 1 10 (by rfl) (by rfl), x_nnl, show alN h00 8 10 1 = alc h00 8 10 from rfl, i8, x_rtV, x_nwO 22 37 (by rfl) (by rfl), x_nnl, show alN hQ8 9 37 22 = hP9 from rfl, i9, h1, x_rtV, x_nwA (h := st hQ9 (hi hQ9) mL) 50 1 (show hn hQ9 + 1 = 50 by rw [hn9]) (by rfl) (by decide), h3]
