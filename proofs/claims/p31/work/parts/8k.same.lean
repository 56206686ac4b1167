/-! the law's turn: all that can be asked is the same -/
def Ok (B : Nat) (h : MH) (K g M : Nat → Nat → Int32) (nb nr ns nsm nst d : Nat) : Prop := Rel h K g B nb nr ns 0 nsm d (Sst nst d) ∧ Cli g nb ∧ Abs g M nb nr ns nsm nst d ∧ ns ≤ 2 ∧ nr ≤ 63 ∧ d ≤ 350
def callR (res : Res) : Res := calG res (toI fun z h => rtI z h) (fun e h => if e = 3 then rtI (-2000000003 : Int32) h else none)
theorem callR_v {v : Int32} {h : MH} : callR (rtI v h) = rtI v h := rfl
theorem callR_x {h : MH} : callR (some (.inr 3, h)) = rtI (-2000000003 : Int32) h := rfl
theorem exc_st {h : MH} {K m : Nat → Nat → Int32} : exc (st h K m) = st (exc h) K m := rfl
section
variable {h : MH} {K g M : Nat → Nat → Int32} {B nb nr ns nsm nst d : Nat}
theorem Ok.up (O : Ok B h K g M nb nr ns nsm nst d) : Ok (B + 1) h K g M nb nr ns nsm nst d := ⟨O.1.up, O.2⟩
theorem Ok.ex (O : Ok B h K g M nb nr ns nsm nst d) : Ok (B + 1) (exc h) K g M nb nr ns nsm nst d := ⟨O.1.ex, O.2⟩
theorem Ok.F (O : Ok B h K g M nb nr ns nsm nst d) : Fix h := O.1.1.1
theorem Ok.nb8 (O : Ok B h K g M nb nr ns nsm nst d) : nb ≤ 8 := O.1.1.2.1.1
theorem Ok.mp (O : Ok B h K g M nb nr ns nsm nst d) {s w : Int32} : Ok B h K g (mpM M s w) nb nr ns nsm nst d := ⟨O.1, O.2.1, O.2.2.1.mp, O.2.2.2⟩
variable {x0 : Option Nat} {a b c : Int32} {H : MH}
theorem lc0 : M_L_calls x0 0 a b c H = chk H x0 8 (callR (M_X8_land x0 a H)) := by
  unfold M_L_calls callR
  rw [if_neg (by decide)]
theorem lc1 : M_L_calls x0 1 a b c H = chk H x0 8 (callR (M_X8_station x0 a b H)) := by
  unfold M_L_calls callR
  rw [if_pos (by decide), if_neg (by decide)]
theorem lc2 : M_L_calls x0 2 a b c H = chk H x0 8 (callR (M_X8_storm x0 a b H)) := by
  unfold M_L_calls callR
  rw [if_pos (by decide), if_pos (by decide), if_neg (by decide)]
theorem lc3 : M_L_calls x0 3 a b c H = chk H x0 8 (callR (M_X8_calibrate x0 a H)) := by
  unfold M_L_calls callR
  rw [if_pos (by decide), if_pos (by decide), if_pos (by decide), if_neg (by decide)]
theorem lc4 : M_L_calls x0 4 a b c H = chk H x0 8 (callR (M_X8_search x0 a H)) := by
  unfold M_L_calls callR
  rw [if_pos (by decide), if_pos (by decide), if_pos (by decide), if_pos (by decide), if_neg (by decide)]
theorem lc6 : M_L_calls x0 6 a b c H = chk H x0 8 (callR (M_X8_mean x0 a b c H)) := by
  unfold M_L_calls callR
  rw [if_pos (by decide), if_pos (by decide), if_pos (by decide), if_pos (by decide), if_pos (by decide), if_pos (by decide), if_neg (by decide)]
theorem lc7 : M_L_calls x0 7 a b c H = chk H x0 8 (callR (M_X8_error x0 a b c H)) := by
  unfold M_L_calls callR
  rw [if_pos (by decide), if_pos (by decide), if_pos (by decide), if_pos (by decide), if_pos (by decide), if_pos (by decide), if_pos (by decide), if_neg (by decide)]
theorem lc8 : M_L_calls x0 8 a b c H = chk H x0 8 (callR (M_X8_residual x0 a b H)) := by
  unfold M_L_calls callR
  rw [if_pos (by decide), if_pos (by decide), if_pos (by decide), if_pos (by decide), if_pos (by decide), if_pos (by decide), if_pos (by decide), if_pos (by decide)]
theorem s_same730 {y : Int32} {span : Nat} (O : Ok B h K g M nb nr ns nsm nst d) (hs : span ≤ 1000) : ∃ h2 M2, B_L_same_730 (some 1) y (some 27) (some 30) (some 31) (some 32) (some 36) (some 37) (nI span) 1 (st h K M) = rtI 1 (st h2 K M2) ∧ Ok (B + 1) h2 K g M2 nb nr ns nsm nst d := by
  have F := O.F
  obtain ⟨R, L, A, hns, hn, hd⟩ := id O
  have h5 : M 37 5 = nI nr := A.2.2.2.2.2.2.2.1.2.2.2.2.1
  unfold B_L_same_730
  rw [rq5 F, h5]
  by_cases q0 : nr = 0
  · rw [if_pos (by rw [q0]; rfl), rtZ_1]
    exact ⟨h, M, rfl, O.up⟩
  · have hk1 := lw_lt (v := y >>> ((1 : Int32) &&& 31)) (n := nr) (by omega)
    obtain ⟨k, hk⟩ : ∃ k, k = lw (y >>> ((1 : Int32) &&& 31)) nr := ⟨_, rfl⟩
    rw [← hk] at hk1
    obtain ⟨dy, cl, e, x, y1, y2, y3, y4, y5⟩ := A.2.2.2.2.1.un O.nb8 hk1
    have hr := fun mm => kk_residual (mm := mm) (z := span) R hk1 y2.2.1 y1.2.1 hs
    rw [y2.1] at hr
    rw [if_neg (show ¬ nI nr = 0 from fun z => q0 ((nI_eq (by omega) (by omega)).mp (show nI nr = nI 0 from z))), if_pos (show (1 : Int32) ≠ 0 by decide), x_bnd, rq5 F, h5, s_low (n := nr) rfl (by omega) (by omega), x_rtI, ← hk, d30 F (by omega), y3.1, rm64 (by omega), d30 F (by omega), y3.1, dv64 (by omega), show (64 * dy + cl) % 64 = cl by omega, show (64 * dy + cl) / 64 = dy by omega, show nI k = oI (some k) from rfl, s_lmap F A O.nb8 hn (by omega) y1.2.1 (by omega) hs (fun q hq => by cases hq; exact hk1), x_rtV, lc8, c1 F, oI_s, hr]
    have hm1 := @mpM_1 M (wss g nr cl (nI dy) (nI span) (some k) nr) (wsm g nr cl (nI dy) (nI span) (some k) nr)
    have hm0 := @mpM_0 M (wss g nr cl (nI dy) (nI span) (some k) nr) (wsm g nr cl (nI dy) (nI span) (some k) nr)
    have O2 := O.mp (s := wss g nr cl (nI dy) (nI span) (some k) nr) (w := wsm g nr cl (nI dy) (nI span) (some k) nr)
    by_cases q : wsm g nr cl (nI dy) (nI span) (some k) nr = 0
    · rw [if_pos q, callR_x, x_rtI, exc_st, ro1 O2.ex.F, hm1, if_neg (fun z => z q)]
      unfold B_L_same_838
      rw [if_neg (fun z => z rfl), rtZ_1]
      exact ⟨_, _, rfl, O2.ex⟩
    · rw [if_neg q, callR_v, x_rtI, ro1 F, hm1, if_pos q, s_lcor F O2.2.2.1 O.nb8 hn hk1, x_rtI, ro0 F, ro1 F, hm0, hm1, q_dv q, mean_q A O.nb8 hn hd y1.2.1, x_bnd]
      unfold B_L_same_838
      rw [if_neg (fun z => z rfl), rtZ_1]
      exact ⟨_, _, rfl, O2.up⟩
theorem s_same683 {y z : Int32} {c day span : Nat} (O : Ok B h K g M nb nr ns nsm nst d) (hc : c < 60) (hday : day ≤ 1000) (hs : span ≤ 1000) (h1 : M 36 1 = wsm g nr c (nI day) (nI span) none nr) : ∃ h2 M2, B_L_same_683 (some 1) y (some 22) (some 27) (some 30) (some 31) (some 32) (some 36) (some 37) (nI c) (nI day) (nI span) z z (st h K M) = rtI 1 (st h2 K M2) ∧ Ok (B + 2) h2 K g M2 nb nr ns nsm nst d := by
  have F := O.F
  obtain ⟨R, L, A, hns, hn, hd⟩ := id O
  have he := fun mm => kk_error (mm := mm) R hc hday hs
  unfold B_L_same_683 B_L_same_722
  rw [if_neg (fun z => z rfl), lc7, c1 F, he]
  by_cases q : g 23 c = 0
  · obtain ⟨s, hs1, e⟩ := wsm_nI (m := g) (nr := nr) (d := nI day) (span := nI span) (wo := none) hc R.ce nr (Nat.le_refl _)
    have e1 : (1 : Int32) + nI s = nI (1 + s) := nI_add 1 s
    have hne : ¬ nI (1 + s) = 0 := fun w => by have := (nI_eq (by omega) (by omega)).mp (show nI (1 + s) = nI 0 from w); omega
    rw [if_pos q, callR_v, x_rtI, d22 F hc, if_pos (A.1.sea hc q).2.2.1, ro1 F, h1, x_bnd, e, e1, q_dv hne, if_neg (fun z => z rfl)]
    obtain ⟨h2, M2, w1, w2⟩ := s_same730 (y := y) O hs
    exact ⟨h2, M2, w1, w2.up⟩
  · rw [if_neg q, callR_x, x_rtI, exc_st, d22 O.ex.F hc, if_neg (A.1.lnd hc q).2.2.1, if_neg (fun z => z rfl)]
    exact s_same730 (y := y) O.ex hs
theorem s_same580 {y : Int32} (O : Ok B h K g M nb nr ns nsm nst d) : ∃ h2 M2, B_L_same_580 (some 1) y (some 22) (some 27) (some 30) (some 31) (some 32) (some 36) (some 37) 1 (st h K M) = rtI 1 (st h2 K M2) ∧ Ok (B + 3) h2 K g M2 nb nr ns nsm nst d := by
  have F := O.F
  obtain ⟨R, L, A, hns, hn, hd⟩ := id O
  have h0 : M 37 0 = nI d := A.2.2.2.2.2.2.2.1.1
  have hc := lw_lt (v := y >>> ((4 : Int32) &&& 31)) (n := 60) (by decide)
  have hday := lw_lt (v := y >>> ((2 : Int32) &&& 31)) (n := d + 3) (by omega)
  have hs := lw_lt (v := y >>> ((5 : Int32) &&& 31)) (n := 12) (by decide)
  obtain ⟨c, ec⟩ : ∃ k, k = lw (y >>> ((4 : Int32) &&& 31)) 60 := ⟨_, rfl⟩
  obtain ⟨day, ed⟩ : ∃ k, k = lw (y >>> ((2 : Int32) &&& 31)) (d + 3) := ⟨_, rfl⟩
  obtain ⟨span, es⟩ : ∃ k, k = lw (y >>> ((5 : Int32) &&& 31)) 12 := ⟨_, rfl⟩
  rw [← ec] at hc
  rw [← ed] at hday
  rw [← es] at hs
  have hm := fun mm => kk_mean (mm := mm) R hc (show day ≤ 1000 by omega) (show span ≤ 1000 by omega)
  have hm1 := @mpM_1 M (wss g nr c (nI day) (nI span) none nr) (wsm g nr c (nI day) (nI span) none nr)
  have hm0 := @mpM_0 M (wss g nr c (nI day) (nI span) none nr) (wsm g nr c (nI day) (nI span) none nr)
  have O2 := O.mp (s := wss g nr c (nI day) (nI span) none nr) (w := wsm g nr c (nI day) (nI span) none nr)
  have hL : LSea (g 23) (g 24) (mpM M (wss g nr c (nI day) (nI span) none nr) (wsm g nr c (nI day) (nI span) none nr) 22) := A.1
  unfold B_L_same_580 B_L_same_669
  rw [x_bnd, s_low (x := (60 : Int32)) (n := 60) rfl (by decide) (by decide), x_rtI, ← ec, x_bnd, rq0 F, h0, x_bnd, show nI d + 3 = nI (d + 3) from nI_add d 3, s_low (n := d + 3) rfl (by omega) (by omega), x_rtI, ← ed, x_bnd, s_low (x := (12 : Int32)) (n := 12) rfl (by decide) (by decide), x_rtI, ← es, show (-1 : Int32) = oI none from rfl, s_lmap F A O.nb8 hn (by omega) hc (by omega) (by omega) (fun q hq => by cases hq), x_rtV, if_neg (by decide), lc6, c1 F, hm]
  by_cases q : g 23 c = 0
  · by_cases q2 : wsm g nr c (nI day) (nI span) none nr ≠ 0
    · rw [if_pos ⟨q, q2⟩, callR_v, x_rtI, d22 F hc, if_neg (hL.sea hc q).2.2.2, ro1 F, hm1, if_pos q2, ro0 F, hm0, ro1 F, hm1, q_dv q2, mean_q A O.nb8 hn hd hc]
      obtain ⟨h2, M2, w1, w2⟩ := s_same683 (y := y) (z := mnv g nr c (nI day) (nI span) none) O2 hc (show day ≤ 1000 by omega) (show span ≤ 1000 by omega) hm1
      exact ⟨h2, M2, w1, w2.up⟩
    · rw [if_neg (fun z => q2 z.2), callR_x, x_rtI, exc_st, d22 O2.ex.F hc, if_neg (hL.sea hc q).2.2.2, ro1 O2.ex.F, hm1, if_neg q2]
      exact s_same683 (y := y) O2.ex hc (show day ≤ 1000 by omega) (show span ≤ 1000 by omega) hm1
  · rw [if_neg (fun z => q z.1), callR_x, x_rtI, exc_st, d22 O2.ex.F hc, if_pos (hL.lnd hc q).2.2.2]
    exact s_same683 (y := y) O2.ex hc (show day ≤ 1000 by omega) (show span ≤ 1000 by omega) hm1
theorem s_same427 {y : Int32} (O : Ok B h K g M nb nr ns nsm nst d) : ∃ h2 M2, B_L_same_427 (some 1) y (some 22) (some 27) (some 30) (some 31) (some 32) (some 36) (some 37) 1 (st h K M) = rtI 1 (st h2 K M2) ∧ Ok (B + 3) h2 K g M2 nb nr ns nsm nst d := by
  have F := O.F
  obtain ⟨R, L, A, hns, hn, hd⟩ := id O
  have h5 : M 37 5 = nI nr := A.2.2.2.2.2.2.2.1.2.2.2.2.1
  obtain ⟨h2, M2, w1, w2⟩ := s_same580 (y := y) O
  refine ⟨h2, M2, ?_, w2⟩
  have hG := zlp0 (G := fun n i => L_L_same_430 n (some 1) y (some 22) (some 27) (some 30) (some 31) (some 32) (some 36) (some 37) 1 (nI i) (st h K M)) (N := nr) (r := rtI 1 (st h2 K M2)) (by have : fuel = 1000 := rfl; omega) ?_ ?_
  · exact hG
  · intro n i hi
    obtain ⟨dy, cl, e, x, y1, y2, y3, y4, y5⟩ := A.2.2.2.2.1.un O.nb8 hi
    have rr := fun w (hw : w < 6) => kk_ofReading (mm := M) R hi hw
    have r0 := rr 0 (by decide)
    have r1 := rr 1 (by decide)
    have r2 := rr 2 (by decide)
    have r3 := rr 3 (by decide)
    have r4 := rr 4 (by decide)
    have r5 := rr 5 (by decide)
    rw [if_pos rfl] at r0
    rw [if_neg (by decide), if_pos rfl] at r1
    rw [if_neg (by decide), if_neg (by decide), if_pos rfl] at r2
    rw [if_neg (by decide), if_neg (by decide), if_neg (by decide), if_pos rfl] at r3
    rw [if_neg (by decide), if_neg (by decide), if_neg (by decide), if_neg (by decide), if_pos rfl] at r4
    rw [if_neg (by decide), if_neg (by decide), if_neg (by decide), if_neg (by decide), if_neg (by decide)] at r5
    have e43 : nI (bn (g 43 i)) - 1 = g 43 i := by
      rcases y4 with z | ⟨f, hf, z⟩
      · rw [z]; rfl
      · have := O.nb8
        rw [z, bn_f (by omega)]; exact nI_pred f
    have h546 : B_L_same_546 (L_L_same_430 n) (some 1) y (some 22) (some 27) (some 30) (some 31) (some 32) (some 36) (some 37) (nI i) (st h K M) = L_L_same_430 n (some 1) y (some 22) (some 27) (some 30) (some 31) (some 32) (some 36) (some 37) 1 (nI (i + 1)) (st h K M) := by
      unfold B_L_same_546 B_L_same_572
      rw [c1 F, show (4 : Int32) = nI 4 from rfl, r4, x_rtI, s_lflag F A O.nb8 hn (by omega) hi, x_rtI, if_neg (fun z => z rfl), x_bnd, nIs]
    show B_L_same_430 (L_L_same_430 n) (some 1) y (some 22) (some 27) (some 30) (some 31) (some 32) (some 36) (some 37) 1 (nI i) (st h K M) = L_L_same_430 n (some 1) y (some 22) (some 27) (some 30) (some 31) (some 32) (some 36) (some 37) 1 (nI (i + 1)) (st h K M)
    unfold B_L_same_430
    rw [rq5 F, h5, if_neg (nI_ge hi (by omega)), if_neg (by decide), q_rm (by decide), q_rm (by decide)]
    split
    · exact h546
    · rw [c1 F, show (0 : Int32) = nI 0 from rfl, r0, x_rtI, d30 F (by omega), y3.1, dv64 (by omega), show (64 * dy + cl) / 64 = dy by omega, y2.1, if_neg (fun z => z rfl), c1 F, show (1 : Int32) = nI 1 from rfl, r1, x_rtI, d30 F (by omega), y3.1, rm64 (by omega), show (64 * dy + cl) % 64 = cl by omega, y2.2.1, if_neg (fun z => z rfl), c1 F, show (2 : Int32) = nI 2 from rfl, r2, x_rtI, d31 F (by omega), y3.2.1, if_neg (fun z => z rfl), c1 F, show (3 : Int32) = nI 3 from rfl, r3, x_rtI, s_lcor F A O.nb8 hn hi, x_rtI, if_neg (fun z => z rfl), c1 F, show (5 : Int32) = nI 5 from rfl, r5, x_rtI, d32 F (by omega), y3.2.2, rm16 (by omega), show (bn (g 43 i) + 16 * e) % 16 = bn (g 43 i) by omega, x_bnd, show nI 1 = (1 : Int32) from rfl, e43, if_neg (fun z => z rfl)]
      exact h546
  · intro n
    show B_L_same_430 (L_L_same_430 n) (some 1) y (some 22) (some 27) (some 30) (some 31) (some 32) (some 36) (some 37) 1 (nI nr) (st h K M) = _
    unfold B_L_same_430
    rw [rq5 F, h5, if_pos (nI_le (Nat.le_refl _) (by omega))]
    exact w1
end
