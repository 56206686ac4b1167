/-! the law's turn: telling of searches and floats -/
section
variable {h : MH} {K g M : Nat → Nat → Int32} {B nb nr ns nsm nst d : Nat} {z : Int32}
theorem t_7 (O : Ok B h K g M nb nr ns nsm nst d) (Z : Zr g ns d) : Tl (M_L_tells (some 1) 7 z (some 22) (some 23) (some 24) (some 25) (some 26) (some 27) (some 28) (some 29) (some 30) (some 31) (some 32) (some 33) (some 34) (some 37) (st h K M)) B d := by
  have F := O.F
  obtain ⟨R, L, A, hns, hn, hd⟩ := id O
  obtain ⟨A1, A2, A3, A4, A5, ⟨hpg, ch, hch, hs1, hs2, hld⟩, A7, A8⟩ := id A
  obtain ⟨⟨q0, q2, q3, q4, q5, q6⟩, ⟨q7, q8⟩, q9⟩ := id A8
  have hb1 : ∀ c, c < 60 → ch c ≤ 10000 := fun c hc => by have := smn_at (f := ch) hc; omega
  unfold M_L_tells
  rw [s_low (x := (60 : Int32)) (n := 60) rfl (by decide) (by decide), x_rtI, if_pos (by decide), if_pos (by decide), if_pos (by decide), if_pos (by decide), if_pos (by decide), if_pos (by decide), if_pos (by decide), if_neg (by decide), rq6 F, q6]
  by_cases q : ns = 0
  · rw [if_neg (show ¬ nI ns ≠ 0 by rw [q]; exact fun z => z rfl), rtZ_1]
    exact ⟨h, K, g, M, nb, nr, ns, nsm, nst, rfl, O.up, Z⟩
  · have hx := lw_lt (v := z >>> ((5 : Int32) &&& 31)) (n := 100) (by decide)
    obtain ⟨x, ex⟩ : ∃ c, c = 1 + lw (z >>> ((5 : Int32) &&& 31)) 100 := ⟨_, rfl⟩
    have key : ∀ j, j < 60 → Tl (B_L_tells_1174 (some 1) (some 33) (nI x) (nI j) (st h K M)) B d := by
      intro j hj
      obtain ⟨K1, k1, k2⟩ := kk_leg (z := nI x) R (show 0 < ns by omega) hj ⟨nI_le (a := 1) (by omega) (by omega), nI_le (b := 100) (by omega) (by omega)⟩
      rw [show 60 * 0 + j = j by omega] at k2
      have k1' : ∀ mm, M_X8_leg (some 1) (0 : Int32) (nI j) (nI x) (st h K mm) = rtI (g 46 j * nI x / 100) (st h K1 mm) := by
        intro mm
        have := k1 mm
        rwa [show 60 * 0 + j = j by omega] at this
      obtain ⟨l1, l2, l3⟩ := less_nI (hb1 j hj) (show x ≤ 100 by omega)
      have e46 := hch j (by omega)
      refine ⟨h, K1, _, upw M 33 (upd (M 33) j (g 46 j - g 46 j * nI x / 100)), nb, nr, ns, nsm, nst, ?_, ⟨k2.up, L, ⟨A1, A2, A3, A4, A5, ⟨fun c hc => ?_, fun i => if i = j then ch j - ch j * x / 100 else ch i, fun i hi => ?_, ?_, ?_, fun c hc hl => ?_⟩, A7, A8⟩, hns, hn, hd⟩, ?_⟩
      · unfold B_L_tells_1174
        rw [d33 F hj, (hpg j hj).1, x_bnd, q_dv (by decide), d33 F hj, (hpg j hj).1, x_bnd, w33 F hj, c1 F, k1', x_rtI, if_neg (fun z => z rfl), rtZ_1]
      · show upd (M 33) j _ c = upd (g 46) j _ c ∧ M 34 c = upd (g 46) j _ (60 + c)
        rw [upd_o (show 60 + c ≠ j by omega)]
        refine ⟨?_, (hpg c hc).2⟩
        unfold upd
        by_cases w : c = j
        · rw [if_pos w, if_pos w]
        · rw [if_neg w, if_neg w]; exact (hpg c hc).1
      · show upd (g 46) j _ i = nI (if i = j then _ else _)
        unfold upd
        by_cases w : i = j
        · rw [if_pos w, if_pos w, e46, l2]
        · rw [if_neg w, if_neg w]; exact hch i hi
      · refine Nat.le_trans (smn_le fun i hi => ?_) hs1
        by_cases w : i = j
        · rw [if_pos w, w]; omega
        · rw [if_neg w]; exact Nat.le_refl _
      · refine Nat.le_trans (smn_le fun i hi => ?_) hs2
        show (if 60 + i = j then _ else ch (60 + i)) ≤ ch (60 + i)
        rw [if_neg (show ¬ 60 + i = j by omega)]; exact Nat.le_refl _
      · obtain ⟨w1, w2⟩ := hld c hc hl
        show (if c = j then ch j - ch j * x / 100 else ch c) = 0 ∧ (if 60 + c = j then _ else ch (60 + c)) = 0
        rw [if_neg (show ¬ 60 + c = j by omega)]
        refine ⟨?_, w2⟩
        by_cases w : c = j
        · rw [if_pos w, ← w, w1]; omega
        · rw [if_neg w]; exact w1
      · intro d0 s hs c hc hne
        refine Z d0 s hs c hc fun w => hne ?_
        show upd (g 46) j _ (60 * s + c) = 0
        unfold upd
        by_cases w2 : 60 * s + c = j
        · rw [if_pos w2, ← w2, w, Int32.zero_mul]; decide
        · rw [if_neg w2]; exact w
    have hc := lw_lt (v := z) (n := 60) (by decide)
    have hbl := bst_le (r := M 33) (n := 59)
    rw [if_pos (show nI ns ≠ 0 from fun z => q ((nI_eq (by omega) (by omega)).mp (show nI ns = nI 0 from z))), x_bnd, s_low (x := (100 : Int32)) (n := 100) rfl (by decide) (by decide), x_rtI, x_bnd, show (1 : Int32) + nI (lw (z >>> ((5 : Int32) &&& 31)) 100) = nI x by rw [ex]; exact nI_add 1 _, x_bnd, s_low (x := (3 : Int32)) (n := 3) rfl (by decide) (by decide), x_rtI]
    split
    · exact key _ hc
    · rw [s_lbest (ch := ch) (Fk33 F) (Fl33 F) ⟨by decide, by decide⟩ (fun j hj => ⟨by rw [(hpg j hj).1]; exact hch j (by omega), hb1 j hj⟩), x_rtI]
      exact key _ (by omega)
theorem t_6 (O : Ok B h K g M nb nr ns nsm nst d) (Z : Zr g ns d) : Tl (M_L_tells (some 1) 6 z (some 22) (some 23) (some 24) (some 25) (some 26) (some 27) (some 28) (some 29) (some 30) (some 31) (some 32) (some 33) (some 34) (some 37) (st h K M)) B d := by
  have F := O.F
  obtain ⟨R, L, A, hns, hn, hd⟩ := id O
  obtain ⟨A1, A2, A3, A4, A5, ⟨hpg, ch, hch, hs1, hs2, hld⟩, A7, A8⟩ := id A
  obtain ⟨⟨q0, q2, q3, q4, q5, q6⟩, ⟨q7, q8⟩, q9⟩ := id A8
  have hz46 := R.2.2.2.2.2.2.2.1.2
  have hc := lw_lt (v := z) (n := 60) (by decide)
  obtain ⟨c, ec⟩ : ∃ c, c = lw z 60 := ⟨_, rfl⟩
  rw [← ec] at hc
  have hno : ∀ hl : g 23 c ≠ 0, M_L_calls (some 1) 4 (nI c) 0 0 (st h K M) = rtI (-2000000003 : Int32) (st (exc h) K M) := by
    intro hl
    rw [lc4, c1 F, kk_searchN R hc hl, callR_x, exc_st]
  unfold M_L_tells
  rw [s_low (x := (60 : Int32)) (n := 60) rfl (by decide) (by decide), x_rtI, ← ec, if_pos (by decide), if_pos (by decide), if_pos (by decide), if_pos (by decide), if_pos (by decide), if_pos (by decide), if_neg (by decide), rq6 F, q6]
  by_cases q : ns = 2
  · rw [if_neg (show ¬ nI ns ≠ 2 by rw [q]; exact fun z => z rfl), d22 F hc]
    unfold B_L_tells_993
    by_cases hl : g 23 c = 0
    · rw [if_pos (A1.sea hc hl).1, rtZ_1]
      exact ⟨h, K, g, M, nb, nr, ns, nsm, nst, rfl, O.up, Z⟩
    · rw [if_neg (A1.lnd hc hl).1, hno hl, x_rtI, if_neg (fun z => z rfl), rtZ_1]
      exact ⟨_, K, g, M, nb, nr, ns, nsm, nst, rfl, O.ex, Z⟩
  · rw [if_pos (show nI ns ≠ 2 from fun z => q ((nI_eq (by omega) (by omega)).mp (show nI ns = nI 2 from z))), d22 F hc]
    unfold B_L_tells_1013 B_L_tells_1091 B_L_tells_1117
    by_cases hl : g 23 c = 0
    · obtain ⟨k1, k2⟩ := kk_search R hc hl (show ns < 4 by omega)
      rw [if_neg (A1.sea hc hl).2.1, if_neg (by decide), rq6 F, q6, x_bnd, show (14 : Int32) + nI ns = nI (14 + ns) from nI_add 14 ns, w37 F (by omega), rq6 F, upw_s, upd_o (by omega), q6]
      -- the rows behind it
      have fin : ∀ M2, (∀ a, a ≠ 33 → a ≠ 34 → a ≠ 37 → M2 a = M a) → (∀ j, j ≠ 6 → j ≠ 14 + ns → M2 37 j = M 37 j) → M2 37 6 = nI (ns + 1) → M2 37 (14 + ns) = nI c → (∀ x, x < 60 → M2 33 x = if ns = 0 ∧ x = c then 10000 else M 33 x) → (∀ x, x < 60 → M2 34 x = if ns = 1 ∧ x = c then 10000 else M 34 x) → Tl (calI (M_L_calls (some 1) 4 (nI c) 0 0 (st h K M2)) fun z220 h221 => if (1 : Int32) = 0 then (if z220 ≠ (-2000000003 : Int32) then (rtZ (0 : Int32) h221) else (rtZ (1 : Int32) h221)) else (rdI h221 (some 37) 20 (6 : Int32) fun z222 => bnd (z222 - (1 : Int32)) fun z223 => if z220 ≠ z223 then (rtZ (0 : Int32) h221) else (rtZ (1 : Int32) h221))) B d := by
        intro M2 mo mq m6 m14 m33 m34
        have F2 : Fix (srH h ns) := k2.1.1
        have g46 : ∀ j, srM g ns c 46 j = if j = 60 * ns + c then 10000 else g 46 j := fun j => rfl
        have chz : ∀ j, 60 * ns ≤ j → j < 120 → ch j = 0 := by
          intro j h1 h2
          have e := hch j h2
          rw [hz46 j h1 (by omega)] at e
          have b : ch j ≤ 10000 := by
            by_cases w : j < 60
            · have := smn_at (f := ch) w; omega
            · have := smn_at (f := fun i => ch (60 + i)) (n := 60) (j := j - 60) (by omega)
              rw [show 60 + (j - 60) = j by omega] at this; omega
          exact ((nI_eq (by omega) (by omega)).mp (show nI 0 = nI (ch j) from e)).symm
        have hs1s : smn (fun j => if j = c then 10000 else 0) 60 = 10000 := by
          have := smn_upd (f := fun _ => 0) (a := c) (v := 10000) (n := 60) hc
          rw [smn_const] at this
          omega
        obtain ⟨ch2, hc2⟩ : ∃ f : Nat → Nat, ∀ i, f i = if i = 60 * ns + c then 10000 else ch i := ⟨_, fun _ => rfl⟩
        refine ⟨srH h ns, _, srM g ns c, M2, nb, nr, ns + 1, nsm, nst, ?_, ⟨k2, L, ⟨?_, ?_, ⟨fun y hy => ?_, A3.2.1, ?_⟩, ?_, ?_, ⟨fun x hx => ?_, ch2, fun i hi => ?_, ?_, ?_, fun x hx hl2 => ?_⟩, ?_, ⟨⟨?_, ?_, ?_, ?_, ?_, m6⟩, ⟨?_, q8⟩, fun s hs => ?_⟩⟩, by omega, hn, hd⟩, ?_⟩
        · rw [lc4, c1 F, k1, callR_v, x_rtI, if_neg (by decide), rq6 F2, m6, x_bnd, show nI (ns + 1) - 1 = nI ns from nI_pred ns, if_neg (fun z => z rfl), rtZ_1]
        · rw [mo 22 (by decide) (by decide) (by decide)]; exact A1
        · rw [mo 23 (by decide) (by decide) (by decide), mo 24 (by decide) (by decide) (by decide), mo 25 (by decide) (by decide) (by decide), mo 26 (by decide) (by decide) (by decide)]; exact A2
        · rw [mq _ (by omega) (by omega)]; exact A3.1 y hy
        · rw [mq 1 (by decide) (by omega)]; exact A3.2.2
        · rw [mo 27 (by decide) (by decide) (by decide)]; exact A4
        · rw [mo 30 (by decide) (by decide) (by decide), mo 31 (by decide) (by decide) (by decide), mo 32 (by decide) (by decide) (by decide)]; exact A5
        · rw [m33 x hx, m34 x hx, g46, g46]
          refine ⟨?_, ?_⟩
          · by_cases w : ns = 0 ∧ x = c
            · rw [if_pos w, if_pos (by omega)]
            · rw [if_neg w, if_neg (by omega)]; exact (hpg x hx).1
          · by_cases w : ns = 1 ∧ x = c
            · rw [if_pos w, if_pos (by omega)]
            · rw [if_neg w, if_neg (by omega)]; exact (hpg x hx).2
        · rw [g46, hc2]
          by_cases w : i = 60 * ns + c
          · rw [if_pos w, if_pos w]; rfl
          · rw [if_neg w, if_neg w]; exact hch i hi
        · by_cases w : ns = 0
          · rw [smn_congr (g := fun j => if j = c then 10000 else 0) (fun j hj => by
              rw [hc2]
              by_cases w2 : j = 60 * ns + c
              · rw [if_pos w2, if_pos (by omega)]
              · rw [if_neg w2, if_neg (by omega)]; exact chz j (by omega) (by omega)), hs1s]
            exact Nat.le_refl _
          · refine Nat.le_trans (smn_le fun i hi => ?_) hs1
            rw [hc2, if_neg (by omega)]; exact Nat.le_refl _
        · by_cases w : ns = 1
          · rw [smn_congr (g := fun j => if j = c then 10000 else 0) (fun j hj => by
              rw [hc2]
              by_cases w2 : 60 + j = 60 * ns + c
              · rw [if_pos w2, if_pos (by omega)]
              · rw [if_neg w2, if_neg (by omega)]; exact chz _ (by omega) (by omega)), hs1s]
            exact Nat.le_refl _
          · refine Nat.le_trans (smn_le fun i hi => ?_) hs2
            rw [hc2, if_neg (by omega)]; exact Nat.le_refl _
        · have hxc : x ≠ c := fun w => hl2 (by rw [w]; exact hl)
          rw [hc2, hc2, if_neg (by omega), if_neg (by omega)]
          exact hld x hx hl2
        · rw [mo 28 (by decide) (by decide) (by decide), mo 29 (by decide) (by decide) (by decide)]; exact A7
        · rw [mq 0 (by decide) (by omega)]; exact q0
        · rw [mq 2 (by decide) (by omega)]; exact q2
        · rw [mq 3 (by decide) (by omega)]; exact q3
        · rw [mq 4 (by decide) (by omega)]; exact q4
        · rw [mq 5 (by decide) (by omega)]; exact q5
        · rw [mq 7 (by decide) (by omega)]; exact q7
        · show M2 37 (14 + s) = upd (g 45) ns (nI c) s
          by_cases w : s = ns
          · rw [w, upd_s, m14]
          · rw [upd_o w, mq _ (by omega) (by omega)]; exact q9 s (by omega)
        · intro d0 s hs x hx hne
          show upd (g 45) ns (nI c) s = nI x
          rw [g46] at hne
          by_cases w : s = ns
          · rw [w, upd_s]
            by_cases w2 : 60 * s + x = 60 * ns + c
            · rw [show x = c by omega]
            · rw [if_neg w2, hz46 _ (by omega) (by omega)] at hne
              exact absurd rfl hne
          · rw [upd_o w]
            rw [if_neg (by omega)] at hne
            exact Z d0 s (by omega) x hx hne
      unfold B_L_tells_1056 B_L_tells_1081 B_L_tells_1091 B_L_tells_1117
      obtain ⟨N, hN⟩ : ∃ N, N = upw M 37 (upd (M 37) (14 + ns) (nI c)) := ⟨_, rfl⟩
      have no : ∀ a, a ≠ 37 → N a = M a := fun a ha => by rw [hN, upw_o ha]
      have n37 : N 37 = upd (M 37) (14 + ns) (nI c) := by rw [hN, upw_s]
      rw [← hN]
      rcases (show ns = 0 ∨ ns = 1 by omega) with w | w
      · rw [if_neg (show ¬ nI ns ≠ 0 by rw [w]; exact fun z => z rfl), w33 F hc, rq6 F, upw_o (show (37 : Nat) ≠ 33 by decide), n37, upd_o (show 6 ≠ 14 + ns by omega), q6, if_pos (show nI ns ≠ 1 by rw [w]; decide), d34 F hc, upw_o (show (34 : Nat) ≠ 33 by decide), w34 F hc, upw_o (show (34 : Nat) ≠ 33 by decide), rq6 F, upw_o (show (37 : Nat) ≠ 34 by decide), upw_o (show (37 : Nat) ≠ 33 by decide), n37, upd_o (show 6 ≠ 14 + ns by omega), q6, x_bnd, nIs, wq6 F, upw_o (show (37 : Nat) ≠ 34 by decide), upw_o (show (37 : Nat) ≠ 33 by decide), n37]
        refine fin _ (fun a h1 h2 h3 => ?_) (fun j h1 h2 => ?_) ?_ ?_ (fun x hx => ?_) (fun x hx => ?_)
        · rw [upw_o h3, upw_o h2, upw_o h1, no a h3]
        · rw [upw_s, upd_o h1, upd_o h2]
        · rw [upw_s, upd_s]
        · rw [upw_s, upd_o (by omega), upd_s]
        · rw [upw_o (by decide), upw_o (by decide), upw_s, no 33 (by decide)]
          unfold upd
          by_cases w2 : x = c
          · rw [if_pos w2, if_pos ⟨w, w2⟩]
          · rw [if_neg w2, if_neg (fun z => w2 z.2)]
        · rw [upw_o (by decide), upw_s, no 34 (by decide)]
          rw [if_neg (fun z => by omega)]
          unfold upd
          split
          · rename_i w2; rw [w2]
          · rfl
      · rw [if_pos (show nI ns ≠ 0 by rw [w]; decide), d33 F hc, w33 F hc, rq6 F, upw_o (show (37 : Nat) ≠ 33 by decide), n37, upd_o (show 6 ≠ 14 + ns by omega), q6, if_neg (show ¬ nI ns ≠ 1 by rw [w]; exact fun z => z rfl), w34 F hc, upw_o (show (34 : Nat) ≠ 33 by decide), rq6 F, upw_o (show (37 : Nat) ≠ 34 by decide), upw_o (show (37 : Nat) ≠ 33 by decide), n37, upd_o (show 6 ≠ 14 + ns by omega), q6, x_bnd, nIs, wq6 F, upw_o (show (37 : Nat) ≠ 34 by decide), upw_o (show (37 : Nat) ≠ 33 by decide), n37]
        refine fin _ (fun a h1 h2 h3 => ?_) (fun j h1 h2 => ?_) ?_ ?_ (fun x hx => ?_) (fun x hx => ?_)
        · rw [upw_o h3, upw_o h2, upw_o h1, no a h3]
        · rw [upw_s, upd_o h1, upd_o h2]
        · rw [upw_s, upd_s]
        · rw [upw_s, upd_o (by omega), upd_s]
        · rw [upw_o (by decide), upw_o (by decide), upw_s, no 33 (by decide)]
          rw [if_neg (fun z => by omega)]
          unfold upd
          split
          · rename_i w2; rw [w2]
          · rfl
        · rw [upw_o (by decide), upw_s, no 34 (by decide)]
          unfold upd
          by_cases w2 : x = c
          · rw [if_pos w2, if_pos ⟨w, w2⟩]
          · rw [if_neg w2, if_neg (fun z => w2 z.2)]
    · rw [if_pos (A1.lnd hc hl).2.1, if_pos rfl, hno hl, x_rtI, if_pos rfl, if_neg (fun z => z rfl), rtZ_1]
      exact ⟨_, K, g, M, nb, nr, ns, nsm, nst, rfl, O.ex, Z⟩
end
