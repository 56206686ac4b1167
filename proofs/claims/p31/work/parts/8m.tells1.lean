/-! the law's turn: telling, the first of it -/
/-- on day 0 a chance stands only where its search began -/
def Zr (g : Nat → Nat → Int32) (ns d : Nat) : Prop := d = 0 → ∀ s, s < ns → ∀ c, c < 60 → g 46 (60 * s + c) ≠ 0 → g 45 s = nI c
def Tl (res : Res) (B d : Nat) : Prop := ∃ h2 K2 g2 M2 nb nr ns nsm nst, res = rtI 1 (st h2 K2 M2) ∧ Ok (B + 1) h2 K2 g2 M2 nb nr ns nsm nst d ∧ Zr g2 ns d
theorem rm8 {a : Nat} {k : Int32 → Res} (ha : a < 1000000) : rmI (nI a) (8 : Int32) k = k (nI (a % 8)) := by
  rw [q_rm (by decide), show nI a - nI a / 8 * 8 = nI (a % 8) from nI_mod 8 ha (by decide) (by decide)]
theorem rm6 {a : Nat} {k : Int32 → Res} (ha : a < 1000000) : rmI (nI a) (6 : Int32) k = k (nI (a % 6)) := by
  rw [q_rm (by decide), show nI a - nI a / 6 * 6 = nI (a % 6) from nI_mod 6 ha (by decide) (by decide)]
theorem i_swap (a b c : Int32) : a + b + (c - a) = c + b := by
  rw [Int32.add_comm, ← Int32.add_assoc, Int32.sub_add_cancel]
theorem LQ.fr {r22 r45 q q' : Nat → Int32} {nb nr ns nsm nst d : Nat} (L : LQ r22 r45 q nb nr ns nsm nst d) (h : ∀ j, j ≠ 1 → (j < 8 ∨ 14 ≤ j) → q' j = q j) : LQ r22 r45 q' nb nr ns nsm nst d := by
  obtain ⟨⟨q0, q2, q3, q4, q5, q6⟩, ⟨q7, q8⟩, q9⟩ := L
  refine ⟨⟨?_, ?_, ?_, ?_, ?_, ?_⟩, ⟨?_, q8⟩, fun s hs => ?_⟩
  · rw [h 0 (by decide) (by decide)]; exact q0
  · rw [h 2 (by decide) (by decide)]; exact q2
  · rw [h 3 (by decide) (by decide)]; exact q3
  · rw [h 4 (by decide) (by decide)]; exact q4
  · rw [h 5 (by decide) (by decide)]; exact q5
  · rw [h 6 (by decide) (by decide)]; exact q6
  · rw [h 7 (by decide) (by decide)]; exact q7
  · rw [h _ (by omega) (by omega)]; exact q9 s hs
section
variable {h : MH} {K g M : Nat → Nat → Int32} {B nb nr ns nsm nst d : Nat} {z : Int32}
theorem t_1 (O : Ok B h K g M nb nr ns nsm nst d) (Z : Zr g ns d) : Tl (M_L_tells (some 1) 1 z (some 22) (some 23) (some 24) (some 25) (some 26) (some 27) (some 28) (some 29) (some 30) (some 31) (some 32) (some 33) (some 34) (some 37) (st h K M)) B d := by
  have F := O.F
  obtain ⟨R, L, A, hns, hn, hd⟩ := id O
  obtain ⟨A1, A2, A3, A4, A5, A6, A7, A8⟩ := id A
  have hc := lw_lt (v := z) (n := 60) (by decide)
  have hq := lw_lt (v := z >>> ((4 : Int32) &&& 31)) (n := 5) (by decide)
  obtain ⟨c, ec⟩ : ∃ c, c = lw z 60 := ⟨_, rfl⟩
  obtain ⟨q, eq⟩ : ∃ c, c = lw (z >>> ((4 : Int32) &&& 31)) 5 := ⟨_, rfl⟩
  rw [← ec] at hc
  rw [← eq] at hq
  obtain ⟨e, e4, he, hl⟩ := A1 c hc
  have hm : ∀ k, rmI (M 22 c) (8 : Int32) k = k (nI e) := by
    intro k
    rcases hl with ⟨-, hl⟩ | ⟨-, hl⟩
    · rw [hl, rm8 (by omega), show e % 8 = e by omega]
    · rw [hl, rm8 (by omega), show (e + 8) % 8 = e by omega]
  obtain ⟨K1, k1, k2⟩ := kk_current R hc (show q ≤ 4 by omega)
  refine ⟨h, K1, upw g 24 (upd (g 24) c (nI q)), upw M 22 (upd (M 22) c (M 22 c + (nI q - nI e))), nb, nr, ns, nsm, nst, ?_, ⟨k2.up, L, ⟨fun x hx => ?_, A2, A3, A4, A5, A6, A7, A8⟩, hns, hn, hd⟩, Z⟩
  · unfold M_L_tells
    rw [s_low (x := (60 : Int32)) (n := 60) rfl (by decide) (by decide), x_rtI, ← ec, if_pos (by decide), if_neg (by decide), d22 F hc, hm, x_bnd, s_low (x := (5 : Int32)) (n := 5) rfl (by decide) (by decide), x_rtI, ← eq, d22 F hc, x_bnd, x_bnd, w22 F hc, c1 F, k1, x_rtI, he, if_neg (fun z => z rfl), rtZ_1]
  · show ∃ e', e' ≤ 4 ∧ upd (g 24) c (nI q) x = nI e' ∧ ((g 23 x = 0 ∧ upd (M 22) c (M 22 c + (nI q - nI e)) x = nI e') ∨ (g 23 x ≠ 0 ∧ upd (M 22) c (M 22 c + (nI q - nI e)) x = nI (e' + 8)))
    unfold upd
    by_cases q1 : x = c
    · subst q1
      rw [if_pos rfl, if_pos rfl]
      refine ⟨q, by omega, rfl, ?_⟩
      rcases hl with ⟨l1, hl⟩ | ⟨l1, hl⟩
      · refine Or.inl ⟨l1, ?_⟩
        have := i_swap (nI e) 0 (nI q)
        rw [Int32.add_zero, Int32.add_zero] at this
        rw [hl]; exact this
      · refine Or.inr ⟨l1, ?_⟩
        rw [hl, ← nI_add, i_swap, nI_add]
    · rw [if_neg q1, if_neg q1]
      exact A1 x hx
theorem t_2 (O : Ok B h K g M nb nr ns nsm nst d) (Z : Zr g ns d) : Tl (M_L_tells (some 1) 2 z (some 22) (some 23) (some 24) (some 25) (some 26) (some 27) (some 28) (some 29) (some 30) (some 31) (some 32) (some 33) (some 34) (some 37) (st h K M)) B d := by
  have F := O.F
  obtain ⟨R, L, A, hns, hn, hd⟩ := id O
  obtain ⟨A1, A2, A3, A4, A5, A6, A7, A8⟩ := id A
  have hc := lw_lt (v := z) (n := 60) (by decide)
  have hv := lw_lt (v := z >>> ((4 : Int32) &&& 31)) (n := 101) (by decide)
  obtain ⟨c, ec⟩ : ∃ c, c = lw z 60 := ⟨_, rfl⟩
  obtain ⟨v, ev⟩ : ∃ c, c = lw (z >>> ((4 : Int32) &&& 31)) 101 := ⟨_, rfl⟩
  rw [← ec] at hc
  rw [← ev] at hv
  have hy : c % 6 < 6 := Nat.mod_lt _ (by decide)
  have hvi : (nI v - 50).toInt = (v : Int) - 50 := vI_toInt (by omega)
  have hv2 : (-50 : Int32) ≤ nI v - 50 ∧ nI v - 50 ≤ (50 : Int32) := by
    rw [i_le, i_le, hvi, show (-50 : Int32).toInt = -50 from by decide, show (50 : Int32).toInt = 50 from by decide]
    omega
  have h8 := A3.1 _ hy
  obtain ⟨K1, k1, k2⟩ := kk_sun R hy hv2
  refine ⟨h, K1, upw g 25 (upd (g 25) (c % 6) (nI v - 50)), upw M 37 (upd (M 37) (8 + c % 6) (nI v - 50)), nb, nr, ns, nsm, nst, ?_, ⟨k2.up, L, ⟨A1, A2, ⟨fun y' hy' => ?_, fun y' hy' => ?_, ?_⟩, A4, A5, A6, A7, A8.fr (fun j h1 h2 => ?_)⟩, hns, hn, hd⟩, Z⟩
  · unfold M_L_tells
    rw [s_low (x := (60 : Int32)) (n := 60) rfl (by decide) (by decide), x_rtI, ← ec, if_pos (by decide), if_pos (by decide), if_neg (by decide), rm6 (by omega), x_bnd, show (8 : Int32) + nI (c % 6) = nI (8 + c % 6) from nI_add 8 _, d37 F (by omega), x_bnd, x_bnd, s_low (x := (101 : Int32)) (n := 101) rfl (by decide) (by decide), x_rtI, ← ev, x_bnd, w37 F (by omega), x_bnd, d37 F (by omega), upw_s, upd_s, c1 F, k1, x_rtI, h8, if_neg (fun z => z rfl), rtZ_1]
  · show upd (M 37) (8 + c % 6) (nI v - 50) (8 + y') = upd (g 25) (c % 6) (nI v - 50) y'
    unfold upd
    by_cases q1 : y' = c % 6
    · rw [if_pos (by omega), if_pos q1]
    · rw [if_neg (by omega), if_neg q1]; exact A3.1 y' hy'
  · show ∃ k, k ≤ 100 ∧ upd (g 25) (c % 6) (nI v - 50) y' = nI k - 50
    unfold upd
    by_cases q1 : y' = c % 6
    · rw [if_pos q1]; exact ⟨v, by omega, rfl⟩
    · rw [if_neg q1]; exact A3.2.1 y' hy'
  · show upd (M 37) (8 + c % 6) (nI v - 50) 1 = g 22 2
    rw [upd_o (by omega)]; exact A3.2.2
  · show upd (M 37) (8 + c % 6) (nI v - 50) j = M 37 j
    rw [upd_o (by omega)]
theorem t_8 (O : Ok B h K g M nb nr ns nsm nst d) (Z : Zr g ns d) : Tl (M_L_tells (some 1) 8 z (some 22) (some 23) (some 24) (some 25) (some 26) (some 27) (some 28) (some 29) (some 30) (some 31) (some 32) (some 33) (some 34) (some 37) (st h K M)) B d := by
  have F := O.F
  obtain ⟨R, L, A, hns, hn, hd⟩ := id O
  obtain ⟨A1, A2, A3, A4, A5, A6, A7, A8⟩ := id A
  obtain ⟨⟨q0, q2, q3, q4, q5, q6⟩, ⟨q7, q8⟩, q9⟩ := id A8
  have key : ∀ (x : Int32) (n : Nat), x = nI n → 0 < n → n ≤ 1001 → Tl (B_L_tells_1257 (some 1) (some 37) (g 22 29) (some 37) (7 : Int32) (z >>> ((3 : Int32) &&& 31)) x (st h K M)) B d := by
    intro x n hx h0 h1
    have hv := lw_lt (v := z >>> ((3 : Int32) &&& 31)) h0
    obtain ⟨v, ev⟩ : ∃ c, c = lw (z >>> ((3 : Int32) &&& 31)) n := ⟨_, rfl⟩
    rw [← ev] at hv
    obtain ⟨K1, k1, k2⟩ := kk_bound R (show (0 : Int32) ≤ nI v ∧ nI v ≤ (1000 : Int32) from ⟨nI_pos' (by omega), nI_le (b := 1000) (by omega) (by omega)⟩)
    refine ⟨h, K1, upw g 22 (upd (g 22) 29 (nI v)), upw M 37 (upd (M 37) 7 (nI v)), nb, nr, ns, nsm, nst, ?_, ⟨k2.up, L, ⟨A1, A2, ⟨fun y hy => by (show upd (M 37) 7 (nI v) (8 + y) = g 25 y); rw [upd_o (by omega)]; exact A3.1 y hy, A3.2.1, A3.2.2⟩, A4, A5, A6, A7, ⟨⟨q0, q2, q3, q4, q5, q6⟩, ⟨rfl, v, by omega, rfl⟩, fun s hs => ?_⟩⟩, hns, hn, hd⟩, Z⟩
    · unfold B_L_tells_1257
      rw [s_low hx h0 h1, x_rtI, ← ev, wq7 F, rq7 F, upw_s, upd_s, c1 F, k1, x_rtI, if_neg (fun z => z rfl), rtZ_1]
    · show upd (M 37) 7 (nI v) (14 + s) = g 45 s
      rw [upd_o (by omega)]; exact q9 s hs
  unfold M_L_tells
  rw [s_low (x := (60 : Int32)) (n := 60) rfl (by decide) (by decide), x_rtI, if_pos (by decide), if_pos (by decide), if_pos (by decide), if_pos (by decide), if_pos (by decide), if_pos (by decide), if_pos (by decide), if_pos (by decide), if_neg (by decide), rq7 F, q7, x_bnd, x_bnd, s_low (x := (3 : Int32)) (n := 3) rfl (by decide) (by decide), x_rtI]
  split
  · exact key 120 120 rfl (by decide) (by decide)
  · exact key 1001 1001 rfl (by decide) (by decide)
theorem t_9 (O : Ok B h K g M nb nr ns nsm nst d) (Z : Zr g ns d) : Tl (M_L_tells (some 1) 9 z (some 22) (some 23) (some 24) (some 25) (some 26) (some 27) (some 28) (some 29) (some 30) (some 31) (some 32) (some 33) (some 34) (some 37) (st h K M)) B d := by
  have F := O.F
  obtain ⟨R, L, A, hns, hn, hd⟩ := id O
  have nb8 := O.nb8
  obtain ⟨⟨q0, q2, q3, q4, q5, q6⟩, ⟨q7, q8⟩, q9⟩ := id A.2.2.2.2.2.2.2
  unfold M_L_tells
  rw [s_low (x := (60 : Int32)) (n := 60) rfl (by decide) (by decide), x_rtI, if_pos (by decide), if_pos (by decide), if_pos (by decide), if_pos (by decide), if_pos (by decide), if_pos (by decide), if_pos (by decide), if_pos (by decide), if_pos (by decide), if_neg (by decide), rq2 F, q2]
  by_cases q : nb = 0
  · rw [if_neg (show ¬ nI nb ≠ 0 by rw [q]; exact fun z => z rfl), rtZ_1]
    exact ⟨h, K, g, M, nb, nr, ns, nsm, nst, rfl, O.up, Z⟩
  · have hk1 := lw_lt (v := z >>> ((3 : Int32) &&& 31)) (n := nb) (by omega)
    obtain ⟨k, ek⟩ : ∃ c, c = lw (z >>> ((3 : Int32) &&& 31)) nb := ⟨_, rfl⟩
    rw [← ek] at hk1
    have hcal := kk_calibrate R hk1
    rw [if_pos (show nI nb ≠ 0 from fun z => q ((nI_eq (by omega) (by omega)).mp (show nI nb = nI 0 from z))), x_bnd, rq2 F, q2, s_low (n := nb) rfl (by omega) (by omega), x_rtI, ← ek, s_lcal F A nb8 hn (by omega) hk1, x_rtI, x_bnd, show (8 : Int32) * nI k = nI (8 * k) from pk_mul 8 k, x_bnd, show nI (8 * k) + 5 = nI (8 * k + 5) from nI_add _ 5]
    cases hc : csh g nr k nr with
    | none =>
      rw [hc] at hcal
      have e1 : calR1 g nr k nr = -2000000003 := by unfold calR1; rw [hc]
      rw [e1, if_neg (fun z => z rfl), x_bnd, x_bnd, show nI (8 * k) + 5 = nI (8 * k + 5) from nI_add _ 5, d27 F (by omega)]
      unfold B_L_tells_1354
      have e2 : upw M 27 (upd (M 27) (8 * k + 5) (M 27 (8 * k + 5))) = M := by
        rw [show upd (M 27) (8 * k + 5) (M 27 (8 * k + 5)) = M 27 by funext j; unfold upd; split <;> rename_i q <;> first | rw [q] | rfl, upw_id]
      rw [w27 F (by omega), e2, lc3, c1 F, hcal, callR_x, x_rtI, exc_st, if_neg (fun z => z rfl), rtZ_1]
      exact ⟨_, _, _, _, _, _, _, _, _, rfl, O.ex, Z⟩
    | some p =>
      obtain ⟨r, s⟩ := p
      rw [hc] at hcal
      obtain ⟨K1, k1, k2⟩ := hcal
      have e1 : calR1 g nr k nr = g 42 r - g 42 s := by unfold calR1; rw [hc]
      obtain ⟨hr1, hs1⟩ := csh_lt nr hc
      obtain ⟨_, _, _, x, y1, y2, _⟩ := A.2.2.2.2.1.un nb8 hr1
      obtain ⟨_, _, _, x', z1, z2, _⟩ := A.2.2.2.2.1.un nb8 hs1
      have ev : g 42 r - g 42 s = nI x - nI x' := by rw [y2.2.2.1, z2.2.2.1, i_cancel]
      have hV : V0 d + 100 < 2 ^ 30 := by unfold V0; omega
      have hne : g 42 r - g 42 s ≠ (-2000000003 : Int32) := by
        intro w
        have := congrArg Int32.toInt w
        rw [ev, pk_sub_toInt (by omega) (by omega), show (-2000000003 : Int32).toInt = -2000000003 from by decide] at this
        have hV2 : V0 d + 100 < 2000000 := by unfold V0; omega
        omega
      rw [e1, if_pos hne]
      unfold B_L_tells_1354
      rw [w27 F (by omega), lc3, c1 F, k1, callR_v, x_rtI, if_neg (fun z => z rfl), rtZ_1]
      exact ⟨_, _, _, _, _, _, _, _, _, rfl, ⟨k2.up, L, A.f5 hk1 ⟨x, x', y1.2.2.2, z1.2.2.2, ev⟩, hns, hn, hd⟩, Z⟩
theorem t_10 (O : Ok B h K g M nb nr ns nsm nst d) (Z : Zr g ns d) : Tl (M_L_tells (some 1) 10 z (some 22) (some 23) (some 24) (some 25) (some 26) (some 27) (some 28) (some 29) (some 30) (some 31) (some 32) (some 33) (some 34) (some 37) (st h K M)) B d := by
  have F := O.F
  obtain ⟨R, L, A, hns, hn, hd⟩ := id O
  have nb8 := O.nb8
  obtain ⟨A1, A2, A3, A4, A5, A6, A7, A8⟩ := id A
  obtain ⟨⟨q0, q2, q3, q4, q5, q6⟩, ⟨q7, q8⟩, q9⟩ := id A8
  unfold M_L_tells
  rw [s_low (x := (60 : Int32)) (n := 60) rfl (by decide) (by decide), x_rtI, if_pos (by decide), if_pos (by decide), if_pos (by decide), if_pos (by decide), if_pos (by decide), if_pos (by decide), if_pos (by decide), if_pos (by decide), if_pos (by decide), if_pos (by decide), rq5 F, q5]
  by_cases q : nr = 0
  · rw [if_neg (show ¬ nI nr ≠ 0 by rw [q]; exact fun z => z rfl), rtZ_1]
    exact ⟨h, K, g, M, nb, nr, ns, nsm, nst, rfl, O.up, Z⟩
  · have hk1 := lw_lt (v := z >>> ((2 : Int32) &&& 31)) (n := nr) (by omega)
    have he4 := lw_lt (v := z >>> ((6 : Int32) &&& 31)) (n := 4) (by decide)
    obtain ⟨k, ek⟩ : ∃ c, c = lw (z >>> ((2 : Int32) &&& 31)) nr := ⟨_, rfl⟩
    obtain ⟨e', ee⟩ : ∃ c, c = lw (z >>> ((6 : Int32) &&& 31)) 4 := ⟨_, rfl⟩
    rw [← ek] at hk1
    rw [← ee] at he4
    have hv2 : (-1 : Int32) ≤ nI e' - 1 ∧ nI e' - 1 ≤ (2 : Int32) := by
      have hvi : (nI e' - 1).toInt = (e' : Int) - 1 := pk_sub_toInt (b := 1) (by omega) (by decide)
      rw [i_le, i_le, hvi, show (-1 : Int32).toInt = -1 from by decide, show (2 : Int32).toInt = 2 from by decide]
      omega
    obtain ⟨K1, k1, k2⟩ := kk_flag R hk1 hv2
    obtain ⟨dy, cl, e, x, y1, y2, y3, y4, y5⟩ := A5.un nb8 hk1
    rw [if_pos (show nI nr ≠ 0 from fun z => q ((nI_eq (by omega) (by omega)).mp (show nI nr = nI 0 from z))), x_bnd, rq5 F, q5, s_low (n := nr) rfl (by omega) (by omega), x_rtI, ← ek, s_lflag F A nb8 hn (by omega) hk1, x_rtI, x_bnd, s_low (x := (4 : Int32)) (n := 4) rfl (by decide) (by decide), x_rtI, ← ee, x_bnd, d32 F (by omega), y3.2.2, rm16 (by omega), show (bn (g 43 k) + 16 * e) % 16 = bn (g 43 k) by omega, x_bnd, show nI e' - 1 + 1 = nI e' from Int32.sub_add_cancel _ _, x_bnd, show (16 : Int32) * nI e' = nI (16 * e') from pk_mul 16 e', x_bnd, nI_add, w32 F (by omega), c1 F, k1, x_rtI, if_neg (fun z => z rfl), rtZ_1]
    refine ⟨_, _, _, _, nb, nr, ns, nsm, nst, rfl, ⟨k2.up, L, ⟨A1, A2, A3, A4, fun r hr1 => ?_, A6, A7, A8⟩, hns, hn, hd⟩, Z⟩
    show ∃ dy c b e x : Nat, (dy ≤ d ∧ c < 60 ∧ e ≤ 3 ∧ x ≤ V0 d + 100) ∧ (g 40 r = nI dy ∧ g 41 r = nI c ∧ g 42 r = nI x - 50 ∧ upd (g 44) k (nI e' - 1) r = nI e - 1) ∧ (M 30 r = nI (64 * dy + c) ∧ M 31 r = g 42 r ∧ upd (M 32) k (nI (bn (g 43 k) + 16 * e')) r = nI (b + 16 * e)) ∧ ((b = 0 ∧ g 43 r = -1) ∨ ∃ f, f < nb ∧ b = f + 1 ∧ g 43 r = nI f)
    unfold upd
    by_cases q1 : r = k
    · subst q1
      refine ⟨dy, cl, bn (g 43 r), e', x, ⟨y1.1, y1.2.1, by omega, y1.2.2.2⟩, ⟨y2.1, y2.2.1, y2.2.2.1, if_pos rfl⟩, ⟨y3.1, y3.2.1, if_pos rfl⟩, ?_⟩
      rcases y4 with w | ⟨f, hf, w⟩
      · exact Or.inl ⟨by rw [w]; rfl, w⟩
      · exact Or.inr ⟨f, hf, by rw [w, bn_f (by omega)], w⟩
    · rw [if_neg q1, if_neg q1]
      exact A5 r hr1
end
