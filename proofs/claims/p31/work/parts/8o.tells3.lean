/-! the law's turn: telling floats, stations, storms -/
theorem lc5 {x0 : Option Nat} {c i p : Nat} {H : MH} : M_L_calls x0 5 (nI c) (nI i) (nI p) H = chk H x0 8 (callR (M_X8_lay x0 (nI c) (nI i) (nI p) (nI (lw (nI c * 7 + nI i * 3 + nI p) 101) - 50) H)) := by
  unfold M_L_calls callR
  rw [if_pos (by decide), if_pos (by decide), if_pos (by decide), if_pos (by decide), if_pos (by decide), if_neg (by decide), x_bnd, x_bnd, x_bnd, x_bnd, s_low (x := (101 : Int32)) (n := 101) rfl (by decide) (by decide), x_rtI, x_bnd]
section
variable {h : MH} {K g M : Nat → Nat → Int32} {B nb nr ns nsm nst d : Nat} {z : Int32}
theorem mo_rng {v : Nat} (h : v < 101) : (-50 : Int32) ≤ nI v - 50 ∧ nI v - 50 ≤ (50 : Int32) := by
  have hvi : (nI v - 50).toInt = (v : Int) - 50 := vI_toInt (by omega)
  rw [i_le, i_le, hvi, show (-50 : Int32).toInt = -50 from by decide, show (50 : Int32).toInt = 50 from by decide]
  omega
theorem t_3 (O : Ok B h K g M nb nr ns nsm nst d) (Z : Zr g ns d) : Tl (M_L_tells (some 1) 3 z (some 22) (some 23) (some 24) (some 25) (some 26) (some 27) (some 28) (some 29) (some 30) (some 31) (some 32) (some 33) (some 34) (some 37) (st h K M)) B d := by
  have F := O.F
  obtain ⟨R, L, A, hns, hn, hd⟩ := id O
  have nb8 := O.nb8
  obtain ⟨A1, A2, A3, A4, A5, A6, A7, A8⟩ := id A
  obtain ⟨⟨q0, q2, q3, q4, q5, q6⟩, ⟨q7, q8⟩, q9⟩ := id A8
  have hc := lw_lt (v := z) (n := 60) (by decide)
  have hi := lw_lt (v := z >>> ((4 : Int32) &&& 31)) (n := 4) (by decide)
  have hp := lw_lt (v := z >>> ((6 : Int32) &&& 31)) (n := 3) (by decide)
  obtain ⟨c, ec⟩ : ∃ c, c = lw z 60 := ⟨_, rfl⟩
  obtain ⟨i, ei⟩ : ∃ c, c = 1 + lw (z >>> ((4 : Int32) &&& 31)) 4 := ⟨_, rfl⟩
  obtain ⟨p, ep⟩ : ∃ c, c = 1 + lw (z >>> ((6 : Int32) &&& 31)) 3 := ⟨_, rfl⟩
  rw [← ec] at hc
  have hmo := lw_lt (v := nI c * 7 + nI i * 3 + nI p) (n := 101) (by decide)
  obtain ⟨mo, emo⟩ : ∃ c', c' = lw (nI c * 7 + nI i * 3 + nI p) 101 := ⟨_, rfl⟩
  rw [← emo] at hmo
  have hno : ¬ (g 23 c = 0 ∧ nb < 8) → Tl (B_L_tells_448 (some 1) (some 27) (some 37) (nI c) (nI i) (nI p) (st h K M)) B d := by
    intro hn'
    unfold B_L_tells_448 B_L_tells_449 B_L_tells_535 B_L_tells_562
    rw [if_pos rfl, lc5, ← emo, c1 F, kk_layN R hc ⟨by omega, by omega⟩ ⟨by omega, by omega⟩ (mo_rng hmo) hn', callR_x, x_rtI, if_pos rfl, if_neg (fun z => z rfl), rtZ_1]
    exact ⟨_, K, g, M, nb, nr, ns, nsm, nst, rfl, O.ex, Z⟩
  unfold M_L_tells
  rw [s_low (x := (60 : Int32)) (n := 60) rfl (by decide) (by decide), x_rtI, ← ec, if_pos (by decide), if_pos (by decide), if_pos (by decide), if_neg (by decide), x_bnd, s_low (x := (4 : Int32)) (n := 4) rfl (by decide) (by decide), x_rtI, x_bnd, show (1 : Int32) + nI (lw (z >>> ((4 : Int32) &&& 31)) 4) = nI i by rw [ei]; exact nI_add 1 _, x_bnd, s_low (x := (3 : Int32)) (n := 3) rfl (by decide) (by decide), x_rtI, x_bnd, show (1 : Int32) + nI (lw (z >>> ((6 : Int32) &&& 31)) 3) = nI p by rw [ep]; exact nI_add 1 _, d22 F hc]
  by_cases hl : g 23 c = 0
  · rw [if_neg (A1.sea hc hl).2.1, rq2 F, q2]
    by_cases hb : nb < 8
    · obtain ⟨h1, K1, k1, k2, k3⟩ := kk_lay R L hc (show 1 ≤ i ∧ i ≤ 20 by omega) (show 1 ≤ p ∧ p ≤ 100 by omega) (mo_rng hmo) hl hb
      rw [if_neg (show ¬ (8 : Int32) ≤ nI nb from nI_ge (b := 8) hb (by decide))]
      have F1 : Fix h1 := k2.1.1
      have hz5 := A4.2 nb (Nat.le_refl _) hb
      have g35 := R.2.2.2.1.2 nb (Nat.le_refl _) hb
      obtain ⟨N, hN⟩ : ∃ N : Nat → Int32, N = upd (upd (upd (upd (upd (M 27) (8 * nb) (nI c)) (8 * nb + 1) (nI i)) (8 * nb + 2) (nI i)) (8 * nb + 3) (nI p)) (8 * nb + 4) (nI mo - 50) := ⟨_, rfl⟩
      have nlo : ∀ j, j < 8 * nb ∨ 8 * nb + 5 ≤ j → N j = M 27 j := by
        intro j hj
        rw [hN, upd_o (by omega), upd_o (by omega), upd_o (by omega), upd_o (by omega), upd_o (by omega)]
      refine ⟨h1, K1, layM g nb (nI c) (nI i) (nI p) (nI mo - 50), upw (upw M 27 N) 37 (upd (M 37) 2 (nI (nb + 1))), nb + 1, nr, ns, nsm, nst, ?_, ⟨k2, k3, ⟨A1, A2, ⟨fun y hy => ?_, A3.2.1, ?_⟩, ⟨fun k hk1 => ?_, fun k hk1 hk2 => ?_⟩, fun r hr1 => ?_, A6, A7, ⟨⟨q0, ?_, q3, q4, q5, q6⟩, ⟨q7, q8⟩, fun s hs => ?_⟩⟩, hns, hn, hd⟩, Z⟩
      · unfold B_L_tells_449 B_L_tells_535 B_L_tells_562
        have eM : upw (upw (upw (upw (upw (upw M 27 (upd (M 27) (8 * nb) (nI c))) 27 (upd (upd (M 27) (8 * nb) (nI c)) (8 * nb + 1) (nI i))) 27 (upd (upd (upd (M 27) (8 * nb) (nI c)) (8 * nb + 1) (nI i)) (8 * nb + 2) (nI i))) 27 (upd (upd (upd (upd (M 27) (8 * nb) (nI c)) (8 * nb + 1) (nI i)) (8 * nb + 2) (nI i)) (8 * nb + 3) (nI p))) 27 N) 37 (upd (M 37) 2 (nI (nb + 1))) = upw (upw M 27 N) 37 (upd (M 37) 2 (nI (nb + 1))) := by
          rw [upw_w, upw_w, upw_w, upw_w]
        rw [if_neg (by decide), rq2 F, q2, x_bnd, show (8 : Int32) * nI nb = nI (8 * nb) from pk_mul 8 nb, w27 F (by omega), x_bnd, show nI (8 * nb) + 1 = nI (8 * nb + 1) from nI_add _ 1, w27 F (by omega), upw_s, x_bnd, show nI (8 * nb) + 2 = nI (8 * nb + 2) from nI_add _ 2, w27 F (by omega), upw_s, x_bnd, show nI (8 * nb) + 3 = nI (8 * nb + 3) from nI_add _ 3, w27 F (by omega), upw_s, x_bnd, show nI (8 * nb) + 4 = nI (8 * nb + 4) from nI_add _ 4, x_bnd, x_bnd, x_bnd, x_bnd, s_low (x := (101 : Int32)) (n := 101) rfl (by decide) (by decide), x_rtI, ← emo, x_bnd, w27 F (by omega), upw_s, ← hN, rq2 F, upw_o (show (37 : Nat) ≠ 27 by decide), upw_o (show (37 : Nat) ≠ 27 by decide), upw_o (show (37 : Nat) ≠ 27 by decide), upw_o (show (37 : Nat) ≠ 27 by decide), upw_o (show (37 : Nat) ≠ 27 by decide), q2, x_bnd, nIs, wq2 F, upw_o (show (37 : Nat) ≠ 27 by decide), upw_o (show (37 : Nat) ≠ 27 by decide), upw_o (show (37 : Nat) ≠ 27 by decide), upw_o (show (37 : Nat) ≠ 27 by decide), upw_o (show (37 : Nat) ≠ 27 by decide), eM, lc5, ← emo, c1 F, k1, callR_v, x_rtI, if_neg (by decide), rq2 F1, upw_s, upd_s, x_bnd, show nI (nb + 1) - 1 = nI nb from nI_pred nb, if_neg (fun z => z rfl), rtZ_1]
      · show upd (M 37) 2 _ (8 + y) = g 25 y
        rw [upd_o (by omega)]; exact A3.1 y hy
      · exact A3.2.2
      · show (N (8 * k) = upd (g 30) nb (nI c) k ∧ N (8 * k + 1) = upd (g 31) nb (nI i) k ∧ N (8 * k + 2) = upd (g 32) nb (nI i) k ∧ N (8 * k + 3) = upd (g 33) nb (nI p) k ∧ N (8 * k + 4) = upd (g 34) nb (nI mo - 50) k ∧ N (8 * k + 5) = g 35 k) ∧ (∃ b, b ≤ 100 ∧ upd (g 34) nb (nI mo - 50) k = nI b - 50) ∧ ∃ y z, y ≤ V0 d + 100 ∧ z ≤ V0 d + 100 ∧ g 35 k = nI y - nI z
        by_cases w : k = nb
        · subst w
          rw [upd_s, upd_s, upd_s, upd_s, upd_s, nlo (8 * k + 5) (by omega), hN]
          refine ⟨⟨?_, ?_, ?_, ?_, ?_, ?_⟩, ⟨mo, by omega, rfl⟩, 0, 0, by omega, by omega, ?_⟩
          · rw [upd_o (by omega), upd_o (by omega), upd_o (by omega), upd_o (by omega), upd_s]
          · rw [upd_o (by omega), upd_o (by omega), upd_o (by omega), upd_s]
          · rw [upd_o (by omega), upd_o (by omega), upd_s]
          · rw [upd_o (by omega), upd_s]
          · rw [upd_s]
          · rw [hz5, g35]
          · rw [g35]; rfl
        · rw [upd_o w, upd_o w, upd_o w, upd_o w, upd_o w, nlo _ (by omega), nlo _ (by omega), nlo _ (by omega), nlo _ (by omega), nlo _ (by omega), nlo _ (by omega)]
          exact A4.1 k (by omega)
      · show N (8 * k + 5) = 0
        rw [nlo _ (by omega)]; exact A4.2 k (by omega) hk2
      · obtain ⟨dy, c', b, e, x, y1, y2, y3, y4⟩ := A5 r hr1
        refine ⟨dy, c', b, e, x, y1, y2, y3, ?_⟩
        rcases y4 with w | ⟨f, hf, w⟩
        · exact Or.inl w
        · exact Or.inr ⟨f, by omega, w⟩
      · rfl
      · show upd (M 37) 2 _ (14 + s) = g 45 s
        rw [upd_o (by omega)]; exact q9 s hs
    · rw [if_pos (show (8 : Int32) ≤ nI nb from nI_le (a := 8) (by omega) (by omega))]
      exact hno (fun z => hb z.2)
  · rw [if_pos (A1.lnd hc hl).2.1]
    exact hno (fun z => hl z.1)
/-- the law's words for a station -/
theorem t_eq {sd sc D c : Nat} (h1 : sd ≤ 1000) (h2 : D ≤ 1000) (h3 : sc < 60) (h4 : c < 60) : (nI (64 * sd + sc) = nI (64 * D + c)) = (nI sd = nI D ∧ nI sc = nI c) := by
  rw [nI_inj (by omega) (by omega), nI_inj (by omega) (by omega), nI_inj (by omega) (by omega)]
  exact propext (by omega)
theorem t_4 (O : Ok B h K g M nb nr ns nsm nst d) (Z : Zr g ns d) : Tl (M_L_tells (some 1) 4 z (some 22) (some 23) (some 24) (some 25) (some 26) (some 27) (some 28) (some 29) (some 30) (some 31) (some 32) (some 33) (some 34) (some 37) (st h K M)) B d := by
  have F := O.F
  obtain ⟨R, L, A, hns, hn, hd⟩ := id O
  have nb8 := O.nb8
  have n30 : nst ≤ 30 := R.2.2.2.2.2.2.1.1.2.2
  obtain ⟨A1, A2, A3, A4, A5, A6, A7, A8⟩ := id A
  obtain ⟨⟨q0, q2, q3, q4, q5, q6⟩, ⟨q7, q8⟩, q9⟩ := id A8
  have key : ∀ c, c < 60 → Tl (B_L_tells_614 (some 1) z (some 22) (some 28) (some 37) (nI c) (st h K M)) B d := by
    intro c hc
    have hD := lw_lt (v := z >>> ((5 : Int32) &&& 31)) (n := 6) (by decide)
    obtain ⟨D, eD⟩ : ∃ D, D = d + 1 + lw (z >>> ((5 : Int32) &&& 31)) 6 := ⟨_, rfl⟩
    have hDr : d < D ∧ D ≤ 1000 := by omega
    have hT : ∀ k, k < nst → (M 28 k = nI (64 * D + c)) = (g 36 k = nI D ∧ g 37 k = nI c) := by
      intro k hk1
      obtain ⟨sd, sc, s1, s2, s3, s4, s5⟩ := A7.1 k hk1
      rw [s3, s4, s5, t_eq s2 hDr.2 s1 hc]
    -- a telling that is not possible
    have hno : ¬ CanS g nst D c → ∀ b, b = (0 : Int32) → Tl (B_L_tells_732 (some 1) (some 37) (nI c) (nI D) b (st h K M)) B d := by
      intro hn' b hb
      unfold B_L_tells_732 B_L_tells_756
      rw [lc1, c1 F, kk_stationN R hc hDr hn', callR_x, x_rtI, if_pos hb, if_neg (fun z => z rfl), rtZ_1]
      exact ⟨_, K, g, M, nb, nr, ns, nsm, nst, rfl, O.ex, Z⟩
    have loop : ∀ b : Bool, (b = true → g 23 c = 0 ∧ nst < 30) → (b = false → ¬ CanS g nst D c) → Tl (L_L_tells_661 fuel (some 1) (some 28) (some 37) (nI c) (nI D) (zI b) 0 (st h K M)) B d := by
      intro b hb1 hb0
      have hloop : L_L_tells_661 fuel (some 1) (some 28) (some 37) (nI c) (nI D) (zI b) 0 (st h K M) = if (b && !anB (fun k => g 36 k = nI D ∧ g 37 k = nI c) nst) = true then wrI (st h K M) (some 28) 20 (nI nst) (nI (64 * D + c)) (fun h171 => rdI h171 (some 37) 20 (3 : Int32) fun z172 => bnd (z172 + (1 : Int32)) fun z173 => wrI h171 (some 37) 20 (3 : Int32) z173 fun h174 => B_L_tells_732 (some 1) (some 37) (nI c) (nI D) 1 h174) else B_L_tells_732 (some 1) (some 37) (nI c) (nI D) 0 (st h K M) := by
        obtain ⟨r, hr⟩ : ∃ r, r = if (b && !anB (fun k => g 36 k = nI D ∧ g 37 k = nI c) nst) = true then wrI (st h K M) (some 28) 20 (nI nst) (nI (64 * D + c)) (fun h171 => rdI h171 (some 37) 20 (3 : Int32) fun z172 => bnd (z172 + (1 : Int32)) fun z173 => wrI h171 (some 37) 20 (3 : Int32) z173 fun h174 => B_L_tells_732 (some 1) (some 37) (nI c) (nI D) 1 h174) else B_L_tells_732 (some 1) (some 37) (nI c) (nI D) 0 (st h K M) := ⟨_, rfl⟩
        rw [← hr]
        have hG := zlp0 (G := fun n i => L_L_tells_661 n (some 1) (some 28) (some 37) (nI c) (nI D) (zI (b && !anB (fun k => g 36 k = nI D ∧ g 37 k = nI c) i)) (nI i) (st h K M)) (N := nst) (r := r) (by have : fuel = 1000 := rfl; omega) ?_ ?_
        rotate_left
        · intro n i hi
          show B_L_tells_661 (L_L_tells_661 n) (some 1) (some 28) (some 37) (nI c) (nI D) (zI (b && !anB (fun k => g 36 k = nI D ∧ g 37 k = nI c) i)) (nI i) (st h K M) = L_L_tells_661 n (some 1) (some 28) (some 37) (nI c) (nI D) (zI (b && !(anB (fun k => g 36 k = nI D ∧ g 37 k = nI c) i || decide (g 36 i = nI D ∧ g 37 i = nI c)))) (nI (i + 1)) (st h K M)
          unfold B_L_tells_661 B_L_tells_695 B_L_tells_696
          rw [rq3 F, q3, if_neg (nI_ge hi (by omega))]
          cases hbb : (b && !anB (fun k => g 36 k = nI D ∧ g 37 k = nI c) i) with
          | false =>
            rw [zI_f, if_pos rfl, x_bnd, nIs]
            have : (b && !(anB (fun k => g 36 k = nI D ∧ g 37 k = nI c) i || decide (g 36 i = nI D ∧ g 37 i = nI c))) = false := by
              revert hbb
              cases b <;> cases anB (fun k => g 36 k = nI D ∧ g 37 k = nI c) i <;> cases decide (g 36 i = nI D ∧ g 37 i = nI c) <;> decide
            rw [this, zI_f]
          | true =>
            rw [zI_t, if_neg (by decide), d28 F (by omega), x_bnd, show (64 : Int32) * nI D = nI (64 * D) from pk_mul 64 D, x_bnd, nI_add, x_bnd, x_bnd, nIs]
            have hb2 : b = true ∧ anB (fun k => g 36 k = nI D ∧ g 37 k = nI c) i = false := by
              revert hbb
              cases b <;> cases anB (fun k => g 36 k = nI D ∧ g 37 k = nI c) i <;> decide
            rw [hb2.1, hb2.2]
            by_cases w : g 36 i = nI D ∧ g 37 i = nI c
            · rw [if_pos (by rw [hT i hi]; exact w), decide_eq_true w]; rfl
            · rw [if_neg (by rw [hT i hi]; exact w), decide_eq_false w]; rfl
        · intro n
          show B_L_tells_661 (L_L_tells_661 n) (some 1) (some 28) (some 37) (nI c) (nI D) (zI (b && !anB (fun k => g 36 k = nI D ∧ g 37 k = nI c) nst)) (nI nst) (st h K M) = _
          unfold B_L_tells_661
          rw [hr, rq3 F, q3, if_pos (nI_le (Nat.le_refl _) (by omega))]
          cases hbb : (b && !anB (fun k => g 36 k = nI D ∧ g 37 k = nI c) nst) with
          | false => rw [zI_f, if_pos rfl, if_neg (by decide)]
          | true => rw [zI_t, if_neg (by decide), if_pos rfl, rq3 F, q3, x_bnd, show (64 : Int32) * nI D = nI (64 * D) from pk_mul 64 D, x_bnd, nI_add]
        · have : zI (b && !anB (fun k => g 36 k = nI D ∧ g 37 k = nI c) 0) = zI b := by cases b <;> rfl
          rw [← this]
          exact hG
      rw [hloop]
      cases hbb : (b && !anB (fun k => g 36 k = nI D ∧ g 37 k = nI c) nst) with
      | false =>
        rw [if_neg (by decide)]
        refine hno (fun can => ?_) 0 rfl
        cases hb : b with
        | false => exact hb0 hb can
        | true =>
          have : anB (fun k => g 36 k = nI D ∧ g 37 k = nI c) nst = false := anB_no can.2.2
          rw [hb, this] at hbb
          cases hbb
      | true =>
        have hb2 : b = true ∧ anB (fun k => g 36 k = nI D ∧ g 37 k = nI c) nst = false := by
          revert hbb
          cases b <;> cases anB (fun k => g 36 k = nI D ∧ g 37 k = nI c) nst <;> decide
        obtain ⟨c1', c2'⟩ := hb1 hb2.1
        have can : CanS g nst D c := ⟨c1', c2', fun k hk1 w => by
          have := anB_iff.mpr (⟨k, hk1, w⟩ : ∃ k, k < nst ∧ (g 36 k = nI D ∧ g 37 k = nI c))
          rw [hb2.2] at this; cases this⟩
        obtain ⟨K1, k1, k2⟩ := kk_station R hc hDr can
        rw [if_pos rfl, w28 F (by omega), rq3 F, upw_o (show (37 : Nat) ≠ 28 by decide), q3, x_bnd, nIs, wq3 F, upw_o (show (37 : Nat) ≠ 28 by decide)]
        unfold B_L_tells_732 B_L_tells_756
        rw [lc1, c1 F, k1, callR_v, x_rtI, if_neg (by decide), rq3 F, upw_s, upd_s, if_neg (fun z => z rfl), rtZ_1]
        refine ⟨_, K1, staM g nst D c, _, nb, nr, ns, nsm, nst + 1, rfl, ⟨k2.up, L, ⟨A1, A2, ⟨fun y hy => ?_, A3.2.1, ?_⟩, A4, A5, A6, ⟨fun k hk1 => ?_, A7.2⟩, ⟨⟨q0, q2, ?_, q4, q5, q6⟩, ⟨q7, q8⟩, fun s hs => ?_⟩⟩, hns, hn, hd⟩, Z⟩
        · show upd (M 37) 3 _ (8 + y) = g 25 y
          rw [upd_o (by omega)]; exact A3.1 y hy
        · exact A3.2.2
        · show ∃ D' c', c' < 60 ∧ D' ≤ 1000 ∧ upd (g 36) nst (nI D) k = nI D' ∧ upd (g 37) nst (nI c) k = nI c' ∧ upd (M 28) nst (nI (64 * D + c)) k = nI (64 * D' + c')
          by_cases w : k = nst
          · rw [w, upd_s, upd_s, upd_s]
            exact ⟨D, c, hc, hDr.2, rfl, rfl, rfl⟩
          · rw [upd_o w, upd_o w, upd_o w]
            exact A7.1 k (by omega)
        · rfl
        · show upd (M 37) 3 _ (14 + s) = g 45 s
          rw [upd_o (by omega)]; exact q9 s hs
    unfold B_L_tells_614 B_L_tells_655 B_L_tells_656
    rw [rq0 F, q0, x_bnd, nIs, x_bnd, s_low (x := (6 : Int32)) (n := 6) rfl (by decide) (by decide), x_rtI, x_bnd, nI_add, ← eD, d22 F hc]
    by_cases hl : g 23 c = 0
    · rw [if_neg (A1.sea hc hl).2.1, rq3 F, q3]
      by_cases h30 : nst < 30
      · rw [if_neg (show ¬ (30 : Int32) ≤ nI nst from nI_ge (b := 30) h30 (by decide))]
        exact loop true (fun _ => ⟨hl, h30⟩) (fun w => by cases w)
      · rw [if_pos (show (30 : Int32) ≤ nI nst from nI_le (a := 30) (by omega) (by omega))]
        exact loop false (fun w => by cases w) (fun _ can => h30 can.2.1)
    · rw [if_pos (A1.lnd hc hl).2.1]
      exact loop false (fun w => by cases w) (fun _ can => hl can.1)
  have hc := lw_lt (v := z) (n := 60) (by decide)
  unfold M_L_tells B_L_tells_612
  rw [s_low (x := (60 : Int32)) (n := 60) rfl (by decide) (by decide), x_rtI, if_pos (by decide), if_pos (by decide), if_pos (by decide), if_pos (by decide), if_neg (by decide), rq2 F, q2]
  by_cases q : nb = 0
  · rw [if_pos (show nI nb ≤ 0 by rw [q]; decide)]
    exact key _ hc
  · rw [if_neg (nI_nle (by omega) (by omega)), x_bnd, s_low (x := (4 : Int32)) (n := 4) rfl (by decide) (by decide), x_rtI]
    split
    · exact key _ hc
    · have hk1 := lw_lt (v := z >>> ((4 : Int32) &&& 31)) (n := nb) (by omega)
      obtain ⟨c, hc', ec⟩ := (R.2.2.2.1.1 _ hk1).2.1
      rw [x_bnd, rq2 F, q2, s_low (n := nb) rfl (by omega) (by omega), x_rtI, x_bnd, show (8 : Int32) * nI (lw (z >>> ((4 : Int32) &&& 31)) nb) = nI (8 * lw (z >>> ((4 : Int32) &&& 31)) nb) from pk_mul 8 _, d27 F (by omega), (A4.1 _ hk1).1.1, ec]
      exact key c hc'
end
