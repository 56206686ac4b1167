/-! the law's turn: telling land, and all of it -/
section
variable {h : MH} {K g M : Nat → Nat → Int32} {B nb nr ns nsm nst d : Nat} {z : Int32}
theorem t_0 (O : Ok B h K g M nb nr ns nsm nst d) (Z : Zr g ns d) : Tl (M_L_tells (some 1) 0 z (some 22) (some 23) (some 24) (some 25) (some 26) (some 27) (some 28) (some 29) (some 30) (some 31) (some 32) (some 33) (some 34) (some 37) (st h K M)) B d := by
  have F := O.F
  obtain ⟨R, L, A, hns, hn, hd⟩ := id O
  obtain ⟨A1, A2, A3, A4, A5, ⟨hpg, ch, hch, hs1, hs2, hld⟩, A7, A8⟩ := id A
  obtain ⟨⟨q0, q2, q3, q4, q5, q6⟩, ⟨q7, q8⟩, q9⟩ := id A8
  have hz46 := R.2.2.2.2.2.2.2.1.2
  have hc := lw_lt (v := z) (n := 60) (by decide)
  obtain ⟨c, ec⟩ : ∃ c, c = lw z 60 := ⟨_, rfl⟩
  rw [← ec] at hc
  have key : ∀ b : Bool, (b = true ↔ (g 23 c = 0 ∧ d = 0)) → Tl (L_L_tells_38 fuel (some 1) (some 22) (some 23) (some 24) (some 25) (some 26) (some 27) (some 28) (some 37) (nI c) (zI b) 0 (st h K M)) B d := by
    intro b hb
    obtain ⟨T, hT⟩ : ∃ T, T = (((b && !anB (fun k => g 30 k = nI c) nb) && !anB (fun k => g 37 k = nI c) nst) && !anB (fun k => g 45 k = nI c) ns) := ⟨_, rfl⟩
    have hcan : T = true ↔ CanL g nb ns nst d c := by
      rw [hT, Bool.and_eq_true, Bool.and_eq_true, Bool.and_eq_true, hb, Bool.not_eq_true', Bool.not_eq_true', Bool.not_eq_true']
      have kf : ∀ (p : Nat → Prop) [DecidablePred p] (n : Nat), anB p n = false ↔ ∀ k, k < n → ¬ p k := by
        intro p _ n
        rw [← Bool.not_eq_true, anB_iff]
        exact ⟨fun z k hk1 hp => z ⟨k, hk1, hp⟩, fun z ⟨k, hk1, hp⟩ => z k hk1 hp⟩
      rw [kf, kf, kf]
      unfold CanL
      exact ⟨fun ⟨⟨⟨⟨a1, a2⟩, a3⟩, a4⟩, a5⟩ => ⟨a2, a1, a3, a5, a4⟩, fun ⟨a2, a1, a3, a5, a4⟩ => ⟨⟨⟨⟨a1, a2⟩, a3⟩, a4⟩, a5⟩⟩
    rw [l_38 O, l_81 O, l_124 O, l_171 O hc, ← hT]
    unfold B_L_tells_171 B_L_tells_248 B_L_tells_269
    rw [if_pos (show (60 : Int32) ≤ nI 60 from nI_le (a := 60) (Nat.le_refl _) (by decide))]
    cases hh : T with
    | false =>
      have hno : ¬ CanL g nb ns nst d c := fun can => by
        have := hcan.mpr can
        rw [hh] at this; cases this
      rw [zI_f, if_pos rfl, lc0, c1 F, kk_landN R hc hno, callR_x, x_rtI, if_pos rfl, if_neg (fun z => z rfl), rtZ_1]
      exact ⟨_, K, g, M, nb, nr, ns, nsm, nst, rfl, O.ex, Z⟩
    | true =>
      have can := hcan.mp hh
      obtain ⟨k1, k2⟩ := kk_land R hc can
      obtain ⟨d0, hl, hfl, hse, hst⟩ := can
      obtain ⟨e, e4, he, hl8⟩ := A1 c hc
      have hL8 : M 22 c = nI e := by
        rcases hl8 with ⟨-, w⟩ | ⟨w, -⟩
        · exact w
        · exact absurd hl w
      have hz : g 46 c = 0 ∧ g 46 (60 + c) = 0 := by
        have key2 : ∀ s, s < 2 → g 46 (60 * s + c) = 0 := by
          intro s hs2'
          by_cases w : s < ns
          · by_cases w2 : g 46 (60 * s + c) = 0
            · exact w2
            · exact absurd (Z d0 s w c hc w2) (hse s w)
          · exact hz46 _ (by omega) (by omega)
        have a0 := key2 0 (by decide)
        have a1 := key2 1 (by decide)
        rw [show 60 * 0 + c = c by omega] at a0
        rw [show 60 * 1 + c = 60 + c by omega] at a1
        exact ⟨a0, a1⟩
      have hchb : ∀ j, j < 120 → ch j ≤ 10000 := by
        intro j hj
        by_cases w : j < 60
        · have := smn_at (f := ch) w; omega
        · have := smn_at (f := fun i => ch (60 + i)) (n := 60) (j := j - 60) (by omega)
          rw [show 60 + (j - 60) = j by omega] at this; omega
      have hchz : ∀ j, j < 120 → g 46 j = 0 → ch j = 0 := by
        intro j hj w
        have e := hch j hj
        have b := hchb j hj
        rw [w] at e
        exact ((nI_eq (by omega) (by omega)).mp (show nI 0 = nI (ch j) from e)).symm
      rw [zI_t, if_neg (by decide), d22 F hc, x_bnd, w22 F hc, w23 F hc, w24 F hc, w25 F hc, w26 F hc, lc0, c1 F, k1, callR_v, x_rtI, if_neg (by decide), lsum_upd hl, if_pos hc, if_neg (fun z => z rfl), rtZ_1]
      refine ⟨_, _, landM g c, _, nb, nr, ns, nsm, nst, rfl, ⟨k2.up, L, ⟨fun x hx => ?_, ⟨fun x hx => ?_, A2.2.land⟩, A3, A4, A5, ⟨hpg, ch, hch, hs1, hs2, fun x hx hl2 => ?_⟩, A7, A8⟩, hns, hn, hd⟩, Z⟩
      · show ∃ e', e' ≤ 4 ∧ g 24 x = nI e' ∧ ((upd (g 23) c 1 x = 0 ∧ upd (M 22) c (M 22 c + 8) x = nI e') ∨ (upd (g 23) c 1 x ≠ 0 ∧ upd (M 22) c (M 22 c + 8) x = nI (e' + 8)))
        by_cases w : x = c
        · rw [w, upd_s, upd_s]
          exact ⟨e, e4, he, Or.inr ⟨by decide, by rw [hL8]; exact nI_add e 8⟩⟩
        · rw [upd_o w, upd_o w]
          exact A1 x hx
      · show upd (M 23) c 0 x = upd (upd (g 26) c 0) (60 + c) 0 x ∧ upd (M 24) c 0 x = upd (upd (g 26) c 0) (60 + c) 0 (60 + x) ∧ upd (M 25) c 0 x = upd (upd (g 27) c 0) (60 + c) 0 x ∧ upd (M 26) c 0 x = upd (upd (g 27) c 0) (60 + c) 0 (60 + x)
        rw [upd_o (r := upd (g 26) c 0) (show x ≠ 60 + c by omega), upd_o (r := upd (g 27) c 0) (show x ≠ 60 + c by omega)]
        by_cases w : x = c
        · rw [w, upd_s, upd_s, upd_s, upd_s, upd_s, upd_s, upd_s, upd_s]
          exact ⟨rfl, rfl, rfl, rfl⟩
        · rw [upd_o w, upd_o w, upd_o w, upd_o w, upd_o w, upd_o w, upd_o (show 60 + x ≠ 60 + c by omega), upd_o (show 60 + x ≠ 60 + c by omega), upd_o (show 60 + x ≠ c by omega), upd_o (show 60 + x ≠ c by omega)]
          exact A2.1 x hx
      · by_cases w : x = c
        · rw [w]; exact ⟨hchz _ (by omega) hz.1, hchz _ (by omega) hz.2⟩
        · refine hld x hx fun w2 => hl2 ?_
          show upd (g 23) c 1 x = 0
          rw [upd_o w]; exact w2
  unfold M_L_tells B_L_tells_32 B_L_tells_33
  rw [s_low (x := (60 : Int32)) (n := 60) rfl (by decide) (by decide), x_rtI, ← ec, if_neg (fun z => z rfl), d22 F hc]
  by_cases hl : g 23 c = 0
  · rw [if_neg (A1.sea hc hl).2.1, rq0 F, q0]
    by_cases d0 : d = 0
    · rw [if_neg (show ¬ nI d ≠ 0 by rw [d0]; exact fun z => z rfl)]
      exact key true ⟨fun _ => ⟨hl, d0⟩, fun _ => rfl⟩
    · rw [if_pos (show nI d ≠ 0 from fun z => d0 ((nI_eq (by omega) (by omega)).mp (show nI d = nI 0 from z)))]
      exact key false ⟨fun w => (by cases w), fun w => absurd w.2 d0⟩
  · rw [if_pos (A1.lnd hc hl).2.1]
    exact key false ⟨fun w => (by cases w), fun w => absurd w.1 hl⟩
end
