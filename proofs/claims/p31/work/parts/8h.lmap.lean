/-! the law's map -/
theorem ro0 {h : MH} {K M : Nat → Nat → Int32} {k : Int32 → Res} (F : Fix h) : rdI (st h K M) (some 36) 20 (0 : Int32) k = k (M 36 0) := d36 (i := 0) F (by decide)
theorem wo0 {h : MH} {K M : Nat → Nat → Int32} {v : Int32} {k : MH → Res} (F : Fix h) : wrI (st h K M) (some 36) 20 (0 : Int32) v k = k (st h K (upw M 36 (upd (M 36) 0 v))) := w36 (i := 0) F (by decide)
theorem ro1 {h : MH} {K M : Nat → Nat → Int32} {k : Int32 → Res} (F : Fix h) : rdI (st h K M) (some 36) 20 (1 : Int32) k = k (M 36 1) := d36 (i := 1) F (by decide)
theorem wo1 {h : MH} {K M : Nat → Nat → Int32} {v : Int32} {k : MH → Res} (F : Fix h) : wrI (st h K M) (some 36) 20 (1 : Int32) v k = k (st h K (upw M 36 (upd (M 36) 1 v))) := w36 (i := 1) F (by decide)
def wss (m : Nat → Nat → Int32) (nr c : Nat) (d span : Int32) (wo : Option Nat) : Nat → Int32 := fo (fun r z => z + (if wo = some r then 0 else wg m nr c d span r * cor m r)) 0
def mpM (M : Nat → Nat → Int32) (s w : Int32) : Nat → Nat → Int32 := upw M 36 (upd (upd (M 36) 0 s) 1 w)
theorem mpM_o {M : Nat → Nat → Int32} {s w : Int32} {a : Nat} (h : a ≠ 36) : mpM M s w a = M a := upw_o h
theorem mpM_0 {M : Nat → Nat → Int32} {s w : Int32} : mpM M s w 36 0 = s := by unfold mpM; rw [upw_s, upd_o (by decide), upd_s]
theorem mpM_1 {M : Nat → Nat → Int32} {s w : Int32} : mpM M s w 36 1 = w := by unfold mpM; rw [upw_s, upd_s]
theorem mpM_mpM {M : Nat → Nat → Int32} {s w s' w' : Int32} : upw (upw (mpM M s w) 36 (upd (mpM M s w 36) 0 s')) 36 (upd (upd (mpM M s w 36) 0 s') 1 w') = mpM M s' w' := by
  unfold mpM
  rw [upw_s, upw_w, upw_w]
  congr 1
  funext j
  unfold upd
  by_cases h1 : j = 1
  · rw [if_pos h1, if_pos h1]
  · rw [if_neg h1, if_neg h1, if_neg h1]
    by_cases h0 : j = 0
    · rw [if_pos h0, if_pos h0]
    · rw [if_neg h0, if_neg h0, if_neg h0]
theorem Abs.mp {g M : Nat → Nat → Int32} {nb nr ns nsm nst d : Nat} {s w : Int32} (A : Abs g M nb nr ns nsm nst d) : Abs g (mpM M s w) nb nr ns nsm nst d := A
theorem fr_apd {a c : Nat} (ha : a < 60) (hc : c < 60) : fr a c = nI (apd (a % 10) (c % 10) + apd (a / 10) (c / 10)) := by
  unfold fr
  rw [ab_nI2 (by omega) (by omega), ab_nI2 (by omega) (by omega), nI_add]
theorem s_lmap {h : MH} {K g M : Nat → Nat → Int32} {nb nr ns nsm nst d c day span : Nat} {wo : Option Nat} (F : Fix h) (A : Abs g M nb nr ns nsm nst d) (hnb : nb ≤ 8) (hn : nr ≤ 63) (hd : d ≤ 1000) (hc : c < 60) (hday : day ≤ 1003) (hspan : span ≤ 1000) (hwo : ∀ q, wo = some q → q < nr) : M_L_map (nI c) (nI day) (nI span) (oI wo) (some 30) (some 31) (some 32) (some 27) (some 36) (some 37) (st h K M) = rtV (st h K (mpM M (wss g nr c (nI day) (nI span) wo nr) (wsm g nr c (nI day) (nI span) wo nr))) := by
  have hG := zlp0 (G := fun n i => L_L_map_13 n (nI c) (nI day) (nI span) (oI wo) (some 30) (some 31) (some 32) (some 27) (some 36) (some 37) (nI i) (st h K (mpM M (wss g nr c (nI day) (nI span) wo i) (wsm g nr c (nI day) (nI span) wo i)))) (N := nr) (r := rtV (st h K (mpM M (wss g nr c (nI day) (nI span) wo nr) (wsm g nr c (nI day) (nI span) wo nr)))) (by have : fuel = 1000 := rfl; omega) ?_ ?_
  · unfold M_L_map
    rw [wo0 F, wo1 F]
    have e : upw (upw M 36 (upd (M 36) 0 0)) 36 (upd (upw M 36 (upd (M 36) 0 0) 36) 1 0) = mpM M (wss g nr c (nI day) (nI span) wo 0) (wsm g nr c (nI day) (nI span) wo 0) := by
      rw [upw_s, upw_w]; rfl
    rw [e]
    exact hG
  · intro n i hi
    obtain ⟨M', hM'⟩ : ∃ M', M' = mpM M (wss g nr c (nI day) (nI span) wo i) (wsm g nr c (nI day) (nI span) wo i) := ⟨_, rfl⟩
    have A' : Abs g M' nb nr ns nsm nst d := by rw [hM']; exact A.mp
    have h5 : M' 37 5 = nI nr := A'.2.2.2.2.2.2.2.1.2.2.2.2.1
    obtain ⟨dy, cl, e, x, y1, y2, y3, y4, y5⟩ := A'.2.2.2.2.1.un hnb hi
    have hs : wss g nr c (nI day) (nI span) wo (i + 1) = wss g nr c (nI day) (nI span) wo i + (if wo = some i then 0 else wg g nr c (nI day) (nI span) i * cor g i) := rfl
    have hw : wsm g nr c (nI day) (nI span) wo (i + 1) = wsm g nr c (nI day) (nI span) wo i + (if wo = some i then 0 else wg g nr c (nI day) (nI span) i) := rfl
    have hcl : (nI cl).toNatClampNeg = cl := nI_clamp (by omega)
    show B_L_map_13 (L_L_map_13 n) (nI c) (nI day) (nI span) (oI wo) (some 30) (some 31) (some 32) (some 27) (some 36) (some 37) (nI i) (st h K (mpM M (wss g nr c (nI day) (nI span) wo i) (wsm g nr c (nI day) (nI span) wo i))) = L_L_map_13 n (nI c) (nI day) (nI span) (oI wo) (some 30) (some 31) (some 32) (some 27) (some 36) (some 37) (nI (i + 1)) (st h K (mpM M (wss g nr c (nI day) (nI span) wo (i + 1)) (wsm g nr c (nI day) (nI span) wo (i + 1))))
    rw [← hM']
    have stay : (if wo = some i then 0 else wg g nr c (nI day) (nI span) i) = 0 → B_L_map_135 (L_L_map_13 n) (nI c) (nI day) (nI span) (oI wo) (some 30) (some 31) (some 32) (some 27) (some 36) (some 37) (nI i) (st h K M') = L_L_map_13 n (nI c) (nI day) (nI span) (oI wo) (some 30) (some 31) (some 32) (some 27) (some 36) (some 37) (nI (i + 1)) (st h K (mpM M (wss g nr c (nI day) (nI span) wo (i + 1)) (wsm g nr c (nI day) (nI span) wo (i + 1)))) := by
      intro z
      have z2 : (if wo = some i then (0 : Int32) else wg g nr c (nI day) (nI span) i * cor g i) = 0 := by
        by_cases q : wo = some i
        · rw [if_pos q]
        · rw [if_neg q] at z ⊢
          rw [z, Int32.zero_mul]
      unfold B_L_map_135
      rw [x_bnd, nIs, hs, hw, z, z2, Int32.add_zero, Int32.add_zero, hM']
    have hwq : ∀ q, wo = some q → q < 100 := fun q hq => by have := hwo q hq; omega
    have hap1 : apd (cl % 10) (c % 10) + apd (cl / 10) (c / 10) < 20 := by unfold apd; omega
    unfold B_L_map_13
    rw [rq5 F, h5, if_neg (nI_ge hi (by omega)), d30 F (by omega), y3.1, rm64 (by omega), show (64 * dy + cl) % 64 = cl by omega, rm10 (by omega), rm10 (by omega), s_apart (by omega) (by omega), x_rtI, x_bnd, d30 F (by omega), y3.1, rm64 (by omega), show (64 * dy + cl) % 64 = cl by omega, dv10 (by omega), dv10 (by omega), s_apart (by omega) (by omega), x_rtI, x_bnd]
    by_cases q1 : wo = some i
    · rw [if_pos (show nI i = oI wo by rw [q1]; rfl)]
      exact stay (if_pos q1)
    · rw [if_neg (show ¬ nI i = oI wo from (wo_ne hwq (by omega)).mpr q1)]
      have hwg : wg g nr c (nI day) (nI span) i = if (8 : Int32) ≤ fr cl c then 0 else if nI span < ab (g 40 i - nI day) then 0 else if flg g nr i ≠ 0 then 0 else 8 - fr cl c := by
        unfold wg wgt
        rw [y2.2.1, hcl]
      rw [fr_apd (by omega) hc, y2.1, ab_nI2 (by omega) (by omega)] at hwg
      have e8 : (8 : Int32) - nI (apd (cl % 10) (c % 10)) - nI (apd (cl / 10) (c / 10)) = nI 8 - nI (apd (cl % 10) (c % 10) + apd (cl / 10) (c / 10)) := by
        rw [← nI_add, Int32.sub_eq_add_neg, Int32.sub_eq_add_neg, Int32.sub_eq_add_neg, Int32.neg_add, Int32.add_assoc, Int32.sub_eq_add_neg]
        rfl
      have e8z : (nI 8 - nI (apd (cl % 10) (c % 10) + apd (cl / 10) (c / 10)) ≤ 0) = ((8 : Int32) ≤ nI (apd (cl % 10) (c % 10) + apd (cl / 10) (c / 10))) := by
        rw [i_le, pk_sub_toInt (by omega) (by omega), i_le, nI_toInt (by omega), show (0 : Int32).toInt = 0 from by decide, show (8 : Int32).toInt = 8 from by decide]
        exact propext (by omega)
      rw [e8]
      by_cases q2 : (8 : Int32) ≤ nI (apd (cl % 10) (c % 10) + apd (cl / 10) (c / 10))
      · rw [if_pos (by rw [e8z]; exact q2)]
        exact stay (by rw [if_neg q1, hwg, if_pos q2])
      · rw [if_neg (by rw [e8z]; exact q2), d30 F (by omega), y3.1, dv64 (by omega), show (64 * dy + cl) / 64 = dy by omega, s_apart (by omega) (by omega), x_rtI]
        by_cases q3 : nI span < nI (apd dy day)
        · rw [if_pos q3]
          exact stay (by rw [if_neg q1, hwg, if_neg q2, if_pos q3])
        · rw [if_neg q3, s_lflag F A' hnb hn hd hi, x_rtI]
          by_cases q4 : flg g nr i ≠ 0
          · rw [if_pos q4]
            exact stay (by rw [if_neg q1, hwg, if_neg q2, if_neg q3, if_pos q4])
          · have hwv : wg g nr c (nI day) (nI span) i = nI 8 - nI (apd (cl % 10) (c % 10) + apd (cl / 10) (c / 10)) := by
              rw [hwg, if_neg q2, if_neg q3, if_neg q4]; rfl
            rw [if_neg q4, ro0 F, s_lcor F A' hnb hn hi, x_rtI, x_bnd, x_bnd, wo0 F, ro1 F, x_bnd, wo1 F]
            unfold B_L_map_135
            rw [x_bnd, nIs, hs, hw, if_neg q1, if_neg q1, hwv]
            have o0 : M' 36 0 = wss g nr c (nI day) (nI span) wo i := by rw [hM', mpM_0]
            have o1 : upw M' 36 (upd (M' 36) 0 (M' 36 0 + (nI 8 - nI (apd (cl % 10) (c % 10) + apd (cl / 10) (c / 10))) * cor g i)) 36 1 = wsm g nr c (nI day) (nI span) wo i := by rw [upw_s, upd_o (by decide), hM', mpM_1]
            rw [o1, o0, upw_s]
            rw [hM', mpM_mpM]
  · intro n
    have h5 : mpM M (wss g nr c (nI day) (nI span) wo nr) (wsm g nr c (nI day) (nI span) wo nr) 37 5 = nI nr := A.2.2.2.2.2.2.2.1.2.2.2.2.1
    show B_L_map_13 (L_L_map_13 n) (nI c) (nI day) (nI span) (oI wo) (some 30) (some 31) (some 32) (some 27) (some 36) (some 37) (nI nr) (st h K (mpM M (wss g nr c (nI day) (nI span) wo nr) (wsm g nr c (nI day) (nI span) wo nr))) = _
    unfold B_L_map_13
    rw [rq5 F, h5, if_pos (nI_le (Nat.le_refl _) (by omega))]
