/-! the law's turn: telling storms and land -/
section
variable {h : MH} {K g M : Nat → Nat → Int32} {B nb nr ns nsm nst d : Nat} {z : Int32}
theorem t_5 (O : Ok B h K g M nb nr ns nsm nst d) (Z : Zr g ns d) : Tl (M_L_tells (some 1) 5 z (some 22) (some 23) (some 24) (some 25) (some 26) (some 27) (some 28) (some 29) (some 30) (some 31) (some 32) (some 33) (some 34) (some 37) (st h K M)) B d := by
  have F := O.F
  obtain ⟨R, L, A, hns, hn, hd⟩ := id O
  have n30 : nst ≤ 30 := R.2.2.2.2.2.2.1.1.2.2
  have hsm2 : nsm ≤ 20 := R.2.2.1.2.2.2.2.2.2.2.2
  obtain ⟨A1, A2, A3, A4, A5, A6, A7, A8⟩ := id A
  obtain ⟨⟨q0, q2, q3, q4, q5, q6⟩, ⟨q7, q8⟩, q9⟩ := id A8
  have ha := lw_lt (v := z >>> ((2 : Int32) &&& 31)) (n := 8) (by decide)
  have hb := lw_lt (v := z >>> ((5 : Int32) &&& 31)) (n := 4) (by decide)
  obtain ⟨a, ea⟩ : ∃ a, a = d + 1 + lw (z >>> ((2 : Int32) &&& 31)) 8 := ⟨_, rfl⟩
  obtain ⟨b, eb⟩ : ∃ b, b = a + lw (z >>> ((5 : Int32) &&& 31)) 4 := ⟨_, rfl⟩
  have hab : d < a ∧ a ≤ b ∧ b ≤ 1000 := by omega
  obtain ⟨sd, s1, s2, s3⟩ := kk_storm0 R hab
  obtain ⟨w, hw⟩ : ∃ w, w = cwt (g 38) (g 39) nsm (nI a) (nI b) := ⟨_, rfl⟩
  rw [← hw] at s2
  have hT : ∀ k, k < nst → ∀ kk, rdI (st h K M) (some 28) 20 (nI k) (fun z => dvI z 64 kk) = kk (nI (sd k)) := by
    intro k hk1 kk
    obtain ⟨D, c', t1, t2, t3, t4, t5⟩ := A7.1 k hk1
    obtain ⟨u1, u2⟩ := s1 k hk1
    rw [u1, nI_inj (by omega) (by omega)] at t3
    rw [d28 F (by omega), t5, dv64 (by omega), show (64 * D + c') / 64 = sd k by omega]
  -- behind the loop
  have fin : Tl (rdI (st h K M) (some 37) 20 (4 : Int32) fun z183 => if (20 : Int32) ≤ z183 then (calI (M_L_calls (some 1) (2 : Int32) (nI a) (nI b) (0 : Int32) (st h K M)) fun z184 h185 => if z184 ≠ (-2000000003 : Int32) then (rtZ (0 : Int32) h185) else (rtZ (1 : Int32) h185)) else (rdI (st h K M) (some 37) 20 (4 : Int32) fun z186 => bnd ((2 : Int32) * z186) fun z187 => wrI (st h K M) (some 29) 20 z187 (nI a) fun h188 => rdI h188 (some 37) 20 (4 : Int32) fun z189 => bnd ((2 : Int32) * z189) fun z190 => bnd (z190 + (1 : Int32)) fun z191 => wrI h188 (some 29) 20 z191 (nI b) fun h192 => rdI h192 (some 37) 20 (4 : Int32) fun z193 => bnd (z193 + (1 : Int32)) fun z194 => wrI h192 (some 37) 20 (4 : Int32) z194 fun h195 => chk h195 (some 1) 8 <| calI (M_X8_storm (some 1) (nI a) (nI b) h195) fun z196 h197 => if z196 ≠ csm w ((List.range nst).map sd) then (rtZ (0 : Int32) h197) else (rtZ (1 : Int32) h197))) B d := by
    rw [rq4 F, q4]
    by_cases q : nsm < 20
    · rw [if_neg (show ¬ (20 : Int32) ≤ nI nsm from nI_ge (b := 20) q (by decide)), rq4 F, q4, x_bnd, show (2 : Int32) * nI nsm = nI (2 * nsm) from pk_mul 2 nsm, w29 F (by omega), rq4 F, upw_o (show (37 : Nat) ≠ 29 by decide), q4, x_bnd, show (2 : Int32) * nI nsm = nI (2 * nsm) from pk_mul 2 nsm, x_bnd, nIs, w29 F (by omega), upw_s, rq4 F, upw_o (show (37 : Nat) ≠ 29 by decide), upw_o (show (37 : Nat) ≠ 29 by decide), q4, x_bnd, nIs, wq4 F, upw_o (show (37 : Nat) ≠ 29 by decide), upw_o (show (37 : Nat) ≠ 29 by decide), upw_w, c1 F, s2, if_pos q, x_rtI, if_neg (fun z => z rfl), rtZ_1]
      refine ⟨_, _, stoM g nsm (nI a) (nI b), _, nb, nr, ns, nsm + 1, nst, rfl, ⟨(s3 q).up, L, ⟨A1, A2, ⟨fun y hy => ?_, A3.2.1, ?_⟩, A4, A5, A6, ⟨A7.1, fun k hk1 => ?_⟩, ⟨⟨q0, q2, q3, ?_, q5, q6⟩, ⟨q7, q8⟩, fun s hs => ?_⟩⟩, hns, hn, hd⟩, Z⟩
      · show upd (M 37) 4 _ (8 + y) = g 25 y
        rw [upd_o (by omega)]; exact A3.1 y hy
      · exact A3.2.2
      · show upd (upd (M 29) (2 * nsm) (nI a)) (2 * nsm + 1) (nI b) (2 * k) = upd (g 38) nsm (nI a) k ∧ upd (upd (M 29) (2 * nsm) (nI a)) (2 * nsm + 1) (nI b) (2 * k + 1) = upd (g 39) nsm (nI b) k
        by_cases w2 : k = nsm
        · rw [w2, upd_o (by omega), upd_s, upd_s, upd_s, upd_s]
          exact ⟨rfl, rfl⟩
        · rw [upd_o (by omega), upd_o (by omega), upd_o w2, upd_o (by omega), upd_o (by omega), upd_o w2]
          exact A7.2 k (by omega)
      · rfl
      · show upd (M 37) 4 _ (14 + s) = g 45 s
        rw [upd_o (by omega)]; exact q9 s hs
    · rw [if_pos (show (20 : Int32) ≤ nI nsm from nI_le (a := 20) (by omega) (by omega)), lc2, c1 F, s2, if_neg q, callR_x, x_rtI, if_neg (fun z => z rfl), rtZ_1]
      exact ⟨_, K, g, M, nb, nr, ns, nsm, nst, rfl, O.ex, Z⟩
  have hloop : ∀ r, r = (rdI (st h K M) (some 37) 20 (4 : Int32) fun z183 => if (20 : Int32) ≤ z183 then (calI (M_L_calls (some 1) (2 : Int32) (nI a) (nI b) (0 : Int32) (st h K M)) fun z184 h185 => if z184 ≠ (-2000000003 : Int32) then (rtZ (0 : Int32) h185) else (rtZ (1 : Int32) h185)) else (rdI (st h K M) (some 37) 20 (4 : Int32) fun z186 => bnd ((2 : Int32) * z186) fun z187 => wrI (st h K M) (some 29) 20 z187 (nI a) fun h188 => rdI h188 (some 37) 20 (4 : Int32) fun z189 => bnd ((2 : Int32) * z189) fun z190 => bnd (z190 + (1 : Int32)) fun z191 => wrI h188 (some 29) 20 z191 (nI b) fun h192 => rdI h192 (some 37) 20 (4 : Int32) fun z193 => bnd (z193 + (1 : Int32)) fun z194 => wrI h192 (some 37) 20 (4 : Int32) z194 fun h195 => chk h195 (some 1) 8 <| calI (M_X8_storm (some 1) (nI a) (nI b) h195) fun z196 h197 => if z196 ≠ csm w ((List.range nst).map sd) then (rtZ (0 : Int32) h197) else (rtZ (1 : Int32) h197))) → L_L_tells_805 fuel (some 1) (some 28) (some 29) (some 37) (nI a) (nI b) 0 0 (st h K M) = r := by
    intro r hr
    refine zlp0 (G := fun n i => L_L_tells_805 n (some 1) (some 28) (some 29) (some 37) (nI a) (nI b) (csm w ((List.range i).map sd)) (nI i) (st h K M)) (N := nst) (r := r) (by have : fuel = 1000 := rfl; omega) (fun n i hi => ?_) (fun n => ?_)
    · show B_L_tells_805 (L_L_tells_805 n) (some 1) (some 28) (some 29) (some 37) (nI a) (nI b) (csm w ((List.range i).map sd)) (nI i) (st h K M) = L_L_tells_805 n (some 1) (some 28) (some 29) (some 37) (nI a) (nI b) (csm w ((List.range (i + 1)).map sd)) (nI (i + 1)) (st h K M)
      have hcw : w (sd i) = if (nI a ≤ nI (sd i) ∧ nI (sd i) ≤ nI b) ∧ stB (g 38) (g 39) (nI (sd i)) nsm = false then 1 else 0 := by rw [hw]; rfl
      unfold B_L_tells_805 B_L_tells_864 B_L_tells_865
      rw [csm_map, hcw, rq3 F, q3, if_neg (nI_ge hi (by omega)), hT i hi, hT i hi, hT i hi]
      by_cases c1' : nI (sd i) < nI a
      · rw [if_pos c1', x_bnd, x_bnd, nIs, if_neg (fun z => by have := z.1.1; rw [i_lt] at c1'; rw [i_le] at this; omega)]
      · rw [if_neg c1']
        by_cases c2' : nI b < nI (sd i)
        · rw [if_pos c2', x_bnd, x_bnd, nIs, if_neg (fun z => by have := z.1.2; rw [i_lt] at c2'; rw [i_le] at this; omega)]
        · rw [if_neg c2', s_lstorm F q4 hsm2 A7.2, x_rtI]
          have e1 : nI a ≤ nI (sd i) ∧ nI (sd i) ≤ nI b := by rw [i_nlt] at c1' c2'; exact ⟨c1', c2'⟩
          cases c3' : stB (g 38) (g 39) (nI (sd i)) nsm with
          | true => rw [if_pos rfl, if_pos (show (1 : Int32) ≠ 0 by decide), x_bnd, x_bnd, nIs, if_neg (fun z => by cases z.2)]
          | false => rw [if_neg (show ¬ false = true by decide), if_neg (show ¬ (0 : Int32) ≠ 0 from fun z => z rfl), x_bnd, x_bnd, nIs, if_pos ⟨e1, rfl⟩]
    · show B_L_tells_805 (L_L_tells_805 n) (some 1) (some 28) (some 29) (some 37) (nI a) (nI b) (csm w ((List.range nst).map sd)) (nI nst) (st h K M) = _
      unfold B_L_tells_805
      rw [rq3 F, q3, if_pos (nI_le (Nat.le_refl _) (by omega)), hr]
  unfold M_L_tells
  rw [s_low (x := (60 : Int32)) (n := 60) rfl (by decide) (by decide), x_rtI, if_pos (by decide), if_pos (by decide), if_pos (by decide), if_pos (by decide), if_pos (by decide), if_neg (by decide), rq0 F, q0, x_bnd, nIs, x_bnd, s_low (x := (8 : Int32)) (n := 8) rfl (by decide) (by decide), x_rtI, x_bnd, nI_add, ← ea, x_bnd, s_low (x := (4 : Int32)) (n := 4) rfl (by decide) (by decide), x_rtI, x_bnd, nI_add, ← eb, hloop _ rfl]
  exact fin
/-- the heat and salt without a cell's -/
theorem Hts.land {r26 r27 : Nat → Int32} {T c : Nat} (H : Hts r26 r27 T) : Hts (upd (upd r26 c 0) (60 + c) 0) (upd (upd r27 c 0) (60 + c) 0) T := by
  obtain ⟨he, sa, h1, h2, h3⟩ := H
  refine ⟨fun j => if j = 60 + c then 0 else if j = c then 0 else he j, fun j => if j = 60 + c then 0 else if j = c then 0 else sa j, fun j hj => ?_, Nat.le_trans (smn_le fun j hj => ?_) h2, Nat.le_trans (smn_le fun j hj => ?_) h3⟩
  · show (if j = 60 + c then _ else if j = c then _ else r26 j) = nI (if j = 60 + c then _ else if j = c then _ else he j) ∧ (if j = 60 + c then _ else if j = c then _ else r27 j) = nI (if j = 60 + c then _ else if j = c then _ else sa j)
    by_cases w : j = 60 + c
    · rw [if_pos w, if_pos w, if_pos w, if_pos w]; exact ⟨rfl, rfl⟩
    · rw [if_neg w, if_neg w, if_neg w, if_neg w]
      by_cases w2 : j = c
      · rw [if_pos w2, if_pos w2, if_pos w2, if_pos w2]; exact ⟨rfl, rfl⟩
      · rw [if_neg w2, if_neg w2, if_neg w2, if_neg w2]; exact h1 j hj
  · by_cases w : j = 60 + c
    · rw [if_pos w]; exact Nat.zero_le _
    · rw [if_neg w]
      by_cases w2 : j = c
      · rw [if_pos w2]; exact Nat.zero_le _
      · rw [if_neg w2]; exact Nat.le_refl _
  · by_cases w : j = 60 + c
    · rw [if_pos w]; exact Nat.zero_le _
    · rw [if_neg w]
      by_cases w2 : j = c
      · rw [if_pos w2]; exact Nat.zero_le _
      · rw [if_neg w2]; exact Nat.le_refl _
end
