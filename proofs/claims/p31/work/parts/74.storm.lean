/-! a storm is told -/
/-- how many of a row's stations a new storm cancels -/
def cwt (f t : Nat → Int32) (n : Nat) (a b : Int32) (D : Nat) : Int32 := if (a ≤ nI D ∧ nI D ≤ b) ∧ stB f t (nI D) n = false then 1 else 0
def csm (w : Nat → Int32) : List Nat → Int32
  | [] => 0
  | x :: l => w x + csm w l
theorem csm_append {w : Nat → Int32} {x : Nat} : ∀ l : List Nat, csm w (l ++ [x]) = csm w l + w x := by
  intro l
  induction l with
  | nil => show w x + 0 = 0 + w x; rw [Int32.add_comm]
  | cons a l ih => show w a + csm w (l ++ [x]) = w a + csm w l + w x; rw [ih, Int32.add_assoc]
theorem csm_perm {w : Nat → Int32} {l l2 : List Nat} (h : l.Perm l2) : csm w l = csm w l2 := by
  induction h with
  | nil => rfl
  | cons x _ ih => show w x + _ = w x + _; rw [ih]
  | swap x y l => show w y + (w x + csm w l) = w x + (w y + csm w l); rw [← Int32.add_assoc, ← Int32.add_assoc, Int32.add_comm (w y)]
  | trans _ _ h1 h2 => exact h1.trans h2
theorem csm_map {w : Nat → Int32} {f : Nat → Nat} {n : Nat} : csm w ((List.range (n + 1)).map f) = csm w ((List.range n).map f) + w (f n) := by
  rw [List.range_succ, List.map_append]
  exact csm_append _
theorem s_dayOf {h : MH} {x : Nat} (hx : x < 100000) : M_X7_dayOf (nI x) h = rtI (nI (x / 60)) h := by
  unfold M_X7_dayOf
  rw [q_dv (by decide), show nI x / 60 = nI (x / 60) from nI_div 60 (by omega) (by decide) (by decide)]
theorem s_calm {h : MH} {K m : Nat → Nat → Int32} {nst nsm : Nat} {cd : Nat → Nat} (F : Fix h) (h0 : K 16 0 = nI nst) (hn1 : nst ≤ 30) (hcd : ∀ i, i < nst → K 17 i = nI (cd i) ∧ cd i < 100000) (h4 : K 16 4 = nI nsm) (hn2 : nsm ≤ 20) (a b : Int32) : M_X7_calmStations (some 16) a b (st h K m) = rtI (csm (fun x => cwt (K 18) (K 19) nsm a b (x / 60)) ((List.range nst).map cd)) (st h K m) := by
  let G : Nat → Int32 := fun i => csm (fun x => cwt (K 18) (K 19) nsm a b (x / 60)) ((List.range i).map cd)
  have hG := zlp0 (G := fun n i => L_X7_calmStations_5 n (some 16) a b (G i) (nI i) (st h K m)) (N := nst) (r := rtI (G nst) (st h K m)) (by have : fuel = 1000 := rfl; omega) ?_ ?_
  · exact hG
  · intro n i hi
    show B_X7_calmStations_5 (L_X7_calmStations_5 n) (some 16) a b (G i) (nI i) (st h K m) = L_X7_calmStations_5 n (some 16) a b (G (i + 1)) (nI (i + 1)) (st h K m)
    have hs : G (i + 1) = G i + cwt (K 18) (K 19) nsm a b (cd i / 60) := csm_map
    unfold B_X7_calmStations_5 B_X7_calmStations_60
    rw [g16 F, h0, if_neg (nI_ge hi (by omega)), r16_1 F, a17 F, if_neg (nI_ge (by omega) (by omega)), r16_1 F, d17 F (by omega), (hcd i hi).1, s_dayOf (hcd i hi).2, x_rtI]
    simp only [x_bnd, nIs]
    by_cases q1 : nI (cd i / 60) < a
    · have : cwt (K 18) (K 19) nsm a b (cd i / 60) = 0 := if_neg (fun z => by have := z.1.1; rw [i_le] at this; rw [i_lt] at q1; omega)
      rw [if_pos q1, hs, this, Int32.add_zero]
    · rw [if_neg q1]
      by_cases q2 : b < nI (cd i / 60)
      · have : cwt (K 18) (K 19) nsm a b (cd i / 60) = 0 := if_neg (fun z => by have := z.1.2; rw [i_le] at this; rw [i_lt] at q2; omega)
        rw [if_pos q2, hs, this, Int32.add_zero]
      · rw [if_neg q2, c16 F, s_hasStorm F h4 hn2, x_rtI]
        cases q3 : stB (K 18) (K 19) (nI (cd i / 60)) nsm with
        | true =>
          have : cwt (K 18) (K 19) nsm a b (cd i / 60) = 0 := if_neg (fun z => by rw [q3] at z; exact absurd z.2 (by decide))
          rw [if_pos (show true = true from rfl), if_pos (show (1 : Int32) ≠ 0 by decide), hs, this, Int32.add_zero]
        | false =>
          have : cwt (K 18) (K 19) nsm a b (cd i / 60) = 1 := if_pos ⟨⟨by rwa [i_nlt] at q1, by rwa [i_nlt] at q2⟩, q3⟩
          rw [if_neg (show ¬ false = true by decide), if_neg (show ¬ (0 : Int32) ≠ 0 from fun z => z rfl), hs, this]
  · intro n
    show B_X7_calmStations_5 (L_X7_calmStations_5 n) (some 16) a b (G nst) (nI nst) (st h K m) = _
    unfold B_X7_calmStations_5
    rw [g16 F, h0, if_pos (nI_le (Nat.le_refl _) (by omega))]
def stoK (K : Nat → Nat → Int32) (n : Nat) (a b : Int32) : Nat → Nat → Int32 := upw (upw (upw K 18 (upd (K 18) n a)) 19 (upd (K 19) n b)) 16 (upd (K 16) 4 (nI (n + 1)))
def stoM (m : Nat → Nat → Int32) (n : Nat) (a b : Int32) : Nat → Nat → Int32 := upw (upw (upw (thM m 0) 38 (upd (m 38) n a)) 39 (upd (m 39) n b)) 22 (upd (thM m 0 22) 20 (nI (n + 1)))
theorem s_stormsTold {h : MH} {K m : Nat → Nat → Int32} {n : Nat} (F : Fix h) (h0 : K 16 4 = nI n) (hn1 : n ≤ 20) : M_X7_areAllStormsTold (some 16) (st h K m) = rtI (if n < 20 then 0 else 1) (st h K m) := by
  unfold M_X7_areAllStormsTold
  rw [g16 F, h0]
  by_cases q : n < 20
  · rw [show (20 : Int32) = nI 20 from rfl, s_isIndex_t q (by decide), x_rtI, if_pos (by decide), rtZ_0, if_pos q]
  · rw [show (20 : Int32) = nI 20 from rfl, s_isIndex_f (Or.inr (nI_le (by omega) (by omega))), x_rtI, if_neg (fun z => z rfl), rtZ_1, if_neg q]
theorem s_tellStorm {h : MH} {K m : Nat → Nat → Int32} {n : Nat} (F : Fix h) (h0 : K 16 4 = nI n) (hn1 : n < 20) (a b : Int32) : M_X7_tellStorm (some 16) a b (st h K m) = rtV (st h (stoK K n a b) m) := by
  unfold M_X7_tellStorm
  rw [c16 F, s_stormsTold F h0 (by omega), x_rtI, if_pos hn1, if_neg (fun z => z rfl), r16_2 F, g16 F, h0, w18 F hn1, r16_3 F, g16 F, upw_o (show (16 : Nat) ≠ 18 by decide), h0, w19 F hn1, upw_o (show (19 : Nat) ≠ 18 by decide), g16 F, upw_o (show (16 : Nat) ≠ 19 by decide), upw_o (show (16 : Nat) ≠ 18 by decide), h0, x_bnd, nIs, p16 F, upw_o (show (16 : Nat) ≠ 19 by decide), upw_o (show (16 : Nat) ≠ 18 by decide)]
  rfl
theorem stormed {h : MH} {K m : Nat → Nat → Int32} {B nb nr ns np nsm d nst e : Nat} (R : Rel h K m B nb nr ns np nsm d (Sst nst e)) (hn1 : nsm < 20) (a b : Int32) : Rel h (stoK K nsm a b) (stoM m nsm a b) B nb nr ns np (nsm + 1) d (Sst nst e) := by
  have CS := R.2.2.2.2.2.2.1
  obtain ⟨⟨s1, s2, s3⟩, ⟨s4, s5⟩, s6⟩ := CS
  refine R.sS (K1 := stoK K nsm a b) (m1 := stoM m nsm a b) (nsm1 := nsm + 1) (fun a ha => ?_) (fun a ha => ?_) (fun j hj => ?_) ⟨⟨?_, ?_⟩, hn1⟩ ?_
  · simp at ha
    unfold stoK
    rw [upw_o (by omega), upw_o (by omega), upw_o (by omega)]
  · simp at ha
    unfold stoM
    rw [upw_o (by omega), upw_o (by omega), upw_o (by omega), thM_o (by omega)]
  · simp at hj
    unfold stoM
    rw [upw_s, upd_o (by omega), thM_22 (by omega)]
  · unfold stoK
    rw [upw_s, upd_s]
  · unfold stoM
    rw [upw_s, upd_s]
  · have k17 : stoK K nsm a b 17 = K 17 := by unfold stoK; rw [upw_o (by decide), upw_o (by decide), upw_o (by decide)]
    have k18 : stoK K nsm a b 18 = upd (K 18) nsm a := by unfold stoK; rw [upw_o (by decide), upw_o (by decide), upw_s]
    have k19 : stoK K nsm a b 19 = upd (K 19) nsm b := by unfold stoK; rw [upw_o (by decide), upw_s]
    have k16 : stoK K nsm a b 16 0 = nI nst := by unfold stoK; rw [upw_s, upd_o (by decide)]; exact s1
    have m17 : stoM m nsm a b 22 17 = nI nst := by unfold stoM; rw [upw_s, upd_o (by decide), thM_22 (by decide)]; exact s2
    have m36 : stoM m nsm a b 36 = m 36 := by unfold stoM; rw [upw_o (by decide), upw_o (by decide), upw_o (by decide), thM_o (by decide)]
    have m37 : stoM m nsm a b 37 = m 37 := by unfold stoM; rw [upw_o (by decide), upw_o (by decide), upw_o (by decide), thM_o (by decide)]
    have m38 : stoM m nsm a b 38 = upd (m 38) nsm a := by unfold stoM; rw [upw_o (by decide), upw_o (by decide), upw_s]
    have m39 : stoM m nsm a b 39 = upd (m 39) nsm b := by unfold stoM; rw [upw_o (by decide), upw_s]
    unfold Cst
    rw [k17, k18, k19, k16, m17, m36, m37, m38, m39]
    exact ⟨⟨rfl, rfl, s3⟩, ⟨by rw [s4], by rw [s5]⟩, s6⟩
theorem csm_ext {w w2 : Nat → Int32} {f g : Nat → Nat} : ∀ n, (∀ i, i < n → w (f i) = w2 (g i)) → csm w ((List.range n).map f) = csm w2 ((List.range n).map g) := by
  intro n
  induction n with
  | zero => intro _; rfl
  | succ n ih =>
    intro h
    rw [csm_map, csm_map, ih (fun i hi => h i (by omega)), h n (by omega)]
theorem div_code {a b : Nat} (h : b < 60) : (a * 60 + b) / 60 = a := by omega
theorem sto_sum {K m : Nat → Nat → Int32} {nst nsm : Nat} {cd sd sc : Nat → Nat} {a b : Int32} (z4 : K 18 = m 38) (z5 : K 19 = m 39) (h1 : ∀ i, i < nst → sc i < 60) (hp : ((List.range nst).map cd).Perm ((List.range nst).map fun k => sd k * 60 + sc k)) : csm (fun c => cwt (K 18) (K 19) nsm a b (c / 60)) ((List.range nst).map cd) = csm (cwt (m 38) (m 39) nsm a b) ((List.range nst).map sd) := by
  rw [csm_perm hp, z4, z5]
  exact csm_ext nst (fun i hi => congrArg (cwt (m 38) (m 39) nsm a b) (div_code (h1 i hi)))
