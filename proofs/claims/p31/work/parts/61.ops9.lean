/-! a search begins -/
theorem K_nA {h : MH} {K m : Nat → Nat → Int32} {kd n : Nat} {k : Option Nat → MH → Res} (hn1 : 37 ≤ hn h) (hn2 : n ≤ 1000) : nwA (st h K m) kd (nI n) k = k (some (hn h + 1)) (st (alc h kd n) (upw K (hn h + 1) (fun _ => 0)) m) := by
  have c1 : (nI n).toNatClampNeg = n := nI_clamp (by omega)
  unfold nwA
  rw [if_pos ⟨nI_pos' (by omega), by rw [c1]; exact hn2⟩, c1, st_alc hn1]
  rfl
def srH (h : MH) (ns : Nat) : MH := sR (sR (alc (sR (alc (alc h 6 3) 20 60) (hn h + 1) 1 (some (hn h + 2))) 20 60) (hn h + 1) 2 (some (hn h + 3))) 20 ns (some (hn h + 1))
def srK (K : Nat → Nat → Int32) (b ns c : Nat) : Nat → Nat → Int32 := upw (upw (upw (upw K b (upd (fun _ => 0) 0 (nI c))) (b + 2) (fun _ => 0)) (b + 1) (upd (fun _ => 0) c 10000)) 1 (upd (K 1) 7 (nI (ns + 1)))
theorem srH_r {h : MH} {ns a j : Nat} : hr (srH h ns) a j = if a = 20 ∧ j = ns then some (hn h + 1) else if a = hn h + 1 ∧ j = 2 then some (hn h + 3) else if a = hn h + 3 then none else if a = hn h + 1 ∧ j = 1 then some (hn h + 2) else if a = hn h + 2 then none else if a = hn h + 1 then none else hr h a j := rfl
theorem srH_k {h : MH} {ns a : Nat} : hk (srH h ns) a = if a = hn h + 3 then 20 else if a = hn h + 2 then 20 else if a = hn h + 1 then 6 else hk h a := rfl
theorem srH_l {h : MH} {ns a : Nat} : hl (srH h ns) a = if a = hn h + 3 then 60 else if a = hn h + 2 then 60 else if a = hn h + 1 then 3 else hl h a := rfl
theorem srH_n {h : MH} {ns : Nat} : hn (srH h ns) = hn h + 3 ∧ CGyreWatchLaw_law_r6608_32e876.hc (srH h ns) = CGyreWatchLaw_law_r6608_32e876.hc h + 3 ∧ hs (srH h ns) = hs h + 3 + 60 + 60 := ⟨rfl, rfl, rfl⟩
theorem srK_o {K : Nat → Nat → Int32} {b ns c a : Nat} (h1 : a ≠ 1) (h2 : a ≠ b) (h3 : a ≠ b + 1) (h4 : a ≠ b + 2) : srK K b ns c a = K a := by
  unfold srK; rw [upw_o h1, upw_o h3, upw_o h4, upw_o h2]
theorem s_srchNew {h : MH} {K m : Nat → Nat → Int32} {ns c : Nat} (F : Fix h) (hns : ns < 4) (hc : c < 60) : (nwO (st h K m) 6 fun r11 h12 => nnl r11 <| calV (M_X6_init r11 (nI c) h12) fun h13 => wrR h13 (some 20) (nI ns) r11 fun h14 => bnd (nI ns + (1 : Int32)) fun z15 => pfI h14 (some 1) 8 7 z15 fun h16 => rtI (nI ns) h16) = rtI (nI ns) (st (srH h ns) (srK K (hn h + 1) ns c) m) := by
  have h50 := F.2.2.1
  have F1 : Fix (alc h 6 (nF 6)) := F.alc
  have F2 : Fix (alc (alc h 6 (nF 6)) 20 60) := F1.alc
  have F3 : Fix (sR (alc (alc h 6 (nF 6)) 20 60) (hn h + 1) 1 (some (hn h + 2))) := F2.sR (RT_dyn (by omega))
  have F4 : Fix (alc (sR (alc (alc h 6 (nF 6)) 20 60) (hn h + 1) 1 (some (hn h + 2))) 20 60) := F3.alc
  have F5 : Fix (sR (alc (sR (alc (alc h 6 (nF 6)) 20 60) (hn h + 1) 1 (some (hn h + 2))) 20 60) (hn h + 1) 2 (some (hn h + 3))) := F4.sR (RT_dyn (by omega))
  have F6 : Fix (sR (sR (alc (sR (alc (alc h 6 (nF 6)) 20 60) (hn h + 1) 1 (some (hn h + 2))) 20 60) (hn h + 1) 2 (some (hn h + 3))) 20 ns (some (hn h + 1))) := F5.sR (by decide)
  have k1 : hk (alc (alc h 6 (nF 6)) 20 60) (hn h + 1) = 6 := by
    show (if hn h + 1 = hn h + 1 + 1 then 20 else if hn h + 1 = hn h + 1 then 6 else hk h (hn h + 1)) = 6
    rw [if_neg (by omega), if_pos rfl]
  have k2 : hk (alc (sR (alc (alc h 6 (nF 6)) 20 60) (hn h + 1) 1 (some (hn h + 2))) 20 60) (hn h + 1) = 6 := by
    show (if hn h + 1 = hn h + 1 + 1 + 1 then 20 else if hn h + 1 = hn h + 1 + 1 then 20 else if hn h + 1 = hn h + 1 then 6 else hk h (hn h + 1)) = 6
    rw [if_neg (by omega), if_neg (by omega), if_pos rfl]
  have kA : hk (sR (alc (sR (alc (alc h 6 (nF 6)) 20 60) (hn h + 1) 1 (some (hn h + 2))) 20 60) (hn h + 1) 2 (some (hn h + 3))) (hn h + 2) = 20 := by
    show (if hn h + 2 = hn h + 1 + 1 + 1 then 20 else if hn h + 2 = hn h + 1 + 1 then 20 else if hn h + 2 = hn h + 1 then 6 else hk h (hn h + 2)) = 20
    rw [if_neg (by omega), if_pos rfl]
  have lA : hl (sR (alc (sR (alc (alc h 6 (nF 6)) 20 60) (hn h + 1) 1 (some (hn h + 2))) 20 60) (hn h + 1) 2 (some (hn h + 3))) (hn h + 2) = 60 := by
    show (if hn h + 2 = hn h + 1 + 1 + 1 then 60 else if hn h + 2 = hn h + 1 + 1 then 60 else if hn h + 2 = hn h + 1 then nF 6 else hl h (hn h + 2)) = 60
    rw [if_neg (by omega), if_pos rfl]
  have rA : hr (sR (alc (sR (alc (alc h 6 (nF 6)) 20 60) (hn h + 1) 1 (some (hn h + 2))) 20 60) (hn h + 1) 2 (some (hn h + 3))) (hn h + 1) 1 = some (hn h + 2) := by
    show (if hn h + 1 = hn h + 1 ∧ (1 : Nat) = 2 then some (hn h + 3) else if hn h + 1 = hn h + 1 + 1 + 1 then none else if hn h + 1 = hn h + 1 ∧ (1 : Nat) = 1 then some (hn h + 2) else _) = _
    rw [if_neg (by omega), if_neg (by omega), if_pos ⟨rfl, rfl⟩]
  have hb : cA (hn h + 1) := Or.inr (by omega)
  have hb2 : cA (hn h + 2) := Or.inr (by omega)
  rw [K_nw h50]
  unfold M_X6_init
  rw [show nnl (some (hn h + 1)) = id from rfl]
  show calV (id (nwA _ 20 (nI 60) _)) _ = _
  simp only [id]
  rw [K_nA F1.2.2.1 (by decide)]
  show calV (pfR _ (some (hn h + 1)) 6 1 (some (hn h + 2)) _) _ = _
  rw [K_pr k1]
  show calV (nwA _ 20 (nI 60) _) _ = _
  rw [K_nA F3.2.2.1 (by decide)]
  show calV (pfR _ (some (hn h + 1)) 6 2 (some (hn h + 3)) _) _ = _
  rw [K_pr k2, K_pf (h := sR (alc (sR (alc (alc h 6 (nF 6)) 20 60) (hn h + 1) 1 (some (hn h + 2))) 20 60) (hn h + 1) 2 (some (hn h + 3))) k2 hb, s_isCell_t hc, x_rtI, if_neg (by decide), K_gr (h := sR (alc (sR (alc (alc h 6 (nF 6)) 20 60) (hn h + 1) 1 (some (hn h + 2))) 20 60) (hn h + 1) 2 (some (hn h + 3))) k2, rA, K_wr kA lA hb2 hc (by decide) (fun q => absurd q (by decide)), x_rtV, K_wR (Fk20 F5) ⟨by decide, by decide⟩ (Fl20 F5) hns (by decide) k2, x_bnd, nIs, p1 F6]
  have e : ∀ X Y : Nat → Nat → Int32, X = Y → rtI (nI ns) (st (srH h ns) X m) = rtI (nI ns) (st (srH h ns) Y m) := fun X Y z => by rw [z]
  refine e _ _ ?_
  have hnA : hn (sR (alc (alc h 6 (nF 6)) 20 60) (hn h + 1) 1 (some (hn h + 2))) + 1 = hn h + 3 := rfl
  have hnB : hn (alc h 6 (nF 6)) + 1 = hn h + 2 := rfl
  rw [hnA, hnB]
  funext a
  unfold srK
  have t1 : ¬ (1 = hn h + 1) := by omega
  have t2 : ¬ (1 = hn h + 2) := by omega
  have t3 : ¬ (1 = hn h + 3) := by omega
  have t4 : ¬ (hn h + 1 = 1) := by omega
  have t5 : ¬ (hn h + 2 = 1) := by omega
  have t6 : ¬ (hn h + 3 = 1) := by omega
  have t7 : ¬ (hn h + 1 = hn h + 2) := by omega
  have t8 : ¬ (hn h + 1 = hn h + 3) := by omega
  have t9 : ¬ (hn h + 2 = hn h + 3) := by omega
  have ta : ¬ (hn h + 2 = hn h + 1) := by omega
  have tb : ¬ (hn h + 3 = hn h + 1) := by omega
  have tc : ¬ (hn h + 3 = hn h + 2) := by omega
  simp only [upw_at, show hn h + 1 + 2 = hn h + 3 from rfl, show hn h + 1 + 1 = hn h + 2 from rfl]
  by_cases q1 : a = 1
  · subst q1
    simp only [t1, t2, t3, if_true, if_false]
  · by_cases q2 : a = hn h + 2
    · subst q2
      simp only [t5, t9, ta, if_true, if_false]
    · by_cases q3 : a = hn h + 1
      · subst q3
        simp only [t4, t7, t8, if_true, if_false]
      · by_cases q4 : a = hn h + 3
        · subst q4
          simp only [t6, tb, tc, if_true, if_false]
        · simp only [q1, q2, q3, q4, if_false]
