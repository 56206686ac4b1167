/-! a search, both sides -/
def plP (x : Int32) (P : Nat → Int32) : Nat → Nat → Int32
  | 0 => P
  | n + 1 => upd (plP x P n) (bst (plP x P n) 59) (plP x P n (bst (plP x P n) 59) - plP x P n (bst (plP x P n) 59) * x / 100)
def plS (x : Int32) (P : Nat → Int32) : Nat → Int32
  | 0 => 0
  | n + 1 => plS x P n + plP x P n (bst (plP x P n) 59) * x / 100
theorem plP_congr {x : Int32} {P Q : Nat → Int32} (h : ∀ c, c < 60 → P c = Q c) : ∀ n, (∀ c, c < 60 → plP x P n c = plP x Q n c) ∧ plS x P n = plS x Q n := by
  intro n
  induction n with
  | zero => exact ⟨h, rfl⟩
  | succ n ih =>
    obtain ⟨h1, h2⟩ := ih
    have hb : bst (plP x P n) 59 = bst (plP x Q n) 59 := bst_congr (fun j hj => h1 j (by omega))
    have hle := bst_le (r := plP x Q n) (n := 59)
    have e1 := h1 (bst (plP x Q n) 59) (by omega)
    refine ⟨fun c hc => ?_, ?_⟩
    · show upd _ _ _ c = upd _ _ _ c
      rw [hb, e1]
      unfold upd
      split
      · rfl
      · exact h1 c hc
    · show plS x P n + _ = plS x Q n + _
      rw [hb, e1, h2]
theorem less_nI {a x : Nat} (ha : a ≤ 10000) (hx : x ≤ 100) : nI a * nI x / 100 = nI (a * x / 100) ∧ nI a - nI a * nI x / 100 = nI (a - a * x / 100) ∧ a * x / 100 ≤ a := by
  have h1 : a * x ≤ a * 100 := Nat.mul_le_mul_left a hx
  have h2 : a * x / 100 ≤ a := by omega
  have e : nI a * nI x / 100 = nI (a * x / 100) := by rw [pk_mul]; exact pk_div (d := 100) (by omega) (by decide) (by decide)
  exact ⟨e, by rw [e, pk_sub h2], h2⟩
theorem plP_nI {x : Nat} {P : Nat → Int32} (hx : x ≤ 100) (h : ∃ ch : Nat → Nat, ∀ j, j < 60 → P j = nI (ch j) ∧ ch j ≤ 10000) : ∀ n, ∃ ch : Nat → Nat, ∀ j, j < 60 → plP (nI x) P n j = nI (ch j) ∧ ch j ≤ 10000 := by
  intro n
  induction n with
  | zero => exact h
  | succ n ih =>
    obtain ⟨ch, hch⟩ := ih
    have hle := bst_le (r := plP (nI x) P n) (n := 59)
    obtain ⟨q1, q2⟩ := hch (bst (plP (nI x) P n) 59) (by omega)
    obtain ⟨l1, l2, l3⟩ := less_nI q2 hx
    refine ⟨fun j => if j = bst (plP (nI x) P n) 59 then ch (bst (plP (nI x) P n) 59) - ch (bst (plP (nI x) P n) 59) * x / 100 else ch j, fun j hj => ?_⟩
    show upd _ _ _ j = nI (if _ then _ else _) ∧ (if _ then _ else _) ≤ 10000
    unfold upd
    by_cases e : j = bst (plP (nI x) P n) 59
    · rw [if_pos e, if_pos e, q1, l2]; exact ⟨rfl, by omega⟩
    · rw [if_neg e, if_neg e]; exact hch j hj
theorem kk_plan {h : MH} {K g : Nat → Nat → Int32} {B nb nr ns np nsm d s legs x : Nat} {S : STy} (R : Rel h K g B nb nr ns np nsm d S) (hs : s < ns) (hl1 : 1 ≤ legs ∧ legs ≤ 20) (hx : 1 ≤ x ∧ x ≤ 100) : ∃ K1, (∀ mm, M_X8_plan (some 1) (nI s) (nI legs) (nI x) (st h K mm) = rtI (plS (nI x) (fun c => g 46 (60 * s + c)) legs) (st h K1 mm)) ∧ Rel h K1 g B nb nr ns np nsm d S := by
  have F := R.1.1
  have R20 := R.1.2.2.2.2.1
  have ns4 := R.1.2.1.2.2.1
  have q := row_se R20 hs
  obtain ⟨⟨q1, q2, q3, q4⟩, q5, q6, q7, q8⟩ := R.1.2.2.2.2.2.2.1 s hs
  have hne := R.1.2.2.2.2.2.2.2.2 s s hs hs
  have hv := (R.2.2.2.2.2.2.2.1.1 s hs).2
  have hca : cA (co h s) := Or.inr (by omega)
  obtain ⟨P0, hP0⟩ : ∃ P0, P0 = va_cpy (K (ca h s)) (K (co h s)) 0 0 60 := ⟨_, rfl⟩
  have hP : ∀ c, c < 60 → P0 c = g 46 (60 * s + c) := by
    intro c hc
    rw [hP0, pk_cpy_in (Nat.zero_le _) (by omega)]
    simp only [Nat.zero_add, Nat.sub_zero]
    exact hv c hc
  obtain ⟨-, hS⟩ := plP_congr (x := nI x) (P := P0) (Q := fun c => g 46 (60 * s + c)) hP legs
  refine ⟨upw K (co h s) (plP (nI x) P0 legs), fun mm => ?_, ?_⟩
  · have loop : L_X6_tryLegs_20 fuel (some (se h s)) (nI legs) (nI x) 0 0 (st h (upw K (co h s) P0) mm) = rtI (plS (nI x) P0 legs) (st h (upw K (co h s) (plP (nI x) P0 legs)) mm) := by
      have hG := zlp0 (G := fun n i => L_X6_tryLegs_20 n (some (se h s)) (nI legs) (nI x) (plS (nI x) P0 i) (nI i) (st h (upw K (co h s) (plP (nI x) P0 i)) mm)) (N := legs) (r := rtI (plS (nI x) P0 legs) (st h (upw K (co h s) (plP (nI x) P0 legs)) mm)) (by have : fuel = 1000 := rfl; omega) ?_ ?_
      · exact hG
      · intro n i hi
        have hb := bst_le (r := plP (nI x) P0 i) (n := 59)
        show B_X6_tryLegs_20 (L_X6_tryLegs_20 n) (some (se h s)) (nI legs) (nI x) (plS (nI x) P0 i) (nI i) _ = L_X6_tryLegs_20 n (some (se h s)) (nI legs) (nI x) (plS (nI x) P0 (i + 1)) (nI (i + 1)) (st h (upw K (co h s) (plP (nI x) P0 (i + 1))) mm)
        unfold B_X6_tryLegs_20
        rw [if_neg (nI_ge (by omega) (by omega)), K_gr q.2.1, q5, K_gr q.2.1, q5, s_bestOf q6 q7 hca, x_rtI, upw_s, s_lookAt q6 q7 hca (by omega), x_rtI, upw_s, upw_w, x_bnd, x_bnd, nIs]
        rfl
      · intro n
        show B_X6_tryLegs_20 (L_X6_tryLegs_20 n) (some (se h s)) (nI legs) (nI x) (plS (nI x) P0 legs) (nI legs) _ = _
        unfold B_X6_tryLegs_20
        rw [if_pos (nI_le (by omega) (by omega))]
    unfold M_X8_plan
    rw [c1 F, s_search_t F R20 ns4 hs, x_rtR, s_needRange_t (show (1 : Int32) ≤ nI legs ∧ nI legs ≤ (20 : Int32) from ⟨nI_le (a := 1) hl1.1 (by omega), nI_le (b := 20) hl1.2 (by omega)⟩), x_rtV, s_needRange_t (show (1 : Int32) ≤ nI x ∧ nI x ≤ (100 : Int32) from ⟨nI_le (a := 1) hx.1 (by omega), nI_le (b := 100) hx.2 (by omega)⟩), x_rtV, K_ck q.2.1]
    unfold M_X6_tryLegs
    rw [K_gr q.2.1, q1, K_gr q.2.1, q5, show cpI (st h K mm) (some (ca h s)) 0 (some (co h s)) 0 60 = cpI (st h K mm) (some (ca h s)) (nI 0) (some (co h s)) (nI 0) (nI 60) from rfl, K_cp q2 q6 q3 q7 (Or.inr (by omega)) (Or.inr (by omega)) (by decide) (by decide) (by decide) (by decide), ← hP0, loop, x_rtI, hS]
  · refine R.srch hs (fun a _ h1 => upw_o h1) (fun a h1 h2 => rfl) (fun i hi => rfl) (fun c hc => ?_) (fun i h1 h2 => rfl)
    rw [upw_o hne]
    exact hv c hc
theorem s_lsearch {h : MH} {K g M : Nat → Nat → Int32} {B nb nr ns np nsm nst d s p : Nat} {S : STy} {y : Int32} (R : Rel h K g B nb nr ns np nsm d S) (A : Abs g M nb nr ns nsm nst d) (hs : s < ns) (hp : (s = 0 ∧ p = 33) ∨ (s = 1 ∧ p = 34)) : ∃ K2 M2, M_L_searches (some 1) (nI s) y (some p) (some 35) (st h K M) = rtI 1 (st h K2 M2) ∧ Rel h K2 g B nb nr ns np nsm d S ∧ ∀ a, a ≠ 35 → M2 a = M a := by
  have F := R.1.1
  obtain ⟨hpg, ch, hch, hs1, hs2, -⟩ := A.2.2.2.2.2.1
  have hkp : hk h p = 20 ∧ hl h p = 60 ∧ mA p ∧ p ≠ 35 := by
    rcases hp with ⟨-, rfl⟩ | ⟨-, rfl⟩
    · exact ⟨Fk33 F, Fl33 F, ⟨by decide, by decide⟩, by decide⟩
    · exact ⟨Fk34 F, Fl34 F, ⟨by decide, by decide⟩, by decide⟩
  obtain ⟨kp1, kp2, kp3, kp4⟩ := hkp
  have hMp : ∀ c, c < 60 → M p c = g 46 (60 * s + c) ∧ g 46 (60 * s + c) = nI (ch (60 * s + c)) ∧ ch (60 * s + c) ≤ 10000 := by
    intro c hc
    rcases hp with ⟨rfl, rfl⟩ | ⟨rfl, rfl⟩
    · have := smn_at (f := ch) hc
      rw [show 60 * 0 + c = c by omega]
      exact ⟨(hpg c hc).1, hch c (by omega), by omega⟩
    · have := smn_at (f := fun j => ch (60 + j)) hc
      rw [show 60 * 1 + c = 60 + c by omega]
      exact ⟨(hpg c hc).2, hch _ (by omega), by omega⟩
  obtain ⟨legs, hlegs⟩ : ∃ l, l = 1 + lw y 20 := ⟨_, rfl⟩
  obtain ⟨x, hx⟩ : ∃ x, x = 1 + lw (y >>> ((4 : Int32) &&& 31)) 100 := ⟨_, rfl⟩
  have hl20 : 1 ≤ legs ∧ legs ≤ 20 := by have := lw_lt (v := y) (n := 20) (by decide); omega
  have hx100 : 1 ≤ x ∧ x ≤ 100 := by have := lw_lt (v := y >>> ((4 : Int32) &&& 31)) (n := 100) (by decide); omega
  obtain ⟨P0, hP0⟩ : ∃ P0, P0 = ptw (M p) (M 35) 60 := ⟨_, rfl⟩
  have hP : ∀ c, c < 60 → P0 c = g 46 (60 * s + c) := fun c hc => by
    rw [hP0]; unfold ptw; rw [if_pos hc]; exact (hMp c hc).1
  have hPn : ∃ ch' : Nat → Nat, ∀ j, j < 60 → P0 j = nI (ch' j) ∧ ch' j ≤ 10000 := ⟨fun c => ch (60 * s + c), fun j hj => by
    rw [hP j hj]; exact (hMp j hj).2⟩
  obtain ⟨-, hS⟩ := plP_congr (x := nI x) (P := P0) (Q := fun c => g 46 (60 * s + c)) hP legs
  obtain ⟨K2, k1, k2⟩ := kk_plan R hs hl20 hx100
  have hM2 : ∀ P c, upw M 35 P p c = M p c := fun P c => by rw [upw_o kp4]
  have hbest : ∀ K', L_L_searches_120 fuel (some 1) (nI s) y (some p) 1 0 (st h K' (upw M 35 (plP (nI x) P0 legs))) = rtI 1 (st h K' (upw M 35 (plP (nI x) P0 legs))) ∨ K' ≠ K2 := by
    intro K'
    by_cases e : K' = K2
    · refine Or.inl ?_
      subst e
      have hG := zlp0 (G := fun n i => L_L_searches_120 n (some 1) (nI s) y (some p) 1 (nI i) (st h K' (upw M 35 (plP (nI x) P0 legs)))) (N := 12) (r := rtI 1 (st h K' (upw M 35 (plP (nI x) P0 legs)))) (by decide) ?_ ?_
      · exact hG
      · intro n i hi
        have hl := lw_lt (v := y + (7 : Int32) * nI i) (n := 60) (by decide)
        show B_L_searches_120 (L_L_searches_120 n) (some 1) (nI s) y (some p) 1 (nI i) (st h K' (upw M 35 (plP (nI x) P0 legs))) = L_L_searches_120 n (some 1) (nI s) y (some p) 1 (nI (i + 1)) (st h K' (upw M 35 (plP (nI x) P0 legs)))
        unfold B_L_searches_120 B_L_searches_165
        rw [if_neg (show ¬ (12 : Int32) ≤ nI i from nI_ge (b := 12) hi (by decide)), x_bnd, x_bnd, s_low (x := (60 : Int32)) (n := 60) rfl (by decide) (by decide), x_rtI, if_neg (by decide), c1 F, kk_chance k2 hs hl, x_rtI, m_rd kp1 kp2 kp3 hl (by decide), hM2, (hMp _ hl).1, if_neg (fun z => z rfl), x_bnd, nIs]
      · intro n
        show B_L_searches_120 (L_L_searches_120 n) (some 1) (nI s) y (some p) 1 (nI 12) (st h K' (upw M 35 (plP (nI x) P0 legs))) = _
        unfold B_L_searches_120
        rw [if_pos (show (12 : Int32) ≤ nI 12 from nI_le (a := 12) (Nat.le_refl _) (by decide)), rtZ_1]
    · exact Or.inr e
  have h120 := (hbest K2).resolve_right (fun z => z rfl)
  refine ⟨K2, upw M 35 (plP (nI x) P0 legs), ?_, k2, fun a ha => upw_o ha⟩
  unfold M_L_searches
  rw [s_low (x := (20 : Int32)) (n := 20) rfl (by decide) (by decide), x_rtI, x_bnd, show (1 : Int32) + nI (lw y 20) = nI legs by rw [hlegs]; exact nI_add 1 _, x_bnd, s_low (x := (100 : Int32)) (n := 100) rfl (by decide) (by decide), x_rtI, x_bnd, show (1 : Int32) + nI (lw (y >>> ((4 : Int32) &&& 31)) 100) = nI x by rw [hx]; exact nI_add 1 _, s_copies kp1 kp2 kp3 (Fk35 F) (Fl35 F) ⟨by decide, by decide⟩ kp4, x_rtV, ← hP0]
  have hG := zlp0 (G := fun n i => L_L_searches_34 n (some 1) (nI s) y (some p) (some 35) (nI legs) (nI x) (plS (nI x) P0 i) (nI i) (st h K (upw M 35 (plP (nI x) P0 i)))) (N := legs) (r := rtI 1 (st h K2 (upw M 35 (plP (nI x) P0 legs)))) (by have : fuel = 1000 := rfl; omega) ?_ ?_
  · exact hG
  · intro n i hi
    obtain ⟨ci, hci⟩ := plP_nI hx100.2 hPn i
    have hb := bst_le (r := plP (nI x) P0 i) (n := 59)
    have hrow : upw M 35 (plP (nI x) P0 i) 35 = plP (nI x) P0 i := upw_s
    show B_L_searches_34 (L_L_searches_34 n) (some 1) (nI s) y (some p) (some 35) (nI legs) (nI x) (plS (nI x) P0 i) (nI i) (st h K (upw M 35 (plP (nI x) P0 i))) = L_L_searches_34 n (some 1) (nI s) y (some p) (some 35) (nI legs) (nI x) (plS (nI x) P0 (i + 1)) (nI (i + 1)) (st h K (upw M 35 (plP (nI x) P0 (i + 1))))
    unfold B_L_searches_34
    rw [if_neg (nI_ge (by omega) (by omega)), s_lbest (ch := ci) (Fk35 F) (Fl35 F) ⟨by decide, by decide⟩ (by rw [hrow]; exact hci), x_rtI, hrow, d35 F (by omega), hrow, x_bnd, q_dv (by decide), d35 F (by omega), hrow, x_bnd, w35 F (by omega), hrow, upw_w, x_bnd, x_bnd, nIs]
    rfl
  · intro n
    show B_L_searches_34 (L_L_searches_34 n) (some 1) (nI s) y (some p) (some 35) (nI legs) (nI x) (plS (nI x) P0 legs) (nI legs) (st h K (upw M 35 (plP (nI x) P0 legs))) = _
    have hbe : bst (upw M 35 (plP (nI x) P0 legs) p) 59 = bst (fun c => g 46 (60 * s + c)) 59 := bst_congr (fun j hj => by rw [hM2]; exact (hMp j (by omega)).1)
    unfold B_L_searches_34 B_L_searches_115
    rw [if_pos (nI_le (Nat.le_refl _) (by omega)), c1 F, kk_best R hs, x_rtI, s_lbest (ch := fun c => ch (60 * s + c)) kp1 kp2 kp3 (fun j hj => by rw [hM2, (hMp j hj).1]; exact (hMp j hj).2), x_rtI, hbe, if_neg (fun z => z rfl), c1 F, k1, x_rtI, hS, if_neg (fun z => z rfl)]
    exact h120
