/-! the chances drift -/
theorem tr_d {c : Nat} {o : Option Nat} {t : Int32} {r : Nat → Int32} (j : Nat) : tr c o t r j = r j + tr c o t (fun _ => 0) j :=
  tr_add (N := c + j + o.getD 0 + 1) (s := r) (by omega) (fun q hq => by rw [hq]; show q < c + j + q + 1; omega) (fun j _ => (Int32.add_zero (r j)).symm) j (by omega)
theorem s_give {h : MH} {K m : Nat → Nat → Int32} {s ca c : Nat} {o : Option Nat} {t : Int32} (hs : hk h s = 6) (hr1 : hr h s 1 = some ca) (hk1 : hk h ca = 20) (hl1 : hl h ca = 60) (ha : cA ca) (hc : c < 60) (ho : ∀ q, o = some q → q < 60) : M_X6_give (some s) (nI c) (oI o) t (st h K m) = rtV (st h (upw K ca (tr c o t (K ca))) m) := by
  unfold M_X6_give
  rw [s_isCell_t hc, x_rtI, if_neg (by decide)]
  cases o with
  | none =>
    rw [oI_n, s_isCell_f (Or.inl (by decide)), x_rtI, if_pos rfl]
    show _ = rtV (st h (upw K ca (K ca)) m)
    rw [upw_id]
  | some o =>
    have ho := ho o rfl
    rw [oI_s, s_isCell_t ho, x_rtI, if_neg (by decide), K_gr hs, hr1, K_rd hk1 hl1 ha hc (by decide), x_bnd, K_wr hk1 hl1 ha hc (by decide) (fun q => absurd q (by decide)), K_gr hs, hr1, K_rd hk1 hl1 ha ho (by decide), x_bnd, K_wr hk1 hl1 ha ho (by decide) (fun q => absurd q (by decide)), upw_w, upw_s]
    rfl
/-- what cell c gives: beside, four ways, then ahead -/
def drf (la cu A : Nat → Int32) (c : Nat) (r : Nat → Int32) : Nat → Int32 := tr c (lea la cu c) (4 * A c / 10) (tr c (bes la c 4) (A c / 10) (tr c (bes la c 3) (A c / 10) (tr c (bes la c 2) (A c / 10) (tr c (bes la c 1) (A c / 10) r))))
theorem s_goOn33 {h : MH} {K m : Nat → Nat → Int32} (F : Fix h) (hcu : Cur (K 9)) {s ca co c : Nat} {A : Nat → Int32} (hs : hk h s = 6) (hr1 : hr h s 1 = some ca) (hk1 : hk h ca = 20) (hl1 : hl h ca = 60) (ha : 37 < ca) (hc : c < 60) (rc : Option Nat → Option Nat → Int32 → MH → Res) : L_X6_goOn_33 rc fuel (some s) (some 2) (nI c) (A c) (nI 1) (st h K m) = rc (some s) (some 2) (nI (c + 1)) (st h (upw K ca (drf (K 11) (K 9) A c (K ca))) m) := by
  have hca : cA ca := Or.inr (by omega)
  have n11 : (11 : Nat) ≠ ca := by omega
  have n9 : (9 : Nat) ≠ ca := by omega
  have stp (n d : Nat) (hd : d ≤ 4) (h0 : 0 < d) (r : Nat → Int32) : L_X6_goOn_33 rc (n + 1) (some s) (some 2) (nI c) (A c) (nI d) (st h (upw K ca r) m) = L_X6_goOn_33 rc n (some s) (some 2) (nI c) (A c) (nI (d + 1)) (st h (upw K ca (tr c (bes (K 11) c d) (A c / 10) r)) m) := by
    show B_X6_goOn_33 rc (L_X6_goOn_33 rc n) (some s) (some 2) (nI c) (A c) (nI d) (st h (upw K ca r) m) = _
    unfold B_X6_goOn_33
    rw [if_neg (show ¬ (4 : Int32) < nI d from nI_nlt (a := 4) hd (by decide)), c2 F, s_seaBeside F hc hd, x_rtI, q_dv (by decide), K_ck hs, s_give hs hr1 hk1 hl1 hca hc (fun q hq => bes_lt hc hq), x_rtV, x_bnd, nIs, upw_w, upw_s, upw_o n11]
  have h1 : K = upw K ca (K ca) := upw_id.symm
  have hf : fuel = 995 + 1 + 1 + 1 + 1 + 1 := rfl
  rw [show st h K m = st h (upw K ca (K ca)) m from congrArg (fun z => st h z m) h1, hf, stp _ 1 (by decide) (by decide), stp _ 2 (by decide) (by decide), stp _ 3 (by decide) (by decide), stp _ 4 (by decide) (by decide)]
  show B_X6_goOn_33 rc (L_X6_goOn_33 rc 995) (some s) (some 2) (nI c) (A c) (nI 5) _ = _
  unfold B_X6_goOn_33
  rw [if_pos (by decide +kernel), c2 F, s_leadsTo F hc (by rw [upw_o n9]; exact hcu c hc), x_rtI, x_bnd, q_dv (by decide), K_ck hs, s_give hs hr1 hk1 hl1 hca hc (fun q hq => lea_lt hc hq), x_rtV, x_bnd, nIs, upw_w, upw_s, upw_o n11, upw_o n9]
  rfl
def goK (K : Nat → Nat → Int32) (ca co : Nat) : Nat → Nat → Int32 := upw (upw K co (va_cpy (K ca) (K co) 0 0 60)) ca (fo (drf (K 11) (K 9) (K ca)) (K ca) 60)
theorem s_goOn {h : MH} {K m : Nat → Nat → Int32} (F : Fix h) (hcu : Cur (K 9)) {s ca co : Nat} (hs : hk h s = 6) (hr1 : hr h s 1 = some ca) (hr2 : hr h s 2 = some co) (hk1 : hk h ca = 20) (hl1 : hl h ca = 60) (ha : 37 < ca) (hk2 : hk h co = 20) (hl2 : hl h co = 60) (ha2 : 37 < co) (hne : ca ≠ co) : M_X6_goOn (some s) (some 2) (st h K m) = rtV (st h (goK K ca co) m) := by
  have hca : cA ca := Or.inr (by omega)
  have hco : cA co := Or.inr (by omega)
  unfold M_X6_goOn
  rw [K_gr hs, hr1, K_gr hs, hr2, show cpI (st h K m) (some ca) 0 (some co) 0 60 = cpI (st h K m) (some ca) (nI 0) (some co) (nI 0) (nI 60) from rfl, K_cp hk1 hk2 hl1 hl2 hca hco (by decide) (by decide) (by decide) (by decide)]
  let K1 := upw K co (va_cpy (K ca) (K co) 0 0 60)
  let R : Nat → Nat → Int32 := fun i => fo (drf (K 11) (K 9) (K ca)) (K ca) i
  have k1 : K1 ca = K ca := upw_o hne
  have e0 : upw K1 ca (R 0) = K1 := by
    show upw K1 ca (K ca) = K1
    rw [← k1, upw_id]
  have hG := zlp0 (G := fun n i => L_X6_goOn_17 n (some s) (some 2) (nI i) (st h (upw K1 ca (R i)) m)) (N := 60) (r := rtV (st h (upw K1 ca (R 60)) m)) (by decide) ?_ ?_
  · rw [show L_X6_goOn_17 fuel (some s) (some 2) (nI 0) (st h (upw K1 ca (R 0)) m) = L_X6_goOn_17 fuel (some s) (some 2) (nI 0) (st h K1 m) by rw [e0]] at hG
    exact hG
  · intro n i hi
    show B_X6_goOn_17 (L_X6_goOn_17 n) (some s) (some 2) (nI i) (st h (upw K1 ca (R i)) m) = L_X6_goOn_17 n (some s) (some 2) (nI (i + 1)) (st h (upw K1 ca (R (i + 1))) m)
    have e11 : upw K1 ca (R i) 11 = K 11 := by rw [upw_o (by omega)]; exact upw_o (by omega)
    have e9 : upw K1 ca (R i) 9 = K 9 := by rw [upw_o (by omega)]; exact upw_o (by omega)
    have eco : upw K1 ca (R i) co i = K ca i := by
      rw [upw_o (Ne.symm hne)]
      show upw K co _ co i = _
      rw [upw_s, pk_cpy_in (Nat.zero_le i) (by omega)]
      simp
    unfold B_X6_goOn_17
    rw [if_neg (show ¬ (60 : Int32) ≤ nI i from nI_ge (b := 60) hi (by decide)), K_gr hs, hr2, K_rd hk2 hl2 hco hi (by decide), eco]
    show L_X6_goOn_33 _ fuel (some s) (some 2) (nI i) (K ca i) (nI 1) _ = _
    rw [s_goOn33 F (by rw [e9]; exact hcu) (co := co) hs hr1 hk1 hl1 ha hi, upw_w, upw_s, e11, e9]
    rfl
  · intro n
    show B_X6_goOn_17 (L_X6_goOn_17 n) (some s) (some 2) (nI 60) (st h (upw K1 ca (R 60)) m) = _
    unfold B_X6_goOn_17
    rw [if_pos (show (60 : Int32) ≤ nI 60 from nI_le (a := 60) (Nat.le_refl _) (by decide))]
/-! the model's drift -/
def drm (la cu A : Nat → Int32) (c : Nat) (r : Nat → Int32) : Nat → Int32 := tr c (bes la c 4) (A c / 10) (tr c (bes la c 3) (A c / 10) (tr c (bes la c 2) (A c / 10) (tr c (bes la c 1) (A c / 10) (tr c (lea la cu c) (4 * A c / 10) r))))
theorem drm_drf {la cu A R : Nat → Int32} {c : Nat} {r z : Nat → Int32} {j : Nat} (h : r j = R j + z j) : drf la cu A c r j = R j + drm la cu A c z j := by
  unfold drf drm
  rw [tr_d (o := lea la cu c), tr_d (o := bes la c 4), tr_d (o := bes la c 3), tr_d (o := bes la c 2), tr_d (o := bes la c 1), h, tr_d (o := bes la c 4) (r := tr c (bes la c 3) _ _), tr_d (o := bes la c 3) (r := tr c (bes la c 2) _ _), tr_d (o := bes la c 2) (r := tr c (bes la c 1) _ _), tr_d (o := bes la c 1) (r := tr c (lea la cu c) _ _), tr_d (o := lea la cu c) (r := z)]
  ac_rfl
theorem fo_drf {la cu A R z : Nat → Int32} {j : Nat} (hz : z j = 0) {n : Nat} : fo (drf la cu A) R n j = R j + fo (drm la cu A) z n j := by
  induction n with
  | zero => show R j = R j + z j; rw [hz, Int32.add_zero]
  | succ n ih => exact drm_drf ih
def ad46 (C : Nat → Int32) (s c : Nat) (r : Nat → Int32) : Nat → Int32 := upd r (60 * s + c) (r (60 * s + c) + C c)
theorem e60s (s c : Nat) : (60 : Int32) * nI s + nI c = nI (60 * s + c) := by
  rw [show (60 : Int32) = nI 60 from rfl, pk_mul, nI_add]
def dC (m : Nat → Nat → Int32) (s : Nat) : Nat → Int32 := fo (drm (m 23) (m 24) (fun c => m 46 (60 * s + c))) (fo zro (m 28) 60) 60
def driftM (m : Nat → Nat → Int32) (s : Nat) : Nat → Nat → Int32 := upw (upw m 28 (dC m s)) 46 (fo (ad46 (dC m s) s) (m 46) 60)
theorem fo_ad46 {C R : Nat → Int32} {s n j : Nat} : fo (ad46 C s) R n j = if 60 * s ≤ j ∧ j < 60 * s + n then R j + C (j - 60 * s) else R j := by
  induction n with
  | zero => rw [if_neg (by omega)]; rfl
  | succ n ih =>
    rw [fo_succ]
    show (if j = 60 * s + n then fo (ad46 C s) R n (60 * s + n) + C n else fo (ad46 C s) R n j) = _
    by_cases h : j = 60 * s + n
    · subst h
      rw [if_pos rfl, if_pos (by omega), ih, if_neg (by omega), show 60 * s + n - 60 * s = n by omega]
    · rw [if_neg h, ih]
      by_cases h2 : 60 * s ≤ j ∧ j < 60 * s + n
      · rw [if_pos h2, if_pos (by omega)]
      · rw [if_neg h2, if_neg (by omega)]
/-- the row of search s after a day: as the class makes it -/
theorem drift_46 {m : Nat → Nat → Int32} {s c : Nat} (hc : c < 60) : driftM m s 46 (60 * s + c) = fo (drf (m 23) (m 24) (fun c => m 46 (60 * s + c))) (fun c => m 46 (60 * s + c)) 60 c := by
  rw [fo_drf (z := fo zro (m 28) 60) (fo_zro hc)]
  unfold driftM
  rw [upw_s, fo_ad46, if_pos (by omega), show 60 * s + c - 60 * s = c by omega]
  rfl
theorem drift_46o {m : Nat → Nat → Int32} {s j : Nat} (hj : j < 60 * s ∨ 60 * s + 60 ≤ j) : driftM m s 46 j = m 46 j := by
  unfold driftM
  rw [upw_s, fo_ad46, if_neg (by omega)]
theorem drift_o {m : Nat → Nat → Int32} {s a : Nat} (h : a ≠ 28 ∧ a ≠ 46) : driftM m s a = m a := by
  unfold driftM
  rw [upw_o h.2, upw_o h.1]
