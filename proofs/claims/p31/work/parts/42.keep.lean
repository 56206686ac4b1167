/-! objects are made, references are set -/
theorem st_alc {h : MH} {K m : Nat → Nat → Int32} {k n : Nat} (hn1 : 37 ≤ hn h) : alc (st h K m) k n = st (alc h k n) (upw K (hn h + 1) (fun _ => 0)) m := by
  have e : upr (fun a => if 22 ≤ a ∧ a < 38 then m a else K a) (hn h + 1) (fun _ => 0) = (fun b => if 22 ≤ b ∧ b < 38 then m b else upw K (hn h + 1) (fun _ => 0) b) := by
    funext b k
    unfold upr upw
    by_cases hb : b = hn h + 1
    · subst hb; simp only [if_neg (show ¬ (22 ≤ hn h + 1 ∧ hn h + 1 < 38) by omega), if_true]
    · simp only [hb, if_false]
  show (up1 (hk h) (hn h + 1) k, up1 (hl h) (hn h + 1) n, upr (fun a => if 22 ≤ a ∧ a < 38 then m a else K a) (hn h + 1) (fun _ => 0), upr (hr h) (hn h + 1) (fun _ => none), upr (hq h) (hn h + 1) (fun _ => 0), hn h + 1, hc h + 1, hs h + n) = _
  rw [e]; rfl
theorem K_pr {h : MH} {K m : Nat → Nat → Int32} {a ci j : Nat} {v : Option Nat} {k : MH → Res} (hk1 : hk h a = ci) : pfR (st h K m) (some a) ci j v k = k (st (sR h a j v) K m) := if_pos hk1
theorem K_nw {h : MH} {K m : Nat → Nat → Int32} {ci : Nat} {k : Option Nat → MH → Res} (hn1 : 37 ≤ hn h) : nwO (st h K m) ci k = k (some (hn h + 1)) (st (alc h ci (nF ci)) (upw K (hn h + 1) (fun _ => 0)) m) := by
  unfold nwO; rw [st_alc hn1]; rfl
theorem K_wR {h : MH} {K m : Nat → Nat → Int32} {a i n kd b : Nat} {k : MH → Res} (hk1 : hk h a = kd) (hkd : 22 ≤ kd ∧ kd < 26) (hl1 : hl h a = n) (hi1 : i < n) (hn1 : n ≤ 1000) (hb : hk h b = coK kd) (h9 : coK kd < 9 := by decide) : wrR (st h K m) (some a) (nI i) (some b) k = k (st (sR h a i (some b)) K m) := by
  have c1 : (nI i).toNatClampNeg = i := nI_clamp (by omega)
  show (if (22 ≤ hk h a ∧ hk h a < 26) ∧ 0 ≤ nI i ∧ (nI i).toNatClampNeg < hl h a ∧ hk h b = coK (hk h a) ∧ coK (hk h a) < 9 then k (sR (st h K m) a (nI i).toNatClampNeg (some b)) else none) = _
  rw [hk1, hl1, c1, if_pos ⟨hkd, nI_pos' (by omega), hi1, hb, h9⟩]
  rfl
theorem hk_alc {h : MH} {k n a : Nat} : hk (alc h k n) a = if a = hn h + 1 then k else hk h a := rfl
theorem hl_alc {h : MH} {k n a : Nat} : hl (alc h k n) a = if a = hn h + 1 then n else hl h a := rfl
theorem hr_alc {h : MH} {k n a j : Nat} : hr (alc h k n) a j = if a = hn h + 1 then none else hr h a j := rfl
theorem hr_sR {h : MH} {a b i j : Nat} {v : Option Nat} : hr (sR h a j v) b i = if b = a ∧ i = j then v else hr h b i := rfl
theorem hk_sR {h : MH} {a j : Nat} {v : Option Nat} : hk (sR h a j v) = hk h := rfl
theorem hl_sR {h : MH} {a j : Nat} {v : Option Nat} : hl (sR h a j v) = hl h := rfl
theorem hn_sR {h : MH} {a j : Nat} {v : Option Nat} : hn (sR h a j v) = hn h := rfl
theorem hc_sR {h : MH} {a j : Nat} {v : Option Nat} : hc (sR h a j v) = hc h := rfl
theorem hs_sR {h : MH} {a j : Nat} {v : Option Nat} : hs (sR h a j v) = hs h := rfl
theorem Fix.le {h : MH} (F : Fix h) {a : Nat} (ha : hk h a < 40) : a ≤ hn h := by
  by_cases q : hn h < a
  · exact absurd (F.2.2.2 a q) (by omega)
  · omega
theorem Fix.alc {h : MH} (F : Fix h) {k n : Nat} : Fix (alc h k n) := by
  obtain ⟨f1, f2, f3, f4⟩ := F
  refine ⟨fun a ha => ?_, fun q hq => ?_, ?_, fun a ha => ?_⟩
  · rw [hk_alc, hl_alc, if_neg (by omega), if_neg (by omega)]; exact f1 a ha
  · rw [hr_alc, if_neg]
    · exact f2 q hq
    · have : ∀ q ∈ RT, q.1 < 38 := by decide
      have := this q hq
      omega
  · show 37 ≤ hn h + 1; omega
  · rw [hk_alc]
    have : hn h + 1 < a := ha
    rw [if_neg (by omega)]; exact f4 a (by omega)
theorem Fix.sR {h : MH} (F : Fix h) {a j : Nat} {v : Option Nat} (ha : ∀ q ∈ RT, q.1 ≠ a) : Fix (sR h a j v) := by
  obtain ⟨f1, f2, f3, f4⟩ := F
  refine ⟨f1, fun q hq => ?_, f3, f4⟩
  rw [hr_sR, if_neg (fun z => ha q hq z.1)]
  exact f2 q hq
theorem RT_dyn {a : Nat} (ha : 37 < a) : ∀ q ∈ RT, q.1 ≠ a := by
  intro q hq e
  have : ∀ q ∈ RT, q.1 < 38 := by decide
  have := this q hq
  omega
theorem Fix.exc {h : MH} (F : Fix h) : Fix (exc h) := F
theorem Fix.sQ {h : MH} (F : Fix h) {a j : Nat} {v : Int64} : Fix (sQ h a j v) := F
theorem st_exc {h : MH} {K m : Nat → Nat → Int32} : exc (st h K m) = st (exc h) K m := rfl
/-! the log keeps a reading -/
def kpR (x1 x2 x3 : Int32) : Nat → Int32 := upd (upd (upd (upd (fun _ => 0) 4 (-1)) 0 x1) 1 x2) 2 x3
def kpK (K : Nat → Nat → Int32) (b : Nat) (x1 x2 x3 : Int32) : Nat → Nat → Int32 := upw (upw K b (kpR x1 x2 x3)) 14 (upd (K 14) 1 (K 14 1 + 1))
def kpH (h : MH) (nr : Nat) (x4 : Option Nat) : MH := sR (sR (alc h 4 7) (hn h + 1) 3 x4) 15 nr (some (hn h + 1))
def chL (h : MH) (b : Nat) (L : Option Nat) : MH := match L with
  | none => h
  | some l => sR h l 6 (some b)
def chH (h : MH) (b u : Nat) : MH := sR (chL (sR h b 5 (hr h u 8)) b (hr h u 8)) u 8 (some b)
def chK (K : Nat → Nat → Int32) (u : Nat) : Nat → Nat → Int32 := upw K u (upd (K u) 7 (K u 7 + 1))
theorem s_keep_full {h : MH} {K m : Nat → Nat → Int32} (F : Fix h) {x1 x2 x3 : Int32} {x4 : Option Nat} (hc : K 14 1 = nI 100) : M_X2_keep (some 14) x1 x2 x3 x4 (st h K m) = rtV (st h K m) := by
  unfold M_X2_keep
  rw [g14 F, r14_0 F, a15 F, hc, s_isIndex_f (Or.inr (nI_le (Nat.le_refl _) (by decide))), x_rtI, if_neg (fun q => q rfl)]
theorem s_keep0 {h : MH} {K m : Nat → Nat → Int32} (F : Fix h) {nr : Nat} (hr1 : nr < 100) {x1 x2 x3 : Int32} {x4 : Option Nat} (hc : K 14 1 = nI nr) : M_X2_keep (some 14) x1 x2 x3 x4 (st h K m) = if x4 = none then rtV (st (kpH h nr x4) (kpK K (hn h + 1) x1 x2 x3) m) else calV (M_X2_chain (some (hn h + 1)) x4 (st (kpH h nr x4) (kpK K (hn h + 1) x1 x2 x3) m)) fun h15 => rtV h15 := by
  have h50 := F.2.2.1
  have hb : cA (hn h + 1) := Or.inr (by omega)
  have n14 : (14 : Nat) ≠ hn h + 1 := by omega
  have F1 : Fix (alc h 4 (nF 4)) := F.alc
  have F2 : Fix (sR (alc h 4 (nF 4)) (hn h + 1) 3 x4) := F1.sR (RT_dyn (by omega))
  have F3 : Fix (sR (sR (alc h 4 (nF 4)) (hn h + 1) 3 x4) 15 nr (some (hn h + 1))) := F2.sR (by decide)
  have k1 : hk (alc h 4 (nF 4)) (hn h + 1) = 4 := by rw [hk_alc, if_pos rfl]
  unfold M_X2_keep
  rw [g14 F, r14_0 F, a15 F, hc, s_isIndex_t hr1 (by decide), x_rtI, if_pos (by decide), K_nw h50]
  unfold nnl M_X4_init
  rw [show nnl (some (hn h + 1)) = id from rfl]
  show calV (id (pfI _ _ 4 4 _ _)) _ = _
  simp only [id]
  rw [K_pf k1 hb, K_pf k1 hb, K_pf k1 hb, K_pf k1 hb, K_pr k1, x_rtV, r14_0 F2, g14 F2]
  simp only [upw_w, upw_s]
  rw [upw_o n14, hc, K_wR (Fk15 F2) ⟨by decide, by decide⟩ (Fl15 F2) hr1 (by decide) k1, g14 F3, x_bnd, p14 F3, upw_o n14, hc]
  unfold kpH kpK kpR
  rw [hc]
  by_cases h4 : x4 = none
  · rw [if_pos h4, if_pos h4]; rfl
  · rw [if_neg h4, if_neg h4]; rfl
theorem s_chain {h : MH} {K m : Nat → Nat → Int32} {b u : Nat} (hb : hk h b = 4) (hu : hk h u = 0) (hua : 37 < u) (hL : ∀ l, hr h u 8 = some l → hk h l = 4) : M_X2_chain (some b) (some u) (st h K m) = rtV (st (chH h b u) (chK K u) m) := by
  have hbu : u ≠ b := by intro e; rw [e, hb] at hu; cases hu
  have hcu : cA u := Or.inr (by omega)
  have e1 : hr (sR h b 5 (hr h u 8)) u 8 = hr h u 8 := by rw [hr_sR, if_neg (fun q => hbu q.1)]
  have fin (H : MH) (hH : hk H = hk h) : B_X2_chain_23 (some b) (some u) (st H K m) = rtV (st (sR H u 8 (some b)) (chK K u) m) := by
    unfold B_X2_chain_23
    have k0 : hk H u = 0 := by rw [hH]; exact hu
    rw [K_pr k0, K_gf (h := sR H u 8 (some b)) k0 hcu, x_bnd, K_pf (h := sR H u 8 (some b)) k0 hcu]
    rfl
  unfold M_X2_chain
  rw [K_gr hu, K_pr hb, K_gr (h := sR h b 5 (hr h u 8)) hu, e1]
  cases hL2 : hr h u 8 with
  | none =>
    rw [if_pos rfl, fin (sR h b 5 none) rfl]
    unfold chH chL
    rw [hL2]
  | some l =>
    have hl4 := hL l hL2
    rw [if_neg (by intro q; cases q), K_gr (h := sR h b 5 (some l)) hu, show hr (sR h b 5 (some l)) u 8 = some l by rw [hr_sR, if_neg (fun q => hbu q.1), hL2], K_pr (h := sR h b 5 (some l)) hl4, fin (sR (sR h b 5 (some l)) l 6 (some b)) rfl]
    unfold chH chL
    rw [hL2]
theorem s_keepN {h : MH} {K m : Nat → Nat → Int32} (F : Fix h) {nr : Nat} (hr1 : nr < 100) {x1 x2 x3 : Int32} (hc : K 14 1 = nI nr) : M_X2_keep (some 14) x1 x2 x3 none (st h K m) = rtV (st (kpH h nr none) (kpK K (hn h + 1) x1 x2 x3) m) := by
  rw [s_keep0 F hr1 hc, if_pos rfl]
theorem s_keepS {h : MH} {K m : Nat → Nat → Int32} (F : Fix h) {nr u : Nat} (hr1 : nr < 100) {x1 x2 x3 : Int32} (hc : K 14 1 = nI nr) (hu : hk h u = 0) (hua : 37 < u) (hL : ∀ l, hr h u 8 = some l → hk h l = 4) : M_X2_keep (some 14) x1 x2 x3 (some u) (st h K m) = rtV (st (chH (kpH h nr (some u)) (hn h + 1) u) (chK (kpK K (hn h + 1) x1 x2 x3) u) m) := by
  have hun : u ≤ hn h := F.le (by omega)
  have k0 : hk (kpH h nr (some u)) u = 0 := by
    show hk (alc h 4 7) u = 0
    rw [hk_alc, if_neg (by omega)]; exact hu
  have k4 : hk (kpH h nr (some u)) (hn h + 1) = 4 := by
    show hk (alc h 4 7) (hn h + 1) = 4
    rw [hk_alc, if_pos rfl]
  have hL' : ∀ l, hr (kpH h nr (some u)) u 8 = some l → hk (kpH h nr (some u)) l = 4 := by
    intro l hl
    have : hr (kpH h nr (some u)) u 8 = hr h u 8 := by
      unfold kpH
      rw [hr_sR, if_neg (by omega), hr_sR, if_neg (by omega), hr_alc, if_neg (by omega)]
    rw [this] at hl
    have h4 := hL l hl
    have : l ≤ hn h := F.le (by omega)
    show hk (alc h 4 7) l = 4
    rw [hk_alc, if_neg (by omega)]; exact h4
  rw [s_keep0 F hr1 hc, if_neg (by intro q; cases q), s_chain k4 k0 hua hL', x_rtV]
