/-! one turn of the law: a call on both sides, then the answers -/
theorem x_calG {x : Int32} {h : MH} {k : Int32 → MH → Res} {kx : Nat → MH → Res} : calG (rtI x h) (toI k) kx = k x h := rfl
theorem x_calX {x : Nat} {h : MH} {k : Option MV → MH → Res} {kx : Nat → MH → Res} : calG (some (.inr x, h)) k kx = kx x h := rfl
theorem x_calNI {x : Int32} {h : MH} {k : Int32 → MH → Res} : calNI (rtI x h) k = k x h := rfl
theorem Inv.sQ {B : Nat} {h : MH} {K m : Nat → Nat → Int32} {a j : Nat} {v : Int64} (I : Inv B h K m) : Inv B (sQ h a j v) K m := I
theorem wr50 {h : MH} {K m : Nat → Nat → Int32} {v : Int64} {k : MH → Res} (F : Fix h) : wrQ (st h K m) (some 50) (0 : Int32) v k = k (st (sQ h 50 0 v) K m) :=
  if_pos ⟨Fk50 F, by decide, by show 0 < hl h 50; rw [Fl50 F]; decide⟩
theorem rd50 {h : MH} {K m : Nat → Nat → Int32} {k : Int64 → Res} (F : Fix h) : rdQ (st h K m) (some 50) (0 : Int32) k = k (hq h 50 0) :=
  if_pos ⟨Fk50 F, by decide, by show 0 < hl h 50; rw [Fl50 F]; decide⟩
theorem s_thrown {h : MH} {K m : Nat → Nat → Int32} (F : Fix h) : M_X9_thrown (some 22) (st h K m) = rtI (m 22 0) (st h K m) := by
  unfold M_X9_thrown
  rw [g22 F]
theorem s_case {e : Nat → Option Int32} {C M W : MH → Res} {E : Nat → MH → Res} (op : OpR e C M) (hW : ∀ H, W H = (chk H (some 1) 8 <| calG (C H) (toI fun z1 h2 => bnd (Int32.toInt64 z1) fun z5 => wrQ h2 (some 50) (0 : Int32) z5 fun h6 => rtI (0 : Int32) h6) E)) (hE : ∀ q t H, e q = some t → E q H = rtI t H) {B : Nat} {h : MH} {K m : Nat → Nat → Int32} (I : Inv B h K m) : ∃ (h1 : MH) (K1 m1 : Nat → Nat → Int32), Inv (B + 1) h1 K1 m1 ∧ ∀ next : MH → Res, (calNI (W (st h K m)) fun z15 h16 => chk h16 (some 22) 9 <| calI (M h16) fun z19 h20 => chk h20 (some 22) 9 <| calI (M_X9_thrown (some 22) h20) fun z21 h22 => if z21 = z15 then (if z15 ≠ 0 then next h22 else (rdQ h22 (some 50) (0 : Int32) fun z23 => if lg_cmp z23 (Int32.toInt64 z19) = 0 then next h22 else (rtL (0 : Int32) h22))) else (rtL (0 : Int32) h22)) = next (st h1 K1 m1) := by
  have F := I.F
  obtain ⟨t, v, b, h1, K1, m1, hC, hM, ht, I1⟩ := op B h K m I
  have F1 := I1.F
  rcases hC with ⟨t0, e0, hC⟩ | ⟨t0, x, ex, hC⟩
  · have F2 : Fix (sQ h1 50 0 (Int32.toInt64 v)) := F1.sQ
    refine ⟨sQ h1 50 0 (Int32.toInt64 v), K1, m1, I1.sQ, fun next => ?_⟩
    rw [hW, c1 F, hC, x_calG, x_bnd, wr50 F1, x_calNI, c22 F2, hM _ F2, x_rtI, c22 F2, s_thrown F2, x_rtI, ht, if_pos t0, if_neg (show ¬ (0 : Int32) ≠ 0 from fun z => z rfl), rd50 F2, e0, if_pos]
    exact (lg_cmp_eq _ _).mpr rfl
  · refine ⟨h1, K1, m1, I1, fun next => ?_⟩
    rw [hW, c1 F, hC, x_calX, hE x t _ ex, x_calNI, c22 F1, hM _ F1, x_rtI, c22 F1, s_thrown F1, x_rtI, ht, if_pos rfl, if_pos t0]
theorem s_ask {C M : MH → Res} (op : OpR (fun _ => none) C M) {B : Nat} {h : MH} {K m : Nat → Nat → Int32} (I : Inv B h K m) : ∃ (h1 : MH) (K1 m1 : Nat → Nat → Int32), Inv (B + 1) h1 K1 m1 ∧ ∀ next : MH → Res, (chk (st h K m) (some 1) 8 <| calI (C (st h K m)) fun z230 h231 => chk h231 (some 22) 9 <| calI (M h231) fun z232 h233 => if z230 = z232 then next h233 else (rtL (0 : Int32) h233)) = next (st h1 K1 m1) := by
  have F := I.F
  obtain ⟨t, v, b, h1, K1, m1, hC, hM, ht, I1⟩ := op B h K m I
  have F1 := I1.F
  rcases hC with ⟨t0, e0, hC⟩ | ⟨t0, x, ex, hC⟩
  · refine ⟨h1, K1, m1, I1, fun next => ?_⟩
    rw [c1 F, hC, x_rtI, c22 F1, hM _ F1, x_rtI, if_pos e0.symm]
  · cases ex
theorem hE1 (a : Nat) (s : Int32) {q : Nat} {t : Int32} {H : MH} (h : (if q = a then some s else none) = some t) : (if q = a then rtI s H else none) = rtI t H := by
  by_cases h1 : q = a
  · rw [if_pos h1] at h ⊢; cases h; rfl
  · rw [if_neg h1] at h; cases h
theorem hE2 (a : Nat) (s : Int32) (b : Nat) (u : Int32) {q : Nat} {t : Int32} {H : MH} (h : (if q = a then some s else if q = b then some u else none) = some t) : (if q = a then rtI s H else if q = b then rtI u H else none) = rtI t H := by
  by_cases h1 : q = a
  · rw [if_pos h1] at h ⊢; cases h; rfl
  · rw [if_neg h1] at h ⊢; exact hE1 b u h
theorem hE3 (a : Nat) (s : Int32) (b : Nat) (u : Int32) (c : Nat) (w : Int32) {q : Nat} {t : Int32} {H : MH} (h : (if q = a then some s else if q = b then some u else if q = c then some w else none) = some t) : (if q = a then rtI s H else if q = b then rtI u H else if q = c then rtI w H else none) = rtI t H := by
  by_cases h1 : q = a
  · rw [if_pos h1] at h ⊢; cases h; rfl
  · rw [if_neg h1] at h ⊢; exact hE2 b u c w h
theorem pl1 {i : Nat} : nI (5 * i) + (1 : Int32) = nI (5 * i + 1) := nIs _
theorem pl2 {i : Nat} : nI (5 * i) + (2 : Int32) = nI (5 * i + 2) := by rw [show (2 : Int32) = nI 2 from rfl, nI_add]
theorem pl3 {i : Nat} : nI (5 * i) + (3 : Int32) = nI (5 * i + 3) := by rw [show (3 : Int32) = nI 3 from rfl, nI_add]
theorem pl4 {i : Nat} : nI (5 * i) + (4 : Int32) = nI (5 * i + 4) := by rw [show (4 : Int32) = nI 4 from rfl, nI_add]
theorem sld_ok {L j : Nat} {xs : Nat → Int32} {k : Int32 → Res} (hL : L ≤ 2560) (hj : j < L) : sld L xs (nI j) k = k (xs j) := by
  unfold sld
  rw [nI_clamp (by omega), if_pos ⟨nI_pos' (by omega), hj⟩]
theorem sl1 {L i : Nat} {xs : Nat → Int32} {k : Int32 → Res} (hL : L ≤ 2560) (hi : 5 * i + 5 ≤ L) : sld L xs (nI (5 * i + 1)) k = k (xs (5 * i + 1)) := sld_ok hL (by omega)
theorem sl2 {L i : Nat} {xs : Nat → Int32} {k : Int32 → Res} (hL : L ≤ 2560) (hi : 5 * i + 5 ≤ L) : sld L xs (nI (5 * i + 2)) k = k (xs (5 * i + 2)) := sld_ok hL (by omega)
theorem sl3 {L i : Nat} {xs : Nat → Int32} {k : Int32 → Res} (hL : L ≤ 2560) (hi : 5 * i + 5 ≤ L) : sld L xs (nI (5 * i + 3)) k = k (xs (5 * i + 3)) := sld_ok hL (by omega)
theorem sl4 {L i : Nat} {xs : Nat → Int32} {k : Int32 → Res} (hL : L ≤ 2560) (hi : 5 * i + 5 ≤ L) : sld L xs (nI (5 * i + 4)) k = k (xs (5 * i + 4)) := sld_ok hL (by omega)
theorem fin1903 {L i : Nat} {xs : Nat → Int32} {H : MH} {rc : Option Nat → Option Nat → Option Nat → Int32 → MH → Res} : B_L_law_1903 L xs rc (some 1) (some 22) (some 50) (nI (5 * i)) H = rc (some 1) (some 22) (some 50) (nI (5 * (i + 1))) H := by
  unfold B_L_law_1903
  rw [x_bnd, show nI (5 * i) + (5 : Int32) = nI (5 * (i + 1)) by rw [show (5 : Int32) = nI 5 from rfl, nI_add]; rfl]
theorem turn_head {L i k : Nat} {xs : Nat → Int32} {A : Res} {g : Int32 → Res} (hL : L ≤ 2560) (hi : 5 * i + 5 ≤ L) (e : xs (5 * i) &&& (31 : Int32) = nI k) : (bnd (Int32.ofNat L) fun z9 => bnd (z9 - (5 : Int32)) fun z10 => if z10 < nI (5 * i) then A else (sld L xs (nI (5 * i)) fun z11 => bnd (z11 &&& (31 : Int32)) g)) = g (nI k) := by
  rw [x_bnd, x_bnd, if_neg, sld_ok hL (by omega), x_bnd, e]
  show ¬ nI L - (5 : Int32) < nI (5 * i)
  rw [show nI L - (5 : Int32) = nI (L - 5) from pk_sub (b := 5) (by omega), i_nlt]
  exact nI_le (by omega) (by omega)
theorem turn_end {L i : Nat} {A : Res} {B : Res} (hL : L ≤ 2560) (hi : L < 5 * i + 5) (hi2 : 5 * i ≤ L) : (bnd (Int32.ofNat L) fun z9 => bnd (z9 - (5 : Int32)) fun z10 => if z10 < nI (5 * i) then A else B) = A := by
  rw [x_bnd, x_bnd, if_pos]
  show nI L - (5 : Int32) < nI (5 * i)
  by_cases q : 5 ≤ L
  · rw [show nI L - (5 : Int32) = nI (L - 5) from pk_sub (b := 5) q]
    exact (nI_ltI (by omega) (by omega)).mpr (by omega)
  · have key : ∀ L, L < 5 → nI L - (5 : Int32) < 0 := by decide
    have h1 := key L (by omega)
    have h2 : (0 : Int32) ≤ nI (5 * i) := nI_pos' (by omega)
    rw [i_lt] at h1 ⊢
    rw [i_le] at h2
    omega
