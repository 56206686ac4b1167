/-! the relation holds at the start; made by gen/start.py -/
theorem hnL : hn hL = 50 := rfl
theorem kL1 : ∀ a, a < 50 → hk hL (a + 1) = KT.getD a 0 := by decide +kernel
theorem lL1 : ∀ a, a < 50 → hl hL (a + 1) = LT.getD a 0 := by decide +kernel
theorem rL1 : ∀ q ∈ RT, hr hL q.1 q.2.1 = some q.2.2 := by decide +kernel
theorem hcL : hc hL ≤ 60 ∧ hs hL ≤ 3000 := by decide +kernel
def U (h : MH) : Prop := ∀ a, 50 < a → hk h a = 99
theorem U.nwr {h : MH} {k n a j b : Nat} (u : U h) (hb : b ≤ 50) : U (nwr h k n a j b) := fun q hq => (if_neg (show ¬ q = b by omega)).trans (u q hq)
theorem U.alN {h : MH} {k n b : Nat} (u : U h) (hb : b ≤ 50) : U (alN h k n b) := fun q hq => (if_neg (show ¬ q = b by omega)).trans (u q hq)
theorem U.alc {h : MH} {k n : Nat} (u : U h) (hb : hn h + 1 ≤ 50) : U (alc h k n) := fun q hq => (if_neg (show ¬ q = hn h + 1 by omega)).trans (u q hq)
theorem U.sI {h : MH} {a j : Nat} {v : Int32} (u : U h) : U (sI h a j v) := u
theorem U.sR {h : MH} {a j : Nat} {v : Option Nat} (u : U h) : U (sR h a j v) := u
theorem U.sIr {h : MH} {a : Nat} {g : Nat → Int32} (u : U h) : U (sIr h a g) := u
theorem u_h00 : U h00 := fun _ _ => rfl
theorem u_hP1 : U hP1 := U.alc (U.alc (U.alc u_h00 (by decide)) (by decide)) (by decide)
theorem u_hF1 : U hF1 := U.sR (U.alc (U.sR (U.alc u_hP1 (by decide))) (by decide))
theorem u_hQ1 : U hQ1 := U.sIr (U.sIr u_hF1)
theorem u_hP2 : U hP2 := U.alc (U.sR u_hQ1) (by decide)
theorem u_hF2 : U hF2 := U.sR (U.alc (U.sR (U.alc u_hP2 (by decide))) (by decide))
theorem u_hQ2 : U hQ2 := U.sIr (U.sIr u_hF2)
theorem u_hQ5 : U hQ5 := U.nwr (U.nwr (U.nwr (U.nwr (U.sR u_hQ2) (by decide)) (by decide)) (by decide)) (by decide)
theorem u_hQ6 : U hQ6 := U.nwr (U.sR u_hQ5) (by decide)
theorem u_hQ7 : U hQ7 := U.sI (U.nwr (U.alN u_hQ6 (by decide)) (by decide))
theorem u_hQ10 : U hQ10 := U.sR u_hQ7
theorem u_hQ11 : U hQ11 := U.nwr (U.nwr (U.nwr (U.alN u_hQ10 (by decide)) (by decide)) (by decide)) (by decide)
theorem u_hQ8 : U hQ8 := U.nwr (U.nwr (U.sR u_hQ11) (by decide)) (by decide)
theorem u_hP9 : U hP9 := U.alN u_hQ8 (by decide)
theorem u_hM1 : U hM1 := (U.nwr (U.nwr (U.nwr (U.nwr (U.nwr (U.nwr (U.nwr (U.nwr u_hP9 (by decide)) (by decide)) (by decide)) (by decide)) (by decide)) (by decide)) (by decide)) (by decide))
theorem u_hM2 : U hM2 := (U.nwr (U.nwr (U.nwr (U.nwr (U.nwr (U.nwr (U.nwr (U.nwr u_hM1 (by decide)) (by decide)) (by decide)) (by decide)) (by decide)) (by decide)) (by decide)) (by decide))
theorem u_hM3 : U hM3 := (U.nwr (U.sI (U.nwr (U.nwr (U.nwr (U.nwr (U.nwr (U.nwr u_hM2 (by decide)) (by decide)) (by decide)) (by decide)) (by decide)) (by decide))) (by decide))
theorem u_hQ9 : U hQ9 := (U.nwr (U.nwr (U.nwr (U.nwr u_hM3 (by decide)) (by decide)) (by decide)) (by decide))
theorem u_hL : U hL := U.alc u_hQ9 (by rw [hn9]; decide)
theorem fixL : Fix hL := by
  refine ⟨fun a ha => ⟨kL1 a ha, lL1 a ha⟩, rL1, by rw [hnL]; decide, fun a ha => ?_⟩
  rw [hnL] at ha
  rw [u_hL a ha]
  decide
/-! the rows at the start -/
set_option maxRecDepth 100000 in
theorem z_K : ∀ a ∈ [1, 2, 9, 10, 11, 16, 17, 18, 19], KL a = fun _ => 0 := by
  intro a ha
  simp only [List.mem_cons, List.not_mem_nil, or_false] at ha
  rcases ha with rfl | rfl | rfl | rfl | rfl | rfl | rfl | rfl | rfl <;> rfl
set_option maxRecDepth 100000 in
theorem z_K4 : KL 4 = fl (fun _ => 0) 1000 60 := rfl
set_option maxRecDepth 100000 in
theorem z_K5 : KL 5 = fl (fun _ => 0) 350 60 := rfl
set_option maxRecDepth 100000 in
theorem z_K7 : KL 7 = fl (fun _ => 0) 400 60 := rfl
set_option maxRecDepth 100000 in
theorem z_K8 : KL 8 = fl (fun _ => 0) 360 60 := rfl
set_option maxRecDepth 100000 in
theorem z_K14 : KL 14 2 = 100 ∧ KL 14 1 = 0 := ⟨rfl, rfl⟩
set_option maxRecDepth 100000 in
theorem z_m : ∀ a ∈ [23, 24, 25, 35, 36, 37, 38, 39, 46], mL a = fun _ => 0 := by
  intro a ha
  simp only [List.mem_cons, List.not_mem_nil, or_false] at ha
  rcases ha with rfl | rfl | rfl | rfl | rfl | rfl | rfl | rfl | rfl <;> rfl
set_option maxRecDepth 100000 in
theorem z_m26 : mL 26 = inR (fun _ => 0) 1000 400 60 := rfl
set_option maxRecDepth 100000 in
theorem z_m27 : mL 27 = inR (fun _ => 0) 350 360 60 := rfl
set_option maxRecDepth 100000 in
theorem z_m22 : (mL 22 0 = 0 ∧ mL 22 1 = 0 ∧ mL 22 2 = 0 ∧ mL 22 10 = 0) ∧ (mL 22 17 = 0 ∧ mL 22 20 = 0 ∧ mL 22 23 = 0) ∧ mL 22 29 = 100 ∧ mL 22 30 = 0 ∧ mL 22 33 = 0 := ⟨⟨rfl, rfl, rfl, rfl⟩, ⟨rfl, rfl, rfl⟩, rfl, rfl, rfl⟩
set_option maxRecDepth 100000 in
theorem z_r : ∀ a ∈ [13, 15, 20, 21], ∀ k, hr hL a k = none := by
  intro a ha k
  simp only [List.mem_cons, List.not_mem_nil, or_false] at ha
  rcases ha with rfl | rfl | rfl | rfl <;> rfl
theorem row0 {a len kd : Nat} (ha : a ∈ [13, 15, 20, 21]) : Row hL a len kd 0 := ⟨fun k hk1 => absurd hk1 (by omega), fun k _ _ => z_r a ha k, fun k _ hk1 => absurd hk1 (by omega)⟩
theorem inv0 : Inv 0 hL KL mL := by
  obtain ⟨⟨v0, v1, v2, v10⟩, ⟨v17, v20, v23⟩, v29, v30, v33⟩ := z_m22
  refine ⟨0, 0, 0, 0, 0, 0, 0, ⟨⟨fixL, ⟨by decide, by decide, by decide, by decide⟩, row0 (by decide), row0 (by decide), row0 (by decide), row0 (by decide), fun s hs => absurd hs (by omega), fun s _ hs => absurd hs (by omega), fun s _ hs => absurd hs (by omega)⟩, ?_, ?_, ⟨fun k hk1 => absurd hk1 (by omega), fun k _ _ => by rw [z_m 35 (by decide)]⟩, fun r hr1 => absurd hr1 (by omega), ⟨fun r hr1 => absurd hr1 (by omega), fun k hk1 => absurd hk1 (by omega)⟩, ?_, ⟨fun s hs => absurd hs (by omega), fun j _ _ => by rw [z_m 46 (by decide)]⟩, fun p hp => absurd hp (by omega), ?_⟩, fun k hk1 => absurd hk1 (by omega)⟩
  · unfold Csea
    rw [z_K 11 (by decide), z_K 9 (by decide), z_K 10 (by decide), z_K 2 (by decide), z_m 23 (by decide), z_m 24 (by decide), z_m 25 (by decide), z_K4, z_K5, z_K7, z_K8, z_m26, z_m27, v2]
    refine ⟨⟨rfl, rfl, rfl⟩, fun j hj => ?_, rfl, by decide +kernel, fun c _ hc => absurd rfl hc, fun c _ => ⟨0, by omega, rfl⟩⟩
    unfold fl inR
    rw [if_pos hj, if_pos hj, if_pos hj, if_pos hj, if_pos hj, if_pos hj, if_neg (show ¬ 60 + j < 60 by omega), if_neg (show ¬ 60 + j < 60 by omega), if_pos (show 60 ≤ 60 + j ∧ 60 + j < 60 + 60 by omega), if_pos (show 60 ≤ 60 + j ∧ 60 + j < 60 + 60 by omega)]
    exact ⟨rfl, rfl, rfl, rfl⟩
  · unfold Cct
    rw [z_K 1 (by decide), z_K 16 (by decide), z_K14.1, z_K14.2, v1, v10, v20, v23, v29, v30, v33]
    exact ⟨⟨rfl, rfl⟩, ⟨rfl, rfl⟩, ⟨rfl, rfl⟩, ⟨rfl, rfl⟩, ⟨rfl, rfl⟩, ⟨rfl, rfl⟩, rfl, by decide, by decide⟩
  · unfold Cst
    rw [z_K 16 (by decide), z_K 17 (by decide), z_K 18 (by decide), z_K 19 (by decide), z_m 36 (by decide), z_m 37 (by decide), z_m 38 (by decide), z_m 39 (by decide), v17]
    exact ⟨⟨rfl, rfl, by decide⟩, ⟨rfl, rfl⟩, fun _ => 0, fun _ => 0, fun _ => 0, fun i hi1 => absurd hi1 (by omega), fun i j _ hj => absurd hj (by omega), List.Perm.refl _⟩
  · have := hcL
    unfold Cco
    omega
/-! the law's loop -/
theorem s_loop {L : Nat} {xs : Nat → Int32} (hL1 : L ≤ 2560) : ∀ k i n h K m, 5 * (i + k) ≤ L → L < 5 * (i + k) + 5 → k < n → Inv i h K m → ∃ (h1 : MH) (K1 m1 : Nat → Nat → Int32), L_L_law_23 L xs n (some 1) (some 22) (some 50) (nI (5 * i)) (st h K m) = rtL 1 (st h1 K1 m1) ∧ Inv (i + k) h1 K1 m1 := by
  intro k
  induction k with
  | zero =>
    intro i n h K m h1 h2 hn1 I
    obtain ⟨n, rfl⟩ : ∃ q, n = q + 1 := ⟨n - 1, by omega⟩
    refine ⟨h, K, m, ?_, I⟩
    show B_L_law_23 L xs (L_L_law_23 L xs n) (some 1) (some 22) (some 50) (nI (5 * i)) (st h K m) = _
    unfold B_L_law_23
    exact turn_end hL1 (by omega) (by omega)
  | succ k ih =>
    intro i n h K m h1 h2 hn1 I
    obtain ⟨n, rfl⟩ : ∃ q, n = q + 1 := ⟨n - 1, by omega⟩
    obtain ⟨h3, K3, m3, I3, e3⟩ := s_turn (xs := xs) hL1 (show 5 * i + 5 ≤ L by omega) I (L_L_law_23 L xs n)
    obtain ⟨h4, K4, m4, e4, I4⟩ := ih (i + 1) n h3 K3 m3 (by omega) (by omega) (by omega) I3
    refine ⟨h4, K4, m4, e3.trans e4, ?_⟩
    rw [show i + (k + 1) = i + 1 + k by omega]
    exact I4
theorem law_ok (L : Nat) (xs : Nat → Int32) (hL1 : L ≤ 2560) : ∃ (r : MR) (h' : MH), M_L_law L xs h00 = some (r, h') ∧ hc h' ≤ 601024 ∧ hs h' ≤ 7293034 := by
  obtain ⟨h1, K1, m1, e, I⟩ := s_loop (xs := xs) hL1 (L / 5) 0 fuel hL KL mL (by omega) (by omega) (by have : fuel = 1000 := rfl; omega) inv0
  refine ⟨_, st h1 K1 m1, (s_start L xs).trans (e.trans (if_pos rfl)), ?_⟩
  obtain ⟨nb, nr, ns, np, nsm, nst, d, R, -⟩ := I
  have hN := R.1.2.1.2.1
  have c := R.2.2.2.2.2.2.2.2.2
  unfold Cco at c
  have e1 : CGyreWatchLaw_law_r1115_220210.hc (st h1 K1 m1) = CGyreWatchLaw_law_r1115_220210.hc h1 := rfl
  have e2 : hs (st h1 K1 m1) = hs h1 := rfl
  rw [e1, e2]
  omega
