/-! the relation holds at the start -/
theorem kL1 : ∀ a, a < 37 → hk hQ9 (a + 1) = KT.getD a 0 := by decide +kernel
theorem lL1 : ∀ a, a < 37 → hl hQ9 (a + 1) = LT.getD a 0 := by decide +kernel
theorem rL1 : ∀ q ∈ RT, hr hQ9 q.1 q.2.1 = some q.2.2 := by decide +kernel
theorem hcL : hc hQ9 ≤ 60 ∧ hs hQ9 ≤ 3000 := by decide +kernel
def U (h : MH) : Prop := ∀ a, 37 < a → hk h a = 99
theorem U.nwr {h : MH} {k n a j b : Nat} (u : U h) (hb : b ≤ 37) : U (nwr h k n a j b) := fun q hq => (if_neg (show ¬ q = b by omega)).trans (u q hq)
theorem U.alN {h : MH} {k n b : Nat} (u : U h) (hb : b ≤ 37) : U (alN h k n b) := fun q hq => (if_neg (show ¬ q = b by omega)).trans (u q hq)
theorem U.alc {h : MH} {k n : Nat} (u : U h) (hb : hn h + 1 ≤ 37) : U (alc h k n) := fun q hq => (if_neg (show ¬ q = hn h + 1 by omega)).trans (u q hq)
theorem U.sI {h : MH} {a j : Nat} {v : Int32} (u : U h) : U (sI h a j v) := u
theorem U.sR {h : MH} {a j : Nat} {v : Option Nat} (u : U h) : U (sR h a j v) := u
theorem U.sIr {h : MH} {a : Nat} {g : Nat → Int32} (u : U h) : U (sIr h a g) := u
theorem u_h00 : U h00 := fun _ _ => rfl
theorem u_hP1 : U hP1 := U.alc (U.alc (U.alc u_h00 (by decide)) (by decide)) (by decide)
theorem u_hF1 : U hF1 := U.sR (U.alc (U.sR (U.alc u_hP1 (by decide))) (by decide))
theorem u_hQ1 : U hQ1 := U.sIr (U.sIr u_hF1)
theorem u_hP2 : U hP2 := U.alc (U.sR u_hQ1) (by decide)
theorem u_hF2 : U hF2 := U.sR (U.alc (U.sR (U.alc u_hP2 (by decide))) (by decide))
theorem u_hQ2 : U hQ2 := U.sIr (U.sIr u_hF2)
theorem u_hQ5 : U hQ5 := U.nwr (U.nwr (U.nwr (U.nwr (U.sR u_hQ2) (by decide)) (by decide)) (by decide)) (by decide)
theorem u_hQ6 : U hQ6 := U.nwr (U.sR u_hQ5) (by decide)
theorem u_hQ7 : U hQ7 := U.sI (U.nwr (U.alN u_hQ6 (by decide)) (by decide))
theorem u_hQ10 : U hQ10 := U.sR u_hQ7
theorem u_hQ11 : U hQ11 := U.nwr (U.nwr (U.nwr (U.alN u_hQ10 (by decide)) (by decide)) (by decide)) (by decide)
theorem u_hQ8 : U hQ8 := U.nwr (U.nwr (U.sR u_hQ11) (by decide)) (by decide)
theorem u_hM1 : U hM1 := (U.alN (U.alN (U.alN (U.alN (U.alN (U.alN (U.alN (U.alN u_hQ8 (by decide)) (by decide)) (by decide)) (by decide)) (by decide)) (by decide)) (by decide)) (by decide))
theorem u_hQ9 : U hQ9 := (U.alN (U.alN (U.alN (U.alN (U.alN (U.alN (U.alN (U.alN u_hM1 (by decide)) (by decide)) (by decide)) (by decide)) (by decide)) (by decide)) (by decide)) (by decide))
theorem fixL : Fix hQ9 := by
  refine ⟨fun a ha => ⟨kL1 a ha, lL1 a ha⟩, rL1, by rw [hn9]; decide, fun a ha => ?_⟩
  rw [hn9] at ha
  rw [u_hQ9 a ha]
  decide
/-! the rows at the start -/
set_option maxRecDepth 100000 in
theorem z_K : ∀ a ∈ [1, 2, 9, 10, 11, 16, 17, 18, 19], hi hQ9 a = fun _ => 0 := by
  intro a ha
  simp only [List.mem_cons, List.not_mem_nil, or_false] at ha
  rcases ha with rfl | rfl | rfl | rfl | rfl | rfl | rfl | rfl | rfl <;> rfl
set_option maxRecDepth 100000 in
theorem z_K4 : hi hQ9 4 = fl (fun _ => 0) 1000 60 := rfl
set_option maxRecDepth 100000 in
theorem z_K5 : hi hQ9 5 = fl (fun _ => 0) 350 60 := rfl
set_option maxRecDepth 100000 in
theorem z_K7 : hi hQ9 7 = fl (fun _ => 0) 400 60 := rfl
set_option maxRecDepth 100000 in
theorem z_K8 : hi hQ9 8 = fl (fun _ => 0) 360 60 := rfl
set_option maxRecDepth 100000 in
theorem z_K14 : hi hQ9 14 2 = 100 ∧ hi hQ9 14 1 = 0 := ⟨rfl, rfl⟩
set_option maxRecDepth 100000 in
theorem z_m : ∀ a ∈ [22, 23, 24, 25, 26, 27, 28, 29, 30, 31, 32, 33, 34, 35, 36, 37], hi hQ9 a = fun _ => 0 := by
  intro a ha
  simp only [List.mem_cons, List.not_mem_nil, or_false] at ha
  rcases ha with rfl | rfl | rfl | rfl | rfl | rfl | rfl | rfl | rfl | rfl | rfl | rfl | rfl | rfl | rfl | rfl <;> rfl
set_option maxRecDepth 100000 in
theorem z_r : ∀ a ∈ [13, 15, 20, 21], ∀ k, hr hQ9 a k = none := by
  intro a ha k
  simp only [List.mem_cons, List.not_mem_nil, or_false] at ha
  rcases ha with rfl | rfl | rfl | rfl <;> rfl
theorem row0 {a len kd : Nat} (ha : a ∈ [13, 15, 20, 21]) : Row hQ9 a len kd 0 := ⟨fun k hk1 => absurd hk1 (by omega), fun k _ _ => z_r a ha k, fun k _ hk1 => absurd hk1 (by omega)⟩
/-- the ghost at the start -/
def g0 : Nat → Nat → Int32 := fun a j => if a = 22 then (if j = 29 then 100 else 0) else if a = 26 then (if j < 60 then 1000 else 400) else if a = 27 then (if j < 60 then 350 else 360) else 0
theorem g0_z {a : Nat} (h : a ≠ 22) (h2 : a ≠ 26) (h3 : a ≠ 27) : g0 a = fun _ => 0 := by
  funext j
  unfold g0
  rw [if_neg h, if_neg h2, if_neg h3]
theorem g0_26 : g0 26 = fun j => if j < 60 then 1000 else 400 := rfl
theorem g0_27 : g0 27 = fun j => if j < 60 then 350 else 360 := rfl
theorem g0_22 : g0 22 = fun j => if j = 29 then 100 else 0 := rfl
theorem rel0 : Rel hQ9 (hi hQ9) g0 0 0 0 0 0 0 0 (Sst 0 0) := by
  refine ⟨⟨fixL, ⟨by decide, by decide, by decide, by decide⟩, row0 (by decide), row0 (by decide), row0 (by decide), row0 (by decide), fun s hs => absurd hs (by omega), fun s _ hs => absurd hs (by omega), fun s _ hs => absurd hs (by omega)⟩, ?_, ?_, ⟨fun k hk1 => absurd hk1 (by omega), fun k _ _ => by rw [g0_z (by decide) (by decide) (by decide)]⟩, fun r hr1 => absurd hr1 (by omega), ⟨fun r hr1 => absurd hr1 (by omega), fun k hk1 => absurd hk1 (by omega)⟩, ?_, ⟨fun s hs => absurd hs (by omega), fun j _ _ => by rw [g0_z (by decide) (by decide) (by decide)]⟩, fun p hp => absurd hp (by omega), ?_⟩
  · unfold Csea
    rw [z_K 11 (by decide), z_K 9 (by decide), z_K 10 (by decide), z_K 2 (by decide), g0_z (a := 23) (by decide) (by decide) (by decide), g0_z (a := 24) (by decide) (by decide) (by decide), g0_z (a := 25) (by decide) (by decide) (by decide), z_K4, z_K5, z_K7, z_K8, g0_26, g0_27, g0_22]
    refine ⟨⟨rfl, rfl, rfl⟩, fun j hj => ?_, rfl, by decide +kernel, fun c _ hc => absurd rfl hc, fun c _ => ⟨0, by omega, rfl⟩⟩
    unfold fl
    rw [if_pos hj, if_pos hj, if_pos hj, if_pos hj]
    show (1000 : Int32) = (if j < 60 then 1000 else 400) ∧ (400 : Int32) = (if 60 + j < 60 then 1000 else 400) ∧ (350 : Int32) = (if j < 60 then 350 else 360) ∧ (360 : Int32) = (if 60 + j < 60 then 350 else 360)
    rw [if_pos hj, if_pos hj, if_neg (show ¬ 60 + j < 60 by omega), if_neg (show ¬ 60 + j < 60 by omega)]
    exact ⟨rfl, rfl, rfl, rfl⟩
  · unfold Cct
    rw [z_K 1 (by decide), z_K 16 (by decide), z_K14.1, z_K14.2, g0_22]
    exact ⟨⟨rfl, rfl⟩, ⟨rfl, rfl⟩, ⟨rfl, rfl⟩, ⟨rfl, rfl⟩, ⟨rfl, rfl⟩, ⟨rfl, rfl⟩, rfl, by decide, by decide⟩
  · unfold Cst
    rw [z_K 16 (by decide), z_K 17 (by decide), z_K 18 (by decide), z_K 19 (by decide), g0_z (a := 36) (by decide) (by decide) (by decide), g0_z (a := 37) (by decide) (by decide) (by decide), g0_z (a := 38) (by decide) (by decide) (by decide), g0_z (a := 39) (by decide) (by decide) (by decide), g0_22]
    exact ⟨⟨rfl, rfl, by decide⟩, ⟨rfl, rfl⟩, fun _ => 0, fun _ => 0, fun _ => 0, fun i hi1 => absurd hi1 (by omega), fun i j _ hj => absurd hj (by omega), List.Perm.refl _⟩
  · have := hcL
    unfold Cco
    omega
theorem abs0 : Abs g0 (mL (hi hQ9)) 0 0 0 0 0 0 := by
  have z (a : Nat) (h : a ∈ [22, 23, 24, 25, 26, 27, 28, 29, 30, 31, 32, 33, 34, 35, 36, 37]) := z_m a h
  have m (a : Nat) (h : a ∈ [22, 27, 28, 29, 30, 31, 32, 33, 34, 35, 36]) : mL (hi hQ9) a = fun _ => 0 := by
    simp only [List.mem_cons, List.not_mem_nil, or_false] at h
    unfold mL
    rw [upw_o (by omega), fM_o (by omega) (by omega) (by omega) (by omega)]
    exact z a (by simp; omega)
  have m37 : mL (hi hQ9) 37 = upd (fun _ => 0) 7 100 := by
    unfold mL
    rw [upw_s, z 37 (by decide)]
  obtain ⟨r1, r2, r3, r4⟩ := @fM_r (hi hQ9) 60
  have m23 : mL (hi hQ9) 23 = fl (fun _ => 0) 1000 60 := by unfold mL; rw [upw_o (by decide), r1, z 23 (by decide)]
  have m24 : mL (hi hQ9) 24 = fl (fun _ => 0) 400 60 := by unfold mL; rw [upw_o (by decide), r2, z 24 (by decide)]
  have m25 : mL (hi hQ9) 25 = fl (fun _ => 0) 350 60 := by unfold mL; rw [upw_o (by decide), r3, z 25 (by decide)]
  have m26 : mL (hi hQ9) 26 = fl (fun _ => 0) 360 60 := by unfold mL; rw [upw_o (by decide), r4, z 26 (by decide)]
  unfold Abs
  rw [g0_z (a := 23) (by decide) (by decide) (by decide), g0_z (a := 24) (by decide) (by decide) (by decide), g0_z (a := 25) (by decide) (by decide) (by decide), g0_26, g0_27, g0_22, g0_z (a := 46) (by decide) (by decide) (by decide), m 22 (by decide), m23, m24, m25, m26, m37, m 27 (by decide), m 33 (by decide), m 34 (by decide)]
  refine ⟨fun c _ => ⟨0, by omega, rfl, Or.inl ⟨rfl, rfl⟩⟩, ⟨fun c hc => ?_, fun j => if j < 60 then 1000 else 400, fun j => if j < 60 then 350 else 360, fun j hj => ?_, ?_, ?_⟩, ⟨fun y hy => upd_o (by omega), fun y hy => ⟨50, by omega, rfl⟩, rfl⟩, ⟨fun k hk1 => absurd hk1 (by omega), fun k _ _ => rfl⟩, fun r hr1 => absurd hr1 (by omega), ⟨fun c _ => ⟨rfl, rfl⟩, fun _ => 0, fun j _ => rfl, ?_, ?_, fun c _ _ => ⟨rfl, rfl⟩⟩, ⟨fun k hk1 => absurd hk1 (by omega), fun k hk1 => absurd hk1 (by omega)⟩, ⟨⟨rfl, rfl, rfl, rfl, rfl, rfl⟩, ⟨rfl, 100, by omega, rfl⟩, fun s hs => absurd hs (by omega)⟩⟩
  · unfold fl
    rw [if_pos hc, if_pos hc, if_pos hc, if_pos hc]
    show (1000 : Int32) = (if c < 60 then 1000 else 400) ∧ (400 : Int32) = (if 60 + c < 60 then 1000 else 400) ∧ (350 : Int32) = (if c < 60 then 350 else 360) ∧ (360 : Int32) = (if 60 + c < 60 then 350 else 360)
    rw [if_pos hc, if_pos hc, if_neg (show ¬ 60 + c < 60 by omega), if_neg (show ¬ 60 + c < 60 by omega)]
    exact ⟨rfl, rfl, rfl, rfl⟩
  · show (if j < 60 then (1000 : Int32) else 400) = nI (if j < 60 then 1000 else 400) ∧ (if j < 60 then (350 : Int32) else 360) = nI (if j < 60 then 350 else 360)
    by_cases w : j < 60
    · rw [if_pos w, if_pos w, if_pos w, if_pos w]; exact ⟨rfl, rfl⟩
    · rw [if_neg w, if_neg w, if_neg w, if_neg w]; exact ⟨rfl, rfl⟩
  · decide +kernel
  · decide +kernel
  · rw [smn_const]; omega
  · rw [smn_const]; omega
theorem law_ok (L : Nat) (xs : Nat → Int32) (hL : L ≤ 260) : ∃ (r : MR) (h' : MH), M_L_law L xs h00 = some (r, h') ∧ hc h' ≤ 601788 ∧ hs h' ≤ 7296259 := by
  have O : Ok (4 * 0) hQ9 (hi hQ9) g0 (mL (hi hQ9)) 0 0 0 0 0 0 := ⟨rel0, fun k hk1 => absurd hk1 (by omega), abs0, by omega, by omega, by omega⟩
  obtain ⟨h', e, b1, b2⟩ := s_turns (xs := xs) hL 70 0 hQ9 (hi hQ9) g0 (mL (hi hQ9)) 0 0 0 0 0 0 rfl O (fun _ s hs => absurd hs (by omega)) (by omega) fuel (by have : fuel = 1000 := rfl; omega)
  refine ⟨.inl (some (vI 1)), h', ?_, by omega, by omega⟩
  rw [s_start0, ← e]
  have := s_105 (L := L) (xs := xs) (K := hi hQ9) (m := hi hQ9) fixL
  rw [st_id] at this
  exact this
