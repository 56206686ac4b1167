/-! new cells, copies, ends -/
theorem clO_newO {cy : Nat → ClassId} {ad : Nat → Nat} {h : MH} {ci n : Nat} (hci : ci < 20) : clO cy ad (alc h ci n) (hn h + 1) = .inr (ci, (List.range (nF ci)).map fun j => if isR ci j = true then .null else .int 0) := by
  rw [clO_obj (h := alc h ci n) (ci := ci) up1_s hci]
  refine congrArg _ (congrArg _ (List.map_congr_left fun j _ => ?_))
  show (if isR ci j = true then va_rf ((upr (hr h) (hn h + 1) (fun _ => none) (hn h + 1) j).map ad) else Value.int (upr (hi h) (hn h + 1) (fun _ => 0) (hn h + 1) j)) = _
  rw [upr_s, upr_s]; rfl
def allD (k : Nat) : Bool := (List.range (nF k)).all fun j => match tyN k j with
  | .int => true
  | .object _ => true
  | .array _ => true
  | _ => false
theorem dflt {ci j : Nat} (hci : allD ci = true) (hj : j < nF ci) : defaultValue (tyN ci j) = vp_V ((List.range (nF ci)).map fun j => if isR ci j = true then Value.null else .int 0) j := by
  have h1 := List.all_eq_true.mp hci j (List.mem_range.mpr hj)
  have h2 : vp_V ((List.range (nF ci)).map fun j => if isR ci j = true then Value.null else .int 0) j = if isR ci j = true then Value.null else .int 0 := by
    simp [vp_V, hj]
  rw [h2]
  unfold isR
  cases ht : tyN ci j <;> rw [ht] at h1 <;> first | rfl | (simp at h1)
theorem V_new {K : CT} {cc : ByteArray} {own : String} {ret : Option FieldType} {hh : List (Nat × Nat × Nat × Nat)} {lvl md : Nat} (F : Fr K cc own ret hh lvl md) {pc : Nat} {L : List (Nat × MV)} {st : List MV} {h : MH} {res : Option Nat → MH → Res} {idx : Nat} (ci : Nat) (hci : ci < 9) (hall : allD ci = true) (hk : Cond.classLink own idx (RN ci) ∈ GW) (hin : Cond.instantiable (RN ci) (nF ci) ∈ GW) (hini : Cond.initialized (RN ci) ∈ GW) (d : decode cc pc = .ok (.new idx, 3)) (n : ∀ r h', V K (pc + 3) L (vR r :: st) h' (res r h')) : V K pc L st h (nwO h ci res) := by
  intro r h' e9
  obtain ⟨a1, b1⟩ := n (some (hn h + 1)) (alc h ci (nF ci)) r h' e9
  obtain ⟨⟨z1, z2, z3⟩, z4⟩ := a1
  have y1 : hn h + 1 ≤ hn h' := z1
  have y2 : hc h + 1 ≤ hc h' := z2
  have y3 : hs h + nF ci ≤ hs h' := z3
  refine ⟨⟨⟨by omega, by omega, by omega⟩, z4⟩, ?_⟩
  rcases K with ⟨md1, nL, nm, _ | ⟨p, l, e, R, s, m, args, below, meth, c, D, cy, base, ad0, n0, mc, ms⟩⟩
  · exact True.intro
  obtain ⟨hmd, hx, hb, hml, hown, hts, hlk, henv, hmc, hms, hstk, hret, htab, hlv1, hlv2, hnm⟩ := F
  intro ad H locs cells slots ls w1 w2 w3 w4 w5 w6 w7
  obtain ⟨v1, v2⟩ := w7
  refine va_new hx hb hts (inN hci) (tyN ci) (tyN_ok hci) hown (hts _ hk) (hts _ hin) (hts _ hini) henv.1 w1.1 w1.2.1 w2 (fun q hq => Nat.le_trans henv.2.2.2.2.2.2.2.2 hq) (CL_at hci) (fun j hj => dflt hall hj) (by omega) (by omega) d (fun q H1 hP hD hS => ?_)
  have hag : ∀ z, z < hn h + 1 → up1 ad (hn h + 1) q z = ad z := fun z hz => up1_o (by omega)
  have w1' := w1.push (kd := ci) (n := nF ci) (clO_newO (by omega)).symm hP hD
  have k9 := b1 (up1 ad (hn h + 1) q) H1 locs (cells + 1) (slots + nF ci) ls w1' hS ⟨fun z hz => (hag z (by omega)).trans (w3.1 z hz), by show n0 ≤ hn h + 1 + 1; omega⟩ (by rw [map_cvl_congr w6 hag]; exact w4)
    (ok_psh (fun a ea => by cases ea; exact Nat.le_refl _) fun v hv => okv_mono (w5 v hv) (Nat.le_succ _)) (fun z hz => okv_mono (w6 z hz) (Nat.le_succ _)) ⟨by show cells + 1 + (hc h' - (hc h + 1)) ≤ mc; omega, by show slots + nF ci + (hs h' - (hs h + nF ci)) ≤ ms; omega⟩
  have e1 : cv (up1 ad (hn h + 1) q) (vR (some (hn h + 1))) = .ref q := by
    show va_rf (some (up1 ad (hn h + 1) q (hn h + 1))) = _
    rw [up1_s]; rfl
  rw [List.map_cons, e1, map_cv_congr w5 hag] at k9
  exact k9
def atK (k : Nat) : ArrayType := match k with
  | 20 => .int
  | 21 => .boolean
  | _ => .long
theorem clO_newA {cy : Nat → ClassId} {ad : Nat → Nat} {h : MH} {k n : Nat} (hk : k = 20 ∨ k = 21) : ∃ x : vp_A, clO cy ad (alc h k n) (hn h + 1) = .inl (cy k, x) ∧ ∀ cA : ClassId, vp_cell cA x = arrV cA n (fun _ => defaultValue (tyK k)) := by
  have l1 : hl (alc h k n) (hn h + 1) = n := up1_s
  rcases hk with rfl | rfl
  · refine ⟨(n, .inl fun _ => 0), ?_, fun _ => rfl⟩
    rw [clO_int (h := alc h 20 n) (k := 20) up1_s (by omega) (by omega), l1]
    show Sum.inl (cy 20, n, Sum.inl (upr (hi h) (hn h + 1) (fun _ => 0) (hn h + 1))) = _
    rw [upr_s]
  · refine ⟨(n, .inl fun _ => 0), ?_, fun _ => rfl⟩
    rw [clO_int (h := alc h 21 n) (k := 21) up1_s (by omega) (by omega), l1]
    show Sum.inl (cy 21, n, Sum.inl (upr (hi h) (hn h + 1) (fun _ => 0) (hn h + 1))) = _
    rw [upr_s]
theorem cb_le (k : Nat) : componentBytes (tyK k) ≤ 8 := by
  unfold tyK
  split <;> decide
theorem V_newa {K : CT} {cc : ByteArray} {own : String} {ret : Option FieldType} {hh : List (Nat × Nat × Nat × Nat)} {lvl md : Nat} (F : Fr K cc own ret hh lvl md) {pc : Nat} {L : List (Nat × MV)} {st : List MV} {h : MH} {res : Option Nat → MH → Res} {x : Int32} (kd : Nat) (hkd : kd = 20 ∨ kd = 21) (harr : Cond.arrayClass (tyK kd) ∈ GW) (d : decode cc pc = .ok (.newarray (atK kd), 2)) (n : ∀ r h', V K (pc + 2) L (vR r :: st) h' (res r h')) : V K pc L (vI x :: st) h (nwA h kd x res) := by
  unfold nwA
  by_cases q9 : 0 ≤ x ∧ x.toNatClampNeg ≤ 1000
  · rw [if_pos q9]
    obtain ⟨q1, q2⟩ := q9
    intro r h' e9
    obtain ⟨a1, b1⟩ := n (some (hn h + 1)) (alc h kd x.toNatClampNeg) r h' e9
    obtain ⟨⟨z1, z2, z3⟩, z4⟩ := a1
    have y1 : hn h + 1 ≤ hn h' := z1
    have y2 : hc h + 1 ≤ hc h' := z2
    have y3 : hs h + x.toNatClampNeg ≤ hs h' := z3
    refine ⟨⟨⟨by omega, by omega, by omega⟩, z4⟩, ?_⟩
    rcases K with ⟨md1, nL, nm, _ | ⟨p, l, e, R, s, m, args, below, meth, c, D, cy, base, ad0, n0, mc, ms⟩⟩
    · exact True.intro
    obtain ⟨hmd, hx, hb, hml, hown, hts, hlk, henv, hmc, hms, hstk, hret, htab, hlv1, hlv2, hnm⟩ := F
    intro ad H locs cells slots ls w1 w2 w3 w4 w5 w6 w7
    obtain ⟨v1, v2⟩ := w7
    have hty : newarray.typeOf (atK kd) = tyK kd := by rcases hkd with rfl | rfl <;> rfl
    have hAK : kd ∈ AK := by rcases hkd with rfl | rfl <;> decide
    have g5 : x.toNatClampNeg * componentBytes (tyK kd) ≤ 1000 * 8 := Nat.mul_le_mul q2 (cb_le kd)
    obtain ⟨x9, g1, g2⟩ := clO_newA (cy := cy) (ad := fun _ => 0) (h := h) (n := x.toNatClampNeg) hkd
    refine va_newa hx hb (by rw [hty]; exact hts _ harr) hty henv.1 w1.1 w1.2.1 w2 (fun q hq => Nat.le_trans henv.2.2.2.2.2.2.2.2 hq) (n := x) (N' := x.toNatClampNeg) (a0 := x9) g2 (Int32.not_lt.mpr q1) rfl (by omega) (by omega) (by omega) d (fun q cA H1 hK hP hD hS => ?_)
    have ecA : cA = cy kd := by
      obtain ⟨t0, ht0⟩ := TYL_at (cy := cy) hAK
      have r1 := (hK.2 (TYL cy).length (cA, tyK kd) (by simp)).2
      exact RA_inj r1 (henv.1.2 t0 _ ht0).2
    subst ecA
    have hag : ∀ z, z < hn h + 1 → up1 ad (hn h + 1) q z = ad z := fun z hz => up1_o (by omega)
    have ecl : (Sum.inl (cy kd, x9) : va_E) = clO cy (up1 ad (hn h + 1) q) (alc h kd x.toNatClampNeg) (hn h + 1) := by
      rw [← g1]
      rcases hkd with rfl | rfl
      · rw [clO_int (h := alc h 20 x.toNatClampNeg) (k := 20) up1_s (by omega) (by omega), clO_int (h := alc h 20 x.toNatClampNeg) (k := 20) up1_s (by omega) (by omega)]
      · rw [clO_int (h := alc h 21 x.toNatClampNeg) (k := 21) up1_s (by omega) (by omega), clO_int (h := alc h 21 x.toNatClampNeg) (k := 21) up1_s (by omega) (by omega)]
    have w1' := w1.push (kd := kd) (n := x.toNatClampNeg) ecl hP hD
    have k9 := b1 (up1 ad (hn h + 1) q) H1 locs (cells + 1) (slots + x.toNatClampNeg) ls w1' hS ⟨fun z hz => (hag z (by omega)).trans (w3.1 z hz), by show n0 ≤ hn h + 1 + 1; omega⟩ (by rw [map_cvl_congr w6 hag]; exact w4)
      (ok_psh (fun a ea => by cases ea; exact Nat.le_refl _) fun v hv => okv_mono (ok_pop w5 v hv) (Nat.le_succ _)) (fun z hz => okv_mono (w6 z hz) (Nat.le_succ _)) ⟨by show cells + 1 + (hc h' - (hc h + 1)) ≤ mc; omega, by show slots + x.toNatClampNeg + (hs h' - (hs h + x.toNatClampNeg)) ≤ ms; omega⟩
    have e1 : cv (up1 ad (hn h + 1) q) (vR (some (hn h + 1))) = .ref q := by
      show va_rf (some (up1 ad (hn h + 1) q (hn h + 1))) = _
      rw [up1_s]; rfl
    rw [List.map_cons, e1, map_cv_congr (ok_pop w5) hag] at k9
    exact k9
  · rw [if_neg q9]; exact V_none
theorem V_newq {K : CT} {cc : ByteArray} {own : String} {ret : Option FieldType} {hh : List (Nat × Nat × Nat × Nat)} {lvl md : Nat} (F : Fr K cc own ret hh lvl md) {pc : Nat} {L : List (Nat × MV)} {st : List MV} {h : MH} {res : Option Nat → MH → Res} {x : Int32} {idx : Nat} (kd : Nat) (hkd : 22 ≤ kd ∧ kd < 26) (hlink : Cond.classLink own idx (RN (coK kd)) ∈ GW) (hAO : RN (coK kd) ∈ AOL) (d : decode cc pc = .ok (.anewarray idx, 3)) (n : ∀ r h', V K (pc + 3) L (vR r :: st) h' (res r h')) : V K pc L (vI x :: st) h (nwA h kd x res) := by
  unfold nwA
  by_cases q9 : 0 ≤ x ∧ x.toNatClampNeg ≤ 1000
  · rw [if_pos q9]
    obtain ⟨q1, q2⟩ := q9
    intro r h' e9
    obtain ⟨a1, b1⟩ := n (some (hn h + 1)) (alc h kd x.toNatClampNeg) r h' e9
    obtain ⟨⟨z1, z2, z3⟩, z4⟩ := a1
    have y1 : hn h + 1 ≤ hn h' := z1
    have y2 : hc h + 1 ≤ hc h' := z2
    have y3 : hs h + x.toNatClampNeg ≤ hs h' := z3
    refine ⟨⟨⟨by omega, by omega, by omega⟩, z4⟩, ?_⟩
    rcases K with ⟨md1, nL, nm, _ | ⟨p, l, e, R, s, m, args, below, meth, c, D, cy, base, ad0, n0, mc, ms⟩⟩
    · exact True.intro
    obtain ⟨hmd, hx, hb, hml, hown, hts, hlk, henv, hmc, hms, hstk, hret, htab, hlv1, hlv2, hnm⟩ := F
    intro ad H locs cells slots ls w1 w2 w3 w4 w5 w6 w7
    obtain ⟨v1, v2⟩ := w7
    obtain ⟨hAK, C, hC1, hC2, -⟩ := kd_ref hkd
    refine va_newq hx hb hown (hts _ hlink) (henv.2.2.2.1 _ hAO) henv.1 w1.1 w1.2.1 w2 (fun q hq => Nat.le_trans henv.2.2.2.2.2.2.2.2 hq) (Int32.not_lt.mpr q1) rfl (by omega) (by omega) (by omega) d (fun q cA H1 hK hP hD hS => ?_)
    have ecA : cA = cy kd := by
      obtain ⟨t0, ht0⟩ := TYL_at (cy := cy) hAK
      rw [hC1, hC2] at ht0
      have r1 := (hK.2 (TYL cy).length (cA, .object (RN (coK kd))) (by simp)).2
      exact RA_inj r1 (henv.1.2 t0 _ ht0).2
    subst ecA
    have hag : ∀ z, z < hn h + 1 → up1 ad (hn h + 1) q z = ad z := fun z hz => up1_o (by omega)
    have ecl : (Sum.inl (cy kd, x.toNatClampNeg, .inr (.inr (.inr (.inr fun _ => none)))) : va_E) = clO cy (up1 ad (hn h + 1) q) (alc h kd x.toNatClampNeg) (hn h + 1) := by
      rw [clO_ref (h := alc h kd x.toNatClampNeg) (k := kd) up1_s (by omega) (by omega)]
      have l1 : hl (alc h kd x.toNatClampNeg) (hn h + 1) = x.toNatClampNeg := up1_s
      rw [l1]
      refine congrArg (fun z => Sum.inl (cy kd, x.toNatClampNeg, Sum.inr (Sum.inr (Sum.inr (Sum.inr z))))) ?_
      funext j
      show none = (upr (hr h) (hn h + 1) (fun _ => none) (hn h + 1) j).map _
      rw [upr_s]; rfl
    have w1' := w1.push (kd := kd) (n := x.toNatClampNeg) ecl hP hD
    have k9 := b1 (up1 ad (hn h + 1) q) H1 locs (cells + 1) (slots + x.toNatClampNeg) ls w1' hS ⟨fun z hz => (hag z (by omega)).trans (w3.1 z hz), by show n0 ≤ hn h + 1 + 1; omega⟩ (by rw [map_cvl_congr w6 hag]; exact w4)
      (ok_psh (fun a ea => by cases ea; exact Nat.le_refl _) fun v hv => okv_mono (ok_pop w5 v hv) (Nat.le_succ _)) (fun z hz => okv_mono (w6 z hz) (Nat.le_succ _)) ⟨by show cells + 1 + (hc h' - (hc h + 1)) ≤ mc; omega, by show slots + x.toNatClampNeg + (hs h' - (hs h + x.toNatClampNeg)) ≤ ms; omega⟩
    have e1 : cv (up1 ad (hn h + 1) q) (vR (some (hn h + 1))) = .ref q := by
      show va_rf (some (up1 ad (hn h + 1) q (hn h + 1))) = _
      rw [up1_s]; rfl
    rw [List.map_cons, e1, map_cv_congr (ok_pop w5) hag] at k9
    exact k9
  · rw [if_neg q9]; exact V_none
