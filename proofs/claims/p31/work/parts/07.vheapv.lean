theorem vR_inj {a b : Option Nat} (h : vR a = vR b) : a = b := Sum.inl.inj (Sum.inr.inj h)
theorem V_getI {K : CT} {cc : ByteArray} {own : String} {ret : Option FieldType} {hh : List (Nat × Nat × Nat × Nat)} {lvl md : Nat} (F : Fr K cc own ret hh lvl md) {pc : Nat} {L : List (Nat × MV)} {st : List MV} {h : MH} {r : Option Nat} {res : Int32 → Res} {idx : Nat} (ci j : Nat) (hci : ci < 9) (hj : j < nF ci) (hI : isR ci j = false) (hlink : Cond.fieldLink own idx ((TN ci) j).1 ((TN ci) j).2.1 ((TN ci) j).2.2.1 ∈ GW) (d : decode cc pc = .ok (.getfield idx, 3)) (n : ∀ z, V K (pc + 3) L (vI z :: st) h (res z)) : V K pc L (vR r :: st) h (gfI h r ci j res) := by
  cases r with
  | none => exact V_none
  | some a =>
    show V K pc L _ h (if hk h a = ci then res (hi h a j) else none)
    by_cases q : hk h a = ci
    · rw [if_pos q]
      intro r h' e9
      obtain ⟨a1, b1⟩ := n _ r h' e9
      refine ⟨a1, ?_⟩
      rcases K with ⟨md1, nL, nm, _ | ⟨p, l, e, R, s, m, args, below, meth, c, D, cy, base, ad0, n0, mc, ms⟩⟩
      · exact True.intro
      obtain ⟨hmd, hx, hb, hml, hown, hts, hlk, henv, hmc, hms, hstk, hret, htab, hlv1, hlv2, hnm⟩ := F
      intro ad H locs cells slots ls w1 w2 w3 w4 w5 w6 w7
      obtain ⟨q0, hq0, rfl⟩ := w1.low q (by omega)
      have he := wsO_at (cy := cy) (ad := ad) hq0
      rw [clO_obj q (by omega)] at he
      refine va_get hx hb hts (inN hci) hown henv.1 w1.1 q0 he (CL_at hci) j hj (hts _ hlink) (fun _ z => z) (v := .int (hi h (q0 + 1) j)) ?_ d (b1 ad H locs cells slots ls w1 w2 w3 w4 (ok_psh okv_I (ok_pop w5)) w6 w7)
      simp [hj, hI]
    · rw [if_neg q]; exact V_none
theorem V_getR {K : CT} {cc : ByteArray} {own : String} {ret : Option FieldType} {hh : List (Nat × Nat × Nat × Nat)} {lvl md : Nat} (F : Fr K cc own ret hh lvl md) {pc : Nat} {L : List (Nat × MV)} {st : List MV} {h : MH} {r : Option Nat} {res : Option Nat → Res} {idx : Nat} (ci j : Nat) (hci : ci < 9) (hj : j < nF ci) (hI : isR ci j = true) (hlink : Cond.fieldLink own idx ((TN ci) j).1 ((TN ci) j).2.1 ((TN ci) j).2.2.1 ∈ GW) (d : decode cc pc = .ok (.getfield idx, 3)) (n : ∀ z, V K (pc + 3) L (vR z :: st) h (res z)) : V K pc L (vR r :: st) h (gfR h r ci j res) := by
  cases r with
  | none => exact V_none
  | some a =>
    show V K pc L _ h (if hk h a = ci then res (hr h a j) else none)
    by_cases q : hk h a = ci
    · rw [if_pos q]
      intro r h' e9
      obtain ⟨a1, b1⟩ := n _ r h' e9
      refine ⟨a1, ?_⟩
      rcases K with ⟨md1, nL, nm, _ | ⟨p, l, e, R, s, m, args, below, meth, c, D, cy, base, ad0, n0, mc, ms⟩⟩
      · exact True.intro
      obtain ⟨hmd, hx, hb, hml, hown, hts, hlk, henv, hmc, hms, hstk, hret, htab, hlv1, hlv2, hnm⟩ := F
      intro ad H locs cells slots ls w1 w2 w3 w4 w5 w6 w7
      obtain ⟨q0, hq0, rfl⟩ := w1.low q (by omega)
      have he := wsO_at (cy := cy) (ad := ad) hq0
      rw [clO_obj q (by omega)] at he
      refine va_get hx hb hts (inN hci) hown henv.1 w1.1 q0 he (CL_at hci) j hj (hts _ hlink) (fun _ z => z) (v := va_rf ((hr h (q0 + 1) j).map ad)) ?_ d (b1 ad H locs cells slots ls w1 w2 w3 w4 (ok_psh (fun b eb => w1.2.2.2 _ j b (vR_inj eb)) (ok_pop w5)) w6 w7)
      simp [hj, hI]
    · rw [if_neg q]; exact V_none
theorem V_putI {K : CT} {cc : ByteArray} {own : String} {ret : Option FieldType} {hh : List (Nat × Nat × Nat × Nat)} {lvl md : Nat} (F : Fr K cc own ret hh lvl md) {pc : Nat} {L : List (Nat × MV)} {st : List MV} {h : MH} {r : Option Nat} {v : Int32} {res : MH → Res} {idx : Nat} (ci j : Nat) (hci : ci < 9) (hj : j < nF ci) (hty : tyN ci j = .int) (hfin : ((TN ci) j).2.2.2 = false) (hlink : Cond.fieldLink own idx ((TN ci) j).1 ((TN ci) j).2.1 ((TN ci) j).2.2.1 ∈ GW) (d : decode cc pc = .ok (.putfield idx, 3)) (n : ∀ h', V K (pc + 3) L st h' (res h')) : V K pc L (vI v :: vR r :: st) h (pfI h r ci j v res) := by
  have hI : isR ci j = false := by unfold isR; rw [hty]; rfl
  cases r with
  | none => exact V_none
  | some a =>
    show V K pc L _ h (if hk h a = ci then res (sI h a j v) else none)
    by_cases q : hk h a = ci
    · rw [if_pos q]
      intro r h' e9
      obtain ⟨a1, b1⟩ := n _ r h' e9
      refine ⟨a1, ?_⟩
      rcases K with ⟨md1, nL, nm, _ | ⟨p, l, e, R, s, m, args, below, meth, c, D, cy, base, ad0, n0, mc, ms⟩⟩
      · exact True.intro
      obtain ⟨hmd, hx, hb, hml, hown, hts, hlk, henv, hmc, hms, hstk, hret, htab, hlv1, hlv2, hnm⟩ := F
      intro ad H locs cells slots ls w1 w2 w3 w4 w5 w6 w7
      obtain ⟨q0, hq0, rfl⟩ := w1.low q (by omega)
      have he := wsO_at (cy := cy) (ad := ad) hq0
      rw [clO_obj q (by omega)] at he
      exact va_put hx hb hts (inN hci) (tyN ci) (tyN_ok hci) (nmN hci) hown henv.1 w1.1 w1.2.1 w2 q0 he (CL_at hci) j hj (hts _ hlink) (fun _ z => z) hfin (ty := .int) (v := .int v) (by rw [tyN_ok hci j hj, hty]) rfl rfl (by simp [hj]) d
        (fun H1 locs1 hP hD hS => b1 ad H1 locs1 cells slots ls (w1.sIo hq0 q (by omega) hj hI hP hD) hS w3 w4 (ok_pop (ok_pop w5)) w6 w7)
    · rw [if_neg q]; exact V_none
theorem V_putIF {K : CT} {cc : ByteArray} {own : String} {ret : Option FieldType} {hh : List (Nat × Nat × Nat × Nat)} {lvl md : Nat} (F : Fr K cc own ret hh lvl md) {pc : Nat} {L : List (Nat × MV)} {st : List MV} {h : MH} {r : Option Nat} {v : Int32} {res : MH → Res} {idx : Nat} (hini : nmK K "<init>") (ci j : Nat) (hci : ci < 9) (hj : j < nF ci) (hty : tyN ci j = .int) (hfin : ((TN ci) j).2.2.2 = true) (hdecl : ((TN ci) j).1 = own) (hlink : Cond.fieldLink own idx ((TN ci) j).1 ((TN ci) j).2.1 ((TN ci) j).2.2.1 ∈ GW) (d : decode cc pc = .ok (.putfield idx, 3)) (n : ∀ h', V K (pc + 3) L st h' (res h')) : V K pc L (vI v :: vR r :: st) h (pfI h r ci j v res) := by
  have hI : isR ci j = false := by unfold isR; rw [hty]; rfl
  cases r with
  | none => exact V_none
  | some a =>
    show V K pc L _ h (if hk h a = ci then res (sI h a j v) else none)
    by_cases q : hk h a = ci
    · rw [if_pos q]
      intro r h' e9
      obtain ⟨a1, b1⟩ := n _ r h' e9
      refine ⟨a1, ?_⟩
      rcases K with ⟨md1, nL, nm, _ | ⟨p, l, e, R, s, m, args, below, meth, c, D, cy, base, ad0, n0, mc, ms⟩⟩
      · exact True.intro
      obtain ⟨hmd, hx, hb, hml, hown, hts, hlk, henv, hmc, hms, hstk, hret, htab, hlv1, hlv2, hnm⟩ := F
      intro ad H locs cells slots ls w1 w2 w3 w4 w5 w6 w7
      obtain ⟨q0, hq0, rfl⟩ := w1.low q (by omega)
      have he := wsO_at (cy := cy) (ad := ad) hq0
      rw [clO_obj q (by omega)] at he
      exact va_putF hx hb hts (inN hci) (tyN ci) (tyN_ok hci) (nmN hci) hown henv.1 w1.1 w1.2.1 w2 q0 he (CL_at hci) j hj (hts _ hlink) (fun _ z => z) hfin (hnm.trans hini) hdecl (ty := .int) (v := .int v) (by rw [tyN_ok hci j hj, hty]) rfl rfl (by simp [hj]) d
        (fun H1 locs1 hP hD hS => b1 ad H1 locs1 cells slots ls (w1.sIo hq0 q (by omega) hj hI hP hD) hS w3 w4 (ok_pop (ok_pop w5)) w6 w7)
    · rw [if_neg q]; exact V_none
theorem V_putR {K : CT} {cc : ByteArray} {own : String} {ret : Option FieldType} {hh : List (Nat × Nat × Nat × Nat)} {lvl md : Nat} (F : Fr K cc own ret hh lvl md) {pc : Nat} {L : List (Nat × MV)} {st : List MV} {h : MH} {r v : Option Nat} {res : MH → Res} {idx : Nat} (ci j : Nat) (hci : ci < 9) (hj : j < nF ci) (hR : isR ci j = true) (hfin : ((TN ci) j).2.2.2 = false) (hlink : Cond.fieldLink own idx ((TN ci) j).1 ((TN ci) j).2.1 ((TN ci) j).2.2.1 ∈ GW) (d : decode cc pc = .ok (.putfield idx, 3)) (n : ∀ h', V K (pc + 3) L st h' (res h')) : V K pc L (vR v :: vR r :: st) h (pfR h r ci j v res) := by
  cases r with
  | none => exact V_none
  | some a =>
    show V K pc L _ h (if hk h a = ci then res (sR h a j v) else none)
    by_cases q : hk h a = ci
    · rw [if_pos q]
      intro r h' e9
      obtain ⟨a1, b1⟩ := n _ r h' e9
      refine ⟨a1, ?_⟩
      rcases K with ⟨md1, nL, nm, _ | ⟨p, l, e, R, s, m, args, below, meth, c, D, cy, base, ad0, n0, mc, ms⟩⟩
      · exact True.intro
      obtain ⟨hmd, hx, hb, hml, hown, hts, hlk, henv, hmc, hms, hstk, hret, htab, hlv1, hlv2, hnm⟩ := F
      intro ad H locs cells slots ls w1 w2 w3 w4 w5 w6 w7
      obtain ⟨q0, hq0, rfl⟩ := w1.low q (by omega)
      have he := wsO_at (cy := cy) (ad := ad) hq0
      rw [clO_obj q (by omega)] at he
      obtain ⟨f1, f2⟩ := nwf (t := tyN ci j) hR (v.map ad)
      exact va_put hx hb hts (inN hci) (tyN ci) (tyN_ok hci) (nmN hci) hown henv.1 w1.1 w1.2.1 w2 q0 he (CL_at hci) j hj (hts _ hlink) (fun _ z => z) hfin (ty := tyN ci j) (v := va_rf (v.map ad)) (tyN_ok hci j hj) f1 f2 (by simp [hj]) d
        (fun H1 locs1 hP hD hS => b1 ad H1 locs1 cells slots ls (w1.sRo hq0 q (by omega) hj hR (ok_hd w5) hP hD) hS w3 w4 (ok_pop (ok_pop w5)) w6 w7)
    · rw [if_neg q]; exact V_none
theorem V_putRF {K : CT} {cc : ByteArray} {own : String} {ret : Option FieldType} {hh : List (Nat × Nat × Nat × Nat)} {lvl md : Nat} (F : Fr K cc own ret hh lvl md) {pc : Nat} {L : List (Nat × MV)} {st : List MV} {h : MH} {r v : Option Nat} {res : MH → Res} {idx : Nat} (hini : nmK K "<init>") (ci j : Nat) (hci : ci < 9) (hj : j < nF ci) (hR : isR ci j = true) (hfin : ((TN ci) j).2.2.2 = true) (hdecl : ((TN ci) j).1 = own) (hlink : Cond.fieldLink own idx ((TN ci) j).1 ((TN ci) j).2.1 ((TN ci) j).2.2.1 ∈ GW) (d : decode cc pc = .ok (.putfield idx, 3)) (n : ∀ h', V K (pc + 3) L st h' (res h')) : V K pc L (vR v :: vR r :: st) h (pfR h r ci j v res) := by
  cases r with
  | none => exact V_none
  | some a =>
    show V K pc L _ h (if hk h a = ci then res (sR h a j v) else none)
    by_cases q : hk h a = ci
    · rw [if_pos q]
      intro r h' e9
      obtain ⟨a1, b1⟩ := n _ r h' e9
      refine ⟨a1, ?_⟩
      rcases K with ⟨md1, nL, nm, _ | ⟨p, l, e, R, s, m, args, below, meth, c, D, cy, base, ad0, n0, mc, ms⟩⟩
      · exact True.intro
      obtain ⟨hmd, hx, hb, hml, hown, hts, hlk, henv, hmc, hms, hstk, hret, htab, hlv1, hlv2, hnm⟩ := F
      intro ad H locs cells slots ls w1 w2 w3 w4 w5 w6 w7
      obtain ⟨q0, hq0, rfl⟩ := w1.low q (by omega)
      have he := wsO_at (cy := cy) (ad := ad) hq0
      rw [clO_obj q (by omega)] at he
      obtain ⟨f1, f2⟩ := nwf (t := tyN ci j) hR (v.map ad)
      exact va_putF hx hb hts (inN hci) (tyN ci) (tyN_ok hci) (nmN hci) hown henv.1 w1.1 w1.2.1 w2 q0 he (CL_at hci) j hj (hts _ hlink) (fun _ z => z) hfin (hnm.trans hini) hdecl (ty := tyN ci j) (v := va_rf (v.map ad)) (tyN_ok hci j hj) f1 f2 (by simp [hj]) d
        (fun H1 locs1 hP hD hS => b1 ad H1 locs1 cells slots ls (w1.sRo hq0 q (by omega) hj hR (ok_hd w5) hP hD) hS w3 w4 (ok_pop (ok_pop w5)) w6 w7)
    · rw [if_neg q]; exact V_none
theorem V_iald {K : CT} {cc : ByteArray} {own : String} {ret : Option FieldType} {hh : List (Nat × Nat × Nat × Nat)} {lvl md : Nat} (F : Fr K cc own ret hh lvl md) {pc : Nat} {L : List (Nat × MV)} {st : List MV} {h : MH} {r : Option Nat} {i : Int32} {res : Int32 → Res} (d : decode cc pc = .ok (.iaload, 1)) (n : ∀ z, V K (pc + 1) L (vI z :: st) h (res z)) : V K pc L (vI i :: vR r :: st) h (rdI h r 20 i res) := by
  cases r with
  | none => exact V_none
  | some a =>
    show V K pc L _ h (if hk h a = 20 ∧ 0 ≤ i ∧ i.toNatClampNeg < hl h a then res (hi h a i.toNatClampNeg) else none)
    by_cases q : hk h a = 20 ∧ 0 ≤ i ∧ i.toNatClampNeg < hl h a
    · rw [if_pos q]
      obtain ⟨q1, q2, q3⟩ := q
      intro r h' e9
      obtain ⟨a1, b1⟩ := n _ r h' e9
      refine ⟨a1, ?_⟩
      rcases K with ⟨md1, nL, nm, _ | ⟨p, l, e, R, s, m, args, below, meth, c, D, cy, base, ad0, n0, mc, ms⟩⟩
      · exact True.intro
      obtain ⟨hmd, hx, hb, hml, hown, hts, hlk, henv, hmc, hms, hstk, hret, htab, hlv1, hlv2, hnm⟩ := F
      intro ad H locs cells slots ls w1 w2 w3 w4 w5 w6 w7
      obtain ⟨q0, hq0, rfl⟩ := w1.low q1 (by omega)
      have he := wsO_at (cy := cy) (ad := ad) hq0
      rw [clO_int q1 (by omega) (by omega)] at he
      obtain ⟨t0, ht0⟩ := TYL_at (cy := cy) (k := 20) (by decide)
      exact va_iald hx hb henv.1 w1.1 q0 t0 he ht0 (vpin q2 q3) d (b1 ad H locs cells slots ls w1 w2 w3 w4 (ok_psh okv_I (ok_pop (ok_pop w5))) w6 w7)
    · rw [if_neg q]; exact V_none
theorem V_zald {K : CT} {cc : ByteArray} {own : String} {ret : Option FieldType} {hh : List (Nat × Nat × Nat × Nat)} {lvl md : Nat} (F : Fr K cc own ret hh lvl md) {pc : Nat} {L : List (Nat × MV)} {st : List MV} {h : MH} {r : Option Nat} {i : Int32} {res : Int32 → Res} (d : decode cc pc = .ok (.baload, 1)) (n : ∀ z, V K (pc + 1) L (vI z :: st) h (res z)) : V K pc L (vI i :: vR r :: st) h (rdI h r 21 i res) := by
  cases r with
  | none => exact V_none
  | some a =>
    show V K pc L _ h (if hk h a = 21 ∧ 0 ≤ i ∧ i.toNatClampNeg < hl h a then res (hi h a i.toNatClampNeg) else none)
    by_cases q : hk h a = 21 ∧ 0 ≤ i ∧ i.toNatClampNeg < hl h a
    · rw [if_pos q]
      obtain ⟨q1, q2, q3⟩ := q
      intro r h' e9
      obtain ⟨a1, b1⟩ := n _ r h' e9
      refine ⟨a1, ?_⟩
      rcases K with ⟨md1, nL, nm, _ | ⟨p, l, e, R, s, m, args, below, meth, c, D, cy, base, ad0, n0, mc, ms⟩⟩
      · exact True.intro
      obtain ⟨hmd, hx, hb, hml, hown, hts, hlk, henv, hmc, hms, hstk, hret, htab, hlv1, hlv2, hnm⟩ := F
      intro ad H locs cells slots ls w1 w2 w3 w4 w5 w6 w7
      obtain ⟨q0, hq0, rfl⟩ := w1.low q1 (by omega)
      have he := wsO_at (cy := cy) (ad := ad) hq0
      rw [clO_int q1 (by omega) (by omega)] at he
      obtain ⟨t0, ht0⟩ := TYL_at (cy := cy) (k := 21) (by decide)
      exact va_zald hx hb henv.1 w1.1 q0 t0 he ht0 (vpin q2 q3) d (b1 ad H locs cells slots ls w1 w2 w3 w4 (ok_psh okv_I (ok_pop (ok_pop w5))) w6 w7)
    · rw [if_neg q]; exact V_none
theorem V_iast {K : CT} {cc : ByteArray} {own : String} {ret : Option FieldType} {hh : List (Nat × Nat × Nat × Nat)} {lvl md : Nat} (F : Fr K cc own ret hh lvl md) {pc : Nat} {L : List (Nat × MV)} {st : List MV} {h : MH} {r : Option Nat} {i v : Int32} {res : MH → Res} (d : decode cc pc = .ok (.iastore, 1)) (n : ∀ h', V K (pc + 1) L st h' (res h')) : V K pc L (vI v :: vI i :: vR r :: st) h (wrI h r 20 i v res) := by
  cases r with
  | none => exact V_none
  | some a =>
    show V K pc L _ h (if hk h a = 20 ∧ 0 ≤ i ∧ i.toNatClampNeg < hl h a ∧ (20 = 21 → v = 0 ∨ v = 1) then res (sI h a i.toNatClampNeg v) else none)
    by_cases q : hk h a = 20 ∧ 0 ≤ i ∧ i.toNatClampNeg < hl h a ∧ (20 = 21 → v = 0 ∨ v = 1)
    · rw [if_pos q]
      obtain ⟨q1, q2, q3, -⟩ := q
      intro r h' e9
      obtain ⟨a1, b1⟩ := n _ r h' e9
      refine ⟨a1, ?_⟩
      rcases K with ⟨md1, nL, nm, _ | ⟨p, l, e, R, s, m, args, below, meth, c, D, cy, base, ad0, n0, mc, ms⟩⟩
      · exact True.intro
      obtain ⟨hmd, hx, hb, hml, hown, hts, hlk, henv, hmc, hms, hstk, hret, htab, hlv1, hlv2, hnm⟩ := F
      intro ad H locs cells slots ls w1 w2 w3 w4 w5 w6 w7
      obtain ⟨q0, hq0, rfl⟩ := w1.low q1 (by omega)
      have he := wsO_at (cy := cy) (ad := ad) hq0
      rw [clO_int q1 (by omega) (by omega)] at he
      obtain ⟨t0, ht0⟩ := TYL_at (cy := cy) (k := 20) (by decide)
      exact va_iast hx hb henv.1 w1.1 w1.2.1 w2 q0 t0 he ht0 (vpin q2 q3) d
        (fun H1 locs1 hP hD hS => b1 ad H1 locs1 cells slots ls (w1.sIa hq0 q1 (by omega) (by omega) hP hD sI_row) hS w3 w4 (ok_pop (ok_pop (ok_pop w5))) w6 w7)
    · rw [if_neg q]; exact V_none
theorem V_zast {K : CT} {cc : ByteArray} {own : String} {ret : Option FieldType} {hh : List (Nat × Nat × Nat × Nat)} {lvl md : Nat} (F : Fr K cc own ret hh lvl md) {pc : Nat} {L : List (Nat × MV)} {st : List MV} {h : MH} {r : Option Nat} {i v : Int32} {res : MH → Res} (d : decode cc pc = .ok (.bastore, 1)) (n : ∀ h', V K (pc + 1) L st h' (res h')) : V K pc L (vI v :: vI i :: vR r :: st) h (wrI h r 21 i v res) := by
  cases r with
  | none => exact V_none
  | some a =>
    show V K pc L _ h (if hk h a = 21 ∧ 0 ≤ i ∧ i.toNatClampNeg < hl h a ∧ (21 = 21 → v = 0 ∨ v = 1) then res (sI h a i.toNatClampNeg v) else none)
    by_cases q : hk h a = 21 ∧ 0 ≤ i ∧ i.toNatClampNeg < hl h a ∧ (21 = 21 → v = 0 ∨ v = 1)
    · rw [if_pos q]
      obtain ⟨q1, q2, q3, q4⟩ := q
      intro r h' e9
      obtain ⟨a1, b1⟩ := n _ r h' e9
      refine ⟨a1, ?_⟩
      rcases K with ⟨md1, nL, nm, _ | ⟨p, l, e, R, s, m, args, below, meth, c, D, cy, base, ad0, n0, mc, ms⟩⟩
      · exact True.intro
      obtain ⟨hmd, hx, hb, hml, hown, hts, hlk, henv, hmc, hms, hstk, hret, htab, hlv1, hlv2, hnm⟩ := F
      intro ad H locs cells slots ls w1 w2 w3 w4 w5 w6 w7
      obtain ⟨q0, hq0, rfl⟩ := w1.low q1 (by omega)
      have he := wsO_at (cy := cy) (ad := ad) hq0
      rw [clO_int q1 (by omega) (by omega)] at he
      obtain ⟨t0, ht0⟩ := TYL_at (cy := cy) (k := 21) (by decide)
      have hv : vp_nar .boolean v = v := by
        rcases q4 rfl with rfl | rfl <;> decide
      refine va_zast hx hb henv.1 w1.1 w1.2.1 w2 q0 t0 he ht0 (vpin q2 q3) d
        (fun H1 locs1 hP hD hS => b1 ad H1 locs1 cells slots ls (w1.sIa hq0 q1 (by omega) (by omega) hP hD ?_) hS w3 w4 (ok_pop (ok_pop (ok_pop w5))) w6 w7)
      rw [hv]; exact sI_row
    · rw [if_neg q]; exact V_none
theorem kd_ref {k : Nat} (h : 22 ≤ k ∧ k < 26) : k ∈ AK ∧ ∃ C, tyK k = .object C ∧ C = RN (coK k) ∧ coK k < 10 := by
  obtain ⟨h1, h2⟩ := h
  rcases (show k = 22 ∨ k = 23 ∨ k = 24 ∨ k = 25 by omega) with rfl | rfl | rfl | rfl <;> exact ⟨by decide, _, rfl, rfl, by decide⟩
theorem V_aald {K : CT} {cc : ByteArray} {own : String} {ret : Option FieldType} {hh : List (Nat × Nat × Nat × Nat)} {lvl md : Nat} (F : Fr K cc own ret hh lvl md) {pc : Nat} {L : List (Nat × MV)} {st : List MV} {h : MH} {r : Option Nat} {i : Int32} {res : Option Nat → Res} (d : decode cc pc = .ok (.aaload, 1)) (n : ∀ z, V K (pc + 1) L (vR z :: st) h (res z)) : V K pc L (vI i :: vR r :: st) h (rdR h r i res) := by
  cases r with
  | none => exact V_none
  | some a =>
    show V K pc L _ h (if (22 ≤ hk h a ∧ hk h a < 26) ∧ 0 ≤ i ∧ i.toNatClampNeg < hl h a then res (hr h a i.toNatClampNeg) else none)
    by_cases q : (22 ≤ hk h a ∧ hk h a < 26) ∧ 0 ≤ i ∧ i.toNatClampNeg < hl h a
    · rw [if_pos q]
      obtain ⟨q1, q2, q3⟩ := q
      intro r h' e9
      obtain ⟨a1, b1⟩ := n _ r h' e9
      refine ⟨a1, ?_⟩
      rcases K with ⟨md1, nL, nm, _ | ⟨p, l, e, R, s, m, args, below, meth, c, D, cy, base, ad0, n0, mc, ms⟩⟩
      · exact True.intro
      obtain ⟨hmd, hx, hb, hml, hown, hts, hlk, henv, hmc, hms, hstk, hret, htab, hlv1, hlv2, hnm⟩ := F
      intro ad H locs cells slots ls w1 w2 w3 w4 w5 w6 w7
      obtain ⟨q0, hq0, rfl⟩ := w1.low (k := hk h a) rfl (by omega)
      have he := wsO_at (cy := cy) (ad := ad) hq0
      rw [clO_ref rfl (by omega) (by omega)] at he
      obtain ⟨g1, C, g2, -⟩ := kd_ref q1
      obtain ⟨t0, ht0⟩ := TYL_at (cy := cy) g1
      rw [g2] at ht0
      exact va_aldq hx hb henv.1 w1.1 q0 t0 he ht0 (vpin q2 q3) d (b1 ad H locs cells slots ls w1 w2 w3 w4 (ok_psh (fun b eb => w1.2.2.2 _ _ b (vR_inj eb)) (ok_pop (ok_pop w5))) w6 w7)
    · rw [if_neg q]; exact V_none
theorem V_aast {K : CT} {cc : ByteArray} {own : String} {ret : Option FieldType} {hh : List (Nat × Nat × Nat × Nat)} {lvl md : Nat} (F : Fr K cc own ret hh lvl md) {pc : Nat} {L : List (Nat × MV)} {st : List MV} {h : MH} {r v : Option Nat} {i : Int32} {res : MH → Res} (d : decode cc pc = .ok (.aastore, 1)) (n : ∀ h', V K (pc + 1) L st h' (res h')) : V K pc L (vR v :: vI i :: vR r :: st) h (wrR h r i v res) := by
  cases r with
  | none => exact V_none
  | some a =>
    cases v with
    | none => exact V_none
    | some b =>
      show V K pc L _ h (if (22 ≤ hk h a ∧ hk h a < 26) ∧ 0 ≤ i ∧ i.toNatClampNeg < hl h a ∧ hk h b = coK (hk h a) ∧ coK (hk h a) < 9 then res (sR h a i.toNatClampNeg (some b)) else none)
      by_cases q : (22 ≤ hk h a ∧ hk h a < 26) ∧ 0 ≤ i ∧ i.toNatClampNeg < hl h a ∧ hk h b = coK (hk h a) ∧ coK (hk h a) < 9
      · rw [if_pos q]
        obtain ⟨q1, q2, q3, q4, g4⟩ := q
        intro r h' e9
        obtain ⟨a1, b1⟩ := n _ r h' e9
        refine ⟨a1, ?_⟩
        rcases K with ⟨md1, nL, nm, _ | ⟨p, l, e, R, s, m, args, below, meth, c, D, cy, base, ad0, n0, mc, ms⟩⟩
        · exact True.intro
        obtain ⟨hmd, hx, hb, hml, hown, hts, hlk, henv, hmc, hms, hstk, hret, htab, hlv1, hlv2, hnm⟩ := F
        intro ad H locs cells slots ls w1 w2 w3 w4 w5 w6 w7
        obtain ⟨q0, hq0, rfl⟩ := w1.low (k := hk h a) rfl (by omega)
        have he := wsO_at (cy := cy) (ad := ad) hq0
        rw [clO_ref rfl (by omega) (by omega)] at he
        obtain ⟨g1, C, g2, g3, -⟩ := kd_ref q1
        obtain ⟨t0, ht0⟩ := TYL_at (cy := cy) g1
        rw [g2, g3] at ht0
        obtain ⟨qb, hqb, rfl⟩ := w1.low q4 (by omega)
        have hev := wsO_at (cy := cy) (ad := ad) hqb
        rw [clO_obj q4 (by omega)] at hev
        exact va_astq hx hb henv.1 w1.1 w1.2.1 w2 q0 t0 qb (coK (hk h (q0 + 1))) (r := (RN (coK (hk h (q0 + 1))), TN (coK (hk h (q0 + 1))), nF (coK (hk h (q0 + 1))))) he ht0 hev (CL_at g4) (vpin q2 q3) d
          (fun H1 locs1 hP hD hS => b1 ad H1 locs1 cells slots ls (w1.sRa hq0 rfl (by omega) (by omega) (by omega) hP hD) hS w3 w4 (ok_pop (ok_pop (ok_pop w5))) w6 w7)
      · rw [if_neg q]; exact V_none
theorem V_alen {K : CT} {cc : ByteArray} {own : String} {ret : Option FieldType} {hh : List (Nat × Nat × Nat × Nat)} {lvl md : Nat} (F : Fr K cc own ret hh lvl md) {pc : Nat} {L : List (Nat × MV)} {st : List MV} {h : MH} {r : Option Nat} {res : Int32 → Res} (d : decode cc pc = .ok (.arraylength, 1)) (n : ∀ z, V K (pc + 1) L (vI z :: st) h (res z)) : V K pc L (vR r :: st) h (aln h r res) := by
  cases r with
  | none => exact V_none
  | some a =>
    show V K pc L _ h (if hk h a ∈ AK then res (Int32.ofNat (hl h a)) else none)
    by_cases q : hk h a ∈ AK
    · rw [if_pos q]
      have q40 := AK40 q
      intro r h' e9
      obtain ⟨a1, b1⟩ := n _ r h' e9
      refine ⟨a1, ?_⟩
      rcases K with ⟨md1, nL, nm, _ | ⟨p, l, e, R, s, m, args, below, meth, c, D, cy, base, ad0, n0, mc, ms⟩⟩
      · exact True.intro
      obtain ⟨hmd, hx, hb, hml, hown, hts, hlk, henv, hmc, hms, hstk, hret, htab, hlv1, hlv2, hnm⟩ := F
      intro ad H locs cells slots ls w1 w2 w3 w4 w5 w6 w7
      obtain ⟨q0, hq0, rfl⟩ := w1.low (k := hk h a) rfl (by omega)
      have he := wsO_at (cy := cy) (ad := ad) hq0
      obtain ⟨x9, g1, g2⟩ := clO_arr (cy := cy) (ad := ad) (h := h) (a := q0 + 1) rfl (by omega)
      rw [g1] at he
      obtain ⟨t0, ht0⟩ := TYL_at (cy := cy) q
      exact va_alen hx hb henv.1 w1.1 q0 t0 he ht0 (by rw [g2]) d (b1 ad H locs cells slots ls w1 w2 w3 w4 (ok_psh okv_I (ok_pop w5)) w6 w7)
    · rw [if_neg q]; exact V_none
