/-! steps without the heap -/
def dvI (x y : Int32) (k : Int32 → Res) : Res := if y = 0 then none else k (x / y)
def rmI (x y : Int32) (k : Int32 → Res) : Res := if y = 0 then none else k (x - x / y * y)
def dvL (x y : Int64) (k : Int64 → Res) : Res := if y = 0 then none else k (x / y)
def mxL (K : CT) : Nat := K.2.1
def nmK (K : CT) (n : String) : Prop := K.2.2.1 = n
theorem V_iadd {K : CT} {cc : ByteArray} {own : String} {ret : Option FieldType} {hh : List (Nat × Nat × Nat × Nat)} {lvl md : Nat} (F : Fr K cc own ret hh lvl md) {pc : Nat} {L : List (Nat × MV)} {st : List MV} {h : MH} {x y : Int32} {res : Int32 → Res} (d : decode cc pc = .ok (.iadd, 1)) (n : ∀ z, V K (pc + 1) L (vI z :: st) h (res z)) : V K pc L (vI y :: vI x :: st) h (bnd (x + y) res) := by
  refine V_step (fun n h1 h2 => ⟨ok_psh okv_I (ok_pop (ok_pop h1)), h2⟩) ?_ (n (x + y))
  rcases K with ⟨md1, nL, nm, _ | ⟨p, l, e, R, s, m, args, below, meth, c, D, cy, base, ad0, n0, mc, ms⟩⟩
  · exact True.intro
  obtain ⟨hmd, hx, hb, hml, hown, hts, hlk, henv, hmc, hms, hstk, hret, htab, hlv1, hlv2, hnm⟩ := F
  intro ad H locs cells slots ls Q hl kk
  exact lv_iadd hx hb d (kk ls hl)
theorem V_isub {K : CT} {cc : ByteArray} {own : String} {ret : Option FieldType} {hh : List (Nat × Nat × Nat × Nat)} {lvl md : Nat} (F : Fr K cc own ret hh lvl md) {pc : Nat} {L : List (Nat × MV)} {st : List MV} {h : MH} {x y : Int32} {res : Int32 → Res} (d : decode cc pc = .ok (.isub, 1)) (n : ∀ z, V K (pc + 1) L (vI z :: st) h (res z)) : V K pc L (vI y :: vI x :: st) h (bnd (x - y) res) := by
  refine V_step (fun n h1 h2 => ⟨ok_psh okv_I (ok_pop (ok_pop h1)), h2⟩) ?_ (n (x - y))
  rcases K with ⟨md1, nL, nm, _ | ⟨p, l, e, R, s, m, args, below, meth, c, D, cy, base, ad0, n0, mc, ms⟩⟩
  · exact True.intro
  obtain ⟨hmd, hx, hb, hml, hown, hts, hlk, henv, hmc, hms, hstk, hret, htab, hlv1, hlv2, hnm⟩ := F
  intro ad H locs cells slots ls Q hl kk
  exact lv_isub hx hb d (kk ls hl)
theorem V_imul {K : CT} {cc : ByteArray} {own : String} {ret : Option FieldType} {hh : List (Nat × Nat × Nat × Nat)} {lvl md : Nat} (F : Fr K cc own ret hh lvl md) {pc : Nat} {L : List (Nat × MV)} {st : List MV} {h : MH} {x y : Int32} {res : Int32 → Res} (d : decode cc pc = .ok (.imul, 1)) (n : ∀ z, V K (pc + 1) L (vI z :: st) h (res z)) : V K pc L (vI y :: vI x :: st) h (bnd (x * y) res) := by
  refine V_step (fun n h1 h2 => ⟨ok_psh okv_I (ok_pop (ok_pop h1)), h2⟩) ?_ (n (x * y))
  rcases K with ⟨md1, nL, nm, _ | ⟨p, l, e, R, s, m, args, below, meth, c, D, cy, base, ad0, n0, mc, ms⟩⟩
  · exact True.intro
  obtain ⟨hmd, hx, hb, hml, hown, hts, hlk, henv, hmc, hms, hstk, hret, htab, hlv1, hlv2, hnm⟩ := F
  intro ad H locs cells slots ls Q hl kk
  exact lv_imul hx hb d (kk ls hl)
theorem V_iand {K : CT} {cc : ByteArray} {own : String} {ret : Option FieldType} {hh : List (Nat × Nat × Nat × Nat)} {lvl md : Nat} (F : Fr K cc own ret hh lvl md) {pc : Nat} {L : List (Nat × MV)} {st : List MV} {h : MH} {x y : Int32} {res : Int32 → Res} (d : decode cc pc = .ok (.iand, 1)) (n : ∀ z, V K (pc + 1) L (vI z :: st) h (res z)) : V K pc L (vI y :: vI x :: st) h (bnd (x &&& y) res) := by
  refine V_step (fun n h1 h2 => ⟨ok_psh okv_I (ok_pop (ok_pop h1)), h2⟩) ?_ (n (x &&& y))
  rcases K with ⟨md1, nL, nm, _ | ⟨p, l, e, R, s, m, args, below, meth, c, D, cy, base, ad0, n0, mc, ms⟩⟩
  · exact True.intro
  obtain ⟨hmd, hx, hb, hml, hown, hts, hlk, henv, hmc, hms, hstk, hret, htab, hlv1, hlv2, hnm⟩ := F
  intro ad H locs cells slots ls Q hl kk
  exact lv_iand hx hb d (kk ls hl)
theorem V_ishr {K : CT} {cc : ByteArray} {own : String} {ret : Option FieldType} {hh : List (Nat × Nat × Nat × Nat)} {lvl md : Nat} (F : Fr K cc own ret hh lvl md) {pc : Nat} {L : List (Nat × MV)} {st : List MV} {h : MH} {x y : Int32} {res : Int32 → Res} (d : decode cc pc = .ok (.ishr, 1)) (n : ∀ z, V K (pc + 1) L (vI z :: st) h (res z)) : V K pc L (vI y :: vI x :: st) h (bnd (x >>> (y &&& 31)) res) := by
  refine V_step (fun n h1 h2 => ⟨ok_psh okv_I (ok_pop (ok_pop h1)), h2⟩) ?_ (n (x >>> (y &&& 31)))
  rcases K with ⟨md1, nL, nm, _ | ⟨p, l, e, R, s, m, args, below, meth, c, D, cy, base, ad0, n0, mc, ms⟩⟩
  · exact True.intro
  obtain ⟨hmd, hx, hb, hml, hown, hts, hlk, henv, hmc, hms, hstk, hret, htab, hlv1, hlv2, hnm⟩ := F
  intro ad H locs cells slots ls Q hl kk
  exact lv_ishr hx hb d (kk ls hl)
theorem V_ladd {K : CT} {cc : ByteArray} {own : String} {ret : Option FieldType} {hh : List (Nat × Nat × Nat × Nat)} {lvl md : Nat} (F : Fr K cc own ret hh lvl md) {pc : Nat} {L : List (Nat × MV)} {st : List MV} {h : MH} {x y : Int64} {res : Int64 → Res} (d : decode cc pc = .ok (.ladd, 1)) (n : ∀ z, V K (pc + 1) L (vL z :: st) h (res z)) : V K pc L (vL y :: vL x :: st) h (bnd (x + y) res) := by
  refine V_step (fun n h1 h2 => ⟨ok_psh okv_L (ok_pop (ok_pop h1)), h2⟩) ?_ (n (x + y))
  rcases K with ⟨md1, nL, nm, _ | ⟨p, l, e, R, s, m, args, below, meth, c, D, cy, base, ad0, n0, mc, ms⟩⟩
  · exact True.intro
  obtain ⟨hmd, hx, hb, hml, hown, hts, hlk, henv, hmc, hms, hstk, hret, htab, hlv1, hlv2, hnm⟩ := F
  intro ad H locs cells slots ls Q hl kk
  exact lv_ladd hx hb d (kk ls hl)
theorem V_lmul {K : CT} {cc : ByteArray} {own : String} {ret : Option FieldType} {hh : List (Nat × Nat × Nat × Nat)} {lvl md : Nat} (F : Fr K cc own ret hh lvl md) {pc : Nat} {L : List (Nat × MV)} {st : List MV} {h : MH} {x y : Int64} {res : Int64 → Res} (d : decode cc pc = .ok (.lmul, 1)) (n : ∀ z, V K (pc + 1) L (vL z :: st) h (res z)) : V K pc L (vL y :: vL x :: st) h (bnd (x * y) res) := by
  refine V_step (fun n h1 h2 => ⟨ok_psh okv_L (ok_pop (ok_pop h1)), h2⟩) ?_ (n (x * y))
  rcases K with ⟨md1, nL, nm, _ | ⟨p, l, e, R, s, m, args, below, meth, c, D, cy, base, ad0, n0, mc, ms⟩⟩
  · exact True.intro
  obtain ⟨hmd, hx, hb, hml, hown, hts, hlk, henv, hmc, hms, hstk, hret, htab, hlv1, hlv2, hnm⟩ := F
  intro ad H locs cells slots ls Q hl kk
  exact lv_lmul hx hb d (kk ls hl)
theorem V_idiv {K : CT} {cc : ByteArray} {own : String} {ret : Option FieldType} {hh : List (Nat × Nat × Nat × Nat)} {lvl md : Nat} (F : Fr K cc own ret hh lvl md) {pc : Nat} {L : List (Nat × MV)} {st : List MV} {h : MH} {x y : Int32} {res : Int32 → Res} (d : decode cc pc = .ok (.idiv, 1)) (n : ∀ z, V K (pc + 1) L (vI z :: st) h (res z)) : V K pc L (vI y :: vI x :: st) h (dvI x y res) := by
  unfold dvI
  by_cases h0 : y = 0
  · rw [if_pos h0]; exact V_none
  · rw [if_neg h0]
    refine V_step (fun n h1 h2 => ⟨ok_psh okv_I (ok_pop (ok_pop h1)), h2⟩) ?_ (n (x / y))
    rcases K with ⟨md1, nL, nm, _ | ⟨p, l, e, R, s, m, args, below, meth, c, D, cy, base, ad0, n0, mc, ms⟩⟩
    · exact True.intro
    obtain ⟨hmd, hx, hb, hml, hown, hts, hlk, henv, hmc, hms, hstk, hret, htab, hlv1, hlv2, hnm⟩ := F
    intro ad H locs cells slots ls Q hl kk
    exact lv_idiv hx hb d h0 (kk ls hl)
theorem V_irem {K : CT} {cc : ByteArray} {own : String} {ret : Option FieldType} {hh : List (Nat × Nat × Nat × Nat)} {lvl md : Nat} (F : Fr K cc own ret hh lvl md) {pc : Nat} {L : List (Nat × MV)} {st : List MV} {h : MH} {x y : Int32} {res : Int32 → Res} (d : decode cc pc = .ok (.irem, 1)) (n : ∀ z, V K (pc + 1) L (vI z :: st) h (res z)) : V K pc L (vI y :: vI x :: st) h (rmI x y res) := by
  unfold rmI
  by_cases h0 : y = 0
  · rw [if_pos h0]; exact V_none
  · rw [if_neg h0]
    refine V_step (fun n h1 h2 => ⟨ok_psh okv_I (ok_pop (ok_pop h1)), h2⟩) ?_ (n (x - x / y * y))
    rcases K with ⟨md1, nL, nm, _ | ⟨p, l, e, R, s, m, args, below, meth, c, D, cy, base, ad0, n0, mc, ms⟩⟩
    · exact True.intro
    obtain ⟨hmd, hx, hb, hml, hown, hts, hlk, henv, hmc, hms, hstk, hret, htab, hlv1, hlv2, hnm⟩ := F
    intro ad H locs cells slots ls Q hl kk
    exact lv_irem hx hb d h0 (kk ls hl)
theorem V_ldiv {K : CT} {cc : ByteArray} {own : String} {ret : Option FieldType} {hh : List (Nat × Nat × Nat × Nat)} {lvl md : Nat} (F : Fr K cc own ret hh lvl md) {pc : Nat} {L : List (Nat × MV)} {st : List MV} {h : MH} {x y : Int64} {res : Int64 → Res} (d : decode cc pc = .ok (.ldiv, 1)) (n : ∀ z, V K (pc + 1) L (vL z :: st) h (res z)) : V K pc L (vL y :: vL x :: st) h (dvL x y res) := by
  unfold dvL
  by_cases h0 : y = 0
  · rw [if_pos h0]; exact V_none
  · rw [if_neg h0]
    refine V_step (fun n h1 h2 => ⟨ok_psh okv_L (ok_pop (ok_pop h1)), h2⟩) ?_ (n (x / y))
    rcases K with ⟨md1, nL, nm, _ | ⟨p, l, e, R, s, m, args, below, meth, c, D, cy, base, ad0, n0, mc, ms⟩⟩
    · exact True.intro
    obtain ⟨hmd, hx, hb, hml, hown, hts, hlk, henv, hmc, hms, hstk, hret, htab, hlv1, hlv2, hnm⟩ := F
    intro ad H locs cells slots ls Q hl kk
    exact lv_ldiv hx hb d h0 (kk ls hl)
theorem V_ineg {K : CT} {cc : ByteArray} {own : String} {ret : Option FieldType} {hh : List (Nat × Nat × Nat × Nat)} {lvl md : Nat} (F : Fr K cc own ret hh lvl md) {pc : Nat} {L : List (Nat × MV)} {st : List MV} {h : MH} {x : Int32} {res : Int32 → Res} (d : decode cc pc = .ok (.ineg, 1)) (n : ∀ z, V K (pc + 1) L (vI z :: st) h (res z)) : V K pc L (vI x :: st) h (bnd (-x) res) := by
  refine V_step (fun n h1 h2 => ⟨ok_psh okv_I (ok_pop h1), h2⟩) ?_ (n (-x))
  rcases K with ⟨md1, nL, nm, _ | ⟨p, l, e, R, s, m, args, below, meth, c, D, cy, base, ad0, n0, mc, ms⟩⟩
  · exact True.intro
  obtain ⟨hmd, hx, hb, hml, hown, hts, hlk, henv, hmc, hms, hstk, hret, htab, hlv1, hlv2, hnm⟩ := F
  intro ad H locs cells slots ls Q hl kk
  exact lv_ineg hx hb d (kk ls hl)
theorem V_i2l {K : CT} {cc : ByteArray} {own : String} {ret : Option FieldType} {hh : List (Nat × Nat × Nat × Nat)} {lvl md : Nat} (F : Fr K cc own ret hh lvl md) {pc : Nat} {L : List (Nat × MV)} {st : List MV} {h : MH} {x : Int32} {res : Int64 → Res} (d : decode cc pc = .ok (.i2l, 1)) (n : ∀ z, V K (pc + 1) L (vL z :: st) h (res z)) : V K pc L (vI x :: st) h (bnd x.toInt64 res) := by
  refine V_step (fun n h1 h2 => ⟨ok_psh okv_L (ok_pop h1), h2⟩) ?_ (n x.toInt64)
  rcases K with ⟨md1, nL, nm, _ | ⟨p, l, e, R, s, m, args, below, meth, c, D, cy, base, ad0, n0, mc, ms⟩⟩
  · exact True.intro
  obtain ⟨hmd, hx, hb, hml, hown, hts, hlk, henv, hmc, hms, hstk, hret, htab, hlv1, hlv2, hnm⟩ := F
  intro ad H locs cells slots ls Q hl kk
  exact lv_i2l hx hb d rfl (kk ls hl)
theorem V_l2i {K : CT} {cc : ByteArray} {own : String} {ret : Option FieldType} {hh : List (Nat × Nat × Nat × Nat)} {lvl md : Nat} (F : Fr K cc own ret hh lvl md) {pc : Nat} {L : List (Nat × MV)} {st : List MV} {h : MH} {x : Int64} {res : Int32 → Res} (d : decode cc pc = .ok (.l2i, 1)) (n : ∀ z, V K (pc + 1) L (vI z :: st) h (res z)) : V K pc L (vL x :: st) h (bnd x.toInt32 res) := by
  refine V_step (fun n h1 h2 => ⟨ok_psh okv_I (ok_pop h1), h2⟩) ?_ (n x.toInt32)
  rcases K with ⟨md1, nL, nm, _ | ⟨p, l, e, R, s, m, args, below, meth, c, D, cy, base, ad0, n0, mc, ms⟩⟩
  · exact True.intro
  obtain ⟨hmd, hx, hb, hml, hown, hts, hlk, henv, hmc, hms, hstk, hret, htab, hlv1, hlv2, hnm⟩ := F
  intro ad H locs cells slots ls Q hl kk
  exact lv_l2i hx hb d rfl (kk ls hl)
theorem V_lcmp {K : CT} {cc : ByteArray} {own : String} {ret : Option FieldType} {hh : List (Nat × Nat × Nat × Nat)} {lvl md : Nat} (F : Fr K cc own ret hh lvl md) {pc : Nat} {L : List (Nat × MV)} {st : List MV} {h : MH} {x y : Int64} {res : Int32 → Res} (d : decode cc pc = .ok (.lcmp, 1)) (n : ∀ z, V K (pc + 1) L (vI z :: st) h (res z)) : V K pc L (vL y :: vL x :: st) h (bnd (lg_cmp x y) res) := by
  refine V_step (fun n h1 h2 => ⟨ok_psh okv_I (ok_pop (ok_pop h1)), h2⟩) ?_ (n (lg_cmp x y))
  rcases K with ⟨md1, nL, nm, _ | ⟨p, l, e, R, s, m, args, below, meth, c, D, cy, base, ad0, n0, mc, ms⟩⟩
  · exact True.intro
  obtain ⟨hmd, hx, hb, hml, hown, hts, hlk, henv, hmc, hms, hstk, hret, htab, hlv1, hlv2, hnm⟩ := F
  intro ad H locs cells slots ls Q hl kk
  exact W.lcmp hx hb d (kk ls hl)
theorem V_iconst {K : CT} {cc : ByteArray} {own : String} {ret : Option FieldType} {hh : List (Nat × Nat × Nat × Nat)} {lvl md : Nat} (F : Fr K cc own ret hh lvl md) {pc : Nat} {L : List (Nat × MV)} {st : List MV} {h : MH} {res : Res} {n : Int} {x : Int32} (d : decode cc pc = .ok (.iconst n, 1)) (hv : Int32.ofInt n = x) (k : V K (pc + 1) L (vI x :: st) h res) : V K pc L st h res := by
  refine V_step (fun n h1 h2 => ⟨ok_psh okv_I h1, h2⟩) ?_ k
  rcases K with ⟨md1, nL, nm, _ | ⟨p, l, e, R, s, m, args, below, meth, c, D, cy, base, ad0, n0, mc, ms⟩⟩
  · exact True.intro
  obtain ⟨hmd, hx, hb, hml, hown, hts, hlk, henv, hmc, hms, hstk, hret, htab, hlv1, hlv2, hnm⟩ := F
  intro ad H locs cells slots ls Q hl kk
  exact lv_iconst hx hb d hv (kk ls hl)
theorem V_bipush {K : CT} {cc : ByteArray} {own : String} {ret : Option FieldType} {hh : List (Nat × Nat × Nat × Nat)} {lvl md : Nat} (F : Fr K cc own ret hh lvl md) {pc : Nat} {L : List (Nat × MV)} {st : List MV} {h : MH} {res : Res} {n : Int} {x : Int32} (d : decode cc pc = .ok (.bipush n, 2)) (hv : (Int8.ofInt n).toInt32 = x) (k : V K (pc + 2) L (vI x :: st) h res) : V K pc L st h res := by
  refine V_step (fun n h1 h2 => ⟨ok_psh okv_I h1, h2⟩) ?_ k
  rcases K with ⟨md1, nL, nm, _ | ⟨p, l, e, R, s, m, args, below, meth, c, D, cy, base, ad0, n0, mc, ms⟩⟩
  · exact True.intro
  obtain ⟨hmd, hx, hb, hml, hown, hts, hlk, henv, hmc, hms, hstk, hret, htab, hlv1, hlv2, hnm⟩ := F
  intro ad H locs cells slots ls Q hl kk
  exact lv_bipush hx hb d hv (kk ls hl)
theorem V_sipush {K : CT} {cc : ByteArray} {own : String} {ret : Option FieldType} {hh : List (Nat × Nat × Nat × Nat)} {lvl md : Nat} (F : Fr K cc own ret hh lvl md) {pc : Nat} {L : List (Nat × MV)} {st : List MV} {h : MH} {res : Res} {n : Int} {x : Int32} (d : decode cc pc = .ok (.sipush n, 3)) (hv : (Int16.ofInt n).toInt32 = x) (k : V K (pc + 3) L (vI x :: st) h res) : V K pc L st h res := by
  refine V_step (fun n h1 h2 => ⟨ok_psh okv_I h1, h2⟩) ?_ k
  rcases K with ⟨md1, nL, nm, _ | ⟨p, l, e, R, s, m, args, below, meth, c, D, cy, base, ad0, n0, mc, ms⟩⟩
  · exact True.intro
  obtain ⟨hmd, hx, hb, hml, hown, hts, hlk, henv, hmc, hms, hstk, hret, htab, hlv1, hlv2, hnm⟩ := F
  intro ad H locs cells slots ls Q hl kk
  exact lv_sipush hx hb d hv (kk ls hl)
theorem V_ldc {K : CT} {cc : ByteArray} {own : String} {ret : Option FieldType} {hh : List (Nat × Nat × Nat × Nat)} {lvl md : Nat} (F : Fr K cc own ret hh lvl md) {pc : Nat} {L : List (Nat × MV)} {st : List MV} {h : MH} {res : Res} {i : Nat} {x : Int32} (hc : Cond.constant own i x ∈ GW) (d : decode cc pc = .ok (.ldc i, 2)) (k : V K (pc + 2) L (vI x :: st) h res) : V K pc L st h res := by
  refine V_step (fun n h1 h2 => ⟨ok_psh okv_I h1, h2⟩) ?_ k
  rcases K with ⟨md1, nL, nm, _ | ⟨p, l, e, R, s, m, args, below, meth, c, D, cy, base, ad0, n0, mc, ms⟩⟩
  · exact True.intro
  obtain ⟨hmd, hx, hb, hml, hown, hts, hlk, henv, hmc, hms, hstk, hret, htab, hlv1, hlv2, hnm⟩ := F
  intro ad H locs cells slots ls Q hl kk
  exact lv_ldc hx hb hown (hts _ hc) d (kk ls hl)
theorem V_ldcw {K : CT} {cc : ByteArray} {own : String} {ret : Option FieldType} {hh : List (Nat × Nat × Nat × Nat)} {lvl md : Nat} (F : Fr K cc own ret hh lvl md) {pc : Nat} {L : List (Nat × MV)} {st : List MV} {h : MH} {res : Res} {i : Nat} {x : Int32} (hc : Cond.constant own i x ∈ GW) (d : decode cc pc = .ok (.ldc_w i, 3)) (k : V K (pc + 3) L (vI x :: st) h res) : V K pc L st h res := by
  refine V_step (fun n h1 h2 => ⟨ok_psh okv_I h1, h2⟩) ?_ k
  rcases K with ⟨md1, nL, nm, _ | ⟨p, l, e, R, s, m, args, below, meth, c, D, cy, base, ad0, n0, mc, ms⟩⟩
  · exact True.intro
  obtain ⟨hmd, hx, hb, hml, hown, hts, hlk, henv, hmc, hms, hstk, hret, htab, hlv1, hlv2, hnm⟩ := F
  intro ad H locs cells slots ls Q hl kk
  exact lv_ldcw hx hb hown (hts _ hc) d (kk ls hl)
theorem V_lconst {K : CT} {cc : ByteArray} {own : String} {ret : Option FieldType} {hh : List (Nat × Nat × Nat × Nat)} {lvl md : Nat} (F : Fr K cc own ret hh lvl md) {pc : Nat} {L : List (Nat × MV)} {st : List MV} {h : MH} {res : Res} {n : Fin 2} {x : Int64} (d : decode cc pc = .ok (.lconst n, 1)) (hv : Int64.ofNat (n : Nat) = x) (k : V K (pc + 1) L (vL x :: st) h res) : V K pc L st h res := by
  refine V_step (fun n h1 h2 => ⟨ok_psh okv_L h1, h2⟩) ?_ k
  rcases K with ⟨md1, nL, nm, _ | ⟨p, l, e, R, s, m, args, below, meth, c, D, cy, base, ad0, n0, mc, ms⟩⟩
  · exact True.intro
  obtain ⟨hmd, hx, hb, hml, hown, hts, hlk, henv, hmc, hms, hstk, hret, htab, hlv1, hlv2, hnm⟩ := F
  intro ad H locs cells slots ls Q hl kk
  exact lv_lconst hx hb d hv (kk ls hl)
theorem V_null {K : CT} {cc : ByteArray} {own : String} {ret : Option FieldType} {hh : List (Nat × Nat × Nat × Nat)} {lvl md : Nat} (F : Fr K cc own ret hh lvl md) {pc : Nat} {L : List (Nat × MV)} {st : List MV} {h : MH} {res : Res} (d : decode cc pc = .ok (.aconst_null, 1)) (k : V K (pc + 1) L (vR none :: st) h res) : V K pc L st h res := by
  refine V_step (fun n h1 h2 => ⟨ok_psh okv_N h1, h2⟩) ?_ k
  rcases K with ⟨md1, nL, nm, _ | ⟨p, l, e, R, s, m, args, below, meth, c, D, cy, base, ad0, n0, mc, ms⟩⟩
  · exact True.intro
  obtain ⟨hmd, hx, hb, hml, hown, hts, hlk, henv, hmc, hms, hstk, hret, htab, hlv1, hlv2, hnm⟩ := F
  intro ad H locs cells slots ls Q hl kk
  exact lv_null hx hb d (kk ls hl)
theorem V_iload {K : CT} {cc : ByteArray} {own : String} {ret : Option FieldType} {hh : List (Nat × Nat × Nat × Nat)} {lvl md : Nat} (F : Fr K cc own ret hh lvl md) {pc : Nat} {L : List (Nat × MV)} {st : List MV} {h : MH} {res : Res} {i : Nat} {x : Int32} (d : decode cc pc = .ok (.iload i, 2)) (j : Nat) (hj : L[j]? = some (i, vI x)) (k : V K (pc + 2) L (vI x :: st) h res) : V K pc L st h res := by
  refine V_step (fun n h1 h2 => ⟨ok_psh (okl_at h2 hj) h1, h2⟩) ?_ k
  rcases K with ⟨md1, nL, nm, _ | ⟨p, l, e, R, s, m, args, below, meth, c, D, cy, base, ad0, n0, mc, ms⟩⟩
  · exact True.intro
  obtain ⟨hmd, hx, hb, hml, hown, hts, hlk, henv, hmc, hms, hstk, hret, htab, hlv1, hlv2, hnm⟩ := F
  intro ad H locs cells slots ls Q hl kk
  exact lv_iload hx hb d (lvm_at hl hj) (kk ls hl)
theorem V_lload {K : CT} {cc : ByteArray} {own : String} {ret : Option FieldType} {hh : List (Nat × Nat × Nat × Nat)} {lvl md : Nat} (F : Fr K cc own ret hh lvl md) {pc : Nat} {L : List (Nat × MV)} {st : List MV} {h : MH} {res : Res} {i : Nat} {x : Int64} (d : decode cc pc = .ok (.lload i, 2)) (j : Nat) (hj : L[j]? = some (i, vL x)) (k : V K (pc + 2) L (vL x :: st) h res) : V K pc L st h res := by
  refine V_step (fun n h1 h2 => ⟨ok_psh (okl_at h2 hj) h1, h2⟩) ?_ k
  rcases K with ⟨md1, nL, nm, _ | ⟨p, l, e, R, s, m, args, below, meth, c, D, cy, base, ad0, n0, mc, ms⟩⟩
  · exact True.intro
  obtain ⟨hmd, hx, hb, hml, hown, hts, hlk, henv, hmc, hms, hstk, hret, htab, hlv1, hlv2, hnm⟩ := F
  intro ad H locs cells slots ls Q hl kk
  exact lv_lload hx hb d (lvm_at hl hj) (kk ls hl)
theorem V_iload_n {K : CT} {cc : ByteArray} {own : String} {ret : Option FieldType} {hh : List (Nat × Nat × Nat × Nat)} {lvl md : Nat} (F : Fr K cc own ret hh lvl md) {pc : Nat} {L : List (Nat × MV)} {st : List MV} {h : MH} {res : Res} {i : Fin 4} {x : Int32} (d : decode cc pc = .ok (.iload_n i, 1)) (j : Nat) (hj : L[j]? = some ((i : Nat), vI x)) (k : V K (pc + 1) L (vI x :: st) h res) : V K pc L st h res := by
  refine V_step (fun n h1 h2 => ⟨ok_psh (okl_at h2 hj) h1, h2⟩) ?_ k
  rcases K with ⟨md1, nL, nm, _ | ⟨p, l, e, R, s, m, args, below, meth, c, D, cy, base, ad0, n0, mc, ms⟩⟩
  · exact True.intro
  obtain ⟨hmd, hx, hb, hml, hown, hts, hlk, henv, hmc, hms, hstk, hret, htab, hlv1, hlv2, hnm⟩ := F
  intro ad H locs cells slots ls Q hl kk
  exact lv_iload_n hx hb d rfl (lvm_at hl hj) (kk ls hl)
theorem V_aload {K : CT} {cc : ByteArray} {own : String} {ret : Option FieldType} {hh : List (Nat × Nat × Nat × Nat)} {lvl md : Nat} (F : Fr K cc own ret hh lvl md) {pc : Nat} {L : List (Nat × MV)} {st : List MV} {h : MH} {res : Res} {i : Nat} {x : Option Nat} (d : decode cc pc = .ok (.aload i, 2)) (j : Nat) (hj : L[j]? = some (i, vR x)) (k : V K (pc + 2) L (vR x :: st) h res) : V K pc L st h res := by
  refine V_step (fun n h1 h2 => ⟨ok_psh (okl_at h2 hj) h1, h2⟩) ?_ k
  rcases K with ⟨md1, nL, nm, _ | ⟨p, l, e, R, s, m, args, below, meth, c, D, cy, base, ad0, n0, mc, ms⟩⟩
  · exact True.intro
  obtain ⟨hmd, hx, hb, hml, hown, hts, hlk, henv, hmc, hms, hstk, hret, htab, hlv1, hlv2, hnm⟩ := F
  intro ad H locs cells slots ls Q hl kk
  cases x with
  | none => exact lv_aloadN hx hb d (lvm_at hl hj) (kk ls hl)
  | some a => exact lv_aload hx hb d (lvm_at hl hj) (kk ls hl)
theorem V_aload_n {K : CT} {cc : ByteArray} {own : String} {ret : Option FieldType} {hh : List (Nat × Nat × Nat × Nat)} {lvl md : Nat} (F : Fr K cc own ret hh lvl md) {pc : Nat} {L : List (Nat × MV)} {st : List MV} {h : MH} {res : Res} {i : Fin 4} {x : Option Nat} (d : decode cc pc = .ok (.aload_n i, 1)) (j : Nat) (hj : L[j]? = some ((i : Nat), vR x)) (k : V K (pc + 1) L (vR x :: st) h res) : V K pc L st h res := by
  refine V_step (fun n h1 h2 => ⟨ok_psh (okl_at h2 hj) h1, h2⟩) ?_ k
  rcases K with ⟨md1, nL, nm, _ | ⟨p, l, e, R, s, m, args, below, meth, c, D, cy, base, ad0, n0, mc, ms⟩⟩
  · exact True.intro
  obtain ⟨hmd, hx, hb, hml, hown, hts, hlk, henv, hmc, hms, hstk, hret, htab, hlv1, hlv2, hnm⟩ := F
  intro ad H locs cells slots ls Q hl kk
  cases x with
  | none => exact lv_aload_nN hx hb d rfl (lvm_at hl hj) (kk ls hl)
  | some a => exact lv_aload_n hx hb d rfl (lvm_at hl hj) (kk ls hl)
theorem V_istore {K : CT} {cc : ByteArray} {own : String} {ret : Option FieldType} {hh : List (Nat × Nat × Nat × Nat)} {lvl md : Nat} (F : Fr K cc own ret hh lvl md) {pc : Nat} {L : List (Nat × MV)} {st : List MV} {h : MH} {res : Res} {i : Nat} {x : Int32} (L' : List (Nat × MV)) (d : decode cc pc = .ok (.istore i, 2)) (hn : i < mxL K) (hL : lst i (vI x) L = L') (k : V K (pc + 2) L' st h res) : V K pc L (vI x :: st) h res := by
  subst hL
  refine V_step (fun n h1 h2 => ⟨ok_pop h1, lst_ok (ok_hd h1) h2⟩) ?_ k
  rcases K with ⟨md1, nL, nm, _ | ⟨p, l, e, R, s, m, args, below, meth, c, D, cy, base, ad0, n0, mc, ms⟩⟩
  · exact True.intro
  obtain ⟨hmd, hx, hb, hml, hown, hts, hlk, henv, hmc, hms, hstk, hret, htab, hlv1, hlv2, hnm⟩ := F
  intro ad H locs cells slots ls Q hl kk
  exact lv_istore hx hb d hl hn (lst_map (ad := ad) (v := vI x)) kk
theorem V_istore_n {K : CT} {cc : ByteArray} {own : String} {ret : Option FieldType} {hh : List (Nat × Nat × Nat × Nat)} {lvl md : Nat} (F : Fr K cc own ret hh lvl md) {pc : Nat} {L : List (Nat × MV)} {st : List MV} {h : MH} {res : Res} {i : Fin 4} {x : Int32} (L' : List (Nat × MV)) (d : decode cc pc = .ok (.istore_n i, 1)) (hn : (i : Nat) < mxL K) (hL : lst i (vI x) L = L') (k : V K (pc + 1) L' st h res) : V K pc L (vI x :: st) h res := by
  subst hL
  refine V_step (fun n h1 h2 => ⟨ok_pop h1, lst_ok (ok_hd h1) h2⟩) ?_ k
  rcases K with ⟨md1, nL, nm, _ | ⟨p, l, e, R, s, m, args, below, meth, c, D, cy, base, ad0, n0, mc, ms⟩⟩
  · exact True.intro
  obtain ⟨hmd, hx, hb, hml, hown, hts, hlk, henv, hmc, hms, hstk, hret, htab, hlv1, hlv2, hnm⟩ := F
  intro ad H locs cells slots ls Q hl kk
  exact lv_istore_n hx hb d rfl hl hn (lst_map (ad := ad) (v := vI x)) kk
theorem V_lstore {K : CT} {cc : ByteArray} {own : String} {ret : Option FieldType} {hh : List (Nat × Nat × Nat × Nat)} {lvl md : Nat} (F : Fr K cc own ret hh lvl md) {pc : Nat} {L : List (Nat × MV)} {st : List MV} {h : MH} {res : Res} {i : Nat} {x : Int64} (L' : List (Nat × MV)) (d : decode cc pc = .ok (.lstore i, 2)) (hn : i + 1 < mxL K) (hL : lst2 i (vL x) L = L') (k : V K (pc + 2) L' st h res) : V K pc L (vL x :: st) h res := by
  subst hL
  refine V_step (fun n h1 h2 => ⟨ok_pop h1, lst2_ok (ok_hd h1) h2⟩) ?_ k
  rcases K with ⟨md1, nL, nm, _ | ⟨p, l, e, R, s, m, args, below, meth, c, D, cy, base, ad0, n0, mc, ms⟩⟩
  · exact True.intro
  obtain ⟨hmd, hx, hb, hml, hown, hts, hlk, henv, hmc, hms, hstk, hret, htab, hlv1, hlv2, hnm⟩ := F
  intro ad H locs cells slots ls Q hl kk
  exact lv_lstore hx hb d hl hn (lst2_map (ad := ad) (v := vL x)) kk
theorem V_astore {K : CT} {cc : ByteArray} {own : String} {ret : Option FieldType} {hh : List (Nat × Nat × Nat × Nat)} {lvl md : Nat} (F : Fr K cc own ret hh lvl md) {pc : Nat} {L : List (Nat × MV)} {st : List MV} {h : MH} {res : Res} {i : Nat} {x : Option Nat} (L' : List (Nat × MV)) (d : decode cc pc = .ok (.astore i, 2)) (hn : i < mxL K) (hL : lst i (vR x) L = L') (k : V K (pc + 2) L' st h res) : V K pc L (vR x :: st) h res := by
  subst hL
  refine V_step (fun n h1 h2 => ⟨ok_pop h1, lst_ok (ok_hd h1) h2⟩) ?_ k
  rcases K with ⟨md1, nL, nm, _ | ⟨p, l, e, R, s, m, args, below, meth, c, D, cy, base, ad0, n0, mc, ms⟩⟩
  · exact True.intro
  obtain ⟨hmd, hx, hb, hml, hown, hts, hlk, henv, hmc, hms, hstk, hret, htab, hlv1, hlv2, hnm⟩ := F
  intro ad H locs cells slots ls Q hl kk
  cases x with
  | none => exact lv_astoreN hx hb d hl hn (lst_map (ad := ad) (v := vR none)) kk
  | some a => exact lv_astore hx hb d hl hn (lst_map (ad := ad) (v := vR (some a))) kk
theorem V_astore_n {K : CT} {cc : ByteArray} {own : String} {ret : Option FieldType} {hh : List (Nat × Nat × Nat × Nat)} {lvl md : Nat} (F : Fr K cc own ret hh lvl md) {pc : Nat} {L : List (Nat × MV)} {st : List MV} {h : MH} {res : Res} {i : Fin 4} {x : Option Nat} (L' : List (Nat × MV)) (d : decode cc pc = .ok (.astore_n i, 1)) (hn : (i : Nat) < mxL K) (hL : lst i (vR x) L = L') (k : V K (pc + 1) L' st h res) : V K pc L (vR x :: st) h res := by
  subst hL
  refine V_step (fun n h1 h2 => ⟨ok_pop h1, lst_ok (ok_hd h1) h2⟩) ?_ k
  rcases K with ⟨md1, nL, nm, _ | ⟨p, l, e, R, s, m, args, below, meth, c, D, cy, base, ad0, n0, mc, ms⟩⟩
  · exact True.intro
  obtain ⟨hmd, hx, hb, hml, hown, hts, hlk, henv, hmc, hms, hstk, hret, htab, hlv1, hlv2, hnm⟩ := F
  intro ad H locs cells slots ls Q hl kk
  cases x with
  | none => exact lv_astore_nN hx hb d rfl hl hn (lst_map (ad := ad) (v := vR none)) kk
  | some a => exact lv_astore_n hx hb d rfl hl hn (lst_map (ad := ad) (v := vR (some a))) kk
theorem V_iinc {K : CT} {cc : ByteArray} {own : String} {ret : Option FieldType} {hh : List (Nat × Nat × Nat × Nat)} {lvl md : Nat} (F : Fr K cc own ret hh lvl md) {pc : Nat} {L : List (Nat × MV)} {st : List MV} {h : MH} {i : Nat} {n : Int} {x : Int32} {res : Int32 → Res} (L' : Int32 → List (Nat × MV)) (d : decode cc pc = .ok (.iinc i n, 3)) (hn : i < mxL K) (j : Nat) (hj : L[j]? = some (i, vI x)) {dx : Int32} (hd : Int32.ofInt n = dx) (hL : ∀ z, lst i (vI z) L = L' z) (k : ∀ z, V K (pc + 3) (L' z) st h (res z)) : V K pc L st h (bnd (x + dx) res) := by
  subst hd
  refine V_step (L' := lst i (vI (x + Int32.ofInt n)) L) (fun n h1 h2 => ⟨h1, lst_ok okv_I h2⟩) ?_ (by rw [hL]; exact k _)
  rcases K with ⟨md1, nL, nm, _ | ⟨p, l, e, R, s, m, args, below, meth, c, D, cy, base, ad0, n0, mc, ms⟩⟩
  · exact True.intro
  obtain ⟨hmd, hx, hb, hml, hown, hts, hlk, henv, hmc, hms, hstk, hret, htab, hlv1, hlv2, hnm⟩ := F
  intro ad H locs cells slots ls Q hl kk
  exact lv_iinc hx hb d hl (k := j) (by rw [List.getElem?_map, hj]; rfl) rfl hn (lst_map (ad := ad) (v := vI (x + Int32.ofInt n))) kk
theorem V_dup {K : CT} {cc : ByteArray} {own : String} {ret : Option FieldType} {hh : List (Nat × Nat × Nat × Nat)} {lvl md : Nat} (F : Fr K cc own ret hh lvl md) {pc : Nat} {L : List (Nat × MV)} {st : List MV} {h : MH} {res : Res} {v : MV} (d : decode cc pc = .ok (.dup, 1)) (hv : mcat v = 1) (k : V K (pc + 1) L (v :: v :: st) h res) : V K pc L (v :: st) h res := by
  refine V_step (fun n h1 h2 => ⟨ok_psh (ok_hd h1) h1, h2⟩) ?_ k
  rcases K with ⟨md1, nL, nm, _ | ⟨p, l, e, R, s, m, args, below, meth, c, D, cy, base, ad0, n0, mc, ms⟩⟩
  · exact True.intro
  obtain ⟨hmd, hx, hb, hml, hown, hts, hlk, henv, hmc, hms, hstk, hret, htab, hlv1, hlv2, hnm⟩ := F
  intro ad H locs cells slots ls Q hl kk
  exact lv_dup hx hb d (by rw [mcat_cv]; exact hv) (kk ls hl)
theorem V_dup2 {K : CT} {cc : ByteArray} {own : String} {ret : Option FieldType} {hh : List (Nat × Nat × Nat × Nat)} {lvl md : Nat} (F : Fr K cc own ret hh lvl md) {pc : Nat} {L : List (Nat × MV)} {st : List MV} {h : MH} {res : Res} {v w : MV} (d : decode cc pc = .ok (.dup2, 1)) (hv : mcat v = 1) (hw : mcat w = 1) (k : V K (pc + 1) L (v :: w :: v :: w :: st) h res) : V K pc L (v :: w :: st) h res := by
  refine V_step (fun n h1 h2 => ⟨ok_psh (ok_hd h1) (ok_psh (ok_hd (ok_pop h1)) h1), h2⟩) ?_ k
  rcases K with ⟨md1, nL, nm, _ | ⟨p, l, e, R, s, m, args, below, meth, c, D, cy, base, ad0, n0, mc, ms⟩⟩
  · exact True.intro
  obtain ⟨hmd, hx, hb, hml, hown, hts, hlk, henv, hmc, hms, hstk, hret, htab, hlv1, hlv2, hnm⟩ := F
  intro ad H locs cells slots ls Q hl kk
  exact lv_dup2_11 hx hb d (by rw [mcat_cv]; exact hv) (by rw [mcat_cv]; exact hw) (kk ls hl)
theorem V_goto {K : CT} {cc : ByteArray} {own : String} {ret : Option FieldType} {hh : List (Nat × Nat × Nat × Nat)} {lvl md : Nat} (F : Fr K cc own ret hh lvl md) {pc : Nat} {L : List (Nat × MV)} {st : List MV} {h : MH} {res : Res} {off : Int} (tgt : Nat) (d : decode cc pc = .ok (.goto off, 3)) (ht : (pc : Int) + off = (tgt : Int)) (k : V K tgt L st h res) : V K pc L st h res := by
  refine V_step (fun n h1 h2 => ⟨h1, h2⟩) ?_ k
  rcases K with ⟨md1, nL, nm, _ | ⟨p, l, e, R, s, m, args, below, meth, c, D, cy, base, ad0, n0, mc, ms⟩⟩
  · exact True.intro
  obtain ⟨hmd, hx, hb, hml, hown, hts, hlk, henv, hmc, hms, hstk, hret, htab, hlv1, hlv2, hnm⟩ := F
  intro ad H locs cells slots ls Q hl kk
  exact lv_goto hx hb d ht (kk ls hl)
theorem V_if_eq {K : CT} {cc : ByteArray} {own : String} {ret : Option FieldType} {hh : List (Nat × Nat × Nat × Nat)} {lvl md : Nat} (F : Fr K cc own ret hh lvl md) {pc : Nat} {L : List (Nat × MV)} {st : List MV} {h : MH} {A B : Res} {x : Int32} {off : Int} (tgt : Nat) (d : decode cc pc = .ok (.ifCond .eq off, 3)) (ht : (pc : Int) + off = (tgt : Int)) (kt : V K tgt L st h A) (kf : V K (pc + 3) L st h B) : V K pc L (vI x :: st) h (if x = 0 then A else B) := by
  by_cases q : x = 0
  · rw [if_pos q]
    refine V_step (fun n h1 h2 => ⟨ok_pop h1, h2⟩) ?_ kt
    rcases K with ⟨md1, nL, nm, _ | ⟨p, l, e, R, s, m, args, below, meth, c, D, cy, base, ad0, n0, mc, ms⟩⟩
    · exact True.intro
    obtain ⟨hmd, hx, hb, hml, hown, hts, hlk, henv, hmc, hms, hstk, hret, htab, hlv1, hlv2, hnm⟩ := F
    intro ad H locs cells slots ls Q hl kk
    exact lv_if_eq hx hb d ht (fun _ => kk ls hl) (fun z => absurd q z)
  · rw [if_neg q]
    refine V_step (fun n h1 h2 => ⟨ok_pop h1, h2⟩) ?_ kf
    rcases K with ⟨md1, nL, nm, _ | ⟨p, l, e, R, s, m, args, below, meth, c, D, cy, base, ad0, n0, mc, ms⟩⟩
    · exact True.intro
    obtain ⟨hmd, hx, hb, hml, hown, hts, hlk, henv, hmc, hms, hstk, hret, htab, hlv1, hlv2, hnm⟩ := F
    intro ad H locs cells slots ls Q hl kk
    exact lv_if_eq hx hb d ht (fun z => absurd z q) (fun _ => kk ls hl)
theorem V_if_ne {K : CT} {cc : ByteArray} {own : String} {ret : Option FieldType} {hh : List (Nat × Nat × Nat × Nat)} {lvl md : Nat} (F : Fr K cc own ret hh lvl md) {pc : Nat} {L : List (Nat × MV)} {st : List MV} {h : MH} {A B : Res} {x : Int32} {off : Int} (tgt : Nat) (d : decode cc pc = .ok (.ifCond .ne off, 3)) (ht : (pc : Int) + off = (tgt : Int)) (kt : V K tgt L st h A) (kf : V K (pc + 3) L st h B) : V K pc L (vI x :: st) h (if x ≠ 0 then A else B) := by
  by_cases q : x ≠ 0
  · rw [if_pos q]
    refine V_step (fun n h1 h2 => ⟨ok_pop h1, h2⟩) ?_ kt
    rcases K with ⟨md1, nL, nm, _ | ⟨p, l, e, R, s, m, args, below, meth, c, D, cy, base, ad0, n0, mc, ms⟩⟩
    · exact True.intro
    obtain ⟨hmd, hx, hb, hml, hown, hts, hlk, henv, hmc, hms, hstk, hret, htab, hlv1, hlv2, hnm⟩ := F
    intro ad H locs cells slots ls Q hl kk
    exact lv_if_ne hx hb d ht (fun _ => kk ls hl) (fun z => absurd z q)
  · rw [if_neg q]
    refine V_step (fun n h1 h2 => ⟨ok_pop h1, h2⟩) ?_ kf
    rcases K with ⟨md1, nL, nm, _ | ⟨p, l, e, R, s, m, args, below, meth, c, D, cy, base, ad0, n0, mc, ms⟩⟩
    · exact True.intro
    obtain ⟨hmd, hx, hb, hml, hown, hts, hlk, henv, hmc, hms, hstk, hret, htab, hlv1, hlv2, hnm⟩ := F
    intro ad H locs cells slots ls Q hl kk
    exact lv_if_ne hx hb d ht (fun z => absurd z q) (fun _ => kk ls hl)
theorem V_if_lt {K : CT} {cc : ByteArray} {own : String} {ret : Option FieldType} {hh : List (Nat × Nat × Nat × Nat)} {lvl md : Nat} (F : Fr K cc own ret hh lvl md) {pc : Nat} {L : List (Nat × MV)} {st : List MV} {h : MH} {A B : Res} {x : Int32} {off : Int} (tgt : Nat) (d : decode cc pc = .ok (.ifCond .lt off, 3)) (ht : (pc : Int) + off = (tgt : Int)) (kt : V K tgt L st h A) (kf : V K (pc + 3) L st h B) : V K pc L (vI x :: st) h (if x < 0 then A else B) := by
  by_cases q : x < 0
  · rw [if_pos q]
    refine V_step (fun n h1 h2 => ⟨ok_pop h1, h2⟩) ?_ kt
    rcases K with ⟨md1, nL, nm, _ | ⟨p, l, e, R, s, m, args, below, meth, c, D, cy, base, ad0, n0, mc, ms⟩⟩
    · exact True.intro
    obtain ⟨hmd, hx, hb, hml, hown, hts, hlk, henv, hmc, hms, hstk, hret, htab, hlv1, hlv2, hnm⟩ := F
    intro ad H locs cells slots ls Q hl kk
    exact lv_if_lt hx hb d ht (fun _ => kk ls hl) (fun z => absurd q z)
  · rw [if_neg q]
    refine V_step (fun n h1 h2 => ⟨ok_pop h1, h2⟩) ?_ kf
    rcases K with ⟨md1, nL, nm, _ | ⟨p, l, e, R, s, m, args, below, meth, c, D, cy, base, ad0, n0, mc, ms⟩⟩
    · exact True.intro
    obtain ⟨hmd, hx, hb, hml, hown, hts, hlk, henv, hmc, hms, hstk, hret, htab, hlv1, hlv2, hnm⟩ := F
    intro ad H locs cells slots ls Q hl kk
    exact lv_if_lt hx hb d ht (fun z => absurd z q) (fun _ => kk ls hl)
theorem V_if_ge {K : CT} {cc : ByteArray} {own : String} {ret : Option FieldType} {hh : List (Nat × Nat × Nat × Nat)} {lvl md : Nat} (F : Fr K cc own ret hh lvl md) {pc : Nat} {L : List (Nat × MV)} {st : List MV} {h : MH} {A B : Res} {x : Int32} {off : Int} (tgt : Nat) (d : decode cc pc = .ok (.ifCond .ge off, 3)) (ht : (pc : Int) + off = (tgt : Int)) (kt : V K tgt L st h A) (kf : V K (pc + 3) L st h B) : V K pc L (vI x :: st) h (if 0 ≤ x then A else B) := by
  by_cases q : 0 ≤ x
  · rw [if_pos q]
    refine V_step (fun n h1 h2 => ⟨ok_pop h1, h2⟩) ?_ kt
    rcases K with ⟨md1, nL, nm, _ | ⟨p, l, e, R, s, m, args, below, meth, c, D, cy, base, ad0, n0, mc, ms⟩⟩
    · exact True.intro
    obtain ⟨hmd, hx, hb, hml, hown, hts, hlk, henv, hmc, hms, hstk, hret, htab, hlv1, hlv2, hnm⟩ := F
    intro ad H locs cells slots ls Q hl kk
    exact lv_if_ge hx hb d ht (fun _ => kk ls hl) (fun z => absurd q z)
  · rw [if_neg q]
    refine V_step (fun n h1 h2 => ⟨ok_pop h1, h2⟩) ?_ kf
    rcases K with ⟨md1, nL, nm, _ | ⟨p, l, e, R, s, m, args, below, meth, c, D, cy, base, ad0, n0, mc, ms⟩⟩
    · exact True.intro
    obtain ⟨hmd, hx, hb, hml, hown, hts, hlk, henv, hmc, hms, hstk, hret, htab, hlv1, hlv2, hnm⟩ := F
    intro ad H locs cells slots ls Q hl kk
    exact lv_if_ge hx hb d ht (fun z => absurd z q) (fun _ => kk ls hl)
theorem V_if_gt {K : CT} {cc : ByteArray} {own : String} {ret : Option FieldType} {hh : List (Nat × Nat × Nat × Nat)} {lvl md : Nat} (F : Fr K cc own ret hh lvl md) {pc : Nat} {L : List (Nat × MV)} {st : List MV} {h : MH} {A B : Res} {x : Int32} {off : Int} (tgt : Nat) (d : decode cc pc = .ok (.ifCond .gt off, 3)) (ht : (pc : Int) + off = (tgt : Int)) (kt : V K tgt L st h A) (kf : V K (pc + 3) L st h B) : V K pc L (vI x :: st) h (if 0 < x then A else B) := by
  by_cases q : 0 < x
  · rw [if_pos q]
    refine V_step (fun n h1 h2 => ⟨ok_pop h1, h2⟩) ?_ kt
    rcases K with ⟨md1, nL, nm, _ | ⟨p, l, e, R, s, m, args, below, meth, c, D, cy, base, ad0, n0, mc, ms⟩⟩
    · exact True.intro
    obtain ⟨hmd, hx, hb, hml, hown, hts, hlk, henv, hmc, hms, hstk, hret, htab, hlv1, hlv2, hnm⟩ := F
    intro ad H locs cells slots ls Q hl kk
    exact lv_if_gt hx hb d ht (fun _ => kk ls hl) (fun z => absurd q z)
  · rw [if_neg q]
    refine V_step (fun n h1 h2 => ⟨ok_pop h1, h2⟩) ?_ kf
    rcases K with ⟨md1, nL, nm, _ | ⟨p, l, e, R, s, m, args, below, meth, c, D, cy, base, ad0, n0, mc, ms⟩⟩
    · exact True.intro
    obtain ⟨hmd, hx, hb, hml, hown, hts, hlk, henv, hmc, hms, hstk, hret, htab, hlv1, hlv2, hnm⟩ := F
    intro ad H locs cells slots ls Q hl kk
    exact lv_if_gt hx hb d ht (fun z => absurd z q) (fun _ => kk ls hl)
theorem V_if_le {K : CT} {cc : ByteArray} {own : String} {ret : Option FieldType} {hh : List (Nat × Nat × Nat × Nat)} {lvl md : Nat} (F : Fr K cc own ret hh lvl md) {pc : Nat} {L : List (Nat × MV)} {st : List MV} {h : MH} {A B : Res} {x : Int32} {off : Int} (tgt : Nat) (d : decode cc pc = .ok (.ifCond .le off, 3)) (ht : (pc : Int) + off = (tgt : Int)) (kt : V K tgt L st h A) (kf : V K (pc + 3) L st h B) : V K pc L (vI x :: st) h (if x ≤ 0 then A else B) := by
  by_cases q : x ≤ 0
  · rw [if_pos q]
    refine V_step (fun n h1 h2 => ⟨ok_pop h1, h2⟩) ?_ kt
    rcases K with ⟨md1, nL, nm, _ | ⟨p, l, e, R, s, m, args, below, meth, c, D, cy, base, ad0, n0, mc, ms⟩⟩
    · exact True.intro
    obtain ⟨hmd, hx, hb, hml, hown, hts, hlk, henv, hmc, hms, hstk, hret, htab, hlv1, hlv2, hnm⟩ := F
    intro ad H locs cells slots ls Q hl kk
    exact lv_if_le hx hb d ht (fun _ => kk ls hl) (fun z => absurd q z)
  · rw [if_neg q]
    refine V_step (fun n h1 h2 => ⟨ok_pop h1, h2⟩) ?_ kf
    rcases K with ⟨md1, nL, nm, _ | ⟨p, l, e, R, s, m, args, below, meth, c, D, cy, base, ad0, n0, mc, ms⟩⟩
    · exact True.intro
    obtain ⟨hmd, hx, hb, hml, hown, hts, hlk, henv, hmc, hms, hstk, hret, htab, hlv1, hlv2, hnm⟩ := F
    intro ad H locs cells slots ls Q hl kk
    exact lv_if_le hx hb d ht (fun z => absurd z q) (fun _ => kk ls hl)
theorem V_icmp_eq {K : CT} {cc : ByteArray} {own : String} {ret : Option FieldType} {hh : List (Nat × Nat × Nat × Nat)} {lvl md : Nat} (F : Fr K cc own ret hh lvl md) {pc : Nat} {L : List (Nat × MV)} {st : List MV} {h : MH} {A B : Res} {x y : Int32} {off : Int} (tgt : Nat) (d : decode cc pc = .ok (.if_icmp .eq off, 3)) (ht : (pc : Int) + off = (tgt : Int)) (kt : V K tgt L st h A) (kf : V K (pc + 3) L st h B) : V K pc L (vI y :: vI x :: st) h (if x = y then A else B) := by
  by_cases q : x = y
  · rw [if_pos q]
    refine V_step (fun n h1 h2 => ⟨ok_pop (ok_pop h1), h2⟩) ?_ kt
    rcases K with ⟨md1, nL, nm, _ | ⟨p, l, e, R, s, m, args, below, meth, c, D, cy, base, ad0, n0, mc, ms⟩⟩
    · exact True.intro
    obtain ⟨hmd, hx, hb, hml, hown, hts, hlk, henv, hmc, hms, hstk, hret, htab, hlv1, hlv2, hnm⟩ := F
    intro ad H locs cells slots ls Q hl kk
    exact lv_icmp_eq hx hb d ht (fun _ => kk ls hl) (fun z => absurd q z)
  · rw [if_neg q]
    refine V_step (fun n h1 h2 => ⟨ok_pop (ok_pop h1), h2⟩) ?_ kf
    rcases K with ⟨md1, nL, nm, _ | ⟨p, l, e, R, s, m, args, below, meth, c, D, cy, base, ad0, n0, mc, ms⟩⟩
    · exact True.intro
    obtain ⟨hmd, hx, hb, hml, hown, hts, hlk, henv, hmc, hms, hstk, hret, htab, hlv1, hlv2, hnm⟩ := F
    intro ad H locs cells slots ls Q hl kk
    exact lv_icmp_eq hx hb d ht (fun z => absurd z q) (fun _ => kk ls hl)
theorem V_icmp_ne {K : CT} {cc : ByteArray} {own : String} {ret : Option FieldType} {hh : List (Nat × Nat × Nat × Nat)} {lvl md : Nat} (F : Fr K cc own ret hh lvl md) {pc : Nat} {L : List (Nat × MV)} {st : List MV} {h : MH} {A B : Res} {x y : Int32} {off : Int} (tgt : Nat) (d : decode cc pc = .ok (.if_icmp .ne off, 3)) (ht : (pc : Int) + off = (tgt : Int)) (kt : V K tgt L st h A) (kf : V K (pc + 3) L st h B) : V K pc L (vI y :: vI x :: st) h (if x ≠ y then A else B) := by
  by_cases q : x ≠ y
  · rw [if_pos q]
    refine V_step (fun n h1 h2 => ⟨ok_pop (ok_pop h1), h2⟩) ?_ kt
    rcases K with ⟨md1, nL, nm, _ | ⟨p, l, e, R, s, m, args, below, meth, c, D, cy, base, ad0, n0, mc, ms⟩⟩
    · exact True.intro
    obtain ⟨hmd, hx, hb, hml, hown, hts, hlk, henv, hmc, hms, hstk, hret, htab, hlv1, hlv2, hnm⟩ := F
    intro ad H locs cells slots ls Q hl kk
    exact lv_icmp_ne hx hb d ht (fun _ => kk ls hl) (fun z => absurd z q)
  · rw [if_neg q]
    refine V_step (fun n h1 h2 => ⟨ok_pop (ok_pop h1), h2⟩) ?_ kf
    rcases K with ⟨md1, nL, nm, _ | ⟨p, l, e, R, s, m, args, below, meth, c, D, cy, base, ad0, n0, mc, ms⟩⟩
    · exact True.intro
    obtain ⟨hmd, hx, hb, hml, hown, hts, hlk, henv, hmc, hms, hstk, hret, htab, hlv1, hlv2, hnm⟩ := F
    intro ad H locs cells slots ls Q hl kk
    exact lv_icmp_ne hx hb d ht (fun z => absurd z q) (fun _ => kk ls hl)
theorem V_icmp_lt {K : CT} {cc : ByteArray} {own : String} {ret : Option FieldType} {hh : List (Nat × Nat × Nat × Nat)} {lvl md : Nat} (F : Fr K cc own ret hh lvl md) {pc : Nat} {L : List (Nat × MV)} {st : List MV} {h : MH} {A B : Res} {x y : Int32} {off : Int} (tgt : Nat) (d : decode cc pc = .ok (.if_icmp .lt off, 3)) (ht : (pc : Int) + off = (tgt : Int)) (kt : V K tgt L st h A) (kf : V K (pc + 3) L st h B) : V K pc L (vI y :: vI x :: st) h (if x < y then A else B) := by
  by_cases q : x < y
  · rw [if_pos q]
    refine V_step (fun n h1 h2 => ⟨ok_pop (ok_pop h1), h2⟩) ?_ kt
    rcases K with ⟨md1, nL, nm, _ | ⟨p, l, e, R, s, m, args, below, meth, c, D, cy, base, ad0, n0, mc, ms⟩⟩
    · exact True.intro
    obtain ⟨hmd, hx, hb, hml, hown, hts, hlk, henv, hmc, hms, hstk, hret, htab, hlv1, hlv2, hnm⟩ := F
    intro ad H locs cells slots ls Q hl kk
    exact lv_icmp_lt hx hb d ht (fun _ => kk ls hl) (fun z => absurd q z)
  · rw [if_neg q]
    refine V_step (fun n h1 h2 => ⟨ok_pop (ok_pop h1), h2⟩) ?_ kf
    rcases K with ⟨md1, nL, nm, _ | ⟨p, l, e, R, s, m, args, below, meth, c, D, cy, base, ad0, n0, mc, ms⟩⟩
    · exact True.intro
    obtain ⟨hmd, hx, hb, hml, hown, hts, hlk, henv, hmc, hms, hstk, hret, htab, hlv1, hlv2, hnm⟩ := F
    intro ad H locs cells slots ls Q hl kk
    exact lv_icmp_lt hx hb d ht (fun z => absurd z q) (fun _ => kk ls hl)
theorem V_icmp_ge {K : CT} {cc : ByteArray} {own : String} {ret : Option FieldType} {hh : List (Nat × Nat × Nat × Nat)} {lvl md : Nat} (F : Fr K cc own ret hh lvl md) {pc : Nat} {L : List (Nat × MV)} {st : List MV} {h : MH} {A B : Res} {x y : Int32} {off : Int} (tgt : Nat) (d : decode cc pc = .ok (.if_icmp .ge off, 3)) (ht : (pc : Int) + off = (tgt : Int)) (kt : V K tgt L st h A) (kf : V K (pc + 3) L st h B) : V K pc L (vI y :: vI x :: st) h (if y ≤ x then A else B) := by
  by_cases q : y ≤ x
  · rw [if_pos q]
    refine V_step (fun n h1 h2 => ⟨ok_pop (ok_pop h1), h2⟩) ?_ kt
    rcases K with ⟨md1, nL, nm, _ | ⟨p, l, e, R, s, m, args, below, meth, c, D, cy, base, ad0, n0, mc, ms⟩⟩
    · exact True.intro
    obtain ⟨hmd, hx, hb, hml, hown, hts, hlk, henv, hmc, hms, hstk, hret, htab, hlv1, hlv2, hnm⟩ := F
    intro ad H locs cells slots ls Q hl kk
    exact lv_icmp_ge hx hb d ht (fun _ => kk ls hl) (fun z => absurd q z)
  · rw [if_neg q]
    refine V_step (fun n h1 h2 => ⟨ok_pop (ok_pop h1), h2⟩) ?_ kf
    rcases K with ⟨md1, nL, nm, _ | ⟨p, l, e, R, s, m, args, below, meth, c, D, cy, base, ad0, n0, mc, ms⟩⟩
    · exact True.intro
    obtain ⟨hmd, hx, hb, hml, hown, hts, hlk, henv, hmc, hms, hstk, hret, htab, hlv1, hlv2, hnm⟩ := F
    intro ad H locs cells slots ls Q hl kk
    exact lv_icmp_ge hx hb d ht (fun z => absurd z q) (fun _ => kk ls hl)
theorem V_icmp_gt {K : CT} {cc : ByteArray} {own : String} {ret : Option FieldType} {hh : List (Nat × Nat × Nat × Nat)} {lvl md : Nat} (F : Fr K cc own ret hh lvl md) {pc : Nat} {L : List (Nat × MV)} {st : List MV} {h : MH} {A B : Res} {x y : Int32} {off : Int} (tgt : Nat) (d : decode cc pc = .ok (.if_icmp .gt off, 3)) (ht : (pc : Int) + off = (tgt : Int)) (kt : V K tgt L st h A) (kf : V K (pc + 3) L st h B) : V K pc L (vI y :: vI x :: st) h (if y < x then A else B) := by
  by_cases q : y < x
  · rw [if_pos q]
    refine V_step (fun n h1 h2 => ⟨ok_pop (ok_pop h1), h2⟩) ?_ kt
    rcases K with ⟨md1, nL, nm, _ | ⟨p, l, e, R, s, m, args, below, meth, c, D, cy, base, ad0, n0, mc, ms⟩⟩
    · exact True.intro
    obtain ⟨hmd, hx, hb, hml, hown, hts, hlk, henv, hmc, hms, hstk, hret, htab, hlv1, hlv2, hnm⟩ := F
    intro ad H locs cells slots ls Q hl kk
    exact lv_icmp_gt hx hb d ht (fun _ => kk ls hl) (fun z => absurd q z)
  · rw [if_neg q]
    refine V_step (fun n h1 h2 => ⟨ok_pop (ok_pop h1), h2⟩) ?_ kf
    rcases K with ⟨md1, nL, nm, _ | ⟨p, l, e, R, s, m, args, below, meth, c, D, cy, base, ad0, n0, mc, ms⟩⟩
    · exact True.intro
    obtain ⟨hmd, hx, hb, hml, hown, hts, hlk, henv, hmc, hms, hstk, hret, htab, hlv1, hlv2, hnm⟩ := F
    intro ad H locs cells slots ls Q hl kk
    exact lv_icmp_gt hx hb d ht (fun z => absurd z q) (fun _ => kk ls hl)
theorem V_icmp_le {K : CT} {cc : ByteArray} {own : String} {ret : Option FieldType} {hh : List (Nat × Nat × Nat × Nat)} {lvl md : Nat} (F : Fr K cc own ret hh lvl md) {pc : Nat} {L : List (Nat × MV)} {st : List MV} {h : MH} {A B : Res} {x y : Int32} {off : Int} (tgt : Nat) (d : decode cc pc = .ok (.if_icmp .le off, 3)) (ht : (pc : Int) + off = (tgt : Int)) (kt : V K tgt L st h A) (kf : V K (pc + 3) L st h B) : V K pc L (vI y :: vI x :: st) h (if x ≤ y then A else B) := by
  by_cases q : x ≤ y
  · rw [if_pos q]
    refine V_step (fun n h1 h2 => ⟨ok_pop (ok_pop h1), h2⟩) ?_ kt
    rcases K with ⟨md1, nL, nm, _ | ⟨p, l, e, R, s, m, args, below, meth, c, D, cy, base, ad0, n0, mc, ms⟩⟩
    · exact True.intro
    obtain ⟨hmd, hx, hb, hml, hown, hts, hlk, henv, hmc, hms, hstk, hret, htab, hlv1, hlv2, hnm⟩ := F
    intro ad H locs cells slots ls Q hl kk
    exact lv_icmp_le hx hb d ht (fun _ => kk ls hl) (fun z => absurd q z)
  · rw [if_neg q]
    refine V_step (fun n h1 h2 => ⟨ok_pop (ok_pop h1), h2⟩) ?_ kf
    rcases K with ⟨md1, nL, nm, _ | ⟨p, l, e, R, s, m, args, below, meth, c, D, cy, base, ad0, n0, mc, ms⟩⟩
    · exact True.intro
    obtain ⟨hmd, hx, hb, hml, hown, hts, hlk, henv, hmc, hms, hstk, hret, htab, hlv1, hlv2, hnm⟩ := F
    intro ad H locs cells slots ls Q hl kk
    exact lv_icmp_le hx hb d ht (fun z => absurd z q) (fun _ => kk ls hl)
theorem V_ifnull {K : CT} {cc : ByteArray} {own : String} {ret : Option FieldType} {hh : List (Nat × Nat × Nat × Nat)} {lvl md : Nat} (F : Fr K cc own ret hh lvl md) {pc : Nat} {L : List (Nat × MV)} {st : List MV} {h : MH} {A B : Res} {x : Option Nat} {off : Int} (tgt : Nat) (d : decode cc pc = .ok (.ifnull off, 3)) (ht : (pc : Int) + off = (tgt : Int)) (kt : V K tgt L st h A) (kf : V K (pc + 3) L st h B) : V K pc L (vR x :: st) h (if x = none then A else B) := by
  cases x with
  | none =>
    rw [if_pos rfl]
    refine V_step (fun n h1 h2 => ⟨ok_pop h1, h2⟩) ?_ kt
    rcases K with ⟨md1, nL, nm, _ | ⟨p, l, e, R, s, m, args, below, meth, c, D, cy, base, ad0, n0, mc, ms⟩⟩
    · exact True.intro
    obtain ⟨hmd, hx, hb, hml, hown, hts, hlk, henv, hmc, hms, hstk, hret, htab, hlv1, hlv2, hnm⟩ := F
    intro ad H locs cells slots ls Q hl kk
    exact lv_ifnullN hx hb d ht (kk ls hl)
  | some a =>
    rw [if_neg (fun z => by cases z)]
    refine V_step (fun n h1 h2 => ⟨ok_pop h1, h2⟩) ?_ kf
    rcases K with ⟨md1, nL, nm, _ | ⟨p, l, e, R, s, m, args, below, meth, c, D, cy, base, ad0, n0, mc, ms⟩⟩
    · exact True.intro
    obtain ⟨hmd, hx, hb, hml, hown, hts, hlk, henv, hmc, hms, hstk, hret, htab, hlv1, hlv2, hnm⟩ := F
    intro ad H locs cells slots ls Q hl kk
    exact lv_ifnull hx hb d (kk ls hl)
theorem V_ifnonnull {K : CT} {cc : ByteArray} {own : String} {ret : Option FieldType} {hh : List (Nat × Nat × Nat × Nat)} {lvl md : Nat} (F : Fr K cc own ret hh lvl md) {pc : Nat} {L : List (Nat × MV)} {st : List MV} {h : MH} {A B : Res} {x : Option Nat} {off : Int} (tgt : Nat) (d : decode cc pc = .ok (.ifnonnull off, 3)) (ht : (pc : Int) + off = (tgt : Int)) (kt : V K tgt L st h A) (kf : V K (pc + 3) L st h B) : V K pc L (vR x :: st) h (if x ≠ none then A else B) := by
  cases x with
  | none =>
    rw [if_neg (fun z => z rfl)]
    refine V_step (fun n h1 h2 => ⟨ok_pop h1, h2⟩) ?_ kf
    rcases K with ⟨md1, nL, nm, _ | ⟨p, l, e, R, s, m, args, below, meth, c, D, cy, base, ad0, n0, mc, ms⟩⟩
    · exact True.intro
    obtain ⟨hmd, hx, hb, hml, hown, hts, hlk, henv, hmc, hms, hstk, hret, htab, hlv1, hlv2, hnm⟩ := F
    intro ad H locs cells slots ls Q hl kk
    exact lv_ifnonnullN hx hb d (kk ls hl)
  | some a =>
    rw [if_pos (fun z => by cases z)]
    refine V_step (fun n h1 h2 => ⟨ok_pop h1, h2⟩) ?_ kt
    rcases K with ⟨md1, nL, nm, _ | ⟨p, l, e, R, s, m, args, below, meth, c, D, cy, base, ad0, n0, mc, ms⟩⟩
    · exact True.intro
    obtain ⟨hmd, hx, hb, hml, hown, hts, hlk, henv, hmc, hms, hstk, hret, htab, hlv1, hlv2, hnm⟩ := F
    intro ad H locs cells slots ls Q hl kk
    exact lv_ifnonnull hx hb d ht (kk ls hl)
