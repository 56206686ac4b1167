/-! throws, handlers, switches, entry -/
def XNm : List String := ["java/lang/RuntimeException", "java/lang/Exception"]
theorem fitN (x : Nat) : Bundle.fit (exN x) = true := by
  unfold exN
  split <;> decide
theorem Wld.exc {D : va_G} {cy : Nat → ClassId} {base : Nat} {ad : Nat → Nat} {h : MH} {H H1 : Heap} (w : Wld D cy base ad h H) (hq : ∀ q : Nat, q < H.size → H1[q]? = H[q]?) : Wld D cy base ad (exc h) H1 :=
  ⟨w.1.kept (fun k q hk => hq _ (w.1 k q hk).lt), w.2.1, w.2.2.1, w.2.2.2⟩
theorem vxF {base : Nat} {s t : State} {H : Heap} {locs : List Loc} (hS : va_S (bA base) s.heap H locs) (h1 : H.size ≤ t.heap.size) (h2 : ∀ q : Nat, q < H.size → t.heap[q]? = H[q]?) : va_F (bA base) s t :=
  ⟨Nat.le_trans hS.1 h1, fun q q1 q2 => (h2 q (Nat.lt_of_lt_of_le q1 hS.1)).trans (hS.2.1 q q1 q2)⟩
theorem V_thr {K : CT} {cc : ByteArray} {own : String} {ret : Option FieldType} {lvl : Nat} (F : Fr K cc own ret [] lvl 1) {pc : Nat} {L : List (Nat × MV)} {h : MH} (x : Nat) {ik is ic : Nat} {tx : String} (hl6 : 6 ≤ lvl)
    (hk : Cond.classLink own ik (exN x) ∈ GW) (hini : Cond.initialized (exN x) ∈ GW) (hstr : (own, is, tx) ∈ SRL) (hat : ∀ w ∈ (vx_atS own ic (exN x) XNm).filter goodWord, w ∈ lw_tbl)
    (hbad : ∀ w ∈ (vx_atS own ic (exN x) XNm).filter (fun w => !goodWord w), w ∈ Cond.castable (exN x) (exN x) :: NDL.map Cond.declares) (hgd : ∀ w ∈ Cond.classLink own ik (exN x) :: Cond.initialized (exN x) :: vx_atS own ic (exN x) XNm, vx_ot w = true)
    (d0 : decode cc pc = .ok (.new ik, 3)) (d3 : decode cc (pc + 3) = .ok (.dup, 1)) (d4 : decode cc (pc + 4) = .ok (.ldc is, 2)) (d6 : decode cc (pc + 6) = .ok (.invokespecial ic, 3)) (d9 : decode cc (pc + 9) = .ok (.athrow, 1)) : V K pc L [] h (some (.inr x, exc h)) := by
  have hm1 : K.1 = 1 := F.1
  intro r h' e9
  cases e9
  refine ⟨⟨⟨Nat.le_refl _, Nat.le_succ _, Nat.le_add_right _ _⟩, fun q => by omega⟩, ?_⟩
  rcases K with ⟨md1, nL, nm, _ | ⟨p, l, e, R, s, m, args, below, meth, c, D, cy, base, ad0, n0, mc, ms⟩⟩
  · exact True.intro
  obtain ⟨hmd, hx, hb, hml, hown, hts, hlk, henv, hmc, hms, hstk, hret, htab, hlv1, hlv2, hnm⟩ := F
  have hm2 : md1 = 1 := hm1
  subst hm2
  intro ad H locs cells slots ls w1 w2 w3 w4 w5 w6 w7
  obtain ⟨v1, v2⟩ := w7
  have y2 : cells + (hc h + 1 - hc h) ≤ mc := v1
  have y3 : slots + (hs h + 6 - hs h) ≤ ms := v2
  obtain ⟨sa, hsa⟩ := henv.2.2.2.2.2.1 _ hstr
  have ht0 : c.exceptionTable.toList = [] := htab rfl
  refine vx_throwS (names := XNm) hx hb hstk hown (fitN x) (by decide) (hts _ hk) (hts _ hini) hsa (vx_hat (fun w hw => hts w (GW_of (hat w hw) (List.mem_filter.mp hw).2)) hbad (vx_c (va_Nw.use rfl (henv.2.2.1.1 x)) (fun w hw => by obtain ⟨y, hy, rfl⟩ := List.mem_map.mp hw; exact va_Nw.use rfl (henv.2.2.1.2 y hy)))) hgd henv.2.2.2.2.2.2.1 henv.2.2.2.2.2.2.2.1 w2 (w4.1.trans hml.symm) d0 d3 d4 d6 d9
    (fun z hz => by rw [ht0] at hz; cases hz) (by show 2 + 3 < R.frames; omega) (by show 0 + (13 * (2 + 1) + 43) ≤ R.locals; omega) (by omega) (by omega) hlk (fun t hA h1 h2 => ⟨x, rfl, rfl, ⟨ad, w3.1, w1.exc h2⟩, vxF w2 h1 h2⟩) w2.2.2 (by omega) (by omega)
theorem V_thrW {K : CT} {cc : ByteArray} {own : String} {ret : Option FieldType} {lvl : Nat} (F : Fr K cc own ret [] lvl 1) {pc : Nat} {L : List (Nat × MV)} {h : MH} (x : Nat) {ik is ic : Nat} {tx : String} (hl6 : 6 ≤ lvl)
    (hk : Cond.classLink own ik (exN x) ∈ GW) (hini : Cond.initialized (exN x) ∈ GW) (hstr : (own, is, tx) ∈ SRL) (hat : ∀ w ∈ (vx_atS own ic (exN x) XNm).filter goodWord, w ∈ lw_tbl)
    (hbad : ∀ w ∈ (vx_atS own ic (exN x) XNm).filter (fun w => !goodWord w), w ∈ Cond.castable (exN x) (exN x) :: NDL.map Cond.declares) (hgd : ∀ w ∈ Cond.classLink own ik (exN x) :: Cond.initialized (exN x) :: vx_atS own ic (exN x) XNm, vx_ot w = true)
    (d0 : decode cc pc = .ok (.new ik, 3)) (d3 : decode cc (pc + 3) = .ok (.dup, 1)) (d4 : decode cc (pc + 4) = .ok (.ldc_w is, 3)) (d7 : decode cc (pc + 7) = .ok (.invokespecial ic, 3)) (d10 : decode cc (pc + 10) = .ok (.athrow, 1)) : V K pc L [] h (some (.inr x, exc h)) := by
  have hm1 : K.1 = 1 := F.1
  intro r h' e9
  cases e9
  refine ⟨⟨⟨Nat.le_refl _, Nat.le_succ _, Nat.le_add_right _ _⟩, fun q => by omega⟩, ?_⟩
  rcases K with ⟨md1, nL, nm, _ | ⟨p, l, e, R, s, m, args, below, meth, c, D, cy, base, ad0, n0, mc, ms⟩⟩
  · exact True.intro
  obtain ⟨hmd, hx, hb, hml, hown, hts, hlk, henv, hmc, hms, hstk, hret, htab, hlv1, hlv2, hnm⟩ := F
  have hm2 : md1 = 1 := hm1
  subst hm2
  intro ad H locs cells slots ls w1 w2 w3 w4 w5 w6 w7
  obtain ⟨v1, v2⟩ := w7
  have y2 : cells + (hc h + 1 - hc h) ≤ mc := v1
  have y3 : slots + (hs h + 6 - hs h) ≤ ms := v2
  obtain ⟨sa, hsa⟩ := henv.2.2.2.2.2.1 _ hstr
  have ht0 : c.exceptionTable.toList = [] := htab rfl
  refine vx_throwSW (names := XNm) hx hb hstk hown (fitN x) (by decide) (hts _ hk) (hts _ hini) hsa (vx_hat (fun w hw => hts w (GW_of (hat w hw) (List.mem_filter.mp hw).2)) hbad (vx_c (va_Nw.use rfl (henv.2.2.1.1 x)) (fun w hw => by obtain ⟨y, hy, rfl⟩ := List.mem_map.mp hw; exact va_Nw.use rfl (henv.2.2.1.2 y hy)))) hgd henv.2.2.2.2.2.2.1 henv.2.2.2.2.2.2.2.1 w2 (w4.1.trans hml.symm) d0 d3 d4 d7 d10
    (fun z hz => by rw [ht0] at hz; cases hz) (by show 2 + 3 < R.frames; omega) (by show 0 + (13 * (2 + 1) + 43) ≤ R.locals; omega) (by omega) (by omega) hlk (fun t hA h1 h2 => ⟨x, rfl, rfl, ⟨ad, w3.1, w1.exc h2⟩, vxF w2 h1 h2⟩) w2.2.2 (by omega) (by omega)
/-- caught, and put aside -/
theorem VX_catch {K : CT} {cc : ByteArray} {own : String} {ret : Option FieldType} {hh : List (Nat × Nat × Nat × Nat)} {lvl : Nat} (F : Fr K cc own ret hh lvl 1) {pc : Nat} {L L' : List (Nat × MV)} {rest : List MV} {h : MH} {x : Nat} {res : Res} (pre : List ExceptionTableEntry) (z : ExceptionTableEntry) (suf : List ExceptionTableEntry) (hsp : tableOf hh = pre ++ z :: suf)
    (hpass : ∀ w ∈ pre, covers w pc = false ∨ (w.catchType ≠ 0 ∧ ∃ nm : String, Cond.classLink own w.catchType nm ∈ GW ∧ (exN x, nm) ∈ NCL)) (hx9 : covers z pc = true) (h0 : z.catchType ≠ 0) (hlink : Cond.classLink own z.catchType (exN x) ∈ GW)
    {i nx : Nat} (hi : i < mxL K) (di : (∃ q : Fin 4, (q : Nat) = i ∧ decode cc z.handlerPc = .ok (.astore_n q, 1) ∧ nx = z.handlerPc + 1) ∨ (decode cc z.handlerPc = .ok (.astore i, 2) ∧ nx = z.handlerPc + 2)) (hL : L.filter (fun q => !(q.1 == i) && !(q.1 + 1 == i && mcat q.2 == 2)) = L') (k : V K nx L' [] h res) : VX K pc L rest h x res := by
  have hm1 : K.1 = 1 := F.1
  intro r h' e9
  obtain ⟨a1, b1⟩ := k r h' e9
  refine ⟨a1, ?_⟩
  rcases K with ⟨md1, nL, nm, _ | ⟨p, l, e, R, s, m, args, below, meth, c, D, cy, base, ad0, n0, mc, ms⟩⟩
  · exact True.intro
  obtain ⟨hmd, hx, hb, hml, hown, hts, hlk, henv, hmc, hms, hstk, hret, htab, hlv1, hlv2, hnm⟩ := F
  have hm2 : md1 = 1 := hm1
  subst hm2
  intro ad H locs cells slots ls q ce w1 w2 w3 w4 w5 w6 w7 g1 g2 g3
  have ht0 : c.exceptionTable.toList = tableOf hh := htab rfl
  refine vx_catch hown pre z suf (ht0.trans hsp) (fun w hw => ?_) hx9 h0 (hts _ hlink) (va_Nw.use rfl (henv.2.2.1.1 x)) g1 g2 g3 ?_
  · rcases hpass w hw with q9 | ⟨q1, nm, q2, q3⟩
    · exact Or.inl q9
    · exact Or.inr ⟨q1, nm, hts _ q2, henv.2.2.2.2.1 _ q3⟩
  · have e0 : (i, Value.ref q) :: (L.map (cvl ad)).filter (fun q => !(q.1 == i) && !(q.1 + 1 == i && q.2.category == 2)) = (i, Value.ref q) :: L'.map (cvl ad) := by
      rw [← hL, List.filter_map]
      refine congrArg (fun z => (i, Value.ref q) :: z) (congrArg _ (List.filter_congr fun q _ => ?_))
      simp [cvl, mcat_cv]
    have kk : ∀ ls' : Array Slot, lv_has ls' nL ((i, Value.ref q) :: L'.map (cvl ad)) → W p l e R s m args below meth c H locs cells slots (QFd 1 (p, l, e, R, s, m, args, below, meth, c, D, cy, base, ad0, n0, mc, ms) r h') (F0 m nx ls' []) := by
      intro ls' hl'
      refine b1 ad H locs cells slots ls' w1 w2 w3 ⟨hl'.1, hl'.2.1, fun z hz => hl'.2.2 z (List.mem_cons_of_mem _ hz)⟩ (fun v hv => by cases hv) (fun q hq => w6 q ?_) w7
      rw [← hL] at hq
      exact (List.mem_filter.mp hq).1
    rcases di with ⟨qf, rfl, d1, rfl⟩ | ⟨d1, rfl⟩
    · exact lv_astore_n hx hb d1 rfl w4 hi e0 kk
    · exact lv_astore hx hb d1 w4 hi e0 kk
theorem VX_none {K : CT} {pc : Nat} {L : List (Nat × MV)} {rest : List MV} {h : MH} {x : Nat} : VX K pc L rest h x none := fun r h' q => by cases q
theorem VX_if {K : CT} {pc : Nat} {L : List (Nat × MV)} {rest : List MV} {h : MH} {x y : Nat} {A B : Res} (hA : VX K pc L rest h y A) (hB : VX K pc L rest h x B) : VX K pc L rest h x (if x = y then A else B) := by
  by_cases q : x = y
  · rw [if_pos q, q]; exact hA
  · rw [if_neg q]; exact hB
/-! switches -/
def VT (K : CT) (pc : Nat) (L : List (Nat × MV)) (st : List MV) (h : MH) (x : Int32) (i : Int) (res : Res) : Prop := i ≤ x.toInt → V K pc L (vI x :: st) h res
theorem V_tsw {K : CT} {cc : ByteArray} {own : String} {ret : Option FieldType} {hh : List (Nat × Nat × Nat × Nat)} {lvl md : Nat} (F : Fr K cc own ret hh lvl md) {pc : Nat} {L : List (Nat × MV)} {st : List MV} {h : MH} {x : Int32} {D B : Res} {dflt lo hi : Int} {offs : Array Int} {len : Nat} (k0 : Int32) (dt : Nat) (d : decode cc pc = .ok (.tableswitch dflt lo hi offs, len)) (h0 : k0.toInt = lo) (ht : (pc : Int) + dflt = (dt : Int)) (kd : V K dt L st h D) (kb : VT K pc L st h x lo B) : V K pc L (vI x :: st) h (if x < k0 then D else B) := by
  by_cases q : x < k0
  · rw [if_pos q]
    refine V_step (fun n h1 h2 => ⟨ok_pop h1, h2⟩) ?_ kd
    rcases K with ⟨md1, nL, nm, _ | ⟨p, l, e, R, s, m, args, below, meth, c, D, cy, base, ad0, n0, mc, ms⟩⟩
    · exact True.intro
    obtain ⟨hmd, hx, hb, hml, hown, hts, hlk, henv, hmc, hms, hstk, hret, htab, hlv1, hlv2, hnm⟩ := F
    intro ad H locs cells slots ls Q hl kk
    exact lv_tableOut hx hb d (Or.inl (by rw [← h0]; exact Int32.lt_iff_toInt_lt.mp q)) ht (kk ls hl)
  · rw [if_neg q]
    exact kb (by rw [← h0]; exact Int32.le_iff_toInt_le.mp (Int32.not_lt.mp q))
theorem VT_peel {K : CT} {cc : ByteArray} {own : String} {ret : Option FieldType} {hh : List (Nat × Nat × Nat × Nat)} {lvl md : Nat} (F : Fr K cc own ret hh lvl md) {pc : Nat} {L : List (Nat × MV)} {st : List MV} {h : MH} {x : Int32} {A B : Res} {dflt lo hi : Int} {offs : Array Int} {len : Nat} {i off : Int} (k0 : Int32) (tgt : Nat) (d : decode cc pc = .ok (.tableswitch dflt lo hi offs, len)) (h0 : k0.toInt = i) (h1 : lo ≤ i ∧ i ≤ hi) (ho : offs[(i - lo).toNat]? = some off) (ht : (pc : Int) + off = (tgt : Int)) (ka : V K tgt L st h A) (kb : VT K pc L st h x (i + 1) B) : VT K pc L st h x i (if x = k0 then A else B) := by
  intro hge
  by_cases q : x = k0
  · rw [if_pos q]
    refine V_step (fun n h1 h2 => ⟨ok_pop h1, h2⟩) ?_ ka
    rcases K with ⟨md1, nL, nm, _ | ⟨p, l, e, R, s, m, args, below, meth, c, D, cy, base, ad0, n0, mc, ms⟩⟩
    · exact True.intro
    obtain ⟨hmd, hx, hb, hml, hown, hts, hlk, henv, hmc, hms, hstk, hret, htab, hlv1, hlv2, hnm⟩ := F
    intro ad H locs cells slots ls Q hl kk
    subst q
    exact lv_tableIn hx hb d (by rw [h0]; omega) (by rw [h0]; omega) (by rw [h0]; exact ho) ht (kk ls hl)
  · rw [if_neg q]
    refine kb ?_
    have : x.toInt ≠ i := fun e => q (Int32.toInt_inj.mp (by rw [e, h0]))
    omega
theorem VT_end {K : CT} {cc : ByteArray} {own : String} {ret : Option FieldType} {hh : List (Nat × Nat × Nat × Nat)} {lvl md : Nat} (F : Fr K cc own ret hh lvl md) {pc : Nat} {L : List (Nat × MV)} {st : List MV} {h : MH} {x : Int32} {D : Res} {dflt lo hi : Int} {offs : Array Int} {len : Nat} {i : Int} (dt : Nat) (d : decode cc pc = .ok (.tableswitch dflt lo hi offs, len)) (h1 : hi < i) (ht : (pc : Int) + dflt = (dt : Int)) (kd : V K dt L st h D) : VT K pc L st h x i D := by
  intro hge
  refine V_step (fun n h1 h2 => ⟨ok_pop h1, h2⟩) ?_ kd
  rcases K with ⟨md1, nL, nm, _ | ⟨p, l, e, R, s, m, args, below, meth, c, D, cy, base, ad0, n0, mc, ms⟩⟩
  · exact True.intro
  obtain ⟨hmd, hx, hb, hml, hown, hts, hlk, henv, hmc, hms, hstk, hret, htab, hlv1, hlv2, hnm⟩ := F
  intro ad H locs cells slots ls Q hl kk
  exact lv_tableOut hx hb d (Or.inr (by omega)) ht (kk ls hl)
theorem V_lsw2 {K : CT} {cc : ByteArray} {own : String} {ret : Option FieldType} {hh : List (Nat × Nat × Nat × Nat)} {lvl md : Nat} (F : Fr K cc own ret hh lvl md) {pc : Nat} {L : List (Nat × MV)} {st : List MV} {h : MH} {x : Int32} {A B D : Res} {dflt o0 o1 : Int} {len : Nat} (t0 t1 dt : Nat) (d : decode cc pc = .ok (.lookupswitch dflt #[(0, o0), (1, o1)], len)) (h0 : (pc : Int) + o0 = (t0 : Int)) (h1 : (pc : Int) + o1 = (t1 : Int)) (hd : (pc : Int) + dflt = (dt : Int)) (ka : V K t0 L st h A) (kb : V K t1 L st h B) (kd : V K dt L st h D) : V K pc L (vI x :: st) h (if x = 0 then A else if x = 1 then B else D) := by
  have i0 : ∀ y : Int32, x = y ↔ x.toInt = y.toInt := fun y => Int32.toInt_inj.symm
  by_cases q : x = 0
  · rw [if_pos q]
    refine V_step (fun n h1 h2 => ⟨ok_pop h1, h2⟩) ?_ ka
    rcases K with ⟨md1, nL, nm, _ | ⟨p, l, e, R, s, m, args, below, meth, c, D, cy, base, ad0, n0, mc, ms⟩⟩
    · exact True.intro
    obtain ⟨hmd, hx, hb, hml, hown, hts, hlk, henv, hmc, hms, hstk, hret, htab, hlv1, hlv2, hnm⟩ := F
    intro ad H locs cells slots ls Q hl kk
    exact lv_lookup hx hb d rfl (by subst q; simp [Op.lookupswitch.offset]) h0 (kk ls hl)
  · rw [if_neg q]
    have q0 : ¬ x.toInt = 0 := fun e => q ((i0 0).mpr e)
    by_cases q1 : x = 1
    · rw [if_pos q1]
      refine V_step (fun n h1 h2 => ⟨ok_pop h1, h2⟩) ?_ kb
      rcases K with ⟨md1, nL, nm, _ | ⟨p, l, e, R, s, m, args, below, meth, c, D, cy, base, ad0, n0, mc, ms⟩⟩
      · exact True.intro
      obtain ⟨hmd, hx, hb, hml, hown, hts, hlk, henv, hmc, hms, hstk, hret, htab, hlv1, hlv2, hnm⟩ := F
      intro ad H locs cells slots ls Q hl kk
      exact lv_lookup hx hb d rfl (by subst q1; simp [Op.lookupswitch.offset]) h1 (kk ls hl)
    · rw [if_neg q1]
      have q2 : ¬ x.toInt = 1 := fun e => q1 ((i0 1).mpr e)
      refine V_step (fun n h1 h2 => ⟨ok_pop h1, h2⟩) ?_ kd
      rcases K with ⟨md1, nL, nm, _ | ⟨p, l, e, R, s, m, args, below, meth, c, D, cy, base, ad0, n0, mc, ms⟩⟩
      · exact True.intro
      obtain ⟨hmd, hx, hb, hml, hown, hts, hlk, henv, hmc, hms, hstk, hret, htab, hlv1, hlv2, hnm⟩ := F
      intro ad H locs cells slots ls Q hl kk
      exact lv_lookup hx hb d rfl (by simp [Op.lookupswitch.offset, Ne.symm q0, Ne.symm q2, q0, q2]) hd (kk ls hl)
/-! entry -/
def margs : Nat → List MV → List (Nat × MV)
  | _, [] => []
  | i, v :: vs => (i, v) :: margs (if mcat v = 2 then i + 2 else i + 1) vs
theorem margs_map {ad : Nat → Nat} : ∀ (vs : List MV) (i : Nat), lv_args i (vs.map (cv ad)) = (margs i vs).map (cvl ad)
  | [], _ => rfl
  | v :: vs, i => by
    show (i, cv ad v) :: lv_args (if (cv ad v).category = 2 then i + 2 else i + 1) (vs.map (cv ad)) = (i, cv ad v) :: (margs (if mcat v = 2 then i + 2 else i + 1) vs).map (cvl ad)
    rw [mcat_cv, margs_map vs]
theorem margs_ok {n : Nat} : ∀ (vs : List MV) (i : Nat), (∀ v ∈ vs, okv n v) → ∀ q ∈ margs i vs, okv n q.2
  | [], _, _ => fun q hq => by cases hq
  | v :: vs, i, h => fun q hq => by
    rcases List.mem_cons.mp hq with e | e
    · rw [e]; exact h v List.mem_cons_self
    · exact margs_ok vs _ (fun w hw => h w (List.mem_cons_of_mem _ hw)) q e
theorem lg_sl_len {ad : Nat → Nat} : ∀ vs : List MV, (lg_sl (vs.map (cv ad))).length = (vs.map mcat).sum
  | [] => rfl
  | v :: vs => by
    have h := lg_sl_len (ad := ad) vs
    simp only [lg_sl, List.map_cons, List.flatMap_cons, List.length_append, List.sum_cons] at h ⊢
    rw [h, mcat_cv]
    rcases v with x | (x | x) <;> rfl
theorem entry_V {p : Program} {l : Launch} {e : Env} {R : Room} {s : State} {m : MethodId} {below : List Frame} {meth : Method} {c : Code} {D : va_G} {cy : Nat → ClassId} {base : Nat} {ad0 : Nat → Nat} {vs : List MV} {h : MH} {maxL mc ms md : Nat} {nm : String} {res : Res} {r : MR} {h' : MH} (hlen : (vs.map mcat).sum ≤ maxL)
    (k : V (md, maxL, nm, some (p, l, e, R, s, m, (vs.map (cv ad0)).toArray, below, meth, c, D, cy, base, ad0, hn h + 1, mc, ms)) 0 (margs 0 vs) [] h res) (e9 : res = some (r, h')) (w1 : Wld D cy base ad0 h s.heap) (hok : ∀ v ∈ vs, okv (hn h) v) (hmc : hc h' - hc h ≤ mc) (hms : hs h' - hs h ≤ ms) :
    W p l e R s m (vs.map (cv ad0)).toArray below meth c s.heap [] 0 0 (QFd md (p, l, e, R, s, m, (vs.map (cv ad0)).toArray, below, meth, c, D, cy, base, ad0, hn h + 1, mc, ms) r h') (entryFrame m (vs.map (cv ad0)).toArray maxL) := by
  obtain ⟨-, b1⟩ := k r h' e9
  have hl := lv_entry (vs.map (cv ad0)) (n := maxL) (by rw [lg_sl_len]; exact hlen)
  rw [margs_map] at hl
  rw [lg_entry_eq]
  exact b1 ad0 s.heap [] 0 0 _ w1 va_S.rf ⟨fun _ _ => rfl, Nat.le_refl _⟩ hl (fun v hv => by cases hv) (margs_ok vs 0 hok) ⟨by omega, by omega⟩
theorem CtrM_of {y : MethodName} {b : ByteArray} {maxL lvl : Nat} {rt : Option FieldType} {vs : List MV} {h : MH} {res : Res} (hy : plainName y.cls = true) (hlen : (vs.map mcat).sum ≤ maxL)
    (body : ∀ K : CT, Fr K b y.cls rt [] lvl 0 → mxL K = maxL → nmK K y.name → V K 0 (margs 0 vs) [] h res) : CtrM y (WSm y b maxL rt) lvl vs h res := by
  intro r h' e9
  have gk := (body (0, maxL, y.name, none) ⟨rfl, True.intro⟩ rfl rfl r h' e9).1
  refine ⟨gk.1, gk.2 rfl, fun l D cy base ad0 hstk => ?_⟩
  refine Met.ofW (cc := b) (maxL := maxL) (ret := rt) hy rfl ?_
  intro p e s m args below meth c s₁ B hml hv
  obtain ⟨rfl, henv, w1, hok⟩ := hv
  have hts := atoms_spec (ws := WSm y b maxL rt) B.pre
  exact entry_V hlen (body (0, maxL, y.name, some (p, l, e, (headSpec (WSm y b maxL rt) (RM lvl (hc h' - hc h) (hs h' - hs h))).room, s, m, _, below, meth, c, D, cy, base, ad0, hn h + 1, hc h' - hc h, hs h' - hs h))
    ⟨rfl, B.exec, B.bytes, hml, findClass_of_methodNamed B.named, fun w hw => hts w (List.mem_cons_of_mem _ hw), B.notSynchronized, henv, Nat.le_refl _, Nat.le_refl _, hstk, B.returns, (fun q => by omega), Nat.le_refl _, Nat.le_refl _, (name_of_methodNamed B.named B.method).1⟩ rfl rfl) e9 w1 hok (Nat.le_refl _) (Nat.le_refl _)
theorem CtrX_of {y : MethodName} {b : ByteArray} {maxL lvl : Nat} {rt : Option FieldType} {vs : List MV} {h : MH} {res : Res} (hy : plainName y.cls = true) (hlen : (vs.map mcat).sum ≤ maxL)
    (body : ∀ K : CT, Fr K b y.cls rt [] lvl 1 → mxL K = maxL → nmK K y.name → V K 0 (margs 0 vs) [] h res) : CtrX y (WSm y b maxL rt) lvl vs h res := by
  intro r h' e9
  have gk := (body (1, maxL, y.name, none) ⟨rfl, True.intro⟩ rfl rfl r h' e9).1
  refine ⟨gk.1, fun l D cy base ad0 hstk => ?_⟩
  refine vx_ofW (cc := b) (maxL := maxL) (ret := rt) hy rfl ?_
  intro p e s m args below meth c s₁ B hml htb hv
  obtain ⟨rfl, henv, w1, hok⟩ := hv
  have hts := atoms_spec (ws := WSm y b maxL rt) B.pre
  have ht0 : c.exceptionTable.toList = [] := by
    cases hq : c.exceptionTable.toList with
    | nil => rfl
    | cons a as => exact (htb a (by rw [hq]; exact List.mem_cons_self)).elim
  exact entry_V hlen (body (1, maxL, y.name, some (p, l, e, (headSpec (WSm y b maxL rt) (RM lvl (hc h' - hc h) (hs h' - hs h))).room, s, m, _, below, meth, c, D, cy, base, ad0, hn h + 1, hc h' - hc h, hs h' - hs h))
    ⟨rfl, B.exec, B.bytes, hml, findClass_of_methodNamed B.named, fun w hw => hts w (List.mem_cons_of_mem _ hw), B.notSynchronized, henv, Nat.le_refl _, Nat.le_refl _, hstk, B.returns, (fun _ => ht0), Nat.le_refl _, Nat.le_refl _, (name_of_methodNamed B.named B.method).1⟩ rfl rfl) e9 w1 hok (Nat.le_refl _) (Nat.le_refl _)
theorem CtrW_of {y : MethodName} {b : ByteArray} {maxL lvl : Nat} {rt : Option FieldType} {hh : List (Nat × Nat × Nat × Nat)} {vs : List MV} {h : MH} {res : Res} (hy : plainName y.cls = true) (hlen : (vs.map mcat).sum ≤ maxL)
    (body : ∀ K : CT, Fr K b y.cls rt hh lvl 1 → mxL K = maxL → nmK K y.name → V K 0 (margs 0 vs) [] h res) : CtrX y (WSw y b maxL rt hh) lvl vs h res := by
  intro r h' e9
  have gk := (body (1, maxL, y.name, none) ⟨rfl, True.intro⟩ rfl rfl r h' e9).1
  refine ⟨gk.1, fun l D cy base ad0 hstk => ?_⟩
  refine vx_ofWH (cc := b) (maxL := maxL) (ret := rt) (hh := hh) hy rfl ?_
  intro p e s m args below meth c s₁ B hml hv
  obtain ⟨rfl, henv, w1, hok⟩ := hv
  have hts := atoms_spec (ws := WSw y b maxL rt hh) B.pre
  have ht0 : c.exceptionTable.toList = tableOf hh := vx_table (x := y) (y := y) B (hts _ List.mem_cons_self)
  exact entry_V hlen (body (1, maxL, y.name, some (p, l, e, (headSpec (WSw y b maxL rt hh) (RM lvl (hc h' - hc h) (hs h' - hs h))).room, s, m, _, below, meth, c, D, cy, base, ad0, hn h + 1, hc h' - hc h, hs h' - hs h))
    ⟨rfl, B.exec, B.bytes, hml, findClass_of_methodNamed B.named, fun w hw => hts w (List.mem_cons_of_mem _ hw), B.notSynchronized, henv, Nat.le_refl _, Nat.le_refl _, hstk, B.returns, (fun _ => ht0), Nat.le_refl _, Nat.le_refl _, (name_of_methodNamed B.named B.method).1⟩ rfl rfl) e9 w1 hok (Nat.le_refl _) (Nat.le_refl _)
