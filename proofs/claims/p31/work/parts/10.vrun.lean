theorem run_of_va {p : Program} {l : Launch} {e : Env} {R : Room} {s : State} {m : MethodId} {args : Array Value} {below : List Frame} {meth : Method} {c : Code} {H : Heap} {locs : List Loc} {cells slots mc ms : Nat} {g : JFrame} {rest : List Value} {Qa : State → Outcome → State → Prop} {XC : String → State → State → Prop} {free : Addr → Prop}
    (h : va_Run p l e R s m args below meth c H locs cells slots mc ms g rest Qa free) : vx_Run p l e R s m args below meth c H locs cells slots mc ms g rest Qa XC free := fun T hT X => Or.inl (h T hT X)
theorem GWin {ws : List Cond} (h : ∀ w ∈ ws, w ∈ GW) : GoodIn GW ws := fun w hw => ⟨h w hw, good_of_word (GW_g (h w hw))⟩
theorem GWm {y : MethodName} {b : ByteArray} {maxL : Nat} {rt : Option FieldType} (h : Cond.code y b maxL rt ∈ GW) : GoodIn GW (WSm y b maxL rt) := GWin fun w hw => (List.mem_cons.mp hw).elim (fun e => by rw [e]; exact h) id
theorem GWw {y : MethodName} {b : ByteArray} {maxL : Nat} {rt : Option FieldType} {hh : List (Nat × Nat × Nat × Nat)} (h : Cond.codeWith y b maxL rt hh ∈ GW) : GoodIn GW (WSw y b maxL rt hh) := GWin fun w hw => (List.mem_cons.mp hw).elim (fun e => by rw [e]; exact h) id
def CWm (y : MethodName) (b : ByteArray) (maxL : Nat) (rt : Option FieldType) (n : Nat) : Prop :=
  Cond.code y b maxL rt ∈ GW ∧ Cond.initialized y.cls ∈ GW ∧ (y.cls ≠ "java/lang/invoke/MethodHandle" ∧ y.cls ≠ "java/lang/invoke/VarHandle" ∧ (parseMethodDescriptor y.desc).map (fun d => d.parameters.length) = some n) ∧ maxL ≤ 29
theorem cat_sum {ad : Nat → Nat} (st : List MV) : ((st.map (cv ad)).map fun v => v.category).sum = (st.map mcat).sum := by
  rw [List.map_map]
  exact congrArg List.sum (List.map_congr_left fun v _ => mcat_cv v)
theorem rm_ok {R : Room} {lv lvl maxL mc ms : Nat} (h1 : lv < lvl) (h2 : lvl ≤ R.frames) (h3 : 48 * lvl + 12 ≤ R.locals) (h4 : maxL ≤ 29) : (RM lv mc ms).frames + 1 ≤ R.frames ∧ 8 + (maxL + 11) + (RM lv mc ms).locals ≤ R.locals := by
  constructor
  · show lv + 1 ≤ R.frames; omega
  · show 8 + (maxL + 11) + (48 * lv + 12) ≤ R.locals; omega
theorem noX {y : MethodName} {ws : List Cond} {lv : Nat} {vs : List MV} {h : MH} {res : Res} (hC : CtrM y ws lv vs h res) : ∀ x h1, res = some (.inr x, h1) → False := by
  intro x h1 e
  obtain ⟨-, ⟨v, ev⟩, -⟩ := hC _ _ e
  cases ev
theorem PcF_go {D : va_G} {cy : Nat → ClassId} {base : Nat} {ad : Nat → Nat} {as : List MV} {h : MH} {s : State} {H : Heap} {locs : List Loc} (hE : EnvO D cy base s) (hS : va_S (bA base) s.heap H locs) (w1 : Wld D cy base ad h H) (hok : ∀ v ∈ as, okv (hn h) v) {a : Array Value} (ha : a = (as.map (cv ad)).toArray) : ∀ U : State, U.heap = H → s.WarmedH U.vm → PcF D cy base ad as h a U :=
  fun U hU hW => ⟨ha, hE.go (locs := locs) hW (by rw [hU]; exact hS), by rw [hU]; exact w1, hok⟩
theorem run_S {K : CT} {cc : ByteArray} {own : String} {ret : Option FieldType} {hh : List (Nat × Nat × Nat × Nat)} {lvl md : Nat} (F : Fr K cc own ret hh lvl md) {pc : Nat} {L : List (Nat × MV)} {h : MH} {st0 as rest : List MV} {res : Res} {y : MethodName} {b : ByteArray} {maxL lv n idx : Nat} {rt : Option FieldType} (hC : CtrX y (WSm y b maxL rt) lv as h res) (hw : CWm y b maxL rt n) (hsta : Cond.static y ∈ GW) (hlnk : Cond.methodLink own idx y ∈ GW) (hlv : lv < lvl) (hst0 : st0 = as.reverse ++ rest) (hn : as.length = n) (hcat : (rest.map mcat).sum ≤ 8) (d : decode cc pc = .ok (.invokestatic idx, 3)) : RunX K pc L st0 rest h res := by
  subst hst0
  intro r h' e9
  obtain ⟨g1, g2⟩ := hC r h' e9
  refine ⟨g1, ?_⟩
  rcases K with ⟨md1, nL, nm, _ | ⟨p, l, e, R, s, m, args, below, meth, c, D, cy, base, ad0, n0, mc, ms⟩⟩
  · exact True.intro
  obtain ⟨hmd, hx, hb, hml, hown, hts, hlk, henv, hmc, hms, hstk, hret, htab, hlv1, hlv2, hnm⟩ := F
  intro ad H locs cells slots ls w1 w2 w3 w4 w5 w7
  have cb := callB_of (R := R) (own := own) (index := idx) (rm := RM lv (hc h' - hc h) (hs h' - hs h)) n hts (GWm hw.1) rfl rfl rfl (hts _ hw.2.1) (hts _ hlnk) hw.2.2.1 (rm_ok hlv hlv1 hlv2 hw.2.2.2)
  exact vx_runS (As := as.map (cv ad)) ⟨hx, hb, hml, hown, hts⟩ (g2 l D cy base ad hstk) ⟨cb, hts _ hsta⟩ ⟨PcF.blind, PcF_go henv w2 w1 (fun v hv => w5 v (List.mem_append_left _ (List.mem_reverse.mpr hv))) rfl⟩ rfl (by rw [List.length_map]; exact hn) w4.1
    (by rw [List.map_append, List.map_reverse]) (lv_room (m := m) (pc := pc) (ls := ls) (rest := []) (by rw [cat_sum]; exact hcat)) d ⟨by omega, by omega⟩
theorem run_SM {K : CT} {cc : ByteArray} {own : String} {ret : Option FieldType} {hh : List (Nat × Nat × Nat × Nat)} {lvl md : Nat} (F : Fr K cc own ret hh lvl md) {pc : Nat} {L : List (Nat × MV)} {h : MH} {st0 as rest : List MV} {res : Res} {y : MethodName} {b : ByteArray} {maxL lv n idx : Nat} {rt : Option FieldType} (hC : CtrM y (WSm y b maxL rt) lv as h res) (hw : CWm y b maxL rt n) (hsta : Cond.static y ∈ GW) (hlnk : Cond.methodLink own idx y ∈ GW) (hlv : lv < lvl) (hst0 : st0 = as.reverse ++ rest) (hn : as.length = n) (hcat : (rest.map mcat).sum ≤ 8) (d : decode cc pc = .ok (.invokestatic idx, 3)) : RunX K pc L st0 rest h res := by
  subst hst0
  intro r h' e9
  obtain ⟨g1, -, g2⟩ := hC r h' e9
  refine ⟨g1, ?_⟩
  rcases K with ⟨md1, nL, nm, _ | ⟨p, l, e, R, s, m, args, below, meth, c, D, cy, base, ad0, n0, mc, ms⟩⟩
  · exact True.intro
  obtain ⟨hmd, hx, hb, hml, hown, hts, hlk, henv, hmc, hms, hstk, hret, htab, hlv1, hlv2, hnm⟩ := F
  intro ad H locs cells slots ls w1 w2 w3 w4 w5 w7
  refine run_of_va ?_
  have cb := callB_of (R := R) (own := own) (index := idx) (rm := RM lv (hc h' - hc h) (hs h' - hs h)) n hts (GWm hw.1) rfl rfl rfl (hts _ hw.2.1) (hts _ hlnk) hw.2.2.1 (rm_ok hlv hlv1 hlv2 hw.2.2.2)
  exact va_runS (As := as.map (cv ad)) ⟨hx, hb, hml, hown, hts⟩ (g2 l D cy base ad hstk) ⟨cb, hts _ hsta⟩ ⟨PcF.blind, PcF_go henv w2 w1 (fun v hv => w5 v (List.mem_append_left _ (List.mem_reverse.mpr hv))) rfl⟩ rfl (by rw [List.length_map]; exact hn) w4.1
    (by rw [List.map_append, List.map_reverse]) (lv_room (m := m) (pc := pc) (ls := ls) (rest := []) (by rw [cat_sum]; exact hcat)) d ⟨by omega, by omega⟩
theorem run_SN {K : CT} {cc : ByteArray} {own : String} {ret : Option FieldType} {hh : List (Nat × Nat × Nat × Nat)} {lvl md : Nat} (F : Fr K cc own ret hh lvl md) {pc : Nat} {L : List (Nat × MV)} {h : MH} {st0 as rest : List MV} {res : Res} {y : MethodName} {b : ByteArray} {maxL lv n idx : Nat} {rt : Option FieldType} {host : String} (hC : CtrM y (WSm y b maxL rt) lv as h res) (hw : CWm y b maxL rt n) (hsta : Cond.static y ∈ GW) (hlnk : (own, idx, y, host) ∈ NML) (hlv : lv < lvl) (hst0 : st0 = as.reverse ++ rest) (hn : as.length = n) (hcat : (rest.map mcat).sum ≤ 8) (d : decode cc pc = .ok (.invokestatic idx, 3)) : RunX K pc L st0 rest h res := by
  subst hst0
  intro r h' e9
  obtain ⟨g1, -, g2⟩ := hC r h' e9
  refine ⟨g1, ?_⟩
  rcases K with ⟨md1, nL, nm, _ | ⟨p, l, e, R, s, m, args, below, meth, c, D, cy, base, ad0, n0, mc, ms⟩⟩
  · exact True.intro
  obtain ⟨hmd, hx, hb, hml, hown, hts, hlk, henv, hmc, hms, hstk, hret, htab, hlv1, hlv2, hnm⟩ := F
  intro ad H locs cells slots ls w1 w2 w3 w4 w5 w7
  refine run_of_va ?_
  have cb := va_cnB (R := R) (own := own) (host := host) (index := idx) (rm := RM lv (hc h' - hc h) (hs h' - hs h)) n hts (GWm hw.1) rfl rfl rfl (henv.2.1 _ hlnk) (hts _ hw.2.1) hw.2.2.1 (rm_ok hlv hlv1 hlv2 hw.2.2.2)
  exact va_runSN (As := as.map (cv ad)) ⟨hx, hb, hml, hown, hts⟩ (g2 l D cy base ad hstk) ⟨cb, hts _ hsta, trivial⟩ ⟨PcF.blind, PcF_go henv w2 w1 (fun v hv => w5 v (List.mem_append_left _ (List.mem_reverse.mpr hv))) rfl⟩ rfl (by rw [List.length_map]; exact hn) w4.1
    (by rw [List.map_append, List.map_reverse]) (lv_room (m := m) (pc := pc) (ls := ls) (rest := []) (by rw [cat_sum]; exact hcat)) d ⟨by omega, by omega⟩
/-- the receiver is an object of class ci -/
def chk (h : MH) (r : Option Nat) (ci : Nat) (k : Res) : Res := match r with
  | none => none
  | some a => if hk h a = ci then k else none
theorem V_chk {K : CT} {pc : Nat} {L : List (Nat × MV)} {st : List MV} {h : MH} {r : Option Nat} {ci : Nat} {k : Res} (n : ∀ a, r = some a → hk h a = ci → V K pc L st h k) : V K pc L st h (chk h r ci k) := by
  cases r with
  | none => exact V_none
  | some a =>
    show V K pc L st h (if hk h a = ci then k else none)
    by_cases q : hk h a = ci
    · rw [if_pos q]; exact n a rfl q
    · rw [if_neg q]; exact V_none
theorem run_V {K : CT} {cc : ByteArray} {own : String} {ret : Option FieldType} {hh : List (Nat × Nat × Nat × Nat)} {lvl md : Nat} (F : Fr K cc own ret hh lvl md) {pc : Nat} {L : List (Nat × MV)} {h : MH} {st0 as rest : List MV} {res : Res} {y : MethodName} {b : ByteArray} {maxL lv n idx a : Nat} {rt : Option FieldType} (ci : Nat) (hci : ci < 9) (hka : hk h a = ci) (hC : CtrX y (WSm y b maxL rt) lv (vR (some a) :: as) h res) (hw : CWm y b maxL rt n) (hin : Cond.instanceMethod y ∈ GW) (hsel : Cond.selects (RN ci) y y ∈ GW) (hlnk : Cond.methodLink own idx y ∈ GW) (hlv : lv < lvl) (hst0 : st0 = as.reverse ++ vR (some a) :: rest) (hn : as.length = n) (hcat : (rest.map mcat).sum ≤ 8) (d : decode cc pc = .ok (.invokevirtual idx, 3)) : RunX K pc L st0 rest h res := by
  subst hst0
  intro r h' e9
  obtain ⟨g1, g2⟩ := hC r h' e9
  refine ⟨g1, ?_⟩
  rcases K with ⟨md1, nL, nm, _ | ⟨p, l, e, R, s, m, args, below, meth, c, D, cy, base, ad0, n0, mc, ms⟩⟩
  · exact True.intro
  obtain ⟨hmd, hx, hb, hml, hown, hts, hlk, henv, hmc, hms, hstk, hret, htab, hlv1, hlv2, hnm⟩ := F
  intro ad H locs cells slots ls w1 w2 w3 w4 w5 w7
  have cb := callB_of (R := R) (own := own) (index := idx) (rm := RM lv (hc h' - hc h) (hs h' - hs h)) n hts (GWm hw.1) rfl rfl rfl (hts _ hw.2.1) (hts _ hlnk) hw.2.2.1 (rm_ok hlv hlv1 hlv2 hw.2.2.2)
  obtain ⟨q0, hq0, rfl⟩ := w1.low hka (by omega)
  have he := wsO_at (cy := cy) (ad := ad) hq0
  rw [clO_obj hka (by omega)] at he
  exact vx_runV (As := as.map (cv ad)) ⟨hx, hb, hml, hown, hts⟩ (g2 l D cy base ad hstk) ⟨cb, hts _ hin, hts _ hsel⟩ ⟨PcF.blind, va_recv henv.1 w1.1 (CL_at hci) he, PcF_go henv w2 w1 (fun v hv => w5 v ((List.mem_cons.mp hv).elim (fun e => List.mem_append_right _ (by rw [e]; exact List.mem_cons_self)) fun q => List.mem_append_left _ (List.mem_reverse.mpr q))) rfl⟩ rfl (by rw [List.length_map]; exact hn) w4.1
    (by rw [List.map_append, List.map_reverse]; rfl) (lv_room (m := m) (pc := pc) (ls := ls) (rest := []) (by rw [cat_sum]; exact hcat)) d ⟨by omega, by omega⟩
theorem run_VM {K : CT} {cc : ByteArray} {own : String} {ret : Option FieldType} {hh : List (Nat × Nat × Nat × Nat)} {lvl md : Nat} (F : Fr K cc own ret hh lvl md) {pc : Nat} {L : List (Nat × MV)} {h : MH} {st0 as rest : List MV} {res : Res} {y : MethodName} {b : ByteArray} {maxL lv n idx a : Nat} {rt : Option FieldType} (ci : Nat) (hci : ci < 9) (hka : hk h a = ci) (hC : CtrM y (WSm y b maxL rt) lv (vR (some a) :: as) h res) (hw : CWm y b maxL rt n) (hin : Cond.instanceMethod y ∈ GW) (hsel : Cond.selects (RN ci) y y ∈ GW) (hlnk : Cond.methodLink own idx y ∈ GW) (hlv : lv < lvl) (hst0 : st0 = as.reverse ++ vR (some a) :: rest) (hn : as.length = n) (hcat : (rest.map mcat).sum ≤ 8) (d : decode cc pc = .ok (.invokevirtual idx, 3)) : RunX K pc L st0 rest h res := by
  subst hst0
  intro r h' e9
  obtain ⟨g1, -, g2⟩ := hC r h' e9
  refine ⟨g1, ?_⟩
  rcases K with ⟨md1, nL, nm, _ | ⟨p, l, e, R, s, m, args, below, meth, c, D, cy, base, ad0, n0, mc, ms⟩⟩
  · exact True.intro
  obtain ⟨hmd, hx, hb, hml, hown, hts, hlk, henv, hmc, hms, hstk, hret, htab, hlv1, hlv2, hnm⟩ := F
  intro ad H locs cells slots ls w1 w2 w3 w4 w5 w7
  refine run_of_va ?_
  have cb := callB_of (R := R) (own := own) (index := idx) (rm := RM lv (hc h' - hc h) (hs h' - hs h)) n hts (GWm hw.1) rfl rfl rfl (hts _ hw.2.1) (hts _ hlnk) hw.2.2.1 (rm_ok hlv hlv1 hlv2 hw.2.2.2)
  obtain ⟨q0, hq0, rfl⟩ := w1.low hka (by omega)
  have he := wsO_at (cy := cy) (ad := ad) hq0
  rw [clO_obj hka (by omega)] at he
  exact va_runV (As := as.map (cv ad)) ⟨hx, hb, hml, hown, hts⟩ (g2 l D cy base ad hstk) ⟨cb, hts _ hin, hts _ hsel⟩ ⟨PcF.blind, va_recv henv.1 w1.1 (CL_at hci) he, PcF_go henv w2 w1 (fun v hv => w5 v ((List.mem_cons.mp hv).elim (fun e => List.mem_append_right _ (by rw [e]; exact List.mem_cons_self)) fun q => List.mem_append_left _ (List.mem_reverse.mpr q))) rfl⟩ rfl (by rw [List.length_map]; exact hn) w4.1
    (by rw [List.map_append, List.map_reverse]; rfl) (lv_room (m := m) (pc := pc) (ls := ls) (rest := []) (by rw [cat_sum]; exact hcat)) d ⟨by omega, by omega⟩
/-- not null -/
def nnl (r : Option Nat) (k : Res) : Res := match r with
  | none => none
  | some _ => k
theorem V_nnl {K : CT} {pc : Nat} {L : List (Nat × MV)} {st : List MV} {h : MH} {r : Option Nat} {k : Res} (n : ∀ a, r = some a → V K pc L st h k) : V K pc L st h (nnl r k) := by
  cases r with
  | none => exact V_none
  | some a => exact n a rfl
theorem run_I {K : CT} {cc : ByteArray} {own : String} {ret : Option FieldType} {hh : List (Nat × Nat × Nat × Nat)} {lvl md : Nat} (F : Fr K cc own ret hh lvl md) {pc : Nat} {L : List (Nat × MV)} {h : MH} {st0 as rest : List MV} {res : Res} {y : MethodName} {b : ByteArray} {maxL lv n idx a : Nat} (hC : CtrM y (WSm y b maxL none) lv (vR (some a) :: as) h res) (hy : y.name = "<init>") (hw : CWm y b maxL none n) (hin : Cond.instanceMethod y ∈ GW) (hlnk : Cond.methodLink own idx y ∈ GW) (hlv : lv < lvl) (hst0 : st0 = as.reverse ++ vR (some a) :: rest) (hn : as.length = n) (hcat : (rest.map mcat).sum ≤ 8) (d : decode cc pc = .ok (.invokespecial idx, 3)) : RunX K pc L st0 rest h res := by
  subst hst0
  intro r h' e9
  obtain ⟨g1, -, g2⟩ := hC r h' e9
  refine ⟨g1, ?_⟩
  rcases K with ⟨md1, nL, nm, _ | ⟨p, l, e, R, s, m, args, below, meth, c, D, cy, base, ad0, n0, mc, ms⟩⟩
  · exact True.intro
  obtain ⟨hmd, hx, hb, hml, hown, hts, hlk, henv, hmc, hms, hstk, hret, htab, hlv1, hlv2, hnm⟩ := F
  intro ad H locs cells slots ls w1 w2 w3 w4 w5 w7
  refine run_of_va ?_
  have cb := callB_of (R := R) (own := own) (index := idx) (rm := RM lv (hc h' - hc h) (hs h' - hs h)) n hts (GWm hw.1) rfl rfl rfl (hts _ hw.2.1) (hts _ hlnk) hw.2.2.1 (rm_ok hlv hlv1 hlv2 hw.2.2.2)
  exact va_runI (As := as.map (cv ad)) ⟨hx, hb, hml, hown, hts⟩ (g2 l D cy base ad hstk) ⟨cb, hy, hts _ hin⟩ ⟨PcF.blind, PcF_go henv w2 w1 (fun v hv => w5 v ((List.mem_cons.mp hv).elim (fun e => List.mem_append_right _ (by rw [e]; exact List.mem_cons_self)) fun q => List.mem_append_left _ (List.mem_reverse.mpr q))) rfl⟩ rfl (by rw [List.length_map]; exact hn) w4.1
    (by rw [List.map_append, List.map_reverse]; rfl) (lv_room (m := m) (pc := pc) (ls := ls) (rest := []) (by rw [cat_sum]; exact hcat)) d ⟨by omega, by omega⟩
theorem run_IN {K : CT} {cc : ByteArray} {own : String} {ret : Option FieldType} {hh : List (Nat × Nat × Nat × Nat)} {lvl md : Nat} (F : Fr K cc own ret hh lvl md) {pc : Nat} {L : List (Nat × MV)} {h : MH} {st0 as rest : List MV} {res : Res} {y : MethodName} {b : ByteArray} {maxL lv n idx a : Nat} {host : String} (hC : CtrM y (WSm y b maxL none) lv (vR (some a) :: as) h res) (hy : y.name = "<init>") (hw : CWm y b maxL none n) (hin : Cond.instanceMethod y ∈ GW) (hlnk : (own, idx, y, host) ∈ NML) (hlv : lv < lvl) (hst0 : st0 = as.reverse ++ vR (some a) :: rest) (hn : as.length = n) (hcat : (rest.map mcat).sum ≤ 8) (d : decode cc pc = .ok (.invokespecial idx, 3)) : RunX K pc L st0 rest h res := by
  subst hst0
  intro r h' e9
  obtain ⟨g1, -, g2⟩ := hC r h' e9
  refine ⟨g1, ?_⟩
  rcases K with ⟨md1, nL, nm, _ | ⟨p, l, e, R, s, m, args, below, meth, c, D, cy, base, ad0, n0, mc, ms⟩⟩
  · exact True.intro
  obtain ⟨hmd, hx, hb, hml, hown, hts, hlk, henv, hmc, hms, hstk, hret, htab, hlv1, hlv2, hnm⟩ := F
  intro ad H locs cells slots ls w1 w2 w3 w4 w5 w7
  refine run_of_va ?_
  have cb := va_cnB (R := R) (own := own) (host := host) (index := idx) (rm := RM lv (hc h' - hc h) (hs h' - hs h)) n hts (GWm hw.1) rfl rfl rfl (henv.2.1 _ hlnk) (hts _ hw.2.1) hw.2.2.1 (rm_ok hlv hlv1 hlv2 hw.2.2.2)
  exact va_runIN (As := as.map (cv ad)) ⟨hx, hb, hml, hown, hts⟩ (g2 l D cy base ad hstk) ⟨cb, hy, hts _ hin⟩ ⟨PcF.blind, PcF_go henv w2 w1 (fun v hv => w5 v ((List.mem_cons.mp hv).elim (fun e => List.mem_append_right _ (by rw [e]; exact List.mem_cons_self)) fun q => List.mem_append_left _ (List.mem_reverse.mpr q))) rfl⟩ rfl (by rw [List.length_map]; exact hn) w4.1
    (by rw [List.map_append, List.map_reverse]; rfl) (lv_room (m := m) (pc := pc) (ls := ls) (rest := []) (by rw [cat_sum]; exact hcat)) d ⟨by omega, by omega⟩
def CWw (y : MethodName) (b : ByteArray) (maxL : Nat) (rt : Option FieldType) (hh : List (Nat × Nat × Nat × Nat)) (n : Nat) : Prop :=
  Cond.codeWith y b maxL rt hh ∈ GW ∧ Cond.initialized y.cls ∈ GW ∧ (y.cls ≠ "java/lang/invoke/MethodHandle" ∧ y.cls ≠ "java/lang/invoke/VarHandle" ∧ (parseMethodDescriptor y.desc).map (fun d => d.parameters.length) = some n) ∧ maxL ≤ 29
theorem run_SW {K : CT} {cc : ByteArray} {own : String} {ret : Option FieldType} {hh : List (Nat × Nat × Nat × Nat)} {lvl md : Nat} (F : Fr K cc own ret hh lvl md) {pc : Nat} {L : List (Nat × MV)} {h : MH} {st0 as rest : List MV} {res : Res} {y : MethodName} {b : ByteArray} {maxL lv n idx : Nat} {rt : Option FieldType} {h9 : List (Nat × Nat × Nat × Nat)} (hC : CtrX y (WSw y b maxL rt h9) lv as h res) (hw : CWw y b maxL rt h9 n) (hsta : Cond.static y ∈ GW) (hlnk : Cond.methodLink own idx y ∈ GW) (hlv : lv < lvl) (hst0 : st0 = as.reverse ++ rest) (hn : as.length = n) (hcat : (rest.map mcat).sum ≤ 8) (d : decode cc pc = .ok (.invokestatic idx, 3)) : RunX K pc L st0 rest h res := by
  subst hst0
  intro r h' e9
  obtain ⟨g1, g2⟩ := hC r h' e9
  refine ⟨g1, ?_⟩
  rcases K with ⟨md1, nL, nm, _ | ⟨p, l, e, R, s, m, args, below, meth, c, D, cy, base, ad0, n0, mc, ms⟩⟩
  · exact True.intro
  obtain ⟨hmd, hx, hb, hml, hown, hts, hlk, henv, hmc, hms, hstk, hret, htab, hlv1, hlv2, hnm⟩ := F
  intro ad H locs cells slots ls w1 w2 w3 w4 w5 w7
  have hsub : GoodIn GW (va_wsS own idx y (WSw y b maxL rt h9)) := GWin fun w hw9 => by
    rcases List.mem_append.mp hw9 with q | q
    · simp only [List.mem_cons, List.mem_nil_iff, or_false] at q
      rcases q with rfl | rfl | rfl
      · exact hlnk
      · exact hsta
      · exact hw.2.1
    · exact (List.mem_cons.mp q).elim (fun e => by rw [e]; exact hw.1) id
  have cb := vx_cwSW (R := R) (own := own) (index := idx) (rm := RM lv (hc h' - hc h) (hs h' - hs h)) n hts hsub rfl rfl rfl hw.2.2.1 (rm_ok hlv hlv1 hlv2 hw.2.2.2)
  exact vx_runSX (As := as.map (cv ad)) ⟨hx, hb, hml, hown, hts⟩ (g2 l D cy base ad hstk) cb ⟨PcF.blind, PcF_go henv w2 w1 (fun v hv => w5 v (List.mem_append_left _ (List.mem_reverse.mpr hv))) rfl⟩ rfl (by rw [List.length_map]; exact hn) w4.1
    (by rw [List.map_append, List.map_reverse]) (lv_room (m := m) (pc := pc) (ls := ls) (rest := []) (by rw [cat_sum]; exact hcat)) d ⟨by omega, by omega⟩
