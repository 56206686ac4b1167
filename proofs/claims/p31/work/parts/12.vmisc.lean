/-! calls as the walks use them -/
abbrev KX (K : CT) (pc : Nat) (L : List (Nat × MV)) (rest : List MV) (kx : Nat → MH → Res) : Prop := ∀ x h1, VX K pc L rest h1 x (kx x h1)
theorem V_cS {K : CT} {cc : ByteArray} {own : String} {ret : Option FieldType} {hh : List (Nat × Nat × Nat × Nat)} {lvl md : Nat} (F : Fr K cc own ret hh lvl md) {pc : Nat} {L : List (Nat × MV)} {h : MH} {st0 as rest : List MV} {res : Res} {k : Option MV → MH → Res} {kx : Nat → MH → Res} {y : MethodName} {b : ByteArray} {maxL lv n idx : Nat} {rt : Option FieldType} (hC : CtrX y (WSm y b maxL rt) lv as h res) (hw : CWm y b maxL rt n) (hsta : Cond.static y ∈ GW) (hlnk : Cond.methodLink own idx y ∈ GW) (hlv : lv < lvl) (hst0 : st0 = as.reverse ++ rest) (hn : as.length = n) (hcat : (rest.map mcat).sum ≤ 8) (d : decode cc pc = .ok (.invokestatic idx, 3))
    (kk : ∀ v h1, V K (pc + 3) L (v.toList ++ rest) h1 (k v h1)) (nx : KX K pc L rest kx) : V K pc L st0 h (calG res k kx) :=
  V_calG (run_S F hC hw hsta hlnk hlv hst0 hn hcat d) (by subst hst0; exact fun v hv => List.mem_append_right _ hv) kk (fun x h1 _ => nx x h1)
theorem V_cSM {K : CT} {cc : ByteArray} {own : String} {ret : Option FieldType} {hh : List (Nat × Nat × Nat × Nat)} {lvl md : Nat} (F : Fr K cc own ret hh lvl md) {pc : Nat} {L : List (Nat × MV)} {h : MH} {st0 as rest : List MV} {res : Res} {k : Option MV → MH → Res} {kx : Nat → MH → Res} {y : MethodName} {b : ByteArray} {maxL lv n idx : Nat} {rt : Option FieldType} (hC : CtrM y (WSm y b maxL rt) lv as h res) (hw : CWm y b maxL rt n) (hsta : Cond.static y ∈ GW) (hlnk : Cond.methodLink own idx y ∈ GW) (hlv : lv < lvl) (hst0 : st0 = as.reverse ++ rest) (hn : as.length = n) (hcat : (rest.map mcat).sum ≤ 8) (d : decode cc pc = .ok (.invokestatic idx, 3))
    (kk : ∀ v h1, V K (pc + 3) L (v.toList ++ rest) h1 (k v h1)) : V K pc L st0 h (calG res k kx) :=
  V_calG (run_SM F hC hw hsta hlnk hlv hst0 hn hcat d) (by subst hst0; exact fun v hv => List.mem_append_right _ hv) kk (fun x h1 e => (noX hC x h1 e).elim)
theorem V_cSN {K : CT} {cc : ByteArray} {own : String} {ret : Option FieldType} {hh : List (Nat × Nat × Nat × Nat)} {lvl md : Nat} (F : Fr K cc own ret hh lvl md) {pc : Nat} {L : List (Nat × MV)} {h : MH} {st0 as rest : List MV} {res : Res} {k : Option MV → MH → Res} {kx : Nat → MH → Res} {y : MethodName} {b : ByteArray} {maxL lv n idx : Nat} {rt : Option FieldType} {host : String} (hC : CtrM y (WSm y b maxL rt) lv as h res) (hw : CWm y b maxL rt n) (hsta : Cond.static y ∈ GW) (hlnk : (own, idx, y, host) ∈ NML) (hlv : lv < lvl) (hst0 : st0 = as.reverse ++ rest) (hn : as.length = n) (hcat : (rest.map mcat).sum ≤ 8) (d : decode cc pc = .ok (.invokestatic idx, 3))
    (kk : ∀ v h1, V K (pc + 3) L (v.toList ++ rest) h1 (k v h1)) : V K pc L st0 h (calG res k kx) :=
  V_calG (run_SN F hC hw hsta hlnk hlv hst0 hn hcat d) (by subst hst0; exact fun v hv => List.mem_append_right _ hv) kk (fun x h1 e => (noX hC x h1 e).elim)
theorem V_cSW {K : CT} {cc : ByteArray} {own : String} {ret : Option FieldType} {hh : List (Nat × Nat × Nat × Nat)} {lvl md : Nat} (F : Fr K cc own ret hh lvl md) {pc : Nat} {L : List (Nat × MV)} {h : MH} {st0 as rest : List MV} {res : Res} {k : Option MV → MH → Res} {kx : Nat → MH → Res} {y : MethodName} {b : ByteArray} {maxL lv n idx : Nat} {rt : Option FieldType} {h9 : List (Nat × Nat × Nat × Nat)} (hC : CtrX y (WSw y b maxL rt h9) lv as h res) (hw : CWw y b maxL rt h9 n) (hsta : Cond.static y ∈ GW) (hlnk : Cond.methodLink own idx y ∈ GW) (hlv : lv < lvl) (hst0 : st0 = as.reverse ++ rest) (hn : as.length = n) (hcat : (rest.map mcat).sum ≤ 8) (d : decode cc pc = .ok (.invokestatic idx, 3))
    (kk : ∀ v h1, V K (pc + 3) L (v.toList ++ rest) h1 (k v h1)) (nx : KX K pc L rest kx) : V K pc L st0 h (calG res k kx) :=
  V_calG (run_SW F hC hw hsta hlnk hlv hst0 hn hcat d) (by subst hst0; exact fun v hv => List.mem_append_right _ hv) kk (fun x h1 _ => nx x h1)
theorem V_cV {K : CT} {cc : ByteArray} {own : String} {ret : Option FieldType} {hh : List (Nat × Nat × Nat × Nat)} {lvl md : Nat} (F : Fr K cc own ret hh lvl md) {pc : Nat} {L : List (Nat × MV)} {h : MH} {st0 as rest : List MV} {res : Res} {k : Option MV → MH → Res} {kx : Nat → MH → Res} {y : MethodName} {b : ByteArray} {maxL lv n idx : Nat} {r : Option Nat} {rt : Option FieldType} (ci : Nat) (hci : ci < 9) (hC : CtrX y (WSm y b maxL rt) lv (vR r :: as) h res) (hw : CWm y b maxL rt n) (hin : Cond.instanceMethod y ∈ GW) (hsel : Cond.selects (RN ci) y y ∈ GW) (hlnk : Cond.methodLink own idx y ∈ GW) (hlv : lv < lvl) (hst0 : st0 = as.reverse ++ vR r :: rest) (hn : as.length = n) (hcat : (rest.map mcat).sum ≤ 8) (d : decode cc pc = .ok (.invokevirtual idx, 3))
    (kk : ∀ v h1, V K (pc + 3) L (v.toList ++ rest) h1 (k v h1)) (nx : KX K pc L rest kx) : V K pc L st0 h (chk h r ci (calG res k kx)) := by
  refine V_chk fun a ea hka => ?_
  subst ea
  exact V_calG (run_V F ci hci hka hC hw hin hsel hlnk hlv hst0 hn hcat d) (by subst hst0; exact fun v hv => List.mem_append_right _ (List.mem_cons_of_mem _ hv)) kk (fun x h1 _ => nx x h1)
theorem V_cVM {K : CT} {cc : ByteArray} {own : String} {ret : Option FieldType} {hh : List (Nat × Nat × Nat × Nat)} {lvl md : Nat} (F : Fr K cc own ret hh lvl md) {pc : Nat} {L : List (Nat × MV)} {h : MH} {st0 as rest : List MV} {res : Res} {k : Option MV → MH → Res} {kx : Nat → MH → Res} {y : MethodName} {b : ByteArray} {maxL lv n idx : Nat} {r : Option Nat} {rt : Option FieldType} (ci : Nat) (hci : ci < 9) (hC : CtrM y (WSm y b maxL rt) lv (vR r :: as) h res) (hw : CWm y b maxL rt n) (hin : Cond.instanceMethod y ∈ GW) (hsel : Cond.selects (RN ci) y y ∈ GW) (hlnk : Cond.methodLink own idx y ∈ GW) (hlv : lv < lvl) (hst0 : st0 = as.reverse ++ vR r :: rest) (hn : as.length = n) (hcat : (rest.map mcat).sum ≤ 8) (d : decode cc pc = .ok (.invokevirtual idx, 3))
    (kk : ∀ v h1, V K (pc + 3) L (v.toList ++ rest) h1 (k v h1)) : V K pc L st0 h (chk h r ci (calG res k kx)) := by
  refine V_chk fun a ea hka => ?_
  subst ea
  exact V_calG (run_VM F ci hci hka hC hw hin hsel hlnk hlv hst0 hn hcat d) (by subst hst0; exact fun v hv => List.mem_append_right _ (List.mem_cons_of_mem _ hv)) kk (fun x h1 e => (noX hC x h1 e).elim)
theorem V_cI {K : CT} {cc : ByteArray} {own : String} {ret : Option FieldType} {hh : List (Nat × Nat × Nat × Nat)} {lvl md : Nat} (F : Fr K cc own ret hh lvl md) {pc : Nat} {L : List (Nat × MV)} {h : MH} {st0 as rest : List MV} {res : Res} {k : Option MV → MH → Res} {kx : Nat → MH → Res} {y : MethodName} {b : ByteArray} {maxL lv n idx : Nat} {r : Option Nat} (hC : CtrM y (WSm y b maxL none) lv (vR r :: as) h res) (hy : y.name = "<init>") (hw : CWm y b maxL none n) (hin : Cond.instanceMethod y ∈ GW) (hlnk : Cond.methodLink own idx y ∈ GW) (hlv : lv < lvl) (hst0 : st0 = as.reverse ++ vR r :: rest) (hn : as.length = n) (hcat : (rest.map mcat).sum ≤ 8) (d : decode cc pc = .ok (.invokespecial idx, 3))
    (kk : ∀ v h1, V K (pc + 3) L (v.toList ++ rest) h1 (k v h1)) : V K pc L st0 h (nnl r (calG res k kx)) := by
  refine V_nnl fun a ea => ?_
  subst ea
  exact V_calG (run_I F hC hy hw hin hlnk hlv hst0 hn hcat d) (by subst hst0; exact fun v hv => List.mem_append_right _ (List.mem_cons_of_mem _ hv)) kk (fun x h1 e => (noX hC x h1 e).elim)
theorem V_cIN {K : CT} {cc : ByteArray} {own : String} {ret : Option FieldType} {hh : List (Nat × Nat × Nat × Nat)} {lvl md : Nat} (F : Fr K cc own ret hh lvl md) {pc : Nat} {L : List (Nat × MV)} {h : MH} {st0 as rest : List MV} {res : Res} {k : Option MV → MH → Res} {kx : Nat → MH → Res} {y : MethodName} {b : ByteArray} {maxL lv n idx : Nat} {r : Option Nat} {host : String} (hC : CtrM y (WSm y b maxL none) lv (vR r :: as) h res) (hy : y.name = "<init>") (hw : CWm y b maxL none n) (hin : Cond.instanceMethod y ∈ GW) (hlnk : (own, idx, y, host) ∈ NML) (hlv : lv < lvl) (hst0 : st0 = as.reverse ++ vR r :: rest) (hn : as.length = n) (hcat : (rest.map mcat).sum ≤ 8) (d : decode cc pc = .ok (.invokespecial idx, 3))
    (kk : ∀ v h1, V K (pc + 3) L (v.toList ++ rest) h1 (k v h1)) : V K pc L st0 h (nnl r (calG res k kx)) := by
  refine V_nnl fun a ea => ?_
  subst ea
  exact V_calG (run_IN F hC hy hw hin hlnk hlv hst0 hn hcat d) (by subst hst0; exact fun v hv => List.mem_append_right _ (List.mem_cons_of_mem _ hv)) kk (fun x h1 e => (noX hC x h1 e).elim)
theorem V_obj {K : CT} {cc : ByteArray} {own : String} {ret : Option FieldType} {hh : List (Nat × Nat × Nat × Nat)} {lvl md : Nat} (F : Fr K cc own ret hh lvl md) {pc : Nat} {L : List (Nat × MV)} {st : List MV} {h : MH} {r : Option Nat} {k : Res} {idx : Nat} (hl1 : 1 ≤ lvl) (hlnk : Cond.methodLink own idx objectInit ∈ GW) (hin : Cond.instanceMethod objectInit ∈ GW) (hcod : Cond.code objectInit ⟨#[0xb1]⟩ 1 none ∈ GW) (hcat : (st.map mcat).sum ≤ 8) (d : decode cc pc = .ok (.invokespecial idx, 3)) (n : V K (pc + 3) L st h k) : V K pc L (vR r :: st) h (nnl r k) := by
  refine V_nnl fun a ea => ?_
  subst ea
  refine V_step (fun n h1 h2 => ⟨ok_pop h1, h2⟩) ?_ n
  rcases K with ⟨md1, nL, nm, _ | ⟨p, l, e, R, s, m, args, below, meth, c, D, cy, base, ad0, n0, mc, ms⟩⟩
  · exact True.intro
  obtain ⟨hmd, hx, hb, hml, hown, hts, hlk, henv, hmc, hms, hstk, hret, htab, hlv1, hlv2, hnm⟩ := F
  intro ad H locs cells slots ls Q hl kk
  refine W.objInit hx hb hown (hts _ hlnk) (hts _ hin) (hts _ hcod) rfl (by rw [hml]; exact hl.1) rfl d (by omega) ?_ (kk ls hl)
  have h0 : (F0 m pc ls ((vR (some a) :: st).map (cv ad))).monitorRoom = 0 := rfl
  have hcat2 : ((st.map (cv ad)).map fun v => v.category).sum ≤ 8 := by rw [cat_sum]; exact hcat
  omega
def cpI (h : MH) (r0 : Option Nat) (sp : Int32) (r1 : Option Nat) (dp n : Int32) (k : MH → Res) : Res := match r0 with
  | none => none
  | some a0 => match r1 with
    | none => none
    | some a1 => if (hk h a0 = 20 ∧ hk h a1 = 20) ∧ (0 ≤ sp ∧ 0 ≤ dp ∧ 0 ≤ n) ∧ sp.toNatClampNeg + n.toNatClampNeg ≤ hl h a0 ∧ dp.toNatClampNeg + n.toNatClampNeg ≤ hl h a1 then k (sIr h a1 (va_cpy (hi h a0) (hi h a1) sp.toNatClampNeg dp.toNatClampNeg n.toNatClampNeg)) else none
theorem V_cpI {K : CT} {cc : ByteArray} {own : String} {ret : Option FieldType} {hh : List (Nat × Nat × Nat × Nat)} {lvl md : Nat} (F : Fr K cc own ret hh lvl md) {pc : Nat} {L : List (Nat × MV)} {st : List MV} {h : MH} {r0 r1 : Option Nat} {sp dp n : Int32} {res : MH → Res} {idx : Nat} (hl1 : 1 ≤ lvl) (hlnk : Cond.methodLink own idx arraycopyName ∈ GW) (hnat : Cond.native arraycopyName ∈ GW) (hsta : Cond.static arraycopyName ∈ GW) (hini : Cond.initialized "java/lang/System" ∈ GW) (hcat : (st.map mcat).sum ≤ 8) (d : decode cc pc = .ok (.invokestatic idx, 3)) (kk : ∀ h', V K (pc + 3) L st h' (res h')) : V K pc L (vI n :: vI dp :: vR r1 :: vI sp :: vR r0 :: st) h (cpI h r0 sp r1 dp n res) := by
  cases r0 with
  | none => exact V_none
  | some a0 =>
    cases r1 with
    | none => exact V_none
    | some a1 =>
      unfold cpI
      dsimp only
      by_cases q : (hk h a0 = 20 ∧ hk h a1 = 20) ∧ (0 ≤ sp ∧ 0 ≤ dp ∧ 0 ≤ n) ∧ sp.toNatClampNeg + n.toNatClampNeg ≤ hl h a0 ∧ dp.toNatClampNeg + n.toNatClampNeg ≤ hl h a1
      · rw [if_pos q]
        obtain ⟨⟨q1, q2⟩, ⟨q3, q4, q5⟩, q6, q7⟩ := q
        intro r h' e9
        obtain ⟨a9, b9⟩ := kk _ r h' e9
        refine ⟨a9, ?_⟩
        rcases K with ⟨md1, nL, nm, _ | ⟨p, l, e, R, s, m, args, below, meth, c, D, cy, base, ad0, n0, mc, ms⟩⟩
        · exact True.intro
        obtain ⟨hmd, hx, hb, hml, hown, hts, hlk, henv, hmc, hms, hstk, hret, htab, hlv1, hlv2, hnm⟩ := F
        intro ad H locs cells slots ls w1 w2 w3 w4 w5 w6 w7
        obtain ⟨z0, hz0, rfl⟩ := w1.low q1 (by omega)
        obtain ⟨z1, hz1, rfl⟩ := w1.low q2 (by omega)
        have he0 := wsO_at (cy := cy) (ad := ad) hz0
        rw [clO_int q1 (by omega) (by omega)] at he0
        have he1 := wsO_at (cy := cy) (ad := ad) hz1
        rw [clO_int q2 (by omega) (by omega)] at he1
        obtain ⟨t0, ht0⟩ := TYL_at (cy := cy) (k := 20) (by decide)
        have hcat2 : ((st.map (cv ad)).map fun v => v.category).sum ≤ 8 := by rw [cat_sum]; exact hcat
        have hnf : nativeFrameWords "java/lang/System" "arraycopy" 5 = 7 := by decide
        exact va_copyi hx hb (hml.trans w4.1.symm) hown (hts _ hlnk) (hts _ hnat) (hts _ hsta) (hts _ hini) henv.1 w1.1 w1.2.1 w2 z0 z1 t0 t0 he0 he1 ht0 ht0 rfl (Int32.not_lt.mpr q3) (Int32.not_lt.mpr q4) (Int32.not_lt.mpr q5) q6 q7 (fun _ _ => rfl) (by omega) (by rw [hnf]; omega) d
          (fun H1 locs1 hP hD hS => b9 ad H1 locs1 cells slots ls (w1.sIa hz1 q2 (by omega) (by omega) hP hD rfl) hS w3 w4 (ok_pop (ok_pop (ok_pop (ok_pop (ok_pop w5))))) w6 w7)
      · rw [if_neg q]; exact V_none
def okr (h : MH) (r : Option Nat) : Bool := match r with
  | none => true
  | some a => decide (hk h a < 40)
def acq (h : MH) (x y : Option Nat) (A B : Res) : Res := if okr h x = true ∧ okr h y = true then (if x = y then A else B) else none
theorem ad_inj {D : va_G} {cy : Nat → ClassId} {base : Nat} {ad : Nat → Nat} {h : MH} {H : Heap} (w : Wld D cy base ad h H) {x y : Option Nat} (hx : okr h x = true) (hy : okr h y = true) (e : x.map ad = y.map ad) : x = y := by
  cases x with
  | none =>
    cases y with
    | none => rfl
    | some b => cases e
  | some a =>
    cases y with
    | none => cases e
    | some b =>
      have e1 : ad a = ad b := Option.some.inj e
      have h1 : hk h a < 40 := of_decide_eq_true hx
      have h2 : hk h b < 40 := of_decide_eq_true hy
      obtain ⟨p, hp, rfl⟩ := w.inb h1
      obtain ⟨q, hq, rfl⟩ := w.inb h2
      have := w.2.1.1 p q _ _ (wsO_at hp) (wsO_at hq) e1
      rw [this]
theorem V_acq {K : CT} {cc : ByteArray} {own : String} {ret : Option FieldType} {hh : List (Nat × Nat × Nat × Nat)} {lvl md : Nat} (F : Fr K cc own ret hh lvl md) {pc : Nat} {L : List (Nat × MV)} {st : List MV} {h : MH} {x y : Option Nat} {A B : Res} {off : Int} (tgt : Nat) (d : decode cc pc = .ok (.if_acmp .eq off, 3)) (ht : (pc : Int) + off = (tgt : Int)) (kt : V K tgt L st h A) (kf : V K (pc + 3) L st h B) : V K pc L (vR y :: vR x :: st) h (acq h x y A B) := by
  unfold acq
  by_cases q : okr h x = true ∧ okr h y = true
  · rw [if_pos q]
    by_cases exy : x = y
    · rw [if_pos exy]
      intro r h' e9
      obtain ⟨a9, b9⟩ := kt r h' e9
      refine ⟨a9, ?_⟩
      rcases K with ⟨md1, nL, nm, _ | ⟨p, l, e, R, s, m, args, below, meth, c, D, cy, base, ad0, n0, mc, ms⟩⟩
      · exact True.intro
      obtain ⟨hmd, hx, hb, hml, hown, hts, hlk, henv, hmc, hms, hstk, hret, htab, hlv1, hlv2, hnm⟩ := F
      intro ad H locs cells slots ls w1 w2 w3 w4 w5 w6 w7
      exact lv_acmp_eq (rx := x.map ad) (ry := y.map ad) hx hb d ht (fun _ => b9 ad H locs cells slots ls w1 w2 w3 w4 (ok_pop (ok_pop w5)) w6 w7) (fun z => absurd (by rw [exy]) z)
    · rw [if_neg exy]
      intro r h' e9
      obtain ⟨a9, b9⟩ := kf r h' e9
      refine ⟨a9, ?_⟩
      rcases K with ⟨md1, nL, nm, _ | ⟨p, l, e, R, s, m, args, below, meth, c, D, cy, base, ad0, n0, mc, ms⟩⟩
      · exact True.intro
      obtain ⟨hmd, hx, hb, hml, hown, hts, hlk, henv, hmc, hms, hstk, hret, htab, hlv1, hlv2, hnm⟩ := F
      intro ad H locs cells slots ls w1 w2 w3 w4 w5 w6 w7
      exact lv_acmp_eq (rx := x.map ad) (ry := y.map ad) hx hb d ht (fun z => absurd (ad_inj w1 q.1 q.2 z) exy) (fun _ => b9 ad H locs cells slots ls w1 w2 w3 w4 (ok_pop (ok_pop w5)) w6 w7)
  · rw [if_neg q]; exact V_none
theorem V_mmin {K : CT} {cc : ByteArray} {own : String} {ret : Option FieldType} {hh : List (Nat × Nat × Nat × Nat)} {lvl md : Nat} (F : Fr K cc own ret hh lvl md) {pc : Nat} {L : List (Nat × MV)} {st : List MV} {h : MH} {x y : Int32} {res : Int32 → Res} {idx : Nat} (hl1 : 1 ≤ lvl) (hlnk : Cond.methodLink own idx Lib.Math.min.name ∈ GW) (hsta : Cond.static Lib.Math.min.name ∈ GW) (hini : Cond.initialized "java/lang/Math" ∈ GW) (hcod : Cond.code Lib.Math.min.name Lib.Math.min.code 2 (some .int) ∈ GW) (hcat : (st.map mcat).sum ≤ 8) (d : decode cc pc = .ok (.invokestatic idx, 3)) (n : ∀ z, V K (pc + 3) L (vI z :: st) h (res z)) : V K pc L (vI y :: vI x :: st) h (bnd (if y < x then y else x) res) := by
  intro r h' e9
  obtain ⟨a1, b1⟩ := n _ r h' e9
  refine ⟨a1, ?_⟩
  rcases K with ⟨md1, nL, nm, _ | ⟨p, l, e, R, s, m, args, below, meth, c, D, cy, base, ad0, n0, mc, ms⟩⟩
  · exact True.intro
  obtain ⟨hmd, hx, hb, hml, hown, hts, hlk, henv, hmc, hms, hstk, hret, htab, hlv1, hlv2, hnm⟩ := F
  intro ad H locs cells slots ls w1 w2 w3 w4 w5 w6 w7
  have hcat2 : ((st.map (cv ad)).map fun v => v.category).sum ≤ 8 := by rw [cat_sum]; exact hcat
  exact va_mmin hx hb (hml.trans w4.1.symm) hown (hts _ hlnk) (hts _ hsta) (hts _ hini) (hts _ hcod) (by omega) (by omega) (by omega) (by omega) d (b1 ad H locs cells slots ls w1 w2 w3 w4 (ok_psh okv_I (ok_pop (ok_pop w5))) w6 w7)
theorem V_mmax {K : CT} {cc : ByteArray} {own : String} {ret : Option FieldType} {hh : List (Nat × Nat × Nat × Nat)} {lvl md : Nat} (F : Fr K cc own ret hh lvl md) {pc : Nat} {L : List (Nat × MV)} {st : List MV} {h : MH} {x y : Int32} {res : Int32 → Res} {idx : Nat} (hl1 : 1 ≤ lvl) (hlnk : Cond.methodLink own idx Lib.Math.max.name ∈ GW) (hsta : Cond.static Lib.Math.max.name ∈ GW) (hini : Cond.initialized "java/lang/Math" ∈ GW) (hcod : Cond.code Lib.Math.max.name Lib.Math.max.code 2 (some .int) ∈ GW) (hcat : (st.map mcat).sum ≤ 8) (d : decode cc pc = .ok (.invokestatic idx, 3)) (n : ∀ z, V K (pc + 3) L (vI z :: st) h (res z)) : V K pc L (vI y :: vI x :: st) h (bnd (if x < y then y else x) res) := by
  intro r h' e9
  obtain ⟨a1, b1⟩ := n _ r h' e9
  refine ⟨a1, ?_⟩
  rcases K with ⟨md1, nL, nm, _ | ⟨p, l, e, R, s, m, args, below, meth, c, D, cy, base, ad0, n0, mc, ms⟩⟩
  · exact True.intro
  obtain ⟨hmd, hx, hb, hml, hown, hts, hlk, henv, hmc, hms, hstk, hret, htab, hlv1, hlv2, hnm⟩ := F
  intro ad H locs cells slots ls w1 w2 w3 w4 w5 w6 w7
  have hcat2 : ((st.map (cv ad)).map fun v => v.category).sum ≤ 8 := by rw [cat_sum]; exact hcat
  exact va_mmax hx hb (hml.trans w4.1.symm) hown (hts _ hlnk) (hts _ hsta) (hts _ hini) (hts _ hcod) (by omega) (by omega) (by omega) (by omega) d (b1 ad H locs cells slots ls w1 w2 w3 w4 (ok_psh okv_I (ok_pop (ok_pop w5))) w6 w7)
theorem V_mabs {K : CT} {cc : ByteArray} {own : String} {ret : Option FieldType} {hh : List (Nat × Nat × Nat × Nat)} {lvl md : Nat} (F : Fr K cc own ret hh lvl md) {pc : Nat} {L : List (Nat × MV)} {st : List MV} {h : MH} {x : Int32} {res : Int32 → Res} {idx : Nat} (hl1 : 1 ≤ lvl) (hlnk : Cond.methodLink own idx Lib.Math.abs.name ∈ GW) (hsta : Cond.static Lib.Math.abs.name ∈ GW) (hini : Cond.initialized "java/lang/Math" ∈ GW) (hcod : Cond.code Lib.Math.abs.name Lib.Math.abs.code 1 (some .int) ∈ GW) (hcat : (st.map mcat).sum ≤ 8) (d : decode cc pc = .ok (.invokestatic idx, 3)) (n : ∀ z, V K (pc + 3) L (vI z :: st) h (res z)) : V K pc L (vI x :: st) h (bnd (if 0 ≤ x then x else 0 - x) res) := by
  intro r h' e9
  obtain ⟨a1, b1⟩ := n _ r h' e9
  refine ⟨a1, ?_⟩
  rcases K with ⟨md1, nL, nm, _ | ⟨p, l, e, R, s, m, args, below, meth, c, D, cy, base, ad0, n0, mc, ms⟩⟩
  · exact True.intro
  obtain ⟨hmd, hx, hb, hml, hown, hts, hlk, henv, hmc, hms, hstk, hret, htab, hlv1, hlv2, hnm⟩ := F
  intro ad H locs cells slots ls w1 w2 w3 w4 w5 w6 w7
  have hcat2 : ((st.map (cv ad)).map fun v => v.category).sum ≤ 8 := by rw [cat_sum]; exact hcat
  exact va_mabs hx hb (hml.trans w4.1.symm) hown (hts _ hlnk) (hts _ hsta) (hts _ hini) (hts _ hcod) (by omega) (by omega) (by omega) (by omega) d (b1 ad H locs cells slots ls w1 w2 w3 w4 (ok_psh okv_I (ok_pop w5)) w6 w7)
/-! the law itself -/
/-- the script lies where address 0 leads -/
def XS (K : CT) (Ls : Nat) (xs : Nat → Int32) : Prop := match K.2.2.2 with
  | none => True
  | some (_, _, _, _, s, _, _, _, _, _, _, _, base, ad0, n0, _, _) => va_X (ad0 0) Ls xs s s.heap ∧ ad0 0 < base ∧ base ≤ s.heap.size ∧ 1 ≤ n0
def XL (K : CT) (Ls : Nat) (xs : Nat → Int32) : Prop := XS K Ls xs ∧ match K.2.2.2 with
  | none => True
  | some (_, _, _, R, s, _, args, _, _, _, _, _, base, ad0, _, mc, ms) => base = s.heap.size ∧ R = room_1 ∧ mc = 601788 ∧ ms = 7296259 ∧ args = #[Value.ref (ad0 0)]
def sld (Ls : Nat) (xs : Nat → Int32) (i : Int32) (k : Int32 → Res) : Res := if 0 ≤ i ∧ i.toNatClampNeg < Ls then k (xs i.toNatClampNeg) else none
theorem V_sld {K : CT} {cc : ByteArray} {own : String} {ret : Option FieldType} {hh : List (Nat × Nat × Nat × Nat)} {lvl md : Nat} (F : Fr K cc own ret hh lvl md) {pc : Nat} {L : List (Nat × MV)} {st : List MV} {h : MH} {Ls : Nat} {xs : Nat → Int32} (XF : XS K Ls xs) {i : Int32} {res : Int32 → Res} (d : decode cc pc = .ok (.iaload, 1)) (n : ∀ z, V K (pc + 1) L (vI z :: st) h (res z)) : V K pc L (vI i :: vR (some 0) :: st) h (sld Ls xs i res) := by
  unfold sld
  by_cases q : 0 ≤ i ∧ i.toNatClampNeg < Ls
  · rw [if_pos q]
    obtain ⟨q2, q3⟩ := q
    intro r h' e9
    obtain ⟨a1, b1⟩ := n _ r h' e9
    refine ⟨a1, ?_⟩
    rcases K with ⟨md1, nL, nm, _ | ⟨p, l, e, R, s, m, args, below, meth, c, D, cy, base, ad0, n0, mc, ms⟩⟩
    · exact True.intro
    obtain ⟨hmd, hx, hb, hml, hown, hts, hlk, henv, hmc, hms, hstk, hret, htab, hlv1, hlv2, hnm⟩ := F
    obtain ⟨x1, x2, x3, x4⟩ := XF
    intro ad H locs cells slots ls w1 w2 w3 w4 w5 w6 w7
    have e0 : ad 0 = ad0 0 := w3.1 0 (by omega)
    have k9 := va_sld hx hb (A := bA base) x1 (by omega) (by show ¬ base ≤ ad0 0; omega) w2 (vpin q2 q3) d (b1 ad H locs cells slots ls w1 w2 w3 w4 (ok_psh okv_I (ok_pop (ok_pop w5))) w6 w7)
    rw [← e0] at k9
    exact k9
  · rw [if_neg q]; exact V_none
theorem V_slen {K : CT} {cc : ByteArray} {own : String} {ret : Option FieldType} {hh : List (Nat × Nat × Nat × Nat)} {lvl md : Nat} (F : Fr K cc own ret hh lvl md) {pc : Nat} {L : List (Nat × MV)} {st : List MV} {h : MH} {Ls : Nat} {xs : Nat → Int32} (XF : XS K Ls xs) {res : Int32 → Res} (d : decode cc pc = .ok (.arraylength, 1)) (n : ∀ z, V K (pc + 1) L (vI z :: st) h (res z)) : V K pc L (vR (some 0) :: st) h (bnd (Int32.ofNat Ls) res) := by
  intro r h' e9
  obtain ⟨a1, b1⟩ := n _ r h' e9
  refine ⟨a1, ?_⟩
  rcases K with ⟨md1, nL, nm, _ | ⟨p, l, e, R, s, m, args, below, meth, c, D, cy, base, ad0, n0, mc, ms⟩⟩
  · exact True.intro
  obtain ⟨hmd, hx, hb, hml, hown, hts, hlk, henv, hmc, hms, hstk, hret, htab, hlv1, hlv2, hnm⟩ := F
  obtain ⟨x1, x2, x3, x4⟩ := XF
  intro ad H locs cells slots ls w1 w2 w3 w4 w5 w6 w7
  have e0 : ad 0 = ad0 0 := w3.1 0 (by omega)
  have k9 := va_slen hx hb (A := bA base) x1 (by omega) (by show ¬ base ≤ ad0 0; omega) w2 d (b1 ad H locs cells slots ls w1 w2 w3 w4 (ok_psh okv_I (ok_pop w5)) w6 w7)
  rw [← e0] at k9
  exact k9
def rtL (x : Int32) (h : MH) : Res := if x = 1 then some (.inl (some (vI x)), h) else none
theorem V_lawret {K : CT} {own : String} {hh : List (Nat × Nat × Nat × Nat)} {lvl : Nat} (F : Fr K code own Jvm.Pilot.CGyreWatchLaw_law_r6608_32e876.ret hh lvl 2) {Ls : Nat} {xs : Nat → Int32} (XF : XL K Ls xs) {pc : Nat} {L : List (Nat × MV)} {h : MH} {x : Int32} (d : decode code pc = .ok (.ireturn, 1)) : V K pc L [vI x] h (rtL x h) := by
  unfold rtL
  by_cases q : x = 1
  · rw [if_pos q]
    have hm1 : K.1 = 2 := F.1
    intro r h' e9
    cases e9
    refine ⟨⟨Hle.rf, fun z => by omega⟩, ?_⟩
    rcases K with ⟨md1, nL, nm, _ | ⟨p, l, e, R, s, m, args, below, meth, c, D, cy, base, ad0, n0, mc, ms⟩⟩
    · exact True.intro
    obtain ⟨hmd, hx, hb, hml, hown, hts, hlk, henv, hmc, hms, hstk, hret, htab, hlv1, hlv2, hnm⟩ := F
    obtain ⟨-, x3, rfl, rfl, rfl, rfl⟩ := XF
    have hm2 : md1 = 2 := hm1
    subst hm2
    subst q
    intro ad H locs cells slots ls w1 w2 w3 w4 w5 w6 w7
    refine va_forget (fun q hq => by have := w2.2.2 q hq; rw [← x3]; exact this) ?_
    refine W.widen (k := 601788) (n := 7296259) (by omega) (by omega) ?_
    exact lw_ret hx hb hret hlk d
  · rw [if_neg q]; exact V_none
/-! a call that is given the script -/
def PcS (D : va_G) (cy : Nat → ClassId) (base : Nat) (ad0 : Nat → Nat) (vs : List MV) (h : MH) (Ls : Nat) (xs : Nat → Int32) : Array Value → State → Prop := fun a U => PcF D cy base ad0 vs h a U ∧ va_X (ad0 0) Ls xs U U.heap ∧ ad0 0 < base
theorem PcS.blind {D : va_G} {cy : Nat → ClassId} {base : Nat} {ad0 : Nat → Nat} {vs : List MV} {h : MH} {Ls : Nat} {xs : Nat → Int32} : FrameBlind (PcS D cy base ad0 vs h Ls xs) :=
  fun a U g mk q => ⟨PcF.blind a U g mk q.1, va_X.moved (u := U) (U := U.calling g mk a) (State.WarmedH.refl U).alike q.2.1, q.2.2⟩
def CtrS (y : MethodName) (ws : List Cond) (lvl : Nat) (vs : List MV) (h : MH) (Ls : Nat) (xs : Nat → Int32) (res : Res) : Prop :=
  ∀ (r : MR) (h' : MH), res = some (r, h') → Hle h h' ∧ (∃ v, r = .inl v) ∧ ∀ (l : Launch) (D : va_G) (cy : Nat → ClassId) (base : Nat) (ad0 : Nat → Nat), l.stackTraces = false →
    Met l y ws (RM lvl (hc h' - hc h) (hs h' - hs h)) (PcS D cy base ad0 vs h Ls xs) (QcF D cy base ad0 (hn h + 1) r h') (hc h' - hc h) (hs h' - hs h) (bA base)
theorem CtrS_of {y : MethodName} {b : ByteArray} {maxL lvl : Nat} {rt : Option FieldType} {vs : List MV} {h : MH} {Ls : Nat} {xs : Nat → Int32} {res : Res} (hy : plainName y.cls = true) (hlen : (vs.map mcat).sum ≤ maxL)
    (body : ∀ K : CT, Fr K b y.cls rt [] lvl 0 → mxL K = maxL → nmK K y.name → XS K Ls xs → V K 0 (margs 0 vs) [] h res) : CtrS y (WSm y b maxL rt) lvl vs h Ls xs res := by
  intro r h' e9
  have gk := (body (0, maxL, y.name, none) ⟨rfl, True.intro⟩ rfl rfl True.intro r h' e9).1
  refine ⟨gk.1, gk.2 rfl, fun l D cy base ad0 hstk => ?_⟩
  refine Met.ofW (cc := b) (maxL := maxL) (ret := rt) hy rfl ?_
  intro p e s m args below meth c s₁ B hml hv
  obtain ⟨⟨rfl, henv, w1, hok⟩, x1, x2⟩ := hv
  have hts := atoms_spec (ws := WSm y b maxL rt) B.pre
  exact entry_V hlen (body (0, maxL, y.name, some (p, l, e, (headSpec (WSm y b maxL rt) (RM lvl (hc h' - hc h) (hs h' - hs h))).room, s, m, _, below, meth, c, D, cy, base, ad0, hn h + 1, hc h' - hc h, hs h' - hs h))
    ⟨rfl, B.exec, B.bytes, hml, findClass_of_methodNamed B.named, fun w hw => hts w (List.mem_cons_of_mem _ hw), B.notSynchronized, henv, Nat.le_refl _, Nat.le_refl _, hstk, B.returns, (fun q => by omega), Nat.le_refl _, Nat.le_refl _, (name_of_methodNamed B.named B.method).1⟩ rfl rfl ⟨x1, x2, henv.2.2.2.2.2.2.2.2, Nat.succ_le_succ (Nat.zero_le _)⟩) e9 w1 hok (Nat.le_refl _) (Nat.le_refl _)
theorem noXS {y : MethodName} {ws : List Cond} {lv : Nat} {vs : List MV} {h : MH} {Ls : Nat} {xs : Nat → Int32} {res : Res} (hC : CtrS y ws lv vs h Ls xs res) : ∀ x h1, res = some (.inr x, h1) → False := by
  intro x h1 e
  obtain ⟨-, ⟨v, ev⟩, -⟩ := hC _ _ e
  cases ev
theorem run_SS {K : CT} {cc : ByteArray} {own : String} {ret : Option FieldType} {hh : List (Nat × Nat × Nat × Nat)} {lvl md : Nat} (F : Fr K cc own ret hh lvl md) {pc : Nat} {L : List (Nat × MV)} {h : MH} {Ls : Nat} {xs : Nat → Int32} (XF : XS K Ls xs) {st0 as rest : List MV} {res : Res} {y : MethodName} {b : ByteArray} {maxL lv n idx : Nat} {rt : Option FieldType} (hC : CtrS y (WSm y b maxL rt) lv as h Ls xs res) (hw : CWm y b maxL rt n) (hsta : Cond.static y ∈ GW) (hlnk : Cond.methodLink own idx y ∈ GW) (hlv : lv < lvl) (hst0 : st0 = as.reverse ++ rest) (hn : as.length = n) (hcat : (rest.map mcat).sum ≤ 8) (d : decode cc pc = .ok (.invokestatic idx, 3)) : RunX K pc L st0 rest h res := by
  subst hst0
  intro r h' e9
  obtain ⟨g1, -, g2⟩ := hC r h' e9
  refine ⟨g1, ?_⟩
  rcases K with ⟨md1, nL, nm, _ | ⟨p, l, e, R, s, m, args, below, meth, c, D, cy, base, ad0, n0, mc, ms⟩⟩
  · exact True.intro
  obtain ⟨hmd, hx, hb, hml, hown, hts, hlk, henv, hmc, hms, hstk, hret, htab, hlv1, hlv2, hnm⟩ := F
  obtain ⟨x1, x2, x3, x4⟩ := XF
  intro ad H locs cells slots ls w1 w2 w3 w4 w5 w7
  have e0 : ad 0 = ad0 0 := w3.1 0 (by omega)
  refine run_of_va ?_
  have cb := callB_of (R := R) (own := own) (index := idx) (rm := RM lv (hc h' - hc h) (hs h' - hs h)) n hts (GWm hw.1) rfl rfl rfl (hts _ hw.2.1) (hts _ hlnk) hw.2.2.1 (rm_ok hlv hlv1 hlv2 hw.2.2.2)
  have pcs : ∀ U : State, U.heap = H → s.WarmedH U.vm → PcS D cy base ad as h Ls xs (as.map (cv ad)).toArray U := by
    intro U hU hW
    refine ⟨PcF_go henv w2 w1 (fun v hv => w5 v (List.mem_append_left _ (List.mem_reverse.mpr hv))) rfl U hU hW, ?_, by omega⟩
    rw [e0]
    exact (va_X.moved hW.alike x1).kept (by rw [hU]; exact w2.2.1 (ad0 0) (by omega) (by show ¬ base ≤ ad0 0; omega))
  exact va_runS (As := as.map (cv ad)) ⟨hx, hb, hml, hown, hts⟩ (g2 l D cy base ad hstk) ⟨cb, hts _ hsta⟩ ⟨PcS.blind, pcs⟩ rfl (by rw [List.length_map]; exact hn) w4.1
    (by rw [List.map_append, List.map_reverse]) (lv_room (m := m) (pc := pc) (ls := ls) (rest := []) (by rw [cat_sum]; exact hcat)) d ⟨by omega, by omega⟩
theorem V_cSS {K : CT} {cc : ByteArray} {own : String} {ret : Option FieldType} {hh : List (Nat × Nat × Nat × Nat)} {lvl md : Nat} (F : Fr K cc own ret hh lvl md) {pc : Nat} {L : List (Nat × MV)} {h : MH} {Ls : Nat} {xs : Nat → Int32} (XF : XS K Ls xs) {st0 as rest : List MV} {res : Res} {k : Option MV → MH → Res} {kx : Nat → MH → Res} {y : MethodName} {b : ByteArray} {maxL lv n idx : Nat} {rt : Option FieldType} (hC : CtrS y (WSm y b maxL rt) lv as h Ls xs res) (hw : CWm y b maxL rt n) (hsta : Cond.static y ∈ GW) (hlnk : Cond.methodLink own idx y ∈ GW) (hlv : lv < lvl) (hst0 : st0 = as.reverse ++ rest) (hn : as.length = n) (hcat : (rest.map mcat).sum ≤ 8) (d : decode cc pc = .ok (.invokestatic idx, 3))
    (kk : ∀ v h1, V K (pc + 3) L (v.toList ++ rest) h1 (k v h1)) : V K pc L st0 h (calG res k kx) :=
  V_calG (run_SS F XF hC hw hsta hlnk hlv hst0 hn hcat d) (by subst hst0; exact fun v hv => List.mem_append_right _ hv) kk (fun x h1 e => (noXS hC x h1 e).elim)
