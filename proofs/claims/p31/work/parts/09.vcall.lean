/-! returns -/
def rtI (x : Int32) (h : MH) : Res := some (.inl (some (vI x)), h)
def rtR (x : Option Nat) (h : MH) : Res := some (.inl (some (vR x)), h)
def rtQ (x : Int64) (h : MH) : Res := some (.inl (some (vL x)), h)
def rtV (h : MH) : Res := some (.inl none, h)
theorem VR_core {K : CT} {cc : ByteArray} {own : String} {ret : Option FieldType} {hh : List (Nat × Nat × Nat × Nat)} {lvl md : Nat} (F : Fr K cc own ret hh lvl md) (hmd1 : md = 0 ∨ md = 1) {pc : Nat} {L : List (Nat × MV)} {st : List MV} {h : MH} {v : Option MV}
    (hok : ∀ w, v = some w → w ∈ st)
    (row : match K.2.2.2 with
      | none => True
      | some (p, l, e, R, s, m, args, below, meth, c, _, _, base, _, _, mc, ms) =>
        ∀ (ad : Nat → Nat) (H : Heap) (locs : List Loc) (ls : Array Slot) (Qc : Array Value → State → Outcome → State → Prop),
          (∀ t : State, t.heap = H → s.WarmedH t.vm → Qc args s (.returned (v.map (cv ad))) t) → (∀ q ∈ locs, bA base q.base) →
          W p l e R s m args below meth c H locs mc ms (MQ below Qc args s mc ms (bA base)) (F0 m pc ls (st.map (cv ad)))) :
    V K pc L st h (some (.inl v, h)) := by
  intro r h' e9
  cases e9
  refine ⟨⟨Hle.rf, fun _ => ⟨_, rfl⟩⟩, ?_⟩
  rcases K with ⟨md1, nL, nm, _ | ⟨p, l, e, R, s, m, args, below, meth, c, D, cy, base, ad0, n0, mc, ms⟩⟩
  · exact True.intro
  obtain ⟨hmd, hx, hb, hml, hown, hts, hlk, henv, hmc, hms, hstk, hret, htab, hlv1, hlv2, hnm⟩ := F
  intro ad H locs cells slots ls w1 w2 w3 w4 w5 w6 w7
  refine W.widen (k := mc) (n := ms) (by omega) (by omega) ?_
  have k9 := row ad H locs ls (QcF D cy base ad0 n0 (.inl v) h) (fun t ht hW => ⟨v, rfl, ⟨ad, w3.1, rfl, fun w hw => w5 w (hok w hw), by rw [ht]; exact w1⟩, w2.F ht⟩) w2.2.2
  have hmd : md1 = md := hmd
  subst hmd
  rcases hmd1 with rfl | rfl
  · exact k9
  · exact vx_ret k9
theorem V_iret {K : CT} {cc : ByteArray} {own : String} {hh : List (Nat × Nat × Nat × Nat)} {lvl md : Nat} (F : Fr K cc own (some .int) hh lvl md) (hmd1 : md = 0 ∨ md = 1) {pc : Nat} {L : List (Nat × MV)} {h : MH} {x : Int32} (d : decode cc pc = .ok (.ireturn, 1)) : V K pc L [vI x] h (rtI x h) := by
  refine VR_core F hmd1 (fun w hw => by cases hw; exact List.mem_cons_self) ?_
  rcases K with ⟨md1, nL, nm, _ | ⟨p, l, e, R, s, m, args, below, meth, c, D, cy, base, ad0, n0, mc, ms⟩⟩
  · exact True.intro
  obtain ⟨hmd, hx, hb, hml, hown, hts, hlk, henv, hmc, hms, hstk, hret, htab, hlv1, hlv2, hnm⟩ := F
  intro ad H locs ls Qc hq hf
  exact W.iret hx hb hret hq hf d hlk
def rtZ (x : Int32) (h : MH) : Res := if x = 0 ∨ x = 1 then some (.inl (some (vI x)), h) else none
theorem V_zret {K : CT} {cc : ByteArray} {own : String} {hh : List (Nat × Nat × Nat × Nat)} {lvl md : Nat} (F : Fr K cc own (some .boolean) hh lvl md) (hmd1 : md = 0 ∨ md = 1) {pc : Nat} {L : List (Nat × MV)} {h : MH} {x : Int32} (d : decode cc pc = .ok (.ireturn, 1)) : V K pc L [vI x] h (rtZ x h) := by
  unfold rtZ
  by_cases q9 : x = 0 ∨ x = 1
  · rw [if_pos q9]
    refine VR_core F hmd1 (fun w hw => by cases hw; exact List.mem_cons_self) ?_
    rcases K with ⟨md1, nL, nm, _ | ⟨p, l, e, R, s, m, args, below, meth, c, D, cy, base, ad0, n0, mc, ms⟩⟩
    · exact True.intro
    obtain ⟨hmd, hx, hb, hml, hown, hts, hlk, henv, hmc, hms, hstk, hret, htab, hlv1, hlv2, hnm⟩ := F
    intro ad H locs ls Qc hq hf
    exact W.zret hx hb hret (by rcases q9 with rfl | rfl <;> rfl) hq hf d hlk
  · rw [if_neg q9]; exact V_none
theorem V_vret {K : CT} {cc : ByteArray} {own : String} {hh : List (Nat × Nat × Nat × Nat)} {lvl md : Nat} (F : Fr K cc own none hh lvl md) (hmd1 : md = 0 ∨ md = 1) {pc : Nat} {L : List (Nat × MV)} {h : MH} (d : decode cc pc = .ok (.return_, 1)) : V K pc L [] h (rtV h) := by
  refine VR_core F hmd1 (fun w hw => by cases hw) ?_
  rcases K with ⟨md1, nL, nm, _ | ⟨p, l, e, R, s, m, args, below, meth, c, D, cy, base, ad0, n0, mc, ms⟩⟩
  · exact True.intro
  obtain ⟨hmd, hx, hb, hml, hown, hts, hlk, henv, hmc, hms, hstk, hret, htab, hlv1, hlv2, hnm⟩ := F
  intro ad H locs ls Qc hq hf
  exact W.vret hx hb hret hq hf d hlk
theorem V_lret {K : CT} {cc : ByteArray} {own : String} {hh : List (Nat × Nat × Nat × Nat)} {lvl md : Nat} (F : Fr K cc own (some .long) hh lvl md) (hmd1 : md = 0 ∨ md = 1) {pc : Nat} {L : List (Nat × MV)} {h : MH} {x : Int64} (d : decode cc pc = .ok (.lreturn, 1)) : V K pc L [vL x] h (rtQ x h) := by
  refine VR_core F hmd1 (fun w hw => by cases hw; exact List.mem_cons_self) ?_
  rcases K with ⟨md1, nL, nm, _ | ⟨p, l, e, R, s, m, args, below, meth, c, D, cy, base, ad0, n0, mc, ms⟩⟩
  · exact True.intro
  obtain ⟨hmd, hx, hb, hml, hown, hts, hlk, henv, hmc, hms, hstk, hret, htab, hlv1, hlv2, hnm⟩ := F
  intro ad H locs ls Qc hq hf
  exact W.lret hx hb hret hq hf d hlk
theorem V_aret {K : CT} {cc : ByteArray} {own : String} {rt : FieldType} {hh : List (Nat × Nat × Nat × Nat)} {lvl md : Nat} (F : Fr K cc own (some rt) hh lvl md) (hmd1 : md = 0 ∨ md = 1) (hrt : (∃ n, rt = .object n) ∨ ∃ t, rt = .array t) {pc : Nat} {L : List (Nat × MV)} {h : MH} {x : Option Nat} (d : decode cc pc = .ok (.areturn, 1)) : V K pc L [vR x] h (rtR x h) := by
  refine VR_core F hmd1 (fun w hw => by cases hw; exact List.mem_cons_self) ?_
  rcases K with ⟨md1, nL, nm, _ | ⟨p, l, e, R, s, m, args, below, meth, c, D, cy, base, ad0, n0, mc, ms⟩⟩
  · exact True.intro
  obtain ⟨hmd, hx, hb, hml, hown, hts, hlk, henv, hmc, hms, hstk, hret, htab, hlv1, hlv2, hnm⟩ := F
  intro ad H locs ls Qc hq hf
  exact W.aret hx hb hret hrt (va_rf_or _) hq hf d hlk
/-! contracts and calls -/
def calG (res : Res) (k : Option MV → MH → Res) (kx : Nat → MH → Res) : Res := match res with
  | none => none
  | some (.inl v, h) => k v h
  | some (.inr x, h) => kx x h
def toI (k : Int32 → MH → Res) : Option MV → MH → Res := fun v h => match v with
  | some (.inl x) => k x h
  | _ => none
def toR (k : Option Nat → MH → Res) : Option MV → MH → Res := fun v h => match v with
  | some (.inr (.inl x)) => k x h
  | _ => none
def toL (k : Int64 → MH → Res) : Option MV → MH → Res := fun v h => match v with
  | some (.inr (.inr x)) => k x h
  | _ => none
def toV (k : MH → Res) : Option MV → MH → Res := fun v h => match v with
  | none => k h
  | _ => none
def prp : Nat → MH → Res := fun x h => some (.inr x, h)
def calI (res : Res) (k : Int32 → MH → Res) : Res := calG res (toI k) prp
def calR (res : Res) (k : Option Nat → MH → Res) : Res := calG res (toR k) prp
def calL (res : Res) (k : Int64 → MH → Res) : Res := calG res (toL k) prp
def calV (res : Res) (k : MH → Res) : Res := calG res (toV k) prp
def RM (lvl mc ms : Nat) : Room := { frames := lvl, cells := mc, slots := ms, locals := 48 * lvl + 12 }
def WSm (y : MethodName) (b : ByteArray) (maxL : Nat) (ret : Option FieldType) : List Cond := Cond.code y b maxL ret :: GW
def WSw (y : MethodName) (b : ByteArray) (maxL : Nat) (ret : Option FieldType) (hh : List (Nat × Nat × Nat × Nat)) : List Cond := Cond.codeWith y b maxL ret hh :: GW
def CtrM (y : MethodName) (ws : List Cond) (lvl : Nat) (vs : List MV) (h : MH) (res : Res) : Prop :=
  ∀ (r : MR) (h' : MH), res = some (r, h') → Hle h h' ∧ (∃ v, r = .inl v) ∧ ∀ (l : Launch) (D : va_G) (cy : Nat → ClassId) (base : Nat) (ad0 : Nat → Nat), l.stackTraces = false →
    Met l y ws (RM lvl (hc h' - hc h) (hs h' - hs h)) (PcF D cy base ad0 vs h) (QcF D cy base ad0 (hn h + 1) r h') (hc h' - hc h) (hs h' - hs h) (bA base)
def CtrX (y : MethodName) (ws : List Cond) (lvl : Nat) (vs : List MV) (h : MH) (res : Res) : Prop :=
  ∀ (r : MR) (h' : MH), res = some (r, h') → Hle h h' ∧ ∀ (l : Launch) (D : va_G) (cy : Nat → ClassId) (base : Nat) (ad0 : Nat → Nat), l.stackTraces = false →
    vx_Met l y ws (RM lvl (hc h' - hc h) (hs h' - hs h)) (PcF D cy base ad0 vs h) (QcF D cy base ad0 (hn h + 1) r h') (XcF D cy base ad0 (hn h + 1) r h') (hc h' - hc h) (hs h' - hs h) (bA base)
def RunX (K : CT) (pc : Nat) (L : List (Nat × MV)) (st0 rest : List MV) (h : MH) (res : Res) : Prop :=
  ∀ (r : MR) (h' : MH), res = some (r, h') → Hle h h' ∧ match K.2.2.2 with
    | none => True
    | some (p, l, e, R, s, m, args, below, meth, c, D, cy, base, ad0, n0, mc, ms) =>
      ∀ (ad : Nat → Nat) (H : Heap) (locs : List Loc) (cells slots : Nat) (ls : Array Slot),
        Wld D cy base ad h H → va_S (bA base) s.heap H locs → ((∀ z, z < n0 → ad z = ad0 z) ∧ n0 ≤ hn h + 1) → lv_has ls K.2.1 (L.map (cvl ad)) → (∀ v ∈ st0, okv (hn h) v) →
        (cells + (hc h' - hc h) ≤ mc ∧ slots + (hs h' - hs h) ≤ ms) →
        vx_Run p l e R s m args below meth c H locs cells slots (hc h' - hc h) (hs h' - hs h) (F0 m pc ls (st0.map (cv ad))) (rest.map (cv ad)) (QcF D cy base ad (hn h + 1) r h' #[]) (XcF D cy base ad (hn h + 1) r h') (bA base)
/-- an exception x over the frame -/
def VX (K : CT) (pc : Nat) (L : List (Nat × MV)) (rest : List MV) (h : MH) (x : Nat) (res : Res) : Prop :=
  ∀ (r : MR) (h' : MH), res = some (r, h') → (Hle h h' ∧ (K.1 = 0 → ∃ v : Option MV, r = Sum.inl v)) ∧ match K.2.2.2 with
    | none => True
    | some (p, l, e, R, s, m, args, below, meth, c, D, cy, base, ad0, n0, mc, ms) =>
      ∀ (ad : Nat → Nat) (H : Heap) (locs : List Loc) (cells slots : Nat) (ls : Array Slot) (q : Addr) (ce : Cell),
        Wld D cy base ad h H → va_S (bA base) s.heap H locs → ((∀ z, z < n0 → ad z = ad0 z) ∧ n0 ≤ hn h + 1) → lv_has ls K.2.1 (L.map (cvl ad)) →
        (∀ v ∈ rest, okv (hn h) v) → (∀ q ∈ L, okv (hn h) q.2) →
        (cells + (hc h' - hc h) ≤ mc ∧ slots + (hs h' - hs h) ≤ ms) →
        H[q]? = some ce → ce.vm = .none → s.vm.findClass (exN x) = some ce.cls →
        vx_W p l e R s m args below meth c H locs cells slots (QFd K.1 (p, l, e, R, s, m, args, below, meth, c, D, cy, base, ad0, n0, mc, ms) r h') (F0 m pc ls (rest.map (cv ad))) q
theorem V_calG {K : CT} {pc : Nat} {L : List (Nat × MV)} {st0 rest : List MV} {h : MH} {res : Res} {k : Option MV → MH → Res} {kx : Nat → MH → Res}
    (hrun : RunX K pc L st0 rest h res) (hrest : ∀ v ∈ rest, v ∈ st0) (n : ∀ v h1, V K (pc + 3) L (v.toList ++ rest) h1 (k v h1)) (nx : ∀ x h1, res = some (.inr x, h1) → VX K pc L rest h1 x (kx x h1)) : V K pc L st0 h (calG res k kx) := by
  cases hres : res with
  | none => exact V_none
  | some z =>
    obtain ⟨r1, h1⟩ := z
    subst hres
    obtain ⟨y1, y2⟩ := hrun r1 h1 rfl
    obtain ⟨z1, z2, z3⟩ := id y1
    have hmono : ∀ {v : MV}, okv (hn h) v → okv (hn h1) v := fun q => okv_mono q z1
    cases r1 with
    | inl v =>
      intro r h' e9
      obtain ⟨a1, b1⟩ := n v h1 r h' e9
      obtain ⟨-, u2, u3⟩ := id a1.1
      refine ⟨⟨y1.tr a1.1, a1.2⟩, ?_⟩
      rcases K with ⟨md1, nL, nm, _ | ⟨p, l, e, R, s, m, args, below, meth, c, D, cy, base, ad0, n0, mc, ms⟩⟩
      · exact True.intro
      intro ad H locs cells slots ls w1 w2 w3 w4 w5 w6 w7
      intro T hT X
      rcases y2 ad H locs cells slots ls w1 w2 w3 w4 w5 ⟨by omega, by omega⟩ T hT X with ⟨v', st₀, t, T', L', h0, X', hL, e1, e2, ⟨v2, ev, ⟨ad', hag, eo, hokv, hW'⟩, hF⟩, st⟩ | ⟨q, st₀, t, T', L', E, ce, h0, X', hL, e1, e2, ⟨x9, ex, -⟩, -⟩
      · cases ev
        have ev' : v' = v.map (cv ad') := Outcome.returned.inj eo
        subst ev'
        obtain ⟨-, -, k3⟩ := vx_keep h0 e1 w2 (fun q _ z => z) (fun q z => z) hL hF
        have w6' : ∀ q ∈ L, okv (hn h) q.2 := w6
        have hmr : ∀ u ∈ rest, okv (hn h) u := fun u hu => w5 u (hrest u hu)
        obtain ⟨t2, a2, b2⟩ := b1 ad' T'.heap (locs ++ L') (cells + (hc h1 - hc h)) (slots + (hs h1 - hs h)) ls (by rw [e1]; exact hW') k3 ⟨fun z hz => (hag z (by omega)).trans (w3.1 z hz), by omega⟩
          (by rw [map_cvl_congr w6 hag]; exact w4) (fun u hu => (List.mem_append.mp hu).elim (fun q => hokv u (Option.mem_toList.mp q)) (fun q => hmono (hmr u q))) (fun q hq => hmono (w6 q hq)) ⟨by omega, by omega⟩ T' rfl X'
        refine ⟨t2, st t2 ?_, b2⟩
        have e8 : (v.toList ++ rest).map (cv ad') = (v.map (cv ad')).toList ++ rest.map (cv ad) := by
          rw [List.map_append, map_cv_congr hmr hag]
          cases v <;> rfl
        rw [e8] at a2
        exact a2
      · cases ex
    | inr x =>
      intro r h' e9
      obtain ⟨a1, b1⟩ := nx x h1 rfl r h' e9
      obtain ⟨-, u2, u3⟩ := id a1.1
      refine ⟨⟨y1.tr a1.1, a1.2⟩, ?_⟩
      rcases K with ⟨md1, nL, nm, _ | ⟨p, l, e, R, s, m, args, below, meth, c, D, cy, base, ad0, n0, mc, ms⟩⟩
      · exact True.intro
      intro ad H locs cells slots ls w1 w2 w3 w4 w5 w6 w7
      intro T hT X
      rcases y2 ad H locs cells slots ls w1 w2 w3 w4 w5 ⟨by omega, by omega⟩ T hT X with ⟨v', st₀, t, T', L', h0, X', hL, e1, e2, ⟨v2, ev, -⟩, -⟩ | ⟨q, st₀, t, T', L', E, ce, h0, X', hL, e1, e2, ⟨x9, ex, rfl, ⟨ad', hag, hW'⟩, hF⟩, hce, hcv, hcl, st⟩
      · cases ev
      · cases ex
        obtain ⟨-, -, k3⟩ := vx_keep h0 e1 w2 (fun q _ z => z) (fun q z => z) hL hF
        have hmr : ∀ u ∈ rest, okv (hn h) u := fun u hu => w5 u (hrest u hu)
        obtain ⟨t2, a2, b2⟩ := b1 ad' T'.heap (locs ++ L') (cells + (hc h1 - hc h)) (slots + (hs h1 - hs h)) ls q ce (by rw [e1]; exact hW') k3 ⟨fun z hz => (hag z (by omega)).trans (w3.1 z hz), by omega⟩
          (by rw [map_cvl_congr w6 hag]; exact w4) (fun u hu => hmono (hmr u hu)) (fun q hq => hmono (w6 q hq)) ⟨by omega, by omega⟩ (by rw [e1]; exact hce) hcv hcl T' rfl X'
        rw [map_cv_congr hmr hag] at a2
        exact ⟨t2, st.trans a2, b2⟩
theorem VX_out {K : CT} {cc : ByteArray} {own : String} {ret : Option FieldType} {lvl : Nat} (F : Fr K cc own ret [] lvl 1) {pc : Nat} {L : List (Nat × MV)} {rest : List MV} {h : MH} {x : Nat} : VX K pc L rest h x (prp x h) := by
  have hm1 : K.1 = 1 := F.1
  intro r h' e9
  cases e9
  refine ⟨⟨Hle.rf, fun q => by omega⟩, ?_⟩
  rcases K with ⟨md1, nL, nm, _ | ⟨p, l, e, R, s, m, args, below, meth, c, D, cy, base, ad0, n0, mc, ms⟩⟩
  · exact True.intro
  obtain ⟨hmd, hx, hb, hml, hown, hts, hlk, henv, hmc, hms, hstk, hret, htab, hlv1, hlv2, hnm⟩ := F
  have hm2 : md1 = 1 := hm1
  subst hm2
  intro ad H locs cells slots ls q ce w1 w2 w3 w4 w5 w6 w7 g1 g2 g3
  refine vx_out (fun z hz => ?_) hlk g1 g2 g3 (fun t ht hA => ⟨x, rfl, rfl, ⟨ad, w3.1, by rw [ht]; exact w1⟩, w2.F ht⟩) w2.2.2 (by omega) (by omega)
  rw [htab rfl] at hz
  cases hz
theorem k_I {K : CT} {pc : Nat} {L : List (Nat × MV)} {rest : List MV} {k : Int32 → MH → Res} (n : ∀ x h1, V K pc L (vI x :: rest) h1 (k x h1)) : ∀ v h1, V K pc L (v.toList ++ rest) h1 (toI k v h1) := by
  intro v h1
  rcases v with _ | (x | (x | x)) <;> first | exact V_none | exact n x h1
theorem k_R {K : CT} {pc : Nat} {L : List (Nat × MV)} {rest : List MV} {k : Option Nat → MH → Res} (n : ∀ x h1, V K pc L (vR x :: rest) h1 (k x h1)) : ∀ v h1, V K pc L (v.toList ++ rest) h1 (toR k v h1) := by
  intro v h1
  rcases v with _ | (x | (x | x)) <;> first | exact V_none | exact n x h1
theorem k_L {K : CT} {pc : Nat} {L : List (Nat × MV)} {rest : List MV} {k : Int64 → MH → Res} (n : ∀ x h1, V K pc L (vL x :: rest) h1 (k x h1)) : ∀ v h1, V K pc L (v.toList ++ rest) h1 (toL k v h1) := by
  intro v h1
  rcases v with _ | (x | (x | x)) <;> first | exact V_none | exact n x h1
theorem k_V {K : CT} {pc : Nat} {L : List (Nat × MV)} {rest : List MV} {k : MH → Res} (n : ∀ h1, V K pc L rest h1 (k h1)) : ∀ v h1, V K pc L (v.toList ++ rest) h1 (toV k v h1) := by
  intro v h1
  rcases v with _ | v
  · exact n h1
  · exact V_none
