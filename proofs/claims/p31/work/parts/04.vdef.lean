/-! results, contexts, the judgement V -/
abbrev MR : Type := Option MV ⊕ Nat
abbrev Res : Type := Option (MR × MH)
def exN (x : Nat) : String := match x with
  | 1 => "java/lang/IndexOutOfBoundsException"
  | 2 => "java/lang/IllegalArgumentException"
  | _ => "java/lang/IllegalStateException"
def NML : List (String × Nat × MethodName × String) := [("GyreWatch", 11, ⟨"GyreWatch$Sea", "<init>", "()V"⟩, "GyreWatch"), ("GyreWatch", 24, ⟨"GyreWatch$Log", "<init>", "()V"⟩, "GyreWatch"), ("GyreWatch", 31, ⟨"GyreWatch$Ships", "<init>", "()V"⟩, "GyreWatch"), ("GyreWatch$Layer", 24, ⟨"GyreWatch", "isCell", "(I)Z"⟩, "GyreWatch"), ("GyreWatch$Log", 24, ⟨"GyreWatch", "isIndex", "(II)Z"⟩, "GyreWatch"), ("GyreWatch$Sea", 37, ⟨"GyreWatch", "isCell", "(I)Z"⟩, "GyreWatch"), ("GyreWatch$Sea", 52, ⟨"GyreWatch", "isIndex", "(II)Z"⟩, "GyreWatch"), ("GyreWatch$Search", 22, ⟨"GyreWatch", "isCell", "(I)Z"⟩, "GyreWatch"), ("GyreWatch$Search", 54, ⟨"GyreWatch", "isIndex", "(II)Z"⟩, "GyreWatch"), ("GyreWatch$Ships", 21, ⟨"GyreWatch", "isIndex", "(II)Z"⟩, "GyreWatch")]
def SRL : List (String × Nat × String) := [("GyreWatch", 109, "no station can be told there"), ("GyreWatch", 118, "20 storms were told"), ("GyreWatch", 150, "no reading of a ship is near"), ("GyreWatch", 168, "no search can begin there"), ("GyreWatch", 281, "there is no such cell"), ("GyreWatch", 286, "an argument is out of its range"), ("GyreWatch", 289, "the cell is LAND"), ("GyreWatch", 291, "there is no such float"), ("GyreWatch", 297, "there is no such reading"), ("GyreWatch", 299, "there is no such search"), ("GyreWatch", 307, "no reading has a weight"), ("GyreWatch", 65, "the cell can't be made LAND"), ("GyreWatch", 85, "the day would be above 1000"), ("GyreWatch", 97, "no float can be laid out there")]
def NDL : List MethodName := [⟨"java/lang/Exception", "<init>", "()V"⟩, ⟨"java/lang/Exception", "<init>", "(Ljava/lang/String;)V"⟩, ⟨"java/lang/RuntimeException", "<init>", "()V"⟩, ⟨"java/lang/RuntimeException", "<init>", "(Ljava/lang/String;)V"⟩, ⟨"java/lang/Throwable", "<init>", "()V"⟩, ⟨"java/lang/Throwable", "<init>", "(Ljava/lang/String;)V"⟩]
def NCL : List (String × String) := [(exN 1, exN 3), (exN 2, exN 3)]
def AOL : List String := [RX0, RX3, RX4, RX6]
def EnvO (D : va_G) (cy : Nat → ClassId) (base : Nat) (U : State) : Prop :=
  va_K D CL (TYL cy) U ∧ (∀ q ∈ NML, va_Nw (.methodLinkNest q.1 q.2.1 q.2.2.1 q.2.2.2) U) ∧ ((∀ x, va_Nw (.castable (exN x) (exN x)) U) ∧ ∀ y ∈ NDL, va_Nw (.declares y) U) ∧ (∀ C ∈ AOL, va_AO C U) ∧ (∀ q ∈ NCL, va_Nc q.1 q.2 U) ∧
  (∀ q ∈ SRL, ∃ a : Nat, vk_R q.1 q.2.1 q.2.2 a U) ∧ vx_Zq Bundle.tN "UNASSIGNED_STACK" Bundle.steD (bA base) U U.heap ∧ vx_Zq Bundle.tN "SUPPRESSED_SENTINEL" Bundle.listD (bA base) U U.heap ∧ base ≤ U.heap.size
theorem EnvO.go {D : va_G} {cy : Nat → ClassId} {base : Nat} {s U : State} {locs : List Loc} (h : EnvO D cy base s) (hW : s.WarmedH U.vm) (hS : va_S (bA base) s.heap U.heap locs) : EnvO D cy base U := by
  obtain ⟨h1, h2, h3, h4, h5, h6, h7, h8, h9⟩ := h
  refine ⟨va_K.moved hW.alike h1, fun q hq => va_Nw.warmM hW (h2 q hq), ⟨fun x => va_Nw.warmC hW (h3.1 x), fun y hy => va_Nw.warmD hW (h3.2 y hy)⟩, fun C hC => va_AO.moved hW.alike (h4 C hC), fun q hq => va_Nc.moved hW.alike (h5 q hq), fun q hq => ?_, vx_Zq.moved hW.alike (h7.kept hS.2.1), vx_Zq.moved hW.alike (h8.kept hS.2.1), Nat.le_trans h9 hS.1⟩
  obtain ⟨a, ha⟩ := h6 q hq
  exact ⟨a, vk_R.warm hW ha⟩
theorem EnvO.calling {D : va_G} {cy : Nat → ClassId} {base : Nat} {U : State} (h : EnvO D cy base U) (g : JFrame) (mk : MethodId) (a : Array Value) : EnvO D cy base (U.calling g mk a) :=
  h.go (s := U) (U := U.calling g mk a) (locs := []) (State.WarmedH.refl U) va_S.rf
def PcF (D : va_G) (cy : Nat → ClassId) (base : Nat) (ad0 : Nat → Nat) (vs : List MV) (h : MH) : Array Value → State → Prop := fun a U =>
  a = (vs.map (cv ad0)).toArray ∧ EnvO D cy base U ∧ Wld D cy base ad0 h U.heap ∧ ∀ v ∈ vs, okv (hn h) v
theorem PcF.blind {D : va_G} {cy : Nat → ClassId} {base : Nat} {ad0 : Nat → Nat} {vs : List MV} {h : MH} : FrameBlind (PcF D cy base ad0 vs h) :=
  fun a _ g mk q => ⟨q.1, q.2.1.calling g mk a, q.2.2.1, q.2.2.2⟩
def QcF (D : va_G) (cy : Nat → ClassId) (base : Nat) (ad0 : Nat → Nat) (n0 : Nat) (r : MR) (h' : MH) : Array Value → State → Outcome → State → Prop := fun _ st o t =>
  ∃ v : Option MV, r = .inl v ∧ (∃ ad' : Nat → Nat, (∀ z, z < n0 → ad' z = ad0 z) ∧ o = .returned (v.map (cv ad')) ∧ (∀ w, v = some w → okv (hn h') w) ∧ Wld D cy base ad' h' t.heap) ∧ va_F (bA base) st t
def XcF (D : va_G) (cy : Nat → ClassId) (base : Nat) (ad0 : Nat → Nat) (n0 : Nat) (r : MR) (h' : MH) : String → State → State → Prop := fun E st t =>
  ∃ x : Nat, r = .inr x ∧ E = exN x ∧ (∃ ad' : Nat → Nat, (∀ z, z < n0 → ad' z = ad0 z) ∧ Wld D cy base ad' h' t.heap) ∧ va_F (bA base) st t
abbrev CT0 : Type := Program × Launch × Env × Room × State × MethodId × Array Value × List Frame × Method × Code × va_G × (Nat → ClassId) × Nat × (Nat → Nat) × Nat × Nat × Nat
/-- a method's walk: what its end is owed, its locals, its name, and where it stands on a machine (or nowhere: the bare sums) -/
abbrev CT : Type := Nat × Nat × String × Option CT0
/-- what the end of a method is owed: 0 returns only, 1 returns or throws, else the law -/
def QFd (md : Nat) (K : CT0) (r : MR) (h' : MH) : State → Prop := match K with
  | (_, _, _, _, s, _, args, below, _, _, D, cy, base, ad0, n0, mc, ms) =>
    match md with
    | 0 => MQ below (QcF D cy base ad0 n0 r h') args s mc ms (bA base)
    | 1 => vx_MQ below (QcF D cy base ad0 n0 r h') (XcF D cy base ad0 n0 r h') args s mc ms (bA base)
    | _ => lw_Z below args s
def V (K : CT) (pc : Nat) (L : List (Nat × MV)) (st : List MV) (h : MH) (res : Res) : Prop :=
  ∀ (r : MR) (h' : MH), res = some (r, h') → (Hle h h' ∧ (K.1 = 0 → ∃ v : Option MV, r = Sum.inl v)) ∧
    match K.2.2.2 with
    | none => True
    | some (p, l, e, R, s, m, args, below, meth, c, D, cy, base, ad0, n0, mc, ms) =>
      ∀ (ad : Nat → Nat) (H : Heap) (locs : List Loc) (cells slots : Nat) (ls : Array Slot),
        Wld D cy base ad h H → va_S (bA base) s.heap H locs → ((∀ z, z < n0 → ad z = ad0 z) ∧ n0 ≤ hn h + 1) → lv_has ls K.2.1 (L.map (cvl ad)) →
        (∀ v ∈ st, okv (hn h) v) → (∀ q ∈ L, okv (hn h) q.2) →
        (cells + (hc h' - hc h) ≤ mc ∧ slots + (hs h' - hs h) ≤ ms) →
        W p l e R s m args below meth c H locs cells slots (QFd K.1 (p, l, e, R, s, m, args, below, meth, c, D, cy, base, ad0, n0, mc, ms) r h') (F0 m pc ls (st.map (cv ad)))
def Fr (K : CT) (cc : ByteArray) (own : String) (ret : Option FieldType) (hh : List (Nat × Nat × Nat × Nat)) (lvl md : Nat) : Prop := K.1 = md ∧ match K.2.2.2 with
  | none => True
  | some (p, l, _, R, s, m, args, _, meth, c, D, cy, base, _, _, mc, ms) =>
    p.tables.exec = Jvm.exec ∧ c.code = cc ∧ c.maxLocals = K.2.1 ∧ s.vm.findClass own = some m.cls ∧ (∀ w ∈ GW, w.before args s = true) ∧ meth.locks = false ∧ EnvO D cy base s ∧ mc ≤ R.cells ∧ ms ≤ R.slots ∧
    l.stackTraces = false ∧ meth.sig.returnType = ret ∧ (md = 1 → c.exceptionTable.toList = tableOf hh) ∧ lvl ≤ R.frames ∧ 48 * lvl + 12 ≤ R.locals ∧ meth.name = K.2.2.1
theorem V_none {K : CT} {pc : Nat} {L : List (Nat × MV)} {st : List MV} {h : MH} : V K pc L st h none := fun r h' q => by cases q
theorem V_sub {K : CT} {pc : Nat} {L L' : List (Nat × MV)} {st : List MV} {h : MH} {res : Res} (ks : List Nat) (hL : ks.filterMap (fun k => L[k]?) = L') (k : V K pc L' st h res) : V K pc L st h res := by
  intro r h' q
  obtain ⟨a, b⟩ := k r h' q
  have hin : ∀ z ∈ L', z ∈ L := by
    intro z hz
    rw [← hL] at hz
    obtain ⟨i, -, hi⟩ := List.mem_filterMap.mp hz
    exact List.mem_of_getElem? hi
  refine ⟨a, ?_⟩
  rcases K with ⟨md1, nL, nm, _ | ⟨p, l, e, R, s, m, args, below, meth, c, D, cy, base, ad0, n0, mc, ms⟩⟩
  · exact True.intro
  refine fun ad H locs cells slots ls w1 w2 w3 w4 w5 w6 w7 => b ad H locs cells slots ls w1 w2 w3 ?_ w5 (fun z hz => w6 z (hin z hz)) w7
  refine ⟨w4.1, w4.2.1, fun z hz => w4.2.2 z ?_⟩
  obtain ⟨z0, h0, rfl⟩ := List.mem_map.mp hz
  exact List.mem_map.mpr ⟨z0, hin z0 h0, rfl⟩
/-- a step that leaves the heap as it is -/
theorem V_step {K : CT} {pc pc' : Nat} {L L' : List (Nat × MV)} {st st' : List MV} {h : MH} {res : Res}
    (hok : ∀ n, (∀ v ∈ st, okv n v) → (∀ q ∈ L, okv n q.2) → (∀ v ∈ st', okv n v) ∧ ∀ q ∈ L', okv n q.2)
    (row : match K.2.2.2 with
      | none => True
      | some (p, l, e, R, s, m, args, below, meth, c, _, _, _, _, _, _, _) =>
        ∀ (ad : Nat → Nat) (H : Heap) (locs : List Loc) (cells slots : Nat) (ls : Array Slot) (Q : State → Prop), lv_has ls K.2.1 (L.map (cvl ad)) →
          (∀ ls', lv_has ls' K.2.1 (L'.map (cvl ad)) → W p l e R s m args below meth c H locs cells slots Q (F0 m pc' ls' (st'.map (cv ad)))) → W p l e R s m args below meth c H locs cells slots Q (F0 m pc ls (st.map (cv ad))))
    (k : V K pc' L' st' h res) : V K pc L st h res := by
  intro r h' q
  obtain ⟨a, b⟩ := k r h' q
  refine ⟨a, ?_⟩
  rcases K with ⟨md1, nL, nm, _ | ⟨p, l, e, R, s, m, args, below, meth, c, D, cy, base, ad0, n0, mc, ms⟩⟩
  · exact True.intro
  intro ad H locs cells slots ls w1 w2 w3 w4 w5 w6 w7
  obtain ⟨o1, o2⟩ := hok _ w5 w6
  exact row ad H locs cells slots ls _ w4 fun ls' hl' => b ad H locs cells slots ls' w1 w2 w3 hl' o1 o2 w7
def bnd {α : Type} (v : α) (k : α → Res) : Res := k v
theorem ok_pop {n : Nat} {a : MV} {st : List MV} (h : ∀ v ∈ a :: st, okv n v) : ∀ v ∈ st, okv n v := fun v hv => h v (List.mem_cons_of_mem _ hv)
theorem ok_psh {n : Nat} {a : MV} {st : List MV} (ha : okv n a) (h : ∀ v ∈ st, okv n v) : ∀ v ∈ a :: st, okv n v := fun v hv => (List.mem_cons.mp hv).elim (fun e => by rw [e]; exact ha) (h v)
theorem ok_hd {n : Nat} {a : MV} {st : List MV} (h : ∀ v ∈ a :: st, okv n v) : okv n a := h a List.mem_cons_self
theorem okl_psh {n i : Nat} {a : MV} {L : List (Nat × MV)} (ha : okv n a) (h : ∀ q ∈ L, okv n q.2) : ∀ q ∈ (i, a) :: L, okv n q.2 := fun q hq => (List.mem_cons.mp hq).elim (fun e => by rw [e]; exact ha) (h q)
theorem okl_at {n k i : Nat} {v : MV} {L : List (Nat × MV)} (h : ∀ q ∈ L, okv n q.2) (hk : L[k]? = some (i, v)) : okv n v := h (i, v) (List.mem_of_getElem? hk)
theorem lvm_at {ls : Array Slot} {nL k i : Nat} {v : MV} {L : List (Nat × MV)} {ad : Nat → Nat} (h : lv_has ls nL (L.map (cvl ad))) (hk : L[k]? = some (i, v)) : ls[i]? = some (.val (cv ad v)) :=
  lv_at h k (by rw [List.getElem?_map, hk]; rfl)
def mcat (v : MV) : Nat := match v with
  | .inr (.inr _) => 2
  | _ => 1
theorem mcat_cv {ad : Nat → Nat} (v : MV) : (cv ad v).category = mcat v := by
  rcases v with x | r | x
  · rfl
  · cases r <;> rfl
  · rfl
/-- the locals behind a store of one word -/
def lst (i : Nat) (v : MV) (L : List (Nat × MV)) : List (Nat × MV) := (i, v) :: L.filter fun q => !(q.1 == i) && !(q.1 + 1 == i && mcat q.2 == 2)
def lst2 (i : Nat) (v : MV) (L : List (Nat × MV)) : List (Nat × MV) := (i, v) :: L.filter fun q => !(q.1 == i) && (!(q.1 == i + 1) && !(q.1 + 1 == i && mcat q.2 == 2))
theorem lst_map {ad : Nat → Nat} {i : Nat} {v : MV} {L : List (Nat × MV)} : (i, cv ad v) :: (L.map (cvl ad)).filter (fun q => !(q.1 == i) && !(q.1 + 1 == i && q.2.category == 2)) = (lst i v L).map (cvl ad) := by
  unfold lst
  rw [List.map_cons, List.filter_map]
  refine congrArg (fun z => (i, cv ad v) :: z) (congrArg _ (List.filter_congr fun q _ => ?_))
  simp [cvl, mcat_cv]
theorem lst2_map {ad : Nat → Nat} {i : Nat} {v : MV} {L : List (Nat × MV)} : (i, cv ad v) :: (L.map (cvl ad)).filter (fun q => !(q.1 == i) && (!(q.1 == i + 1) && !(q.1 + 1 == i && q.2.category == 2))) = (lst2 i v L).map (cvl ad) := by
  unfold lst2
  rw [List.map_cons, List.filter_map]
  refine congrArg (fun z => (i, cv ad v) :: z) (congrArg _ (List.filter_congr fun q _ => ?_))
  simp [cvl, mcat_cv]
theorem lst_ok {n i : Nat} {v : MV} {L : List (Nat × MV)} (hv : okv n v) (h : ∀ q ∈ L, okv n q.2) : ∀ q ∈ lst i v L, okv n q.2 :=
  okl_psh hv fun q hq => h q (List.mem_filter.mp hq).1
theorem lst2_ok {n i : Nat} {v : MV} {L : List (Nat × MV)} (hv : okv n v) (h : ∀ q ∈ L, okv n q.2) : ∀ q ∈ lst2 i v L, okv n q.2 :=
  okl_psh hv fun q hq => h q (List.mem_filter.mp hq).1
