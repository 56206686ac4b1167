section
-- ===== PART A: goes FIRST, ahead of the names: the tables' words, and 'selects' of the private methods out of them =====
/-- a private method of a class that the tables say can be made, by its rows of tables_1 -/
def lw_okq (q : MethodName × Nat) : Prop := (q.1.cls ≠ "java/lang/invoke/MethodHandle" ∧ q.1.cls ≠ "java/lang/invoke/VarHandle") ∧ Cond.instantiable q.1.cls q.2 ∈ tables_1 ∧ Cond.privateMethod q.1 ∈ tables_1 ∧ Cond.instanceMethod q.1 ∈ tables_1
theorem lw_p0 : lw_okq (⟨"java/lang/Throwable", "fillInStackTrace", "(I)Ljava/lang/Throwable;"⟩, 6) := ⟨⟨by decide +kernel, by decide +kernel⟩, List.mem_of_getElem? (i := 210) (by decide +kernel), List.mem_of_getElem? (i := 208) (by decide +kernel), List.mem_of_getElem? (i := 209) (by decide +kernel)⟩
theorem lw_p1 : lw_okq (⟨"GyreWatch", "passOneDay", "()V"⟩, 10) := ⟨⟨by decide +kernel, by decide +kernel⟩, List.mem_of_getElem? (i := 19) (by decide +kernel), List.mem_of_getElem? (i := 256) (by decide +kernel), List.mem_of_getElem? (i := 257) (by decide +kernel)⟩
theorem lw_p2 : lw_okq (⟨"GyreWatch$Sea", "carry", "([I)V"⟩, 8) := ⟨⟨by decide +kernel, by decide +kernel⟩, List.mem_of_getElem? (i := 27) (by decide +kernel), List.mem_of_getElem? (i := 264) (by decide +kernel), List.mem_of_getElem? (i := 265) (by decide +kernel)⟩
theorem lw_p3 : lw_okq (⟨"GyreWatch", "letDrift", "(LGyreWatch$Buoy;)V"⟩, 10) := ⟨⟨by decide +kernel, by decide +kernel⟩, List.mem_of_getElem? (i := 19) (by decide +kernel), List.mem_of_getElem? (i := 307) (by decide +kernel), List.mem_of_getElem? (i := 308) (by decide +kernel)⟩
theorem lw_p4 : lw_okq (⟨"GyreWatch$Search", "give", "(III)V"⟩, 3) := ⟨⟨by decide +kernel, by decide +kernel⟩, List.mem_of_getElem? (i := 370) (by decide +kernel), List.mem_of_getElem? (i := 368) (by decide +kernel), List.mem_of_getElem? (i := 369) (by decide +kernel)⟩
theorem lw_p5 : lw_okq (⟨"GyreWatch", "readAtStations", "()V"⟩, 10) := ⟨⟨by decide +kernel, by decide +kernel⟩, List.mem_of_getElem? (i := 19) (by decide +kernel), List.mem_of_getElem? (i := 375) (by decide +kernel), List.mem_of_getElem? (i := 376) (by decide +kernel)⟩
theorem lw_p6 : lw_okq (⟨"GyreWatch", "buoyNumbered", "(I)LGyreWatch$Buoy;"⟩, 10) := ⟨⟨by decide +kernel, by decide +kernel⟩, List.mem_of_getElem? (i := 19) (by decide +kernel), List.mem_of_getElem? (i := 484) (by decide +kernel), List.mem_of_getElem? (i := 485) (by decide +kernel)⟩
theorem lw_p7 : lw_okq (⟨"GyreWatch", "searchNumbered", "(I)LGyreWatch$Search;"⟩, 10) := ⟨⟨by decide +kernel, by decide +kernel⟩, List.mem_of_getElem? (i := 19) (by decide +kernel), List.mem_of_getElem? (i := 500) (by decide +kernel), List.mem_of_getElem? (i := 501) (by decide +kernel)⟩
theorem lw_p8 : lw_okq (⟨"GyreWatch", "readingNumbered", "(I)LGyreWatch$Reading;"⟩, 10) := ⟨⟨by decide +kernel, by decide +kernel⟩, List.mem_of_getElem? (i := 19) (by decide +kernel), List.mem_of_getElem? (i := 529) (by decide +kernel), List.mem_of_getElem? (i := 530) (by decide +kernel)⟩
theorem lw_p9 : lw_okq (⟨"GyreWatch$Reading", "isSpike", "(I)Z"⟩, 7) := ⟨⟨by decide +kernel, by decide +kernel⟩, List.mem_of_getElem? (i := 320) (by decide +kernel), List.mem_of_getElem? (i := 542) (by decide +kernel), List.mem_of_getElem? (i := 543) (by decide +kernel)⟩
theorem lw_p10 : lw_okq (⟨"GyreWatch", "isTaken", "(I)Z"⟩, 10) := ⟨⟨by decide +kernel, by decide +kernel⟩, List.mem_of_getElem? (i := 19) (by decide +kernel), List.mem_of_getElem? (i := 571) (by decide +kernel), List.mem_of_getElem? (i := 572) (by decide +kernel)⟩
theorem lw_p11 : lw_okq (⟨"GyreWatch", "needSea", "(I)V"⟩, 10) := ⟨⟨by decide +kernel, by decide +kernel⟩, List.mem_of_getElem? (i := 19) (by decide +kernel), List.mem_of_getElem? (i := 720) (by decide +kernel), List.mem_of_getElem? (i := 721) (by decide +kernel)⟩
theorem lw_p12 : lw_okq (⟨"GyreWatch", "meanWithout", "(LGyreWatch$Reading;III)I"⟩, 10) := ⟨⟨by decide +kernel, by decide +kernel⟩, List.mem_of_getElem? (i := 19) (by decide +kernel), List.mem_of_getElem? (i := 725) (by decide +kernel), List.mem_of_getElem? (i := 726) (by decide +kernel)⟩
theorem lw_p13 : lw_okq (⟨"GyreWatch$Log", "isInSpan", "(LGyreWatch$Reading;II)Z"⟩, 3) := ⟨⟨by decide +kernel, by decide +kernel⟩, List.mem_of_getElem? (i := 87) (by decide +kernel), List.mem_of_getElem? (i := 733) (by decide +kernel), List.mem_of_getElem? (i := 734) (by decide +kernel)⟩
def lw_privs_1 : List (MethodName × Nat) := [(⟨"java/lang/Throwable", "fillInStackTrace", "(I)Ljava/lang/Throwable;"⟩, 6), (⟨"GyreWatch", "passOneDay", "()V"⟩, 10), (⟨"GyreWatch$Sea", "carry", "([I)V"⟩, 8), (⟨"GyreWatch", "letDrift", "(LGyreWatch$Buoy;)V"⟩, 10), (⟨"GyreWatch$Search", "give", "(III)V"⟩, 3), (⟨"GyreWatch", "readAtStations", "()V"⟩, 10), (⟨"GyreWatch", "buoyNumbered", "(I)LGyreWatch$Buoy;"⟩, 10), (⟨"GyreWatch", "searchNumbered", "(I)LGyreWatch$Search;"⟩, 10), (⟨"GyreWatch", "readingNumbered", "(I)LGyreWatch$Reading;"⟩, 10), (⟨"GyreWatch$Reading", "isSpike", "(I)Z"⟩, 7), (⟨"GyreWatch", "isTaken", "(I)Z"⟩, 10), (⟨"GyreWatch", "needSea", "(I)V"⟩, 10), (⟨"GyreWatch", "meanWithout", "(LGyreWatch$Reading;III)I"⟩, 10), (⟨"GyreWatch$Log", "isInSpan", "(LGyreWatch$Reading;II)Z"⟩, 3)]
theorem lw_r1 : ∀ q ∈ lw_privs_1, lw_okq q := List.forall_mem_cons.mpr ⟨lw_p0, List.forall_mem_cons.mpr ⟨lw_p1, List.forall_mem_cons.mpr ⟨lw_p2, List.forall_mem_cons.mpr ⟨lw_p3, List.forall_mem_cons.mpr ⟨lw_p4, List.forall_mem_cons.mpr ⟨lw_p5, List.forall_mem_cons.mpr ⟨lw_p6, List.forall_mem_cons.mpr ⟨lw_p7, List.forall_mem_cons.mpr ⟨lw_p8, List.forall_mem_cons.mpr ⟨lw_p9, List.forall_mem_cons.mpr ⟨lw_p10, List.forall_mem_cons.mpr ⟨lw_p11, List.forall_mem_cons.mpr ⟨lw_p12, List.forall_mem_cons.mpr ⟨lw_p13, fun _ h => absurd h List.not_mem_nil⟩⟩⟩⟩⟩⟩⟩⟩⟩⟩⟩⟩⟩⟩
def lw_privs : List (MethodName × Nat) := lw_privs_1
def lw_tbl : List Cond := k2_sels lw_privs ++ tables_1
theorem lw_privs_ok : ∀ q ∈ lw_privs, lw_okq q := lw_r1
/-! ===== BEGIN words of one list among another's, by their places ===== -/
theorem goodIn_r {big : List Cond} (ws : List Cond) (ps : List Nat) (hp : ws = ps.filterMap (fun i => big[i]?)) (h : ws.all goodWord = true) : GoodIn big ws := by
  intro w hw
  have h1 := List.all_eq_true.mp h w hw
  rw [hp] at hw
  obtain ⟨i, -, hi⟩ := List.mem_filterMap.mp hw
  have hm : w ∈ big := by first | exact List.mem_of_getElem? hi | exact List.getElem?_mem hi
  exact ⟨hm, good_of_word h1⟩
theorem goodIn_app {big a b : List Cond} (ha : GoodIn big a) (hb : GoodIn big b) : GoodIn big (a ++ b) := fun w h => (List.mem_append.mp h).elim (ha w) (hb w)
theorem goodIn_ca {big a b : List Cond} {c : Cond} (ha : GoodIn big (c :: a)) (hb : GoodIn big b) : GoodIn big (c :: (a ++ b)) := fun w h => (List.mem_cons.mp h).elim (fun e => ha w (List.mem_cons.mpr (Or.inl e))) (fun h => (List.mem_append.mp h).elim (fun h => ha w (List.mem_cons.mpr (Or.inr h))) (hb w))
theorem goodIn_sub {big ws : List Cond} (hm : ∀ w ∈ ws, w ∈ big) (h : ws.all goodWord = true) : GoodIn big ws := fun w hw => ⟨hm w hw, good_of_word (List.all_eq_true.mp h w hw)⟩
/-! ===== END ===== -/

/-! ===== BEGIN exceptions that leave a method, and their catching by the caller (launches without stack traces) ===== -/
section VXA
/-! The laws vx_back, vx_callV, vx_callS, vx_callSW, vx_throw0, vx_throwS follow proofs of the library, with one case more: JvmDerived/Free/Laws.lean (Back.of_free), Shelf42/LK1.lean (callV, callS), Shelf/KitTraced.lean (throwNew0V, throwNewS). -/
/-- where a method has thrown q: the class by its name, the cell, what was written, the world -/
def vx_T (XC : String → State → State → Prop) (st : State) (q : Addr) (t : State) (mc ms : Nat) (free : Addr → Prop) : Prop :=
  ∃ (E : String) (ce : Cell) (L : List Loc), XC E st t ∧ t.heap[q]? = some ce ∧ ce.vm = .none ∧ st.vm.findClass E = some ce.cls ∧ st.WarmedH t.vm ∧ st.sameButNew ({ t with vm := st.vm } : State) L mc ms ∧ ∀ z ∈ L, free z.base
def vx_Q (Qc : Array Value → State → Outcome → State → Prop) (XC : String → State → State → Prop) (mc ms : Nat) (free : Addr → Prop) : Array Value → State → Outcome → State → Prop := fun a st o t =>
  (Qc a st o t ∧ ∃ L, FrameEnd st o t L mc ms ∧ ∀ q ∈ L, free q.base) ∨ ∃ q, o = .threw q ∧ vx_T XC st q t mc ms free
/-- a callee that returns or throws -/
def vx_Met (l : Launch) (y : MethodName) (ws : List Cond) (rm : Room) (Pc : Array Value → State → Prop) (Qc : Array Value → State → Outcome → State → Prop) (XC : String → State → State → Prop) (mc ms : Nat) (free : Addr → Prop) : Prop :=
  MetFree l y (headSpec ws rm) Pc (fun _ _ _ _ _ => True) (vx_Q Qc XC mc ms free)
def vx_Post (XC : String → State → State → Prop) (mc ms : Nat) (free : Addr → Prop) : Pt → Array Value → Addr → Pt → Prop := fun A a q B =>
  ∃ (g : JFrame) (mk : MethodId) (t : State) (L : List Loc) (E : String) (ce : Cell), B.U.heap = t.heap ∧ B.U.vm = t.vm ∧ XC E (A.U.calling g mk a) t ∧ t.heap[q]? = some ce ∧ ce.vm = .none ∧ A.U.vm.findClass E = some ce.cls ∧ B.locs = A.locs ++ L ∧ (∀ z ∈ L, free z.base) ∧ B.cells = A.cells + mc ∧ B.slots = A.slots + ms
def vx_Back (l : Launch) (R : Room) (p : Program) (e : Env) (below : List Frame) (s : State) (sargs : Array Value) (y : MethodName) (len W9 : Nat)
    (Pre : Pt → Array Value → Prop) (Post : Pt → Array Value → Option Value → Pt → Prop) (PostX : Pt → Array Value → Addr → Pt → Prop) : Prop :=
  ∀ (m : MethodId) (meth : Method) (c : Code) (A : Pt) (g : JFrame) (ig : Instr) (mk : MethodId) (a : Array Value),
    Stand p l e R s m sargs below meth c A.U A.locs A.cells A.slots → g.method = m → g.locals.size = c.maxLocals → decode c.code g.pc = .ok (ig, len) →
    2 * g.monitorRoom + (g.stack.map fun v => v.category).sum ≤ W9 → A.U.methodNamed? y = some mk → Pre A a →
    (∃ (v : Option Value) (B : Pt), Stand p l e R s m sargs below meth c B.U B.locs B.cells B.slots ∧ Post A a v B ∧
      Steps p.tables e below (doInvoke e (A.U.setTop g) [] mk a).1 (B.U.setTop { g with pc := g.pc + len, stack := v.toList ++ g.stack })) ∨
    (∃ (q : Addr) (B : Pt), Stand p l e R s m sargs below meth c B.U B.locs B.cells B.slots ∧ PostX A a q B ∧
      Steps p.tables e below (doInvoke e (A.U.setTop g) [] mk a).1 ((B.U.setTop g).pushFrame (.throwing q)))
section Payer
variable {l : Launch} {R : Room} {p : Program} {e : Env} {below : List Frame} {s : State} {sargs : Array Value} {y : MethodName} {len W9 : Nat}
theorem vx_back {ws : List Cond} {rm : Room} {Pc : Array Value → State → Prop} {Qc : Array Value → State → Outcome → State → Prop} {XC : String → State → State → Prop} {mc ms : Nat} {free : Addr → Prop} {bytes : ByteArray} {maxL : Nat} {ret : Option FieldType}
    (hM : vx_Met l y ws rm Pc Qc XC mc ms free) (hblind : FrameBlind Pc) (hrc : rm.cells = mc) (hrs : rm.slots = ms)
    (hframes : rm.frames + 1 ≤ R.frames) (hlocals : W9 + (maxL + 11) + rm.locals ≤ R.locals)
    (hws : ∀ w ∈ ws, ∀ a' U, s.WarmedH U.vm → w.before a' U = true) (hcode : Cond.code y bytes maxL ret ∈ ws) (hinit : ∀ a' U, s.WarmedH U.vm → (Cond.initialized y.cls).before a' U = true) :
    vx_Back l R p e below s sargs y len W9 (PreOf R mc ms Pc) (PostOf Qc mc ms free) (vx_Post XC mc ms free) := by
  intro m meth c A g ig mk a X hg hsize hdg hW hn hp
  have h1 : (headSpec ws rm).pre.before a A.U = true := atoms_intro fun w hw => hws w hw _ _ X.warmed
  have h2 : (Cond.code y bytes maxL ret).before a A.U = true := hws _ hcode _ _ X.warmed
  have h3 : (Cond.initialized y.cls).before a A.U = true := hinit _ _ X.warmed
  have h4 : A.cells + (headSpec ws rm).room.cells ≤ R.cells := by rw [show (headSpec ws rm).room.cells = mc from hrc]; exact hp.1
  have h5 : A.slots + (headSpec ws rm).room.slots ≤ R.slots := by rw [show (headSpec ws rm).room.slots = ms from hrs]; exact hp.2.1
  have hPc : Pc a (A.U.calling g mk a) := hblind _ _ _ _ hp.2.2
  obtain ⟨U, Ls, c0, s0⟩ := A
  dsimp only [Pt.U, Pt.locs, Pt.cells, Pt.slots] at h1 h2 h3 h4 h5 X hn hPc ⊢
  obtain ⟨methY, cY, hmY, hcY, -, hlY, -, -, -, -⟩ := Cond.code_spec hn h2
  obtain ⟨kY, hkY, -⟩ := className_of_methodNamed hn
  have hinitY : kY.init = .initialized := Cond.initialized_spec (findClass_of_methodNamed hn) hkY h3
  have h : At U g.method c below := by rw [hg]; exact X.here
  have hlocals9 : W9 + (maxL + 11) + (headSpec ws rm).room.locals ≤ R.locals := hlocals
  have happ : (headSpec ws rm).appliesLoose y e.platform (U.calling g mk a) = true :=
    Spec.appliesLoose_calling (g := g) h hdg hn hkY hinitY
      (X.room_calling (g := g) (R' := (headSpec ws rm).room) hsize hmY hcY hframes (by rw [hlY]; omega) h4 h5) h1
  obtain ⟨mid, hmid⟩ := h.above
  have hfr : (U.setTop g).frames = (.java g :: mid) ++ below := by rw [State.frames_setTop' g h.top, hmid]; rfl
  obtain ⟨o, s₂, hsteps, -, hend, hq⟩ := Steps.callFree hM p X.admits X.cas X.clock (acts := []) hfr happ hPc trivial
  have hq' : vx_Q Qc XC mc ms free a (U.calling g mk a) o s₂ := hq
  rw [State.frames_setTop' g h.top] at hend
  obtain ⟨g₀, hg0⟩ := Option.isSome_iff_exists.mp h.top
  obtain ⟨r, hr⟩ := State.topJava?_eq_some.mp hg0
  have hr' : (({ U with heap := s₂.heap, slotsUsed := s₂.slotsUsed } : State).setVm s₂.vm).frames = .java g₀ :: r := hr
  rcases hq' with ⟨hqc, L, hfe, hL⟩ | ⟨q, rfl, E, ce, L, hx, hce, hcv, hcl, hW₂, hsm, hL⟩
  · obtain ⟨⟨v, rfl⟩, hW₂, e2, q2, q3, q4, q5, q6⟩ := id hfe
    have e3 : s₂ = ({ (U.calling g mk a).setFrames s₂.frames with heap := s₂.heap, slotsUsed := s₂.slotsUsed } : State).setVm s₂.vm := by
      have : s₂ = ({ s₂ with vm := (U.calling g mk a).vm } : State).setVm s₂.vm := rfl
      rw [e2] at this
      exact this
    obtain ⟨c₂, i₂, len₂, hc₂, hd₂, hf₂⟩ := hend
    have hW' : U.WarmedH s₂.vm := hW₂
    have hcc : c₂ = c := by
      have h1 : s₂.code? g.method = U.code? g.method := by
        rw [State.code?_eq, State.code?_eq, hW'.alike.method?]
      exact Option.some.inj (hc₂.symm.trans (h1.trans h.code))
    subst hcc
    have hlen : len₂ = len := by rw [hdg] at hd₂; cases hd₂; rfl
    subst hlen
    have hs₂ : s₂ = (({ U with heap := s₂.heap, slotsUsed := s₂.slotsUsed } : State).setVm s₂.vm).setTop { g with pc := g.pc + len₂, stack := v.toList ++ g.stack } := by
      refine e3.trans ?_
      rw [hf₂, State.calling_eq h.top, State.setFrames_setFrames, State.setTop_of_frames _ hr', hr]
      rfl
    have hsame : U.sameButNew ({ U with heap := s₂.heap, slotsUsed := s₂.slotsUsed } : State) L mc ms := by
      refine ⟨?_, q2, q3, q4, q5, q6⟩
      obtain ⟨t, ht, -⟩ := State.frames_cons hr
      show ({ U with heap := s₂.heap, slotsUsed := s₂.slotsUsed } : State) = { U.setFrames U.frames with heap := s₂.heap, slotsUsed := s₂.slotsUsed }
      rw [State.setFrames_self ht]
    subst hg
    refine Or.inl ⟨v, ⟨(({ U with heap := s₂.heap, slotsUsed := s₂.slotsUsed } : State).setVm s₂.vm), Ls ++ L, c0 + mc, s0 + ms⟩,
      ⟨X.admits, X.cas, X.clock, X.frames, X.room, X.hears, X.method, X.code, (X.here.setHeapUsed s₂.heap s₂.slotsUsed).setVm hW'.alike, X.tail, State.WarmedH.trans X.warmed hW', X.limits, X.bytes, X.same.trans (hsame.setVm s.vm)⟩,
      ⟨g, mk, s₂, L, rfl, rfl, hqc, rfl, hL, rfl, rfl⟩, ?_⟩
    show Steps p.tables e below _ ((({ U with heap := s₂.heap, slotsUsed := s₂.slotsUsed } : State).setVm s₂.vm).setTop { g with pc := g.pc + len₂, stack := v.toList ++ g.stack })
    rw [← hs₂]
    exact hsteps
  · obtain ⟨e2, q2, q3, q4, q5, q6⟩ := id hsm
    have e3 : s₂ = ({ (U.calling g mk a).setFrames s₂.frames with heap := s₂.heap, slotsUsed := s₂.slotsUsed } : State).setVm s₂.vm := by
      have : s₂ = ({ s₂ with vm := (U.calling g mk a).vm } : State).setVm s₂.vm := rfl
      rw [e2] at this
      exact this
    have hf₂ : s₂.frames = .throwing q :: .java g :: U.frames.tail := hend
    have hW' : U.WarmedH s₂.vm := hW₂
    have hs₂ : s₂ = ((({ U with heap := s₂.heap, slotsUsed := s₂.slotsUsed } : State).setVm s₂.vm).setTop g).pushFrame (.throwing q) := by
      refine e3.trans ?_
      rw [hf₂, State.calling_eq h.top, State.setFrames_setFrames, State.pushFrame, State.frames_setTop _ hr', State.setTop_of_frames _ hr', State.setFrames_setFrames, hr]
      rfl
    have hsame : U.sameButNew ({ U with heap := s₂.heap, slotsUsed := s₂.slotsUsed } : State) L mc ms := by
      refine ⟨?_, q2, q3, q4, q5, q6⟩
      obtain ⟨t, ht, -⟩ := State.frames_cons hr
      show ({ U with heap := s₂.heap, slotsUsed := s₂.slotsUsed } : State) = { U.setFrames U.frames with heap := s₂.heap, slotsUsed := s₂.slotsUsed }
      rw [State.setFrames_self ht]
    subst hg
    refine Or.inr ⟨q, ⟨(({ U with heap := s₂.heap, slotsUsed := s₂.slotsUsed } : State).setVm s₂.vm), Ls ++ L, c0 + mc, s0 + ms⟩,
      ⟨X.admits, X.cas, X.clock, X.frames, X.room, X.hears, X.method, X.code, (X.here.setHeapUsed s₂.heap s₂.slotsUsed).setVm hW'.alike, X.tail, State.WarmedH.trans X.warmed hW', X.limits, X.bytes, X.same.trans (hsame.setVm s.vm)⟩,
      ⟨g, mk, s₂, L, E, ce, rfl, rfl, hx, hce, hcv, hcl, rfl, hL, rfl, rfl⟩, ?_⟩
    show Steps p.tables e below _ (((({ U with heap := s₂.heap, slotsUsed := s₂.slotsUsed } : State).setVm s₂.vm).setTop g).pushFrame (.throwing q))
    rw [← hs₂]
    exact hsteps
end Payer
section Calls
variable {p : Program} {l : Launch} {e : Env} {R : Room} {s : State} {m : MethodId} {args : Array Value} {below : List Frame} {meth : Method} {c : Code} {T : State} {locs : List Loc} {cells slots : Nat}
theorem vx_callV (X : Stand p l e R s m args below meth c T locs cells slots) (hexec : p.tables.exec = Jvm.exec) {own C : String} {index : Nat} {y : MethodName} {bytes : ByteArray} {maxL : Nat} {ret : Option FieldType}
    (hown : s.vm.findClass own = some m.cls) (hlink : (Cond.methodLink own index y).before args s = true) (hinst : (Cond.instanceMethod y).before args s = true) (hsel : (Cond.selects C y y).before args s = true)
    (hcode : (Cond.code y bytes maxL ret).before args s = true) (hy : y.cls ≠ "java/lang/invoke/MethodHandle" ∧ y.cls ≠ "java/lang/invoke/VarHandle")
    {W9 : Nat} {Pre : Pt → Array Value → Prop} {Post : Pt → Array Value → Option Value → Pt → Prop} {PostX : Pt → Array Value → Addr → Pt → Prop} (hK : vx_Back l R p e below s args y 3 W9 Pre Post PostX)
    {b : Addr} {cellB : Cell} (hcell : T.heap[b]? = some cellB) (hobj : cellB.vm.isStatics = false) (hcls : s.vm.findClass C = some cellB.cls)
    {g : JFrame} (hg : g.method = m) (hsize : g.locals.size = c.maxLocals) {argsL rest : List Value} (hlen : ∀ sig, parseMethodDescriptor y.desc = some sig → argsL.length = sig.parameters.length)
    (hstack : g.stack = argsL.reverse ++ .ref b :: rest) (hW : 2 * g.monitorRoom + (rest.map fun v => v.category).sum ≤ W9) (hdg : decode c.code g.pc = .ok (.invokevirtual index, 3))
    (hpre : ∀ vm₁, s.WarmedH vm₁ → Pre ⟨T.setVm vm₁, locs, cells, slots⟩ (Value.ref b :: argsL).toArray) :
    (∃ (v : Option Value) (vm₁ : Vm) (B : Pt), s.WarmedH vm₁ ∧ Stand p l e R s m args below meth c B.U B.locs B.cells B.slots ∧ Post ⟨T.setVm vm₁, locs, cells, slots⟩ (Value.ref b :: argsL).toArray v B ∧
      ∀ target, Steps p.tables e below (B.U.setTop { g with pc := g.pc + 3, stack := v.toList ++ rest }) target → Steps p.tables e below (T.setTop g) target) ∨
    (∃ (q : Addr) (vm₁ : Vm) (B : Pt), s.WarmedH vm₁ ∧ Stand p l e R s m args below meth c B.U B.locs B.cells B.slots ∧ PostX ⟨T.setVm vm₁, locs, cells, slots⟩ (Value.ref b :: argsL).toArray q B ∧
      Steps p.tables e below (T.setTop g) ((B.U.setTop { g with stack := rest }).pushFrame (.throwing q))) := by
  obtain ⟨mk, methM, hnamed, hmethM, hstM, habM⟩ := Cond.instanceMethod_spec hinst
  obtain ⟨methM', cM, hmethM', -, -, -, -, -, -, hsigM⟩ := Cond.code_spec hnamed hcode
  cases hmethM.symm.trans hmethM'
  obtain ⟨c2, r2, m2, q1, q2, q3, q4, kP, hkP, hkPi⟩ := Cond.selects_spec hsel
  cases hcls.symm.trans q1
  cases (State.methodFound?_of_named hnamed hy).symm.trans q2
  cases hnamed.symm.trans q3
  have hselP : selectMethod e.platform s.vm cellB.cls mk = .method mk := by rw [Launch.admits_selectMethod X.admits]; exact q4
  obtain ⟨vm₁, X₁, hstep₁⟩ := X.invokevirtual hexec hown hlink hnamed hmethM hstM hkP hkPi hy (a := b) (cell := cellB) hcell
    (fun z h => by rw [h] at hobj; cases hobj) hselP hmethM habM hkP hkPi (g := g) hg (argsL := argsL) (rest := rest) (hlen _ hsigM) hstack hdg
  rcases hK m meth c ⟨T.setVm vm₁, locs, cells, slots⟩ { g with stack := rest } (.invokevirtual index) mk (Value.ref b :: argsL).toArray X₁ hg hsize hdg hW (X₁.named hnamed) (hpre vm₁ X₁.warmed) with ⟨v, B, X', hpost, hsteps⟩ | ⟨q, B, X', hpost, hsteps⟩
  · exact Or.inl ⟨v, vm₁, B, X₁.warmed, X', hpost, fun target h => hstep₁ _ fun acts => by rw [doInvoke_state]; exact hsteps.trans h⟩
  · exact Or.inr ⟨q, vm₁, B, X₁.warmed, X', hpost, hstep₁ _ fun acts => by rw [doInvoke_state]; exact hsteps⟩
theorem vx_callS (X : Stand p l e R s m args below meth c T locs cells slots) (hexec : p.tables.exec = Jvm.exec) {own : String} {index : Nat} {y : MethodName} {bytes : ByteArray} {maxL : Nat} {ret : Option FieldType}
    (hown : s.vm.findClass own = some m.cls) (hlink : (Cond.methodLink own index y).before args s = true) (hstat : (Cond.static y).before args s = true) (hinit : (Cond.initialized y.cls).before args s = true)
    (hcode : (Cond.code y bytes maxL ret).before args s = true) (hy : y.cls ≠ "java/lang/invoke/MethodHandle" ∧ y.cls ≠ "java/lang/invoke/VarHandle")
    {W9 : Nat} {Pre : Pt → Array Value → Prop} {Post : Pt → Array Value → Option Value → Pt → Prop} {PostX : Pt → Array Value → Addr → Pt → Prop} (hK : vx_Back l R p e below s args y 3 W9 Pre Post PostX)
    {g : JFrame} (hg : g.method = m) (hsize : g.locals.size = c.maxLocals) {argsL rest : List Value} (hlen : ∀ sig, parseMethodDescriptor y.desc = some sig → argsL.length = sig.parameters.length)
    (hstack : g.stack = argsL.reverse ++ rest) (hW : 2 * g.monitorRoom + (rest.map fun v => v.category).sum ≤ W9) (hdg : decode c.code g.pc = .ok (.invokestatic index, 3))
    (hpre : ∀ vm₁, s.WarmedH vm₁ → Pre ⟨T.setVm vm₁, locs, cells, slots⟩ argsL.toArray) :
    (∃ (v : Option Value) (vm₁ : Vm) (B : Pt), s.WarmedH vm₁ ∧ Stand p l e R s m args below meth c B.U B.locs B.cells B.slots ∧ Post ⟨T.setVm vm₁, locs, cells, slots⟩ argsL.toArray v B ∧
      ∀ target, Steps p.tables e below (B.U.setTop { g with pc := g.pc + 3, stack := v.toList ++ rest }) target → Steps p.tables e below (T.setTop g) target) ∨
    (∃ (q : Addr) (vm₁ : Vm) (B : Pt), s.WarmedH vm₁ ∧ Stand p l e R s m args below meth c B.U B.locs B.cells B.slots ∧ PostX ⟨T.setVm vm₁, locs, cells, slots⟩ argsL.toArray q B ∧
      Steps p.tables e below (T.setTop g) ((B.U.setTop { g with stack := rest }).pushFrame (.throwing q))) := by
  obtain ⟨mk, hnamed⟩ := Cond.code_named hcode
  obtain ⟨methM, cM, hmethM, -, -, -, -, -, -, hsigM⟩ := Cond.code_spec hnamed hcode
  have hstatic : methM.isStatic = true := Cond.static_spec hnamed hmethM hstat
  obtain ⟨kP, hkP, -⟩ := className_of_methodNamed hnamed
  have hinitP : kP.init = .initialized := Cond.initialized_spec (findClass_of_methodNamed hnamed) hkP hinit
  obtain ⟨vm₁, X₁, hstep₁⟩ := X.invokestatic hexec hown hlink hnamed hmethM hstatic hkP hinitP hy (g := g) hg (argsL := argsL) (rest := rest) (hlen _ hsigM) hstack hdg
  rcases hK m meth c ⟨T.setVm vm₁, locs, cells, slots⟩ { g with stack := rest } (.invokestatic index) mk argsL.toArray X₁ hg hsize hdg hW (X₁.named hnamed) (hpre vm₁ X₁.warmed) with ⟨v, B, X', hpost, hsteps⟩ | ⟨q, B, X', hpost, hsteps⟩
  · exact Or.inl ⟨v, vm₁, B, X₁.warmed, X', hpost, fun target h => hstep₁ _ fun acts => by rw [doInvoke_state]; exact hsteps.trans h⟩
  · exact Or.inr ⟨q, vm₁, B, X₁.warmed, X', hpost, hstep₁ _ fun acts => by rw [doInvoke_state]; exact hsteps⟩
end Calls
theorem vx_cls {s : State} {T : State} {vm₁ : Vm} {E : String} {k : ClassId} (hW : s.WarmedH vm₁) (h : (T.setVm vm₁).vm.findClass E = some k) : s.vm.findClass E = some k := by
  have h1 : vm₁.findClass E = some k := h
  rw [hW.alike.findClass] at h1
  exact h1
/-- the method's frame g, with q thrown over it -/
def vx_W (p : Program) (l : Launch) (e : Env) (R : Room) (s : State) (m : MethodId) (args : Array Value) (below : List Frame) (meth : Method) (c : Code) (H : Heap) (locs : List Loc) (cells slots : Nat) (Q : State → Prop) (g : JFrame) (q : Addr) : Prop :=
  ∀ T : State, T.heap = H → Stand p l e R s m args below meth c T locs cells slots → ∃ t, Steps p.tables e below ((T.setTop g).pushFrame (.throwing q)) t ∧ Q t
def vx_Run (p : Program) (l : Launch) (e : Env) (R : Room) (s : State) (m : MethodId) (args : Array Value) (below : List Frame) (meth : Method) (c : Code) (H : Heap) (locs : List Loc) (cells slots mc ms : Nat) (g : JFrame) (rest : List Value) (Qa : State → Outcome → State → Prop) (XC : String → State → State → Prop) (free : Addr → Prop) : Prop :=
  ∀ T : State, T.heap = H → Stand p l e R s m args below meth c T locs cells slots →
    (∃ (v : Option Value) (st₀ t T' : State) (L : List Loc), st₀.heap = H ∧ Stand p l e R s m args below meth c T' (locs ++ L) (cells + mc) (slots + ms) ∧ (∀ q ∈ L, free q.base) ∧ T'.heap = t.heap ∧ T'.vm = t.vm ∧ Qa st₀ (.returned v) t ∧
      Goes p e below T g T' { g with pc := g.pc + 3, stack := v.toList ++ rest }) ∨
    (∃ (q : Addr) (st₀ t T' : State) (L : List Loc) (E : String) (ce : Cell), st₀.heap = H ∧ Stand p l e R s m args below meth c T' (locs ++ L) (cells + mc) (slots + ms) ∧ (∀ z ∈ L, free z.base) ∧ T'.heap = t.heap ∧ T'.vm = t.vm ∧ XC E st₀ t ∧ t.heap[q]? = some ce ∧ ce.vm = .none ∧ s.vm.findClass E = some ce.cls ∧
      Steps p.tables e below (T.setTop g) ((T'.setTop { g with stack := rest }).pushFrame (.throwing q)))
def vx_X {S : Type} (px : S → Prop) (B : String → S → State → Prop) (A : Nat → Prop) : String → State → State → Prop := fun E st t => ∃ u : S, px u ∧ B E u t ∧ va_F A st t
section Runs
variable {p : Program} {l : Launch} {e : Env} {R : Room} {s : State} {m : MethodId} {args : Array Value} {below : List Frame} {meth : Method} {c : Code} {H : Heap} {locs : List Loc} {cells slots : Nat}
variable {y : MethodName} {bytes cc : ByteArray} {maxL nL mc ms n index : Nat} {ret : Option FieldType} {ws : List Cond} {rm : Room} {Pc : Array Value → State → Prop} {Qc : Array Value → State → Outcome → State → Prop} {XC : String → State → State → Prop} {free : Addr → Prop} {Ts : List Cond} {own C : String} {b : Addr} {As rest : List Value} {g : JFrame}
theorem vx_callBack (cb : CallB R s args own index y bytes maxL ret ws rm mc ms n) (hM : vx_Met l y ws rm Pc Qc XC mc ms free) (hbl : FrameBlind Pc) : vx_Back l R p e below s args y 3 8 (PreOf R mc ms Pc) (PostOf Qc mc ms free) (vx_Post XC mc ms free) := by
  obtain ⟨hrc, hrs, hfr, hlo, hws, hcw, -, hini, -⟩ := cb
  exact vx_back (bytes := bytes) (maxL := maxL) (ret := ret) hM hbl hrc hrs hfr hlo hws hcw (fun a' U hW => word_at hW (Or.inl (by first | rfl | simp [Cond.onTables, Cond.keeps, Cond.steady])) hini)
theorem vx_runV (S : CallFix p m c cc nL s args Ts own) (hM : vx_Met l y ws rm Pc Qc XC mc ms free) (cw : CallW R s args own C index y bytes maxL ret ws rm mc ms n) (hp : PreV s H C b Pc As)
    (hg : g.method = m) (hn : As.length = n) (hsize : g.locals.size = nL) (hstack : g.stack = As.reverse ++ .ref b :: rest) (hW : 2 * g.monitorRoom + (rest.map fun v => v.category).sum ≤ 8) (hdg : decode cc g.pc = .ok (.invokevirtual index, 3)) (hf : cells + mc ≤ R.cells ∧ slots + ms ≤ R.slots) :
    vx_Run p l e R s m args below meth c H locs cells slots mc ms g rest (Qc (Value.ref b :: As).toArray) XC free := by
  have hK : vx_Back l R p e below s args y 3 8 (PreOf R mc ms Pc) (PostOf Qc mc ms free) (vx_Post XC mc ms free) := vx_callBack cw.1 hM hp.1
  obtain ⟨⟨-, -, -, -, -, -, hcode, -, hy, hlen, hl⟩, hin, hse⟩ := cw
  obtain ⟨hx, hb, hml, ho, -⟩ := S
  obtain ⟨-, ⟨cellB, hcB, hoB, hclB⟩, hPc⟩ := hp
  intro T hT X
  rcases vx_callV X hx (C := C) (bytes := bytes) (maxL := maxL) (ret := ret) ho hl hin hse hcode hy hK (by rw [hT]; exact hcB) hoB hclB hg (hsize.trans hml.symm) (argsL := As) (rest := rest) (fun sig h => hn.trans (hlen sig h)) hstack hW (by rw [hb]; exact hdg)
    (fun vm₁ hW₁ => ⟨hf.1, hf.2, hPc (T.setVm vm₁) hT hW₁⟩) with ⟨v, vm₁, ⟨U', l2, c2, s2⟩, hW₁, X', ⟨g', mk, t, L, e1, e2, hq, h1, hL, h2, h3⟩, st⟩ | ⟨q, vm₁, ⟨U', l2, c2, s2⟩, hW₁, X', ⟨g', mk, t, L, E, ce, e1, e2, hq, hce, hcv, hcl, h1, hL, h2, h3⟩, st⟩
  · dsimp only [Pt.U, Pt.locs, Pt.cells, Pt.slots] at X' e1 e2 h1 h2 h3 st
    subst h1; subst h2; subst h3
    exact Or.inl ⟨v, (T.setVm vm₁).calling g' mk (Value.ref b :: As).toArray, t, U', L, hT, X', hL, e1, e2, hq, st⟩
  · dsimp only [Pt.U, Pt.locs, Pt.cells, Pt.slots] at X' e1 e2 h1 h2 h3 st hcl
    subst h1; subst h2; subst h3
    exact Or.inr ⟨q, (T.setVm vm₁).calling g' mk (Value.ref b :: As).toArray, t, U', L, E, ce, hT, X', hL, e1, e2, hq, hce, hcv, vx_cls hW₁ hcl, st⟩
theorem vx_runS (S : CallFix p m c cc nL s args Ts own) (hM : vx_Met l y ws rm Pc Qc XC mc ms free) (cw : CallB R s args own index y bytes maxL ret ws rm mc ms n ∧ (Cond.static y).before args s = true) (hp : PreS s H Pc As)
    (hg : g.method = m) (hn : As.length = n) (hsize : g.locals.size = nL) (hstack : g.stack = As.reverse ++ rest) (hW : 2 * g.monitorRoom + (rest.map fun v => v.category).sum ≤ 8) (hdg : decode cc g.pc = .ok (.invokestatic index, 3)) (hf : cells + mc ≤ R.cells ∧ slots + ms ≤ R.slots) :
    vx_Run p l e R s m args below meth c H locs cells slots mc ms g rest (Qc As.toArray) XC free := by
  have hK : vx_Back l R p e below s args y 3 8 (PreOf R mc ms Pc) (PostOf Qc mc ms free) (vx_Post XC mc ms free) := vx_callBack cw.1 hM hp.1
  obtain ⟨⟨-, -, -, -, -, -, hcode, hini, hy, hlen, hl⟩, hstt⟩ := cw
  obtain ⟨hx, hb, hml, ho, -⟩ := S
  intro T hT X
  rcases vx_callS X hx (bytes := bytes) (maxL := maxL) (ret := ret) ho hl hstt hini hcode hy hK hg (hsize.trans hml.symm) (argsL := As) (rest := rest) (fun sig h => hn.trans (hlen sig h)) hstack hW (by rw [hb]; exact hdg)
    (fun vm₁ hW₁ => ⟨hf.1, hf.2, hp.2 (T.setVm vm₁) hT hW₁⟩) with ⟨v, vm₁, ⟨U', l2, c2, s2⟩, hW₁, X', ⟨g', mk, t, L, e1, e2, hq, h1, hL, h2, h3⟩, st⟩ | ⟨q, vm₁, ⟨U', l2, c2, s2⟩, hW₁, X', ⟨g', mk, t, L, E, ce, e1, e2, hq, hce, hcv, hcl, h1, hL, h2, h3⟩, st⟩
  · dsimp only [Pt.U, Pt.locs, Pt.cells, Pt.slots] at X' e1 e2 h1 h2 h3 st
    subst h1; subst h2; subst h3
    exact Or.inl ⟨v, (T.setVm vm₁).calling g' mk As.toArray, t, U', L, hT, X', hL, e1, e2, hq, st⟩
  · dsimp only [Pt.U, Pt.locs, Pt.cells, Pt.slots] at X' e1 e2 h1 h2 h3 st hcl
    subst h1; subst h2; subst h3
    exact Or.inr ⟨q, (T.setVm vm₁).calling g' mk As.toArray, t, U', L, E, ce, hT, X', hL, e1, e2, hq, hce, hcv, vx_cls hW₁ hcl, st⟩
end Runs
section Rows
variable {p : Program} {l : Launch} {e : Env} {R : Room} {s : State} {m : MethodId} {args : Array Value} {below : List Frame} {meth : Method} {c : Code} {H : Heap} {locs : List Loc} {cells slots : Nat} {Q : State → Prop}
variable {mc ms : Nat} {free : Addr → Prop} {A0 A1 : Nat → Prop} {H0 : Heap} {a : Array Value} {pc : Nat} {ls : Array Slot} {st0 rest : List Value}
theorem vx_keep {st₀ t T' : State} {L : List Loc} (h0 : st₀.heap = H) (e1 : T'.heap = t.heap) (hS : va_S A0 H0 H locs) (hA : ∀ q, q < H.size → A1 q → A0 q) (hf : ∀ q, free q → A0 q) (hL : ∀ q ∈ L, free q.base) (hF : va_F A1 st₀ t) :
    H.size ≤ T'.heap.size ∧ (∀ q : Nat, q < H.size → ¬ A1 q → T'.heap[q]? = H[q]?) ∧ va_S A0 H0 T'.heap (locs ++ L) := by
  obtain ⟨hz, hk⟩ := hF
  rw [h0] at hz hk
  exact ⟨by rw [e1]; exact hz, fun q h1 h2 => by rw [e1]; exact hk q h1 h2,
    ⟨Nat.le_trans hS.1 (by rw [e1]; exact hz), fun q h1 h2 => by rw [e1, hk q (Nat.lt_of_lt_of_le h1 hS.1) (fun z => h2 (hA q (Nat.lt_of_lt_of_le h1 hS.1) z))]; exact hS.2.1 q h1 h2, fun q hq => by
      rcases List.mem_append.mp hq with h | h
      · exact hS.2.2 q h
      · exact hf _ (hL q h)⟩⟩
theorem vx_calli {S SX : Type} {post : Int32 → S → Prop} {px : SX → Prop} {B : S → State → Prop} {BX : String → SX → State → Prop} {AX : Nat → Prop} (hr : vx_Run p l e R s m args below meth c H locs cells slots mc ms (F0 m pc ls st0) rest (va_Qi post B A1 a) (vx_X px BX AX) free) (hS : va_S A0 H0 H locs) (hA : ∀ q, q < H.size → A1 q → A0 q) (hf : ∀ q, free q → A0 q) (hAX : ∀ q, q < H.size → AX q → A0 q)
    (kx : ∀ (E : String) (ce : Cell) (q9 : Addr) (u : SX) (t : State) (H1 : Heap) (locs1 : List Loc), t.heap = H1 → s.vm.Alike t.vm → px u → BX E u t → H.size ≤ H1.size → (∀ q : Nat, q < H.size → ¬ AX q → H1[q]? = H[q]?) → va_S A0 H0 H1 locs1 → H1[q9]? = some ce → ce.vm = .none → s.vm.findClass E = some ce.cls → vx_W p l e R s m args below meth c H1 locs1 (cells + mc) (slots + ms) Q (F0 m pc ls rest) q9)
    (kk : ∀ (r : Int32) (u : S) (t : State) (H1 : Heap) (locs1 : List Loc), t.heap = H1 → s.vm.Alike t.vm → post r u → B u t → H.size ≤ H1.size → (∀ q : Nat, q < H.size → ¬ A1 q → H1[q]? = H[q]?) → va_S A0 H0 H1 locs1 → W p l e R s m args below meth c H1 locs1 (cells + mc) (slots + ms) Q (F0 m (pc + 3) ls (.int r :: rest))) : W p l e R s m args below meth c H locs cells slots Q (F0 m pc ls st0) := by
  intro T hT X
  rcases hr T hT X with ⟨v, st₀, t, T', L, h0, X', hL, e1, e2, ⟨⟨r, u, hv, hp, hb⟩, hF⟩, st⟩ | ⟨q, st₀, t, T', L, E, ce, h0, X', hL, e1, e2, ⟨u, hp, hb, hF⟩, hce, hcv, hcl, st⟩
  · cases hv
    obtain ⟨k1, k2, k3⟩ := vx_keep h0 e1 hS hA hf hL hF
    obtain ⟨t2, a1, b1⟩ := kk r u t T'.heap (locs ++ L) e1.symm (by rw [← e2]; exact X'.warmed.alike) hp hb k1 k2 k3 T' rfl X'
    exact ⟨t2, st t2 a1, b1⟩
  · obtain ⟨k1, k2, k3⟩ := vx_keep h0 e1 hS hAX hf hL hF
    obtain ⟨t2, a1, b1⟩ := kx E ce q u t T'.heap (locs ++ L) e1.symm (by rw [← e2]; exact X'.warmed.alike) hp hb k1 k2 k3 (by rw [e1]; exact hce) hcv hcl T' rfl X'
    exact ⟨t2, st.trans a1, b1⟩
theorem vx_calll {S SX : Type} {post : Int64 → S → Prop} {px : SX → Prop} {B : S → State → Prop} {BX : String → SX → State → Prop} {AX : Nat → Prop} (hr : vx_Run p l e R s m args below meth c H locs cells slots mc ms (F0 m pc ls st0) rest (va_Ql post B A1 a) (vx_X px BX AX) free) (hS : va_S A0 H0 H locs) (hA : ∀ q, q < H.size → A1 q → A0 q) (hf : ∀ q, free q → A0 q) (hAX : ∀ q, q < H.size → AX q → A0 q)
    (kx : ∀ (E : String) (ce : Cell) (q9 : Addr) (u : SX) (t : State) (H1 : Heap) (locs1 : List Loc), t.heap = H1 → s.vm.Alike t.vm → px u → BX E u t → H.size ≤ H1.size → (∀ q : Nat, q < H.size → ¬ AX q → H1[q]? = H[q]?) → va_S A0 H0 H1 locs1 → H1[q9]? = some ce → ce.vm = .none → s.vm.findClass E = some ce.cls → vx_W p l e R s m args below meth c H1 locs1 (cells + mc) (slots + ms) Q (F0 m pc ls rest) q9)
    (kk : ∀ (r : Int64) (u : S) (t : State) (H1 : Heap) (locs1 : List Loc), t.heap = H1 → s.vm.Alike t.vm → post r u → B u t → H.size ≤ H1.size → (∀ q : Nat, q < H.size → ¬ A1 q → H1[q]? = H[q]?) → va_S A0 H0 H1 locs1 → W p l e R s m args below meth c H1 locs1 (cells + mc) (slots + ms) Q (F0 m (pc + 3) ls (.long r :: rest))) : W p l e R s m args below meth c H locs cells slots Q (F0 m pc ls st0) := by
  intro T hT X
  rcases hr T hT X with ⟨v, st₀, t, T', L, h0, X', hL, e1, e2, ⟨⟨r, u, hv, hp, hb⟩, hF⟩, st⟩ | ⟨q, st₀, t, T', L, E, ce, h0, X', hL, e1, e2, ⟨u, hp, hb, hF⟩, hce, hcv, hcl, st⟩
  · cases hv
    obtain ⟨k1, k2, k3⟩ := vx_keep h0 e1 hS hA hf hL hF
    obtain ⟨t2, a1, b1⟩ := kk r u t T'.heap (locs ++ L) e1.symm (by rw [← e2]; exact X'.warmed.alike) hp hb k1 k2 k3 T' rfl X'
    exact ⟨t2, st t2 a1, b1⟩
  · obtain ⟨k1, k2, k3⟩ := vx_keep h0 e1 hS hAX hf hL hF
    obtain ⟨t2, a1, b1⟩ := kx E ce q u t T'.heap (locs ++ L) e1.symm (by rw [← e2]; exact X'.warmed.alike) hp hb k1 k2 k3 (by rw [e1]; exact hce) hcv hcl T' rfl X'
    exact ⟨t2, st.trans a1, b1⟩
theorem vx_callf {S SX : Type} {post : UInt32 → S → Prop} {px : SX → Prop} {B : S → State → Prop} {BX : String → SX → State → Prop} {AX : Nat → Prop} (hr : vx_Run p l e R s m args below meth c H locs cells slots mc ms (F0 m pc ls st0) rest (va_Qf post B A1 a) (vx_X px BX AX) free) (hS : va_S A0 H0 H locs) (hA : ∀ q, q < H.size → A1 q → A0 q) (hf : ∀ q, free q → A0 q) (hAX : ∀ q, q < H.size → AX q → A0 q)
    (kx : ∀ (E : String) (ce : Cell) (q9 : Addr) (u : SX) (t : State) (H1 : Heap) (locs1 : List Loc), t.heap = H1 → s.vm.Alike t.vm → px u → BX E u t → H.size ≤ H1.size → (∀ q : Nat, q < H.size → ¬ AX q → H1[q]? = H[q]?) → va_S A0 H0 H1 locs1 → H1[q9]? = some ce → ce.vm = .none → s.vm.findClass E = some ce.cls → vx_W p l e R s m args below meth c H1 locs1 (cells + mc) (slots + ms) Q (F0 m pc ls rest) q9)
    (kk : ∀ (r : UInt32) (u : S) (t : State) (H1 : Heap) (locs1 : List Loc), t.heap = H1 → s.vm.Alike t.vm → post r u → B u t → H.size ≤ H1.size → (∀ q : Nat, q < H.size → ¬ A1 q → H1[q]? = H[q]?) → va_S A0 H0 H1 locs1 → W p l e R s m args below meth c H1 locs1 (cells + mc) (slots + ms) Q (F0 m (pc + 3) ls (.float r :: rest))) : W p l e R s m args below meth c H locs cells slots Q (F0 m pc ls st0) := by
  intro T hT X
  rcases hr T hT X with ⟨v, st₀, t, T', L, h0, X', hL, e1, e2, ⟨⟨r, u, hv, hp, hb⟩, hF⟩, st⟩ | ⟨q, st₀, t, T', L, E, ce, h0, X', hL, e1, e2, ⟨u, hp, hb, hF⟩, hce, hcv, hcl, st⟩
  · cases hv
    obtain ⟨k1, k2, k3⟩ := vx_keep h0 e1 hS hA hf hL hF
    obtain ⟨t2, a1, b1⟩ := kk r u t T'.heap (locs ++ L) e1.symm (by rw [← e2]; exact X'.warmed.alike) hp hb k1 k2 k3 T' rfl X'
    exact ⟨t2, st t2 a1, b1⟩
  · obtain ⟨k1, k2, k3⟩ := vx_keep h0 e1 hS hAX hf hL hF
    obtain ⟨t2, a1, b1⟩ := kx E ce q u t T'.heap (locs ++ L) e1.symm (by rw [← e2]; exact X'.warmed.alike) hp hb k1 k2 k3 (by rw [e1]; exact hce) hcv hcl T' rfl X'
    exact ⟨t2, st.trans a1, b1⟩
theorem vx_calld {S SX : Type} {post : UInt64 → S → Prop} {px : SX → Prop} {B : S → State → Prop} {BX : String → SX → State → Prop} {AX : Nat → Prop} (hr : vx_Run p l e R s m args below meth c H locs cells slots mc ms (F0 m pc ls st0) rest (va_Qd post B A1 a) (vx_X px BX AX) free) (hS : va_S A0 H0 H locs) (hA : ∀ q, q < H.size → A1 q → A0 q) (hf : ∀ q, free q → A0 q) (hAX : ∀ q, q < H.size → AX q → A0 q)
    (kx : ∀ (E : String) (ce : Cell) (q9 : Addr) (u : SX) (t : State) (H1 : Heap) (locs1 : List Loc), t.heap = H1 → s.vm.Alike t.vm → px u → BX E u t → H.size ≤ H1.size → (∀ q : Nat, q < H.size → ¬ AX q → H1[q]? = H[q]?) → va_S A0 H0 H1 locs1 → H1[q9]? = some ce → ce.vm = .none → s.vm.findClass E = some ce.cls → vx_W p l e R s m args below meth c H1 locs1 (cells + mc) (slots + ms) Q (F0 m pc ls rest) q9)
    (kk : ∀ (r : UInt64) (u : S) (t : State) (H1 : Heap) (locs1 : List Loc), t.heap = H1 → s.vm.Alike t.vm → post r u → B u t → H.size ≤ H1.size → (∀ q : Nat, q < H.size → ¬ A1 q → H1[q]? = H[q]?) → va_S A0 H0 H1 locs1 → W p l e R s m args below meth c H1 locs1 (cells + mc) (slots + ms) Q (F0 m (pc + 3) ls (.double r :: rest))) : W p l e R s m args below meth c H locs cells slots Q (F0 m pc ls st0) := by
  intro T hT X
  rcases hr T hT X with ⟨v, st₀, t, T', L, h0, X', hL, e1, e2, ⟨⟨r, u, hv, hp, hb⟩, hF⟩, st⟩ | ⟨q, st₀, t, T', L, E, ce, h0, X', hL, e1, e2, ⟨u, hp, hb, hF⟩, hce, hcv, hcl, st⟩
  · cases hv
    obtain ⟨k1, k2, k3⟩ := vx_keep h0 e1 hS hA hf hL hF
    obtain ⟨t2, a1, b1⟩ := kk r u t T'.heap (locs ++ L) e1.symm (by rw [← e2]; exact X'.warmed.alike) hp hb k1 k2 k3 T' rfl X'
    exact ⟨t2, st t2 a1, b1⟩
  · obtain ⟨k1, k2, k3⟩ := vx_keep h0 e1 hS hAX hf hL hF
    obtain ⟨t2, a1, b1⟩ := kx E ce q u t T'.heap (locs ++ L) e1.symm (by rw [← e2]; exact X'.warmed.alike) hp hb k1 k2 k3 (by rw [e1]; exact hce) hcv hcl T' rfl X'
    exact ⟨t2, st.trans a1, b1⟩
theorem vx_callv {S SX : Type} {post : S → Prop} {px : SX → Prop} {B : S → State → Prop} {BX : String → SX → State → Prop} {AX : Nat → Prop} (hr : vx_Run p l e R s m args below meth c H locs cells slots mc ms (F0 m pc ls st0) rest (va_Qv post B A1 a) (vx_X px BX AX) free) (hS : va_S A0 H0 H locs) (hA : ∀ q, q < H.size → A1 q → A0 q) (hf : ∀ q, free q → A0 q) (hAX : ∀ q, q < H.size → AX q → A0 q)
    (kx : ∀ (E : String) (ce : Cell) (q9 : Addr) (u : SX) (t : State) (H1 : Heap) (locs1 : List Loc), t.heap = H1 → s.vm.Alike t.vm → px u → BX E u t → H.size ≤ H1.size → (∀ q : Nat, q < H.size → ¬ AX q → H1[q]? = H[q]?) → va_S A0 H0 H1 locs1 → H1[q9]? = some ce → ce.vm = .none → s.vm.findClass E = some ce.cls → vx_W p l e R s m args below meth c H1 locs1 (cells + mc) (slots + ms) Q (F0 m pc ls rest) q9)
    (kk : ∀ (u : S) (t : State) (H1 : Heap) (locs1 : List Loc), t.heap = H1 → s.vm.Alike t.vm → post u → B u t → H.size ≤ H1.size → (∀ q : Nat, q < H.size → ¬ A1 q → H1[q]? = H[q]?) → va_S A0 H0 H1 locs1 → W p l e R s m args below meth c H1 locs1 (cells + mc) (slots + ms) Q (F0 m (pc + 3) ls (rest))) : W p l e R s m args below meth c H locs cells slots Q (F0 m pc ls st0) := by
  intro T hT X
  rcases hr T hT X with ⟨v, st₀, t, T', L, h0, X', hL, e1, e2, ⟨⟨u, hv, hp, hb⟩, hF⟩, st⟩ | ⟨q, st₀, t, T', L, E, ce, h0, X', hL, e1, e2, ⟨u, hp, hb, hF⟩, hce, hcv, hcl, st⟩
  · cases hv
    obtain ⟨k1, k2, k3⟩ := vx_keep h0 e1 hS hA hf hL hF
    obtain ⟨t2, a1, b1⟩ := kk u t T'.heap (locs ++ L) e1.symm (by rw [← e2]; exact X'.warmed.alike) hp hb k1 k2 k3 T' rfl X'
    exact ⟨t2, st t2 a1, b1⟩
  · obtain ⟨k1, k2, k3⟩ := vx_keep h0 e1 hS hAX hf hL hF
    obtain ⟨t2, a1, b1⟩ := kx E ce q u t T'.heap (locs ++ L) e1.symm (by rw [← e2]; exact X'.warmed.alike) hp hb k1 k2 k3 (by rw [e1]; exact hce) hcv hcl T' rfl X'
    exact ⟨t2, st.trans a1, b1⟩
/-- caught by the row x of this method's table; the rows ahead don't take it -/
theorem vx_catch {own name : String} {E : String} {ce : Cell} {q : Addr} (hown : s.vm.findClass own = some m.cls) (pre : List ExceptionTableEntry) (x : ExceptionTableEntry) (suf : List ExceptionTableEntry) (hsplit : c.exceptionTable.toList = pre ++ x :: suf)
    (hpass : ∀ z ∈ pre, covers z pc = false ∨ (z.catchType ≠ 0 ∧ ∃ nm : String, (Cond.classLink own z.catchType nm).before args s = true ∧ va_Nc E nm s)) (hx : covers x pc = true) (h0 : x.catchType ≠ 0)
    (hlink : (Cond.classLink own x.catchType name).before args s = true) (hcast : (Cond.castable E name).before args s = true) (hcell : H[q]? = some ce) (hv : ce.vm = .none) (hcl : s.vm.findClass E = some ce.cls)
    (kk : W p l e R s m args below meth c H locs cells slots Q (F0 m x.handlerPc ls [.ref q])) : vx_W p l e R s m args below meth c H locs cells slots Q (F0 m pc ls rest) q := by
  intro T hT X
  have hpl : e.platform.magicAccessors = ({} : Platform).magicAccessors := by rw [X.admits.platform]
  obtain ⟨c3, c4, hc3, hc4, hasg⟩ := Cond.castable_spec hcast
  cases Option.some.inj (hc3.symm.trans hcl)
  obtain ⟨c5, hc5, hcl5⟩ := Cond.classLink_spec hown hlink e.platform hpl
  cases Option.some.inj (hc4.symm.trans hc5)
  obtain ⟨vm', X', st⟩ := X.thenCaughtThrough q (g := F0 m pc ls rest) rfl (Steps.refl _) (by rw [hT]; exact hcell) (by rw [hv]; rfl) (by obtain ⟨k9, h9, -⟩ := Vm.findClass_spec hcl; exact ⟨k9, h9⟩) pre x suf hsplit
    (fun z hz => by
      rcases hpass z hz with h | ⟨hz0, nm, hl1, hn1⟩
      · exact Or.inl h
      · obtain ⟨c6, hc6, hcl6⟩ := Cond.classLink_spec hown hl1 e.platform hpl
        obtain ⟨a8, b8, h1, h2, h3⟩ := hn1
        cases Option.some.inj (h1.symm.trans hcl)
        cases Option.some.inj (h2.symm.trans hc6)
        exact Or.inr ⟨hz0, _, hcl6, h3⟩) hx (Or.inr ⟨h0, c4, hcl5, hasg⟩)
  obtain ⟨t, a1, b1⟩ := kk (T.setVm vm') hT X'
  exact ⟨t, st.trans a1, b1⟩
end Rows
section Ends
variable {p : Program} {l : Launch} {e : Env} {R : Room} {s : State} {m : MethodId} {args : Array Value} {below : List Frame} {meth : Method} {c : Code} {H : Heap} {locs : List Loc} {cells slots : Nat} {Q : State → Prop}
variable {mc ms : Nat} {free : Addr → Prop} {A0 A1 : Nat → Prop} {H0 : Heap} {a : Array Value} {ls : Array Slot} {st0 rest : List Value}
variable {Qc : Array Value → State → Outcome → State → Prop} {XC : String → State → State → Prop}
/-- what a body that may throw owes at its end -/
def vx_MQ (below : List Frame) (Qc : Array Value → State → Outcome → State → Prop) (XC : String → State → State → Prop) (a : Array Value) (s : State) (mc ms : Nat) (free : Addr → Prop) : State → Prop := fun t =>
  ∃ o, t.status = .running ∧ Ended t below o ∧ vx_Q Qc XC mc ms free a s o t
theorem vx_ret {g : JFrame} {mc ms : Nat} (k : W p l e R s m args below meth c H locs cells slots (MQ below Qc args s mc ms free) g) : W p l e R s m args below meth c H locs cells slots (vx_MQ below Qc XC args s mc ms free) g := by
  intro T hT X
  obtain ⟨t, a1, o, b1, b2, b3, b4⟩ := k T hT X
  exact ⟨t, a1, o, b1, b2, Or.inl ⟨b3, b4⟩⟩
/-- not caught here: it goes on to the caller -/
theorem vx_widen {g : JFrame} {q : Addr} {k n : Nat} (h1 : cells ≤ k) (h2 : slots ≤ n) (kk : vx_W p l e R s m args below meth c H locs k n Q g q) : vx_W p l e R s m args below meth c H locs cells slots Q g q := fun T hT X => kk T hT (stand_widen X h1 h2)
theorem vx_out {pc : Nat} {E : String} {ce : Cell} {q : Addr} {mc ms : Nat} (hout : ∀ x ∈ c.exceptionTable.toList, covers x pc = false) (hlocks : meth.locks = false) (hcell : H[q]? = some ce) (hv : ce.vm = .none) (hcl : s.vm.findClass E = some ce.cls)
    (hx : ∀ t : State, t.heap = H → s.vm.Alike t.vm → XC E s t) (hf : ∀ z ∈ locs, free z.base) (hc : cells ≤ mc) (hs : slots ≤ ms) :
    vx_W p l e R s m args below meth c H locs cells slots (vx_MQ below Qc XC args s mc ms free) (F0 m pc ls rest) q := by
  intro T hT X
  obtain ⟨st1, hrun, hend, hW, hsm⟩ := X.leaveThrown q (g := F0 m pc ls rest) rfl rfl rfl hout hlocks
  have hcell9 : (T.setFrames (.throwing q :: below)).heap[q]? = some ce := by
    show T.heap[q]? = some ce
    rw [hT]; exact hcell
  exact ⟨_, st1, .threw q, hrun, hend, Or.inr ⟨q, rfl, E, ce, locs, hx _ hT hW.alike, hcell9, hv, hcl, hW, hsm.mono hc hs, hf⟩⟩
theorem vx_frame {U : State} {k n : Nat} (h : s.sameButNew ({ U with vm := s.vm } : State) locs k n) : s.heap.size ≤ U.heap.size ∧ ∀ q : Nat, q < s.heap.size → (∀ z ∈ locs, z.base ≠ q) → U.heap[q]? = s.heap[q]? := by
  obtain ⟨-, h2, -, -, -, h6⟩ := h
  refine ⟨h2, fun q hq hz => ?_⟩
  obtain ⟨c9, e1, e2, e3, e4⟩ := h6 q _ (Array.getElem?_eq_getElem hq)
  have hs : c9.slots = (s.heap[q]).slots := Array.ext_getElem? fun i => e4 i fun hm => hz _ hm rfl
  have h9 : c9 = s.heap[q] := by
    rw [hs] at e2
    exact e2
  have e5 : U.heap[q]? = some c9 := e1
  rw [e5, h9, Array.getElem?_eq_getElem hq]
/-- the words of a throw but the four that speak of the heap -/
def vx_no (w : Cond) : Bool := decide (w ≠ .isRef (.static Bundle.tN "UNASSIGNED_STACK" Bundle.steD)) && decide (w ≠ .isRef (.static Bundle.tN "SUPPRESSED_SENTINEL" Bundle.listD)) && decide (w ≠ .laysStatic Bundle.tN "UNASSIGNED_STACK" Bundle.steD) && decide (w ≠ .laysStatic Bundle.tN "SUPPRESSED_SENTINEL" Bundle.listD)
def vx_at0 (own : String) (ic : Nat) (X : String) (names : List String) : List Cond := (Bundle.ownAtoms0 own ic X names).filter vx_no
def vx_atS (own : String) (ic : Nat) (X : String) (names : List String) : List Cond := (Bundle.ownAtoms own ic X names).filter vx_no
/-- a word that the tables alone decide, or a good one -/
def vx_ot (w : Cond) : Bool := w.onTables || goodWord w
theorem vx_ot_at {args a' : Array Value} {s U : State} {w : Cond} (hW : s.WarmedH U.vm) (hvm : s.vm = U.vm) (hg : vx_ot w = true) (h : w.before args s = true) : w.before a' U = true := by
  simp only [vx_ot, Bool.or_eq_true] at hg
  rcases hg with hg | hg
  · exact va_tabs hg hvm h
  · exact word_at hW (good_of_word hg) h
/-- a list's words: the good ones out of the method's own list, the others by premises of their own -/
theorem vx_hat {args : Array Value} {s : State} {L B : List Cond} (h1 : ∀ w ∈ L.filter goodWord, w.before args s = true) (h2 : ∀ w ∈ L.filter (fun w => !goodWord w), w ∈ B) (h3 : ∀ w ∈ B, w.before args s = true) : ∀ w ∈ L, w.before args s = true := by
  intro w hw
  by_cases g : goodWord w = true
  · exact h1 w (List.mem_filter.mpr ⟨hw, g⟩)
  · refine h3 w (h2 w (List.mem_filter.mpr ⟨hw, ?_⟩))
    show (!goodWord w) = true
    cases hgw : goodWord w
    · rfl
    · exact absurd hgw g
theorem vx_c {args : Array Value} {s : State} {w : Cond} {B : List Cond} (h : w.before args s = true) (t : ∀ w ∈ B, w.before args s = true) : ∀ w' ∈ w :: B, w'.before args s = true := fun w' h' => (List.mem_cons.mp h').elim (fun e => by rw [e]; exact h) (t w')
theorem vx_n {args : Array Value} {s : State} : ∀ w ∈ ([] : List Cond), w.before args s = true := fun _ h => nomatch h
theorem vx_own {args : Array Value} {s : State} {L : List Cond} (h1 : ∀ w ∈ L.filter vx_no, w.before args s = true)
    (hU : (Cond.isRef (.static Bundle.tN "UNASSIGNED_STACK" Bundle.steD)).before args s = true) (hN : (Cond.isRef (.static Bundle.tN "SUPPRESSED_SENTINEL" Bundle.listD)).before args s = true)
    (lU : (Cond.laysStatic Bundle.tN "UNASSIGNED_STACK" Bundle.steD).before args s = true) (lN : (Cond.laysStatic Bundle.tN "SUPPRESSED_SENTINEL" Bundle.listD).before args s = true) : ∀ w ∈ L, w.before args s = true := by
  intro w hw
  by_cases e1 : w = .isRef (.static Bundle.tN "UNASSIGNED_STACK" Bundle.steD)
  · rw [e1]; exact hU
  · by_cases e2 : w = .isRef (.static Bundle.tN "SUPPRESSED_SENTINEL" Bundle.listD)
    · rw [e2]; exact hN
    · by_cases e3 : w = .laysStatic Bundle.tN "UNASSIGNED_STACK" Bundle.steD
      · rw [e3]; exact lU
      · by_cases e4 : w = .laysStatic Bundle.tN "SUPPRESSED_SENTINEL" Bundle.listD
        · rw [e4]; exact lN
        · exact h1 w (List.mem_filter.mpr ⟨hw, by unfold vx_no; rw [decide_eq_true e1, decide_eq_true e2, decide_eq_true e3, decide_eq_true e4]; rfl⟩)
/-- where a static field lies, its class's statics cell in H -/
def vx_L (C n d : String) (A : Nat → Prop) (U : State) (H : Heap) : Prop := ∃ (c : ClassId) (k : Class) (i : Nat) (f : Field) (a : Nat) (cell : Cell), U.vm.findClass C = some c ∧ U.fieldFound? C n d = some (c, k, i, f) ∧ f.isStatic = true ∧ k.statics = some a ∧ H[a]? = some cell ∧ cell.vm.isStatics = true ∧ cell.cls = c ∧ f.slot < cell.slots.size ∧ k.staticTypes[f.slot]? = some f.type ∧ ¬ A a
theorem vx_L.moved {C n d : String} {A : Nat → Prop} {u U : State} {H : Heap} (hvm : u.vm.Alike U.vm) (h : vx_L C n d A u H) : vx_L C n d A U H := by
  obtain ⟨c, k, i, f, a, cell, h1, h2, h3, h4, h5, h6, h7, h8, h9, h10⟩ := h
  obtain ⟨k', hi', he⟩ := State.fieldFound?_setVm hvm h2
  exact ⟨c, k', i, f, a, cell, by rw [hvm.findClass]; exact h1, hi', h3, by rw [he]; exact h4, h5, h6, h7, h8, by rw [he]; exact h9, h10⟩
theorem vx_L.kept {C n d : String} {A : Nat → Prop} {U : State} {H H1 : Heap} (h : vx_L C n d A U H) (hq : ∀ a : Nat, a < H.size → ¬ A a → H1[a]? = H[a]?) : vx_L C n d A U H1 := by
  obtain ⟨c, k, i, f, a, cell, h1, h2, h3, h4, h5, h6, h7, h8, h9, h10⟩ := h
  exact ⟨c, k, i, f, a, cell, h1, h2, h3, h4, by rw [hq a (Array.getElem?_eq_some_iff.mp h5).1 h10]; exact h5, h6, h7, h8, h9, h10⟩
theorem vx_L.narrow {C n d : String} {A B : Nat → Prop} {U : State} {H : Heap} (h : vx_L C n d A U H) (hAB : ∀ q, B q → A q) : vx_L C n d B U H := by
  obtain ⟨c, k, i, f, a, cell, h1, h2, h3, h4, h5, h6, h7, h8, h9, h10⟩ := h
  exact ⟨c, k, i, f, a, cell, h1, h2, h3, h4, h5, h6, h7, h8, h9, fun z => h10 (hAB _ z)⟩
theorem vx_L.word {C n d : String} {A : Nat → Prop} {s : State} {args : Array Value} (h : vx_L C n d A s s.heap) : (Cond.laysStatic C n d).before args s = true := by
  obtain ⟨c, k, i, f, a, cell, h1, h2, h3, h4, h5, h6, h7, h8, h9, -⟩ := h
  show (Cond.laysStatic C n d).holds args s none s [] = true
  exact Cond.laysStatic_of h1 h2 h3 h4 h5 h6 h7 h8 h9
/-- .. and what it holds: null or some reference -/
def vx_Zq (C n d : String) (A : Nat → Prop) (U : State) (H : Heap) : Prop := va_Zq C n d A U H ∧ vx_L C n d A U H
theorem vx_Zq.moved {C n d : String} {A : Nat → Prop} {u U : State} {H : Heap} (hvm : u.vm.Alike U.vm) (h : vx_Zq C n d A u H) : vx_Zq C n d A U H := ⟨va_Zq.moved hvm h.1, vx_L.moved hvm h.2⟩
theorem vx_Zq.kept {C n d : String} {A : Nat → Prop} {U : State} {H H1 : Heap} (h : vx_Zq C n d A U H) (hq : ∀ a : Nat, a < H.size → ¬ A a → H1[a]? = H[a]?) : vx_Zq C n d A U H1 := ⟨va_Zq.kept h.1 hq, vx_L.kept h.2 hq⟩
theorem vx_Zq.narrow {C n d : String} {A B : Nat → Prop} {U : State} {H : Heap} (h : vx_Zq C n d A U H) (hAB : ∀ q, B q → A q) : vx_Zq C n d B U H := ⟨va_Zq.narrow h.1 hAB, vx_L.narrow h.2 hAB⟩
theorem vx_Zqof {args : Array Value} {s : State} {C n d : String} {A : Nat → Prop} (hl : (Cond.laysStatic C n d).before args s = true) (hini : (Cond.initialized C).before args s = true) (h : (Cond.isRef (.static C n d)).before args s = true) (hA : ∀ a : Nat, a < s.heap.size → ¬ A a) : vx_Zq C n d A s s.heap := by
  refine ⟨va_Zqof hl hini h hA, ?_⟩
  obtain ⟨c, k, i, f, a, cell, h1, h2, h3, h4, h5, h6, h7, h8, h9⟩ := Cond.laysStatic_spec hl
  exact ⟨c, k, i, f, a, cell, h1, h2, h3, h4, h5, h6, h7, h8, h9, hA a (Array.getElem?_eq_some_iff.mp h5).1⟩
theorem vx_isRef {C n d : String} {v : Value} {A : Nat → Prop} {s : State} {args : Array Value} (h : va_Z C n d v A s s.heap) (hv : v.isRef = true) : (Cond.isRef (.static C n d)).before args s = true := by
  obtain ⟨cf, kf, fi, f, a, cell, h1, h2, h3, h4, h5, h6, h7, -⟩ := h
  have he : (Term.static C n d).eval args s none [] s = some v := by
    simp [Term.eval, State.fieldNamed?, h1, h2, h4, h5, h6, h7]
  simp only [Cond.before, Cond.holds, Cond.value, he]
  cases v <;> simp_all [Value.isRef]
theorem vx_isRefq {C n d : String} {A : Nat → Prop} {s : State} {args : Array Value} (h : va_Zq C n d A s s.heap) : (Cond.isRef (.static C n d)).before args s = true := by
  rcases h with h | ⟨t, h⟩
  · exact vx_isRef h rfl
  · exact vx_isRef h rfl
/-- the same frame, seen from here: as if the method were called anew in this heap -/
theorem vx_rebase {T : State} (X : Stand p l e R s m args below meth c T locs cells slots) {R' : Room} (hf : R'.frames ≤ R.frames) (hl : R'.locals ≤ R.locals) (hc : cells + R'.cells ≤ R.cells) (hs : slots + R'.slots ≤ R.slots) :
    Stand p l e R' ((T.setVm s.vm).setFrames (.invoking m args :: below)) m args below meth c T [] 0 0 := by
  have htop : (T.setVm s.vm).topJava?.isSome := X.here.top
  have hF : ((T.setVm s.vm).setFrames (.invoking m args :: below)).frames = .invoking m args :: below := State.frames_setFrames _ (State.cur_lt_of_top htop)
  obtain ⟨g₀, hg0⟩ := Option.isSome_iff_exists.mp htop
  obtain ⟨r, hr⟩ := State.topJava?_eq_some.mp hg0
  have hl9 : e.platform.stackLimits (T.setVm s.vm).me = e.platform.stackLimits s.me := X.limits
  have hb9 : (T.setVm s.vm).me.stackBytes = s.me.stackBytes := X.bytes
  refine ⟨X.admits, X.cas, X.clock, hF, ?_, X.hears, X.method, X.code, X.here, X.tail, X.warmed, ?_, ?_, ?_⟩
  · have h := X.room
    have hU : ((T.setVm s.vm).setFrames (.invoking m args :: below)).localsInUse = s.localsInUse := by
      rw [State.localsInUse_invoking hF (meth := meth) (c := c) X.method X.code, State.localsInUse_invoking X.frames X.method X.code]
    simp only [State.hasRoom, Bool.and_eq_true, decide_eq_true_eq] at h ⊢
    obtain ⟨⟨⟨⟨h1, h2, h3, h4, h5, h6⟩, h7⟩, h8⟩, h9⟩ := h
    rw [X.frames, List.length_cons] at h2 h3
    have q1 := X.heapSize
    have q2 := X.used
    simp only [hF, hU, List.length_cons, State.stackLimits_setFrames, State.stackBytes_setFrames, hl9, hb9]
    refine ⟨⟨⟨⟨by omega, by omega, by omega, by omega, by omega, h6⟩, ?_⟩, ?_⟩, X.book⟩
    · show T.heap.size + R'.cells ≤ e.platform.maxCells
      omega
    · show T.slotsUsed + R'.slots ≤ e.platform.maxSlots
      omega
  · rw [State.stackLimits_setFrames]; rfl
  · rw [State.stackBytes_setFrames]; rfl
  · refine ⟨?_, Nat.le_refl _, Nat.le_refl _, ?_, ?_, fun a c9 h9 => ⟨c9, h9, rfl, rfl, fun _ _ => rfl⟩⟩
    · obtain ⟨t, ht, -⟩ := State.frames_cons hr
      show T.setVm s.vm = { ((T.setVm s.vm).setFrames (.invoking m args :: below)).setFrames (T.setVm s.vm).frames with heap := T.heap, slotsUsed := T.slotsUsed }
      rw [State.setFrames_setFrames, State.setFrames_self ht]
      rfl
    · show T.slotsUsed = T.slotsUsed + ((T.heap.toList.drop T.heap.size).map (·.slots.size)).sum
      rw [List.drop_eq_nil_of_le (Nat.le_of_eq Array.length_toList)]
      rfl
    · show ((T.heap.toList.drop T.heap.size).map (·.slots.size)).sum ≤ 0
      rw [List.drop_eq_nil_of_le (Nat.le_of_eq Array.length_toList)]
      exact Nat.le_refl _
/-- 'throw new E()': new; dup; invokespecial; athrow -/
theorem vx_throw0 {cc : ByteArray} {pc : Nat} (hexec : p.tables.exec = Jvm.exec) (hb : c.code = cc) (hl : l.stackTraces = false) {own cls : String} {names : List String} {ik ic mc ms : Nat} {A : Nat → Prop}
    (hown : s.vm.findClass own = some m.cls) (hcls : Bundle.fit cls = true) (hnames : ∀ n ∈ names, Bundle.fit n = true)
    (hk : (Cond.classLink own ik cls).before args s = true) (hini : (Cond.initialized cls).before args s = true) (hat : ∀ w ∈ vx_at0 own ic cls names, w.before args s = true)
    (hgood : ∀ w ∈ Cond.classLink own ik cls :: Cond.initialized cls :: vx_at0 own ic cls names, vx_ot w = true)
    (hU : vx_Zq Bundle.tN "UNASSIGNED_STACK" Bundle.steD A s s.heap) (hN : vx_Zq Bundle.tN "SUPPRESSED_SENTINEL" Bundle.listD A s s.heap) (hS : va_S A s.heap H locs) (hsize : ls.size = c.maxLocals)
    (d0 : decode cc pc = .ok (.new ik, 3)) (d3 : decode cc (pc + 3) = .ok (.dup, 1)) (d4 : decode cc (pc + 4) = .ok (.invokespecial ic, 3)) (d7 : decode cc (pc + 7) = .ok (.athrow, 1))
    (hout : ∀ x ∈ c.exceptionTable.toList, covers x (pc + 7) = false)
    (hRframes : names.length + 3 < R.frames) (hRlocals : (rest.map fun v => v.category).sum + (13 * (names.length + 1) + 42) ≤ R.locals) (hRcells : cells + 1 ≤ R.cells) (hRslots : slots + 6 ≤ R.slots) (hlocks : meth.locks = false)
    (hx : ∀ t : State, s.vm.Alike t.vm → H.size ≤ t.heap.size → (∀ q : Nat, q < H.size → t.heap[q]? = H[q]?) → XC cls s t)
    (hf : ∀ z ∈ locs, free z.base) (hc : cells + 1 ≤ mc) (hs : slots + 6 ≤ ms) :
    W p l e R s m args below meth c H locs cells slots (vx_MQ below Qc XC args s mc ms free) (F0 m pc ls rest) := by
  intro T hT X
  have htr : e.platform.stackTraces = false := (show e.platform.stackTraces = l.stackTraces by rw [X.admits.platform]).trans hl
  have Y := vx_rebase X (R' := { frames := R.frames, locals := R.locals, cells := 1, slots := 6 }) (Nat.le_refl _) (Nat.le_refl _) hRcells hRslots
  obtain ⟨s', hA⟩ : ∃ z, z = (T.setVm s.vm).setFrames (.invoking m args :: below) := ⟨_, rfl⟩
  rw [← hA] at Y
  have hvm : s'.vm = s.vm := by rw [hA]; rfl
  have hhp : s'.heap = H := by rw [hA]; exact hT
  have hW0 : s.WarmedH s'.vm := by rw [hvm]; exact State.WarmedH.refl s
  have hat' : ∀ w ∈ vx_at0 own ic cls names, w.before args s' = true := fun w hw => vx_ot_at hW0 hvm.symm (hgood w (List.mem_cons_of_mem _ (List.mem_cons_of_mem _ hw))) (hat w hw)
  have hk' : (Cond.classLink own ik cls).before args s' = true := vx_ot_at hW0 hvm.symm (hgood _ List.mem_cons_self) hk
  have hini' : (Cond.initialized cls).before args s' = true := vx_ot_at hW0 hvm.symm (hgood _ (List.mem_cons_of_mem _ List.mem_cons_self)) hini
  have hU' : vx_Zq Bundle.tN "UNASSIGNED_STACK" Bundle.steD A s' s'.heap := by rw [hhp]; exact vx_Zq.moved hW0.alike (hU.kept hS.2.1)
  have hN' : vx_Zq Bundle.tN "SUPPRESSED_SENTINEL" Bundle.listD A s' s'.heap := by rw [hhp]; exact vx_Zq.moved hW0.alike (hN.kept hS.2.1)
  have h : ∀ w ∈ Bundle.ownAtoms0 own ic cls names, w.before args s' = true := vx_own hat' (vx_isRefq hU'.1) (vx_isRefq hN'.1) hU'.2.word hN'.2.word
  have hown' : s'.vm.findClass own = some m.cls := by rw [hvm]; exact hown
  have hins : (Cond.instantiable cls 6).before args s' = true := h _ (by simp [Bundle.ownAtoms0])
  obtain ⟨vm₁, cX, kX, hfX, hkX, -, -, X₁, st1⟩ := Y.newCold hexec (own := own) (C := cls) (index := ik) (n := 6) hown' hk' hins hini'
    (g := F0 m pc ls rest) rfl (by rw [hb]; exact d0) (Nat.le_refl _) (Nat.le_refl _)
  generalize hT1 : (T.setVm vm₁).pushCell { cls := cX, slots := kX.instanceTypes.map defaultValue, vm := .none } = T1 at X₁ st1
  have hcat : (Value.ref T.heap.size).category = 1 := rfl
  have hcellA : T1.heap[T.heap.size]? = some (freshCell cX kX) := by rw [← hT1]; exact State.heap_pushCell_size _ _
  have d3' : decode c.code (pc + 3) = .ok (.dup, 1) := by rw [hb]; exact d3
  obtain ⟨U, hsteps, hrun, hend, hW, hsame, ce, hce, hO⟩ := X₁.ctorThrow0 hexec htr (own := own) (cls := cls) (names := names) (ic := ic) hown' hcls hnames h (fun x hx => nomatch hx) hfX hkX hcellA (by rw [hhp, hT]; exact Nat.le_refl _)
    (g := { method := m, pc := pc + 4, locals := ls, stack := .ref T.heap.size :: .ref T.heap.size :: rest, locked := none }) rfl hsize rfl rfl (rest := rest) rfl
    (by rw [hb]; exact d4) (by rw [hb]; exact d7) hout hRframes (by simp only [List.map_cons, List.sum_cons, hcat]; omega) hlocks
  obtain ⟨f1, f2⟩ := vx_frame hsame
  rw [hhp] at f1 f2
  have hWs : s.WarmedH U.vm := State.WarmedH.trans hW0 hW
  have hcl : s.vm.findClass cls = some ce.cls := by
    have h9 := hO.cls
    rw [hvm] at h9
    exact h9
  have hall : s.sameButNew ({ U with vm := s.vm } : State) locs mc ms := by
    subst hA
    obtain ⟨e1, e2⟩ := hsame
    rw [State.setFrames_setFrames] at e1
    have h2 : (T.setVm s.vm).sameButNew ({ U with vm := s.vm } : State) [] (0 + 1) (0 + 6) := ⟨e1, e2⟩
    have h3 := X.same.trans h2
    rw [List.append_nil] at h3
    exact h3.mono hc hs
  refine ⟨U, ?_, .threw T.heap.size, hrun, hend, Or.inr ⟨T.heap.size, rfl, cls, ce, locs, hx U hWs.alike f1 (fun q hq => f2 q hq (fun z hz => nomatch hz)), hce, hO.vm, hcl, hWs, hall, hf⟩⟩
  refine st1 _ ?_
  show Steps p.tables e below (T1.setTop { method := m, pc := pc + 3, locals := ls, stack := .ref T.heap.size :: rest, locked := none }) _
  jvm_step X₁.here [X₁.here.top, hexec, d3', Value.category]
  exact hsteps
/-- 'throw new E("text")': new; dup; ldc; invokespecial; athrow -/
theorem vx_throwS {cc : ByteArray} {pc : Nat} (hexec : p.tables.exec = Jvm.exec) (hb : c.code = cc) (hl : l.stackTraces = false) {own cls text : String} {names : List String} {ik is ic mc ms sa : Nat} {A : Nat → Prop}
    (hown : s.vm.findClass own = some m.cls) (hcls : Bundle.fit cls = true) (hnames : ∀ n ∈ names, Bundle.fit n = true)
    (hk : (Cond.classLink own ik cls).before args s = true) (hini : (Cond.initialized cls).before args s = true) (hstr : vk_R own is text sa s) (hat : ∀ w ∈ vx_atS own ic cls names, w.before args s = true)
    (hgood : ∀ w ∈ Cond.classLink own ik cls :: Cond.initialized cls :: vx_atS own ic cls names, vx_ot w = true)
    (hU : vx_Zq Bundle.tN "UNASSIGNED_STACK" Bundle.steD A s s.heap) (hN : vx_Zq Bundle.tN "SUPPRESSED_SENTINEL" Bundle.listD A s s.heap) (hS : va_S A s.heap H locs) (hsize : ls.size = c.maxLocals)
    (d0 : decode cc pc = .ok (.new ik, 3)) (d3 : decode cc (pc + 3) = .ok (.dup, 1)) (d4 : decode cc (pc + 4) = .ok (.ldc is, 2)) (d6 : decode cc (pc + 6) = .ok (.invokespecial ic, 3)) (d9 : decode cc (pc + 9) = .ok (.athrow, 1))
    (hout : ∀ x ∈ c.exceptionTable.toList, covers x (pc + 9) = false)
    (hRframes : names.length + 3 < R.frames) (hRlocals : (rest.map fun v => v.category).sum + (13 * (names.length + 1) + 43) ≤ R.locals) (hRcells : cells + 1 ≤ R.cells) (hRslots : slots + 6 ≤ R.slots) (hlocks : meth.locks = false)
    (hx : ∀ t : State, s.vm.Alike t.vm → H.size ≤ t.heap.size → (∀ q : Nat, q < H.size → t.heap[q]? = H[q]?) → XC cls s t)
    (hf : ∀ z ∈ locs, free z.base) (hc : cells + 1 ≤ mc) (hs : slots + 6 ≤ ms) :
    W p l e R s m args below meth c H locs cells slots (vx_MQ below Qc XC args s mc ms free) (F0 m pc ls rest) := by
  intro T hT X
  have htr : e.platform.stackTraces = false := (show e.platform.stackTraces = l.stackTraces by rw [X.admits.platform]).trans hl
  have Y := vx_rebase X (R' := { frames := R.frames, locals := R.locals, cells := 1, slots := 6 }) (Nat.le_refl _) (Nat.le_refl _) hRcells hRslots
  obtain ⟨s', hA⟩ : ∃ z, z = (T.setVm s.vm).setFrames (.invoking m args :: below) := ⟨_, rfl⟩
  rw [← hA] at Y
  have hvm : s'.vm = s.vm := by rw [hA]; rfl
  have hhp : s'.heap = H := by rw [hA]; exact hT
  have hW0 : s.WarmedH s'.vm := by rw [hvm]; exact State.WarmedH.refl s
  have hat' : ∀ w ∈ vx_atS own ic cls names, w.before args s' = true := fun w hw => vx_ot_at hW0 hvm.symm (hgood w (List.mem_cons_of_mem _ (List.mem_cons_of_mem _ hw))) (hat w hw)
  have hk' : (Cond.classLink own ik cls).before args s' = true := vx_ot_at hW0 hvm.symm (hgood _ List.mem_cons_self) hk
  have hini' : (Cond.initialized cls).before args s' = true := vx_ot_at hW0 hvm.symm (hgood _ (List.mem_cons_of_mem _ List.mem_cons_self)) hini
  have hU' : vx_Zq Bundle.tN "UNASSIGNED_STACK" Bundle.steD A s' s'.heap := by rw [hhp]; exact vx_Zq.moved hW0.alike (hU.kept hS.2.1)
  have hN' : vx_Zq Bundle.tN "SUPPRESSED_SENTINEL" Bundle.listD A s' s'.heap := by rw [hhp]; exact vx_Zq.moved hW0.alike (hN.kept hS.2.1)
  have h : ∀ w ∈ Bundle.ownAtoms own ic cls names, w.before args s' = true := vx_own hat' (vx_isRefq hU'.1) (vx_isRefq hN'.1) hU'.2.word hN'.2.word
  have hown' : s'.vm.findClass own = some m.cls := by rw [hvm]; exact hown
  have hins : (Cond.instantiable cls 6).before args s' = true := h _ (by simp [Bundle.ownAtoms])
  obtain ⟨vm₁, cX, kX, hfX, hkX, -, -, X₁, st1⟩ := Y.newCold hexec (own := own) (C := cls) (index := ik) (n := 6) hown' hk' hins hini'
    (g := F0 m pc ls rest) rfl (by rw [hb]; exact d0) (Nat.le_refl _) (Nat.le_refl _)
  generalize hT1 : (T.setVm vm₁).pushCell { cls := cX, slots := kX.instanceTypes.map defaultValue, vm := .none } = T1 at X₁ st1
  have hcat : (Value.ref T.heap.size).category = 1 := rfl
  have hcellA : T1.heap[T.heap.size]? = some (freshCell cX kX) := by rw [← hT1]; exact State.heap_pushCell_size _ _
  have d3' : decode c.code (pc + 3) = .ok (.dup, 1) := by rw [hb]; exact d3
  have d4' : decode c.code (pc + 4) = .ok (.ldc is, 2) := by rw [hb]; exact d4
  have hstr' : vk_R own is text sa s' := vk_R.warm hW0 hstr
  obtain ⟨U, hsteps, hrun, hend, hW, hsame, ce, hce, hO⟩ := X₁.ctorThrowS hexec htr (own := own) (cls := cls) (names := names) (ic := ic) hown' hcls hnames h (fun x hx => nomatch hx) hfX hkX hcellA (by rw [hhp, hT]; exact Nat.le_refl _) (msg := .ref sa) rfl
    (g := { method := m, pc := pc + 6, locals := ls, stack := .ref sa :: .ref T.heap.size :: .ref T.heap.size :: rest, locked := none }) rfl hsize rfl rfl (rest := rest) rfl
    (by rw [hb]; exact d6) (by rw [hb]; exact d9) hout hRframes (by simp only [List.map_cons, List.sum_cons, hcat]; omega) hlocks
  obtain ⟨f1, f2⟩ := vx_frame hsame
  rw [hhp] at f1 f2
  have hWs : s.WarmedH U.vm := State.WarmedH.trans hW0 hW
  have hcl : s.vm.findClass cls = some ce.cls := by
    have h9 := hO.cls
    rw [hvm] at h9
    exact h9
  have hall : s.sameButNew ({ U with vm := s.vm } : State) locs mc ms := by
    subst hA
    obtain ⟨e1, e2⟩ := hsame
    rw [State.setFrames_setFrames] at e1
    have h2 : (T.setVm s.vm).sameButNew ({ U with vm := s.vm } : State) [] (0 + 1) (0 + 6) := ⟨e1, e2⟩
    have h3 := X.same.trans h2
    rw [List.append_nil] at h3
    exact h3.mono hc hs
  refine ⟨U, ?_, .threw T.heap.size, hrun, hend, Or.inr ⟨T.heap.size, rfl, cls, ce, locs, hx U hWs.alike f1 (fun q hq => f2 q hq (fun z hz => nomatch hz)), hce, hO.vm, hcl, hWs, hall, hf⟩⟩
  refine st1 _ ?_
  show Steps p.tables e below (T1.setTop { method := m, pc := pc + 3, locals := ls, stack := .ref T.heap.size :: rest, locked := none }) _
  jvm_step X₁.here [X₁.here.top, hexec, d3', Value.category]
  exact X₁.ldcString hexec (own := own) (text := text) (index := is) (a := sa) hown' hstr'.1 hstr'.2
    (g := { method := m, pc := pc + 4, locals := ls, stack := .ref T.heap.size :: .ref T.heap.size :: rest, locked := none }) rfl d4' _ hsteps
/-- 'throw new E("text")', the text by a wide index -/
theorem vx_throwSW {cc : ByteArray} {pc : Nat} (hexec : p.tables.exec = Jvm.exec) (hb : c.code = cc) (hl : l.stackTraces = false) {own cls text : String} {names : List String} {ik is ic mc ms sa : Nat} {A : Nat → Prop}
    (hown : s.vm.findClass own = some m.cls) (hcls : Bundle.fit cls = true) (hnames : ∀ n ∈ names, Bundle.fit n = true)
    (hk : (Cond.classLink own ik cls).before args s = true) (hini : (Cond.initialized cls).before args s = true) (hstr : vk_R own is text sa s) (hat : ∀ w ∈ vx_atS own ic cls names, w.before args s = true)
    (hgood : ∀ w ∈ Cond.classLink own ik cls :: Cond.initialized cls :: vx_atS own ic cls names, vx_ot w = true)
    (hU : vx_Zq Bundle.tN "UNASSIGNED_STACK" Bundle.steD A s s.heap) (hN : vx_Zq Bundle.tN "SUPPRESSED_SENTINEL" Bundle.listD A s s.heap) (hS : va_S A s.heap H locs) (hsize : ls.size = c.maxLocals)
    (d0 : decode cc pc = .ok (.new ik, 3)) (d3 : decode cc (pc + 3) = .ok (.dup, 1)) (d4 : decode cc (pc + 4) = .ok (.ldc_w is, 3)) (d7 : decode cc (pc + 7) = .ok (.invokespecial ic, 3)) (d10 : decode cc (pc + 10) = .ok (.athrow, 1))
    (hout : ∀ x ∈ c.exceptionTable.toList, covers x (pc + 10) = false)
    (hRframes : names.length + 3 < R.frames) (hRlocals : (rest.map fun v => v.category).sum + (13 * (names.length + 1) + 43) ≤ R.locals) (hRcells : cells + 1 ≤ R.cells) (hRslots : slots + 6 ≤ R.slots) (hlocks : meth.locks = false)
    (hx : ∀ t : State, s.vm.Alike t.vm → H.size ≤ t.heap.size → (∀ q : Nat, q < H.size → t.heap[q]? = H[q]?) → XC cls s t)
    (hf : ∀ z ∈ locs, free z.base) (hc : cells + 1 ≤ mc) (hs : slots + 6 ≤ ms) :
    W p l e R s m args below meth c H locs cells slots (vx_MQ below Qc XC args s mc ms free) (F0 m pc ls rest) := by
  intro T hT X
  have htr : e.platform.stackTraces = false := (show e.platform.stackTraces = l.stackTraces by rw [X.admits.platform]).trans hl
  have Y := vx_rebase X (R' := { frames := R.frames, locals := R.locals, cells := 1, slots := 6 }) (Nat.le_refl _) (Nat.le_refl _) hRcells hRslots
  obtain ⟨s', hA⟩ : ∃ z, z = (T.setVm s.vm).setFrames (.invoking m args :: below) := ⟨_, rfl⟩
  rw [← hA] at Y
  have hvm : s'.vm = s.vm := by rw [hA]; rfl
  have hhp : s'.heap = H := by rw [hA]; exact hT
  have hW0 : s.WarmedH s'.vm := by rw [hvm]; exact State.WarmedH.refl s
  have hat' : ∀ w ∈ vx_atS own ic cls names, w.before args s' = true := fun w hw => vx_ot_at hW0 hvm.symm (hgood w (List.mem_cons_of_mem _ (List.mem_cons_of_mem _ hw))) (hat w hw)
  have hk' : (Cond.classLink own ik cls).before args s' = true := vx_ot_at hW0 hvm.symm (hgood _ List.mem_cons_self) hk
  have hini' : (Cond.initialized cls).before args s' = true := vx_ot_at hW0 hvm.symm (hgood _ (List.mem_cons_of_mem _ List.mem_cons_self)) hini
  have hU' : vx_Zq Bundle.tN "UNASSIGNED_STACK" Bundle.steD A s' s'.heap := by rw [hhp]; exact vx_Zq.moved hW0.alike (hU.kept hS.2.1)
  have hN' : vx_Zq Bundle.tN "SUPPRESSED_SENTINEL" Bundle.listD A s' s'.heap := by rw [hhp]; exact vx_Zq.moved hW0.alike (hN.kept hS.2.1)
  have h : ∀ w ∈ Bundle.ownAtoms own ic cls names, w.before args s' = true := vx_own hat' (vx_isRefq hU'.1) (vx_isRefq hN'.1) hU'.2.word hN'.2.word
  have hown' : s'.vm.findClass own = some m.cls := by rw [hvm]; exact hown
  have hins : (Cond.instantiable cls 6).before args s' = true := h _ (by simp [Bundle.ownAtoms])
  obtain ⟨vm₁, cX, kX, hfX, hkX, -, -, X₁, st1⟩ := Y.newCold hexec (own := own) (C := cls) (index := ik) (n := 6) hown' hk' hins hini'
    (g := F0 m pc ls rest) rfl (by rw [hb]; exact d0) (Nat.le_refl _) (Nat.le_refl _)
  generalize hT1 : (T.setVm vm₁).pushCell { cls := cX, slots := kX.instanceTypes.map defaultValue, vm := .none } = T1 at X₁ st1
  have hcat : (Value.ref T.heap.size).category = 1 := rfl
  have hcellA : T1.heap[T.heap.size]? = some (freshCell cX kX) := by rw [← hT1]; exact State.heap_pushCell_size _ _
  have d3' : decode c.code (pc + 3) = .ok (.dup, 1) := by rw [hb]; exact d3
  have d4' : decode c.code (pc + 4) = .ok (.ldc_w is, 3) := by rw [hb]; exact d4
  have hstr' : vk_R own is text sa s' := vk_R.warm hW0 hstr
  obtain ⟨U, hsteps, hrun, hend, hW, hsame, ce, hce, hO⟩ := X₁.ctorThrowS hexec htr (own := own) (cls := cls) (names := names) (ic := ic) hown' hcls hnames h (fun x hx => nomatch hx) hfX hkX hcellA (by rw [hhp, hT]; exact Nat.le_refl _) (msg := .ref sa) rfl
    (g := { method := m, pc := pc + 7, locals := ls, stack := .ref sa :: .ref T.heap.size :: .ref T.heap.size :: rest, locked := none }) rfl hsize rfl rfl (rest := rest) rfl
    (by rw [hb]; exact d7) (by rw [hb]; exact d10) hout hRframes (by simp only [List.map_cons, List.sum_cons, hcat]; omega) hlocks
  obtain ⟨f1, f2⟩ := vx_frame hsame
  rw [hhp] at f1 f2
  have hWs : s.WarmedH U.vm := State.WarmedH.trans hW0 hW
  have hcl : s.vm.findClass cls = some ce.cls := by
    have h9 := hO.cls
    rw [hvm] at h9
    exact h9
  have hall : s.sameButNew ({ U with vm := s.vm } : State) locs mc ms := by
    subst hA
    obtain ⟨e1, e2⟩ := hsame
    rw [State.setFrames_setFrames] at e1
    have h2 : (T.setVm s.vm).sameButNew ({ U with vm := s.vm } : State) [] (0 + 1) (0 + 6) := ⟨e1, e2⟩
    have h3 := X.same.trans h2
    rw [List.append_nil] at h3
    exact h3.mono hc hs
  refine ⟨U, ?_, .threw T.heap.size, hrun, hend, Or.inr ⟨T.heap.size, rfl, cls, ce, locs, hx U hWs.alike f1 (fun q hq => f2 q hq (fun z hz => nomatch hz)), hce, hO.vm, hcl, hWs, hall, hf⟩⟩
  refine st1 _ ?_
  show Steps p.tables e below (T1.setTop { method := m, pc := pc + 3, locals := ls, stack := .ref T.heap.size :: rest, locked := none }) _
  jvm_step X₁.here [X₁.here.top, hexec, d3', Value.category]
  exact X₁.ldcStringW hexec (own := own) (text := text) (index := is) (a := sa) hown' hstr'.1 hstr'.2
    (g := { method := m, pc := pc + 4, locals := ls, stack := .ref T.heap.size :: .ref T.heap.size :: rest, locked := none }) rfl d4' _ hsteps
end Ends
section Bodies
variable {l : Launch}
theorem vx_ofW {y : MethodName} {ws ws' : List Cond} {rm : Room} {Pc : Array Value → State → Prop} {Qc : Array Value → State → Outcome → State → Prop} {XC : String → State → State → Prop} {mc ms : Nat} {free : Addr → Prop} {cc : ByteArray} {maxL : Nat} {ret : Option FieldType}
    (hy : plainName y.cls = true) (hw : ws = Cond.code y cc maxL ret :: ws')
    (body : ∀ p e s m args below meth c s₁, BodyLoose p l y (headSpec ws rm) cc maxL ret e s m args below meth c s₁ → c.maxLocals = maxL → (∀ x ∈ c.exceptionTable.toList, False) → Pc args s →
      W p l e (headSpec ws rm).room s m args below meth c s.heap [] 0 0 (vx_MQ below Qc XC args s mc ms free) (entryFrame m args maxL)) : vx_Met l y ws rm Pc Qc XC mc ms free := by
  refine MetFree.of_bodyS (code := cc) (maxLocals := maxL) (ret := ret) hy ?_ ?_
  · intro args s m h hn
    obtain ⟨meth, c, h1, h2, h3, h4, h5, h6, -, -⟩ := Cond.code_spec hn (atoms_spec (ws := ws) h _ (by rw [hw]; exact List.mem_cons_self))
    exact ⟨meth, c, h1, h2, h3, h4, h5, h6⟩
  · intro p e s m args below meth c s₁ B hml hP _
    have hh0 : s₁.heap = s.heap := by rw [B.state]; rfl
    have ht : ∀ x ∈ c.exceptionTable.toList, False := by
      obtain ⟨meth9, c9, h1, h2, -, -, -, -, h7, -⟩ := Cond.code_spec B.named (atoms_spec (ws := ws) B.pre _ (by rw [hw]; exact List.mem_cons_self))
      cases Option.some.inj (h1.symm.trans B.method)
      cases Option.some.inj (h2.symm.trans (Stand.of_body B).code)
      intro x hx
      rw [Array.isEmpty_iff.mp h7] at hx
      cases hx
    obtain ⟨t, a1, o, b1, b2, b3⟩ := body p e s m args below meth c s₁ B hml ht hP s₁ hh0 (Stand.of_body B)
    exact ⟨t, o, a1, b1, b2, b3⟩
/-- the table of a body with handlers -/
theorem vx_table {p : Program} {x y : MethodName} {S : Spec} {cc bytes : ByteArray} {maxL maxL' : Nat} {ret ret' : Option FieldType} {e : Env} {s s₁ : State} {m : MethodId} {args : Array Value} {below : List Frame} {meth : Method} {c : Code} {hh : List (Nat × Nat × Nat × Nat)}
    (B : BodyLoose p l y S cc maxL ret e s m args below meth c s₁) (h : (Cond.codeWith y bytes maxL' ret' hh).before args s = true) : c.exceptionTable.toList = tableOf hh := by
  obtain ⟨m9, meth9, c9, hn9, h1, h2, -, -, h6, -⟩ := Cond.codeWith_spec h
  cases Option.some.inj (hn9.symm.trans B.named)
  cases Option.some.inj (h1.symm.trans B.method)
  cases Option.some.inj (h2.symm.trans (Stand.of_body B).code)
  rw [← h6, table_eq]
end Bodies
end VXA
/-! ===== END ===== -/
/-! ===== BEGIN a static call of a method with an exception table ===== -/
section VXS
variable {p : Program} {l : Launch} {e : Env} {R : Room} {s : State} {m : MethodId} {args : Array Value} {below : List Frame} {meth : Method} {c : Code} {T : State} {H : Heap} {locs : List Loc} {cells slots : Nat}
abbrev vx_CSW (R : Room) (s : State) (args : Array Value) (own : String) (index : Nat) (y : MethodName) (bytes : ByteArray) (maxL : Nat) (ret : Option FieldType) (hh : List (Nat × Nat × Nat × Nat)) (ws : List Cond) (rm : Room) (mc ms n : Nat) : Prop :=
  (rm.cells = mc ∧ rm.slots = ms ∧ rm.frames + 1 ≤ R.frames ∧ 8 + (maxL + 11) + rm.locals ≤ R.locals ∧ (∀ w ∈ ws, ∀ (a' : Array Value) (U : State), s.WarmedH U.vm → w.before a' U = true) ∧ Cond.codeWith y bytes maxL ret hh ∈ ws) ∧
  (Cond.codeWith y bytes maxL ret hh).before args s = true ∧ (Cond.initialized y.cls).before args s = true ∧ (y.cls ≠ "java/lang/invoke/MethodHandle" ∧ y.cls ≠ "java/lang/invoke/VarHandle") ∧
  (∀ sig, parseMethodDescriptor y.desc = some sig → n = sig.parameters.length) ∧ (Cond.methodLink own index y).before args s = true ∧ (Cond.static y).before args s = true
theorem vx_cwSW {own : String} {index maxL mc ms : Nat} {y : MethodName} {bytes : ByteArray} {ret : Option FieldType} {hh : List (Nat × Nat × Nat × Nat)} {Ts ws ws' : List Cond} {rm : Room} (n : Nat) (ht : ∀ w ∈ Ts, w.before args s = true) (hT : GoodIn Ts (va_wsS own index y ws)) (hw : ws = Cond.codeWith y bytes maxL ret hh :: ws') (hrc : rm.cells = mc) (hrs : rm.slots = ms)
    (hd : y.cls ≠ "java/lang/invoke/MethodHandle" ∧ y.cls ≠ "java/lang/invoke/VarHandle" ∧ (parseMethodDescriptor y.desc).map (fun d => d.parameters.length) = some n) (hR : rm.frames + 1 ≤ R.frames ∧ 8 + (maxL + 11) + rm.locals ≤ R.locals) :
    vx_CSW R s args own index y bytes maxL ret hh ws rm mc ms n := by
  have ok : ∀ w ∈ va_wsS own index y ws, w.before args s = true := fun w h => ht w (hT w h).1
  have hG : GoodIn Ts ws := fun w h => hT w (by unfold va_wsS; exact List.mem_append_right _ h)
  have hc : Cond.codeWith y bytes maxL ret hh ∈ ws := by rw [hw]; exact List.mem_cons_self
  refine ⟨⟨hrc, hrs, hR.1, hR.2, pay_in ht hG, hc⟩, ht _ (hG _ hc).1, ok _ (by simp [va_wsS]), ⟨hd.1, hd.2.1⟩, fun sig h => ?_, ok _ (by simp [va_wsS]), ok _ (by simp [va_wsS])⟩
  have h2 := hd.2.2
  rw [h] at h2
  exact (Option.some.inj h2).symm
theorem vx_callSW (X : Stand p l e R s m args below meth c T locs cells slots) (hexec : p.tables.exec = Jvm.exec) {own : String} {index : Nat} {y : MethodName} {bytes : ByteArray} {maxL : Nat} {ret : Option FieldType} {hh : List (Nat × Nat × Nat × Nat)}
    (hown : s.vm.findClass own = some m.cls) (hlink : (Cond.methodLink own index y).before args s = true) (hstat : (Cond.static y).before args s = true) (hinit : (Cond.initialized y.cls).before args s = true)
    (hcode : (Cond.codeWith y bytes maxL ret hh).before args s = true) (hy : y.cls ≠ "java/lang/invoke/MethodHandle" ∧ y.cls ≠ "java/lang/invoke/VarHandle")
    {W9 : Nat} {Pre : Pt → Array Value → Prop} {Post : Pt → Array Value → Option Value → Pt → Prop} (hK : Back l R p e below s args y 3 W9 Pre Post)
    {g : JFrame} (hg : g.method = m) (hsize : g.locals.size = c.maxLocals) {argsL rest : List Value} (hlen : ∀ sig, parseMethodDescriptor y.desc = some sig → argsL.length = sig.parameters.length)
    (hstack : g.stack = argsL.reverse ++ rest) (hW : 2 * g.monitorRoom + (rest.map fun v => v.category).sum ≤ W9) (hdg : decode c.code g.pc = .ok (.invokestatic index, 3))
    (hpre : ∀ vm₁, s.WarmedH vm₁ → Pre ⟨T.setVm vm₁, locs, cells, slots⟩ argsL.toArray) :
    ∃ (v : Option Value) (vm₁ : Vm) (B : Pt), s.WarmedH vm₁ ∧ Stand p l e R s m args below meth c B.U B.locs B.cells B.slots ∧ Post ⟨T.setVm vm₁, locs, cells, slots⟩ argsL.toArray v B ∧
      ∀ target, Steps p.tables e below (B.U.setTop { g with pc := g.pc + 3, stack := v.toList ++ rest }) target → Steps p.tables e below (T.setTop g) target := by
  obtain ⟨mk, methM, cM, hnamed, hmethM, -, -, -, -, -, -, hsigM⟩ := Cond.codeWith_spec hcode
  have hstatic : methM.isStatic = true := Cond.static_spec hnamed hmethM hstat
  obtain ⟨kP, hkP, -⟩ := className_of_methodNamed hnamed
  have hinitP : kP.init = .initialized := Cond.initialized_spec (findClass_of_methodNamed hnamed) hkP hinit
  obtain ⟨vm₁, X₁, hstep₁⟩ := X.invokestatic hexec hown hlink hnamed hmethM hstatic hkP hinitP hy (g := g) hg (argsL := argsL) (rest := rest) (hlen _ hsigM) hstack hdg
  obtain ⟨v, B, X', hpost, hsteps⟩ := hK m meth c ⟨T.setVm vm₁, locs, cells, slots⟩ { g with stack := rest } (.invokestatic index) mk argsL.toArray X₁ hg hsize hdg hW (X₁.named hnamed) (hpre vm₁ X₁.warmed)
  exact ⟨v, vm₁, B, X₁.warmed, X', hpost, fun target h => hstep₁ _ fun acts => by rw [doInvoke_state]; exact hsteps.trans h⟩
theorem vx_runSW {y : MethodName} {bytes cc : ByteArray} {maxL nL mc ms n index : Nat} {ret : Option FieldType} {hh : List (Nat × Nat × Nat × Nat)} {ws : List Cond} {rm : Room} {Pc : Array Value → State → Prop} {Qc : Array Value → State → Outcome → State → Prop} {free : Addr → Prop} {Ts : List Cond} {own : String} {As rest : List Value} {g : JFrame}
    (S : CallFix p m c cc nL s args Ts own) (hM : Met l y ws rm Pc Qc mc ms free) (cw : vx_CSW R s args own index y bytes maxL ret hh ws rm mc ms n) (hp : PreS s H Pc As)
    (hg : g.method = m) (hn : As.length = n) (hsize : g.locals.size = nL) (hstack : g.stack = As.reverse ++ rest) (hW : 2 * g.monitorRoom + (rest.map fun v => v.category).sum ≤ 8) (hdg : decode cc g.pc = .ok (.invokestatic index, 3)) (hf : cells + mc ≤ R.cells ∧ slots + ms ≤ R.slots) :
    va_Run p l e R s m args below meth c H locs cells slots mc ms g rest (Qc As.toArray) (free) := by
  obtain ⟨⟨hrc, hrs, hfr, hlo, hws, hcw⟩, hcode, hini, hy, hlen, hl, hstt⟩ := cw
  have hK : Back l R p e below s args y 3 8 (PreOf R mc ms Pc) (PostOf Qc mc ms free) := va_backW (hh := hh) (bytes := bytes) (maxL := maxL) (ret := ret) hM hp.1 hrc hrs hfr hlo hws hcw (fun a' U hW => word_at hW (Or.inl (by first | rfl | simp [Cond.onTables, Cond.keeps, Cond.steady])) hini)
  obtain ⟨hx, hb, hml, ho, -⟩ := S
  intro T hT X
  obtain ⟨v, vm₁, ⟨U', l2, c2, s2⟩, hW₁, X', ⟨g', mk, t, L, e1, e2, hq, h1, hL, h2, h3⟩, st⟩ := vx_callSW X hx (hh := hh) (bytes := bytes) (maxL := maxL) (ret := ret) ho hl hstt hini hcode hy hK hg (hsize.trans hml.symm) (argsL := As) (rest := rest) (fun sig h => hn.trans (hlen sig h)) hstack hW (by rw [hb]; exact hdg)
    (fun vm₁ hW₁ => ⟨hf.1, hf.2, hp.2 (T.setVm vm₁) hT hW₁⟩)
  dsimp only [Pt.U, Pt.locs, Pt.cells, Pt.slots] at X' e1 e2 h1 h2 h3 st
  subst h1; subst h2; subst h3
  exact ⟨v, (T.setVm vm₁).calling g' mk As.toArray, t, U', L, hT, X', hL, e1, e2, hq, st⟩
/-- not caught here, past rows that name other classes: it goes on to the caller -/
theorem vx_outP {p : Program} {l : Launch} {e : Env} {R : Room} {s : State} {m : MethodId} {args : Array Value} {below : List Frame} {meth : Method} {c : Code} {H : Heap} {locs : List Loc} {cells slots : Nat} {free : Addr → Prop} {ls : Array Slot} {rest : List Value} {Qc : Array Value → State → Outcome → State → Prop} {XC : String → State → State → Prop}
    {pc : Nat} {own E : String} {ce : Cell} {q : Addr} {mc ms : Nat} (hown : s.vm.findClass own = some m.cls) (hlocks : meth.locks = false)
    (hpass : ∀ z ∈ c.exceptionTable.toList, covers z pc = false ∨ (z.catchType ≠ 0 ∧ ∃ nm : String, (Cond.classLink own z.catchType nm).before args s = true ∧ va_Nc E nm s)) (hcell : H[q]? = some ce) (hv : ce.vm = .none) (hcl : s.vm.findClass E = some ce.cls)
    (hx : ∀ t : State, t.heap = H → s.vm.Alike t.vm → XC E s t) (hf : ∀ z ∈ locs, free z.base) (hc : cells ≤ mc) (hs : slots ≤ ms) :
    vx_W p l e R s m args below meth c H locs cells slots (vx_MQ below Qc XC args s mc ms free) (F0 m pc ls rest) q := by
  intro T hT X
  have hpl : e.platform.magicAccessors = ({} : Platform).magicAccessors := by rw [X.admits.platform]
  obtain ⟨vm', hW', X', st⟩ := X.outThrough hlocks q (g := F0 m pc ls rest) rfl rfl rfl (cell := ce) (by rw [hT]; exact hcell) (by rw [hv]; rfl)
    (by obtain ⟨k9, h9, -⟩ := Vm.findClass_spec hcl; exact ⟨k9, h9⟩) (fun z hz => by
      rcases hpass z hz with h | ⟨hz0, nm, hl1, hn1⟩
      · exact Or.inl h
      · obtain ⟨c6, hc6, hcl6⟩ := Cond.classLink_spec hown hl1 e.platform hpl
        obtain ⟨a8, b8, h1, h2, h3⟩ := hn1
        cases Option.some.inj (h1.symm.trans hcl)
        cases Option.some.inj (h2.symm.trans hc6)
        exact Or.inr ⟨hz0, _, hcl6, h3⟩)
  obtain ⟨g₀, hfr⟩ := X'.frames_eq
  have hcell9 : ((T.setVm vm').setFrames (.throwing q :: below)).heap[q]? = some ce := by
    show T.heap[q]? = some ce
    rw [hT]; exact hcell
  have hend : Ended ((T.setVm vm').setFrames (.throwing q :: below)) below (.threw q) := State.frames_setFrames _ (State.cur_lt_of_frames hfr)
  refine ⟨(T.setVm vm').setFrames (.throwing q :: below), ?_, .threw q, X'.here.running, hend, Or.inr ⟨q, rfl, E, ce, locs, hx _ hT (X'.ends _).1.alike, hcell9, hv, hcl, (X'.ends _).1, (X'.ends _).2.mono hc hs, hf⟩⟩
  rw [X.pushThrowing_eq]
  exact st
/-- a thing of a world lies in the heap -/
theorem vx_lt {D : va_G} {cl : List vw_C} {ws : va_W} {H1 : Heap} (h : va_P D cl ws H1) {k : Nat} {q : Nat × va_E} (hk : ws[k]? = some q) : q.1 < H1.size := (h k q hk).lt
end VXS
/-! ===== END ===== -/
/-! ===== BEGIN methods with a table of their own: called by a name, returning or throwing ===== -/
section VXH
/-! vx_backW, vx_callVX, vx_callSX, vx_callVW, vx_runVW, vx_runVX, vx_runSX, vx_ofWH follow the same proofs as their sisters above (Free/Laws.lean, Shelf42/LK1.lean); vx_outP calls Shelf42/NT130.lean (outThrough). -/
section
variable {l : Launch} {R : Room} {p : Program} {e : Env} {below : List Frame} {s : State} {sargs : Array Value} {y : MethodName} {len W9 : Nat}
theorem vx_backW {ws : List Cond} {rm : Room} {Pc : Array Value → State → Prop} {Qc : Array Value → State → Outcome → State → Prop} {XC : String → State → State → Prop} {mc ms : Nat} {free : Addr → Prop} {bytes : ByteArray} {maxL : Nat} {ret : Option FieldType} {hh : List (Nat × Nat × Nat × Nat)}
    (hM : vx_Met l y ws rm Pc Qc XC mc ms free) (hblind : FrameBlind Pc) (hrc : rm.cells = mc) (hrs : rm.slots = ms)
    (hframes : rm.frames + 1 ≤ R.frames) (hlocals : W9 + (maxL + 11) + rm.locals ≤ R.locals)
    (hws : ∀ w ∈ ws, ∀ a' U, s.WarmedH U.vm → w.before a' U = true) (hcode : Cond.codeWith y bytes maxL ret hh ∈ ws) (hinit : ∀ a' U, s.WarmedH U.vm → (Cond.initialized y.cls).before a' U = true) :
    vx_Back l R p e below s sargs y len W9 (PreOf R mc ms Pc) (PostOf Qc mc ms free) (vx_Post XC mc ms free) := by
  intro m meth c A g ig mk a X hg hsize hdg hW hn hp
  have h1 : (headSpec ws rm).pre.before a A.U = true := atoms_intro fun w hw => hws w hw _ _ X.warmed
  have h2 : (Cond.codeWith y bytes maxL ret hh).before a A.U = true := hws _ hcode _ _ X.warmed
  have h3 : (Cond.initialized y.cls).before a A.U = true := hinit _ _ X.warmed
  have h4 : A.cells + (headSpec ws rm).room.cells ≤ R.cells := by rw [show (headSpec ws rm).room.cells = mc from hrc]; exact hp.1
  have h5 : A.slots + (headSpec ws rm).room.slots ≤ R.slots := by rw [show (headSpec ws rm).room.slots = ms from hrs]; exact hp.2.1
  have hPc : Pc a (A.U.calling g mk a) := hblind _ _ _ _ hp.2.2
  obtain ⟨U, Ls, c0, s0⟩ := A
  dsimp only [Pt.U, Pt.locs, Pt.cells, Pt.slots] at h1 h2 h3 h4 h5 X hn hPc ⊢
  obtain ⟨m9, methY, cY, hn9, hmY, hcY, -, hlY, -⟩ := Cond.codeWith_spec h2
  cases Option.some.inj (hn9.symm.trans hn)
  obtain ⟨kY, hkY, -⟩ := className_of_methodNamed hn
  have hinitY : kY.init = .initialized := Cond.initialized_spec (findClass_of_methodNamed hn) hkY h3
  have h : At U g.method c below := by rw [hg]; exact X.here
  have hlocals9 : W9 + (maxL + 11) + (headSpec ws rm).room.locals ≤ R.locals := hlocals
  have happ : (headSpec ws rm).appliesLoose y e.platform (U.calling g mk a) = true :=
    Spec.appliesLoose_calling (g := g) h hdg hn hkY hinitY
      (X.room_calling (g := g) (R' := (headSpec ws rm).room) hsize hmY hcY hframes (by rw [hlY]; omega) h4 h5) h1
  obtain ⟨mid, hmid⟩ := h.above
  have hfr : (U.setTop g).frames = (.java g :: mid) ++ below := by rw [State.frames_setTop' g h.top, hmid]; rfl
  obtain ⟨o, s₂, hsteps, -, hend, hq⟩ := Steps.callFree hM p X.admits X.cas X.clock (acts := []) hfr happ hPc trivial
  have hq' : vx_Q Qc XC mc ms free a (U.calling g mk a) o s₂ := hq
  rw [State.frames_setTop' g h.top] at hend
  obtain ⟨g₀, hg0⟩ := Option.isSome_iff_exists.mp h.top
  obtain ⟨r, hr⟩ := State.topJava?_eq_some.mp hg0
  have hr' : (({ U with heap := s₂.heap, slotsUsed := s₂.slotsUsed } : State).setVm s₂.vm).frames = .java g₀ :: r := hr
  rcases hq' with ⟨hqc, L, hfe, hL⟩ | ⟨q, rfl, E, ce, L, hx, hce, hcv, hcl, hW₂, hsm, hL⟩
  · obtain ⟨⟨v, rfl⟩, hW₂, e2, q2, q3, q4, q5, q6⟩ := id hfe
    have e3 : s₂ = ({ (U.calling g mk a).setFrames s₂.frames with heap := s₂.heap, slotsUsed := s₂.slotsUsed } : State).setVm s₂.vm := by
      have : s₂ = ({ s₂ with vm := (U.calling g mk a).vm } : State).setVm s₂.vm := rfl
      rw [e2] at this
      exact this
    obtain ⟨c₂, i₂, len₂, hc₂, hd₂, hf₂⟩ := hend
    have hW' : U.WarmedH s₂.vm := hW₂
    have hcc : c₂ = c := by
      have h1 : s₂.code? g.method = U.code? g.method := by
        rw [State.code?_eq, State.code?_eq, hW'.alike.method?]
      exact Option.some.inj (hc₂.symm.trans (h1.trans h.code))
    subst hcc
    have hlen : len₂ = len := by rw [hdg] at hd₂; cases hd₂; rfl
    subst hlen
    have hs₂ : s₂ = (({ U with heap := s₂.heap, slotsUsed := s₂.slotsUsed } : State).setVm s₂.vm).setTop { g with pc := g.pc + len₂, stack := v.toList ++ g.stack } := by
      refine e3.trans ?_
      rw [hf₂, State.calling_eq h.top, State.setFrames_setFrames, State.setTop_of_frames _ hr', hr]
      rfl
    have hsame : U.sameButNew ({ U with heap := s₂.heap, slotsUsed := s₂.slotsUsed } : State) L mc ms := by
      refine ⟨?_, q2, q3, q4, q5, q6⟩
      obtain ⟨t, ht, -⟩ := State.frames_cons hr
      show ({ U with heap := s₂.heap, slotsUsed := s₂.slotsUsed } : State) = { U.setFrames U.frames with heap := s₂.heap, slotsUsed := s₂.slotsUsed }
      rw [State.setFrames_self ht]
    subst hg
    refine Or.inl ⟨v, ⟨(({ U with heap := s₂.heap, slotsUsed := s₂.slotsUsed } : State).setVm s₂.vm), Ls ++ L, c0 + mc, s0 + ms⟩,
      ⟨X.admits, X.cas, X.clock, X.frames, X.room, X.hears, X.method, X.code, (X.here.setHeapUsed s₂.heap s₂.slotsUsed).setVm hW'.alike, X.tail, State.WarmedH.trans X.warmed hW', X.limits, X.bytes, X.same.trans (hsame.setVm s.vm)⟩,
      ⟨g, mk, s₂, L, rfl, rfl, hqc, rfl, hL, rfl, rfl⟩, ?_⟩
    show Steps p.tables e below _ ((({ U with heap := s₂.heap, slotsUsed := s₂.slotsUsed } : State).setVm s₂.vm).setTop { g with pc := g.pc + len₂, stack := v.toList ++ g.stack })
    rw [← hs₂]
    exact hsteps
  · obtain ⟨e2, q2, q3, q4, q5, q6⟩ := id hsm
    have e3 : s₂ = ({ (U.calling g mk a).setFrames s₂.frames with heap := s₂.heap, slotsUsed := s₂.slotsUsed } : State).setVm s₂.vm := by
      have : s₂ = ({ s₂ with vm := (U.calling g mk a).vm } : State).setVm s₂.vm := rfl
      rw [e2] at this
      exact this
    have hf₂ : s₂.frames = .throwing q :: .java g :: U.frames.tail := hend
    have hW' : U.WarmedH s₂.vm := hW₂
    have hs₂ : s₂ = ((({ U with heap := s₂.heap, slotsUsed := s₂.slotsUsed } : State).setVm s₂.vm).setTop g).pushFrame (.throwing q) := by
      refine e3.trans ?_
      rw [hf₂, State.calling_eq h.top, State.setFrames_setFrames, State.pushFrame, State.frames_setTop _ hr', State.setTop_of_frames _ hr', State.setFrames_setFrames, hr]
      rfl
    have hsame : U.sameButNew ({ U with heap := s₂.heap, slotsUsed := s₂.slotsUsed } : State) L mc ms := by
      refine ⟨?_, q2, q3, q4, q5, q6⟩
      obtain ⟨t, ht, -⟩ := State.frames_cons hr
      show ({ U with heap := s₂.heap, slotsUsed := s₂.slotsUsed } : State) = { U.setFrames U.frames with heap := s₂.heap, slotsUsed := s₂.slotsUsed }
      rw [State.setFrames_self ht]
    subst hg
    refine Or.inr ⟨q, ⟨(({ U with heap := s₂.heap, slotsUsed := s₂.slotsUsed } : State).setVm s₂.vm), Ls ++ L, c0 + mc, s0 + ms⟩,
      ⟨X.admits, X.cas, X.clock, X.frames, X.room, X.hears, X.method, X.code, (X.here.setHeapUsed s₂.heap s₂.slotsUsed).setVm hW'.alike, X.tail, State.WarmedH.trans X.warmed hW', X.limits, X.bytes, X.same.trans (hsame.setVm s.vm)⟩,
      ⟨g, mk, s₂, L, E, ce, rfl, rfl, hx, hce, hcv, hcl, rfl, hL, rfl, rfl⟩, ?_⟩
    show Steps p.tables e below _ (((({ U with heap := s₂.heap, slotsUsed := s₂.slotsUsed } : State).setVm s₂.vm).setTop g).pushFrame (.throwing q))
    rw [← hs₂]
    exact hsteps
end
variable {p : Program} {l : Launch} {e : Env} {R : Room} {s : State} {m : MethodId} {args : Array Value} {below : List Frame} {meth : Method} {c : Code} {T : State} {H : Heap} {locs : List Loc} {cells slots : Nat}
theorem vx_callVX (X : Stand p l e R s m args below meth c T locs cells slots) (hexec : p.tables.exec = Jvm.exec) {own C : String} {index : Nat} {y : MethodName} {bytes : ByteArray} {maxL : Nat} {ret : Option FieldType} {hh : List (Nat × Nat × Nat × Nat)}
    (hown : s.vm.findClass own = some m.cls) (hlink : (Cond.methodLink own index y).before args s = true) (hinst : (Cond.instanceMethod y).before args s = true) (hsel : (Cond.selects C y y).before args s = true)
    (hcode : (Cond.codeWith y bytes maxL ret hh).before args s = true) (hy : y.cls ≠ "java/lang/invoke/MethodHandle" ∧ y.cls ≠ "java/lang/invoke/VarHandle")
    {W9 : Nat} {Pre : Pt → Array Value → Prop} {Post : Pt → Array Value → Option Value → Pt → Prop} {PostX : Pt → Array Value → Addr → Pt → Prop} (hK : vx_Back l R p e below s args y 3 W9 Pre Post PostX)
    {b : Addr} {cellB : Cell} (hcell : T.heap[b]? = some cellB) (hobj : cellB.vm.isStatics = false) (hcls : s.vm.findClass C = some cellB.cls)
    {g : JFrame} (hg : g.method = m) (hsize : g.locals.size = c.maxLocals) {argsL rest : List Value} (hlen : ∀ sig, parseMethodDescriptor y.desc = some sig → argsL.length = sig.parameters.length)
    (hstack : g.stack = argsL.reverse ++ .ref b :: rest) (hW : 2 * g.monitorRoom + (rest.map fun v => v.category).sum ≤ W9) (hdg : decode c.code g.pc = .ok (.invokevirtual index, 3))
    (hpre : ∀ vm₁, s.WarmedH vm₁ → Pre ⟨T.setVm vm₁, locs, cells, slots⟩ (Value.ref b :: argsL).toArray) :
    (∃ (v : Option Value) (vm₁ : Vm) (B : Pt), s.WarmedH vm₁ ∧ Stand p l e R s m args below meth c B.U B.locs B.cells B.slots ∧ Post ⟨T.setVm vm₁, locs, cells, slots⟩ (Value.ref b :: argsL).toArray v B ∧
      ∀ target, Steps p.tables e below (B.U.setTop { g with pc := g.pc + 3, stack := v.toList ++ rest }) target → Steps p.tables e below (T.setTop g) target) ∨
    (∃ (q : Addr) (vm₁ : Vm) (B : Pt), s.WarmedH vm₁ ∧ Stand p l e R s m args below meth c B.U B.locs B.cells B.slots ∧ PostX ⟨T.setVm vm₁, locs, cells, slots⟩ (Value.ref b :: argsL).toArray q B ∧
      Steps p.tables e below (T.setTop g) ((B.U.setTop { g with stack := rest }).pushFrame (.throwing q))) := by
  obtain ⟨mk, methM, hnamed, hmethM, hstM, habM⟩ := Cond.instanceMethod_spec hinst
  obtain ⟨m8, methM', cM, hn8, hmethM', -, -, -, -, -, -, hsigM⟩ := Cond.codeWith_spec hcode
  cases Option.some.inj (hn8.symm.trans hnamed)
  cases hmethM.symm.trans hmethM'
  obtain ⟨c2, r2, m2, q1, q2, q3, q4, kP, hkP, hkPi⟩ := Cond.selects_spec hsel
  cases hcls.symm.trans q1
  cases (State.methodFound?_of_named hnamed hy).symm.trans q2
  cases hnamed.symm.trans q3
  have hselP : selectMethod e.platform s.vm cellB.cls mk = .method mk := by rw [Launch.admits_selectMethod X.admits]; exact q4
  obtain ⟨vm₁, X₁, hstep₁⟩ := X.invokevirtual hexec hown hlink hnamed hmethM hstM hkP hkPi hy (a := b) (cell := cellB) hcell
    (fun z h => by rw [h] at hobj; cases hobj) hselP hmethM habM hkP hkPi (g := g) hg (argsL := argsL) (rest := rest) (hlen _ hsigM) hstack hdg
  rcases hK m meth c ⟨T.setVm vm₁, locs, cells, slots⟩ { g with stack := rest } (.invokevirtual index) mk (Value.ref b :: argsL).toArray X₁ hg hsize hdg hW (X₁.named hnamed) (hpre vm₁ X₁.warmed) with ⟨v, B, X', hpost, hsteps⟩ | ⟨q, B, X', hpost, hsteps⟩
  · exact Or.inl ⟨v, vm₁, B, X₁.warmed, X', hpost, fun target h => hstep₁ _ fun acts => by rw [doInvoke_state]; exact hsteps.trans h⟩
  · exact Or.inr ⟨q, vm₁, B, X₁.warmed, X', hpost, hstep₁ _ fun acts => by rw [doInvoke_state]; exact hsteps⟩
theorem vx_callSX (X : Stand p l e R s m args below meth c T locs cells slots) (hexec : p.tables.exec = Jvm.exec) {own : String} {index : Nat} {y : MethodName} {bytes : ByteArray} {maxL : Nat} {ret : Option FieldType} {hh : List (Nat × Nat × Nat × Nat)}
    (hown : s.vm.findClass own = some m.cls) (hlink : (Cond.methodLink own index y).before args s = true) (hstat : (Cond.static y).before args s = true) (hinit : (Cond.initialized y.cls).before args s = true)
    (hcode : (Cond.codeWith y bytes maxL ret hh).before args s = true) (hy : y.cls ≠ "java/lang/invoke/MethodHandle" ∧ y.cls ≠ "java/lang/invoke/VarHandle")
    {W9 : Nat} {Pre : Pt → Array Value → Prop} {Post : Pt → Array Value → Option Value → Pt → Prop} {PostX : Pt → Array Value → Addr → Pt → Prop} (hK : vx_Back l R p e below s args y 3 W9 Pre Post PostX)
    {g : JFrame} (hg : g.method = m) (hsize : g.locals.size = c.maxLocals) {argsL rest : List Value} (hlen : ∀ sig, parseMethodDescriptor y.desc = some sig → argsL.length = sig.parameters.length)
    (hstack : g.stack = argsL.reverse ++ rest) (hW : 2 * g.monitorRoom + (rest.map fun v => v.category).sum ≤ W9) (hdg : decode c.code g.pc = .ok (.invokestatic index, 3))
    (hpre : ∀ vm₁, s.WarmedH vm₁ → Pre ⟨T.setVm vm₁, locs, cells, slots⟩ argsL.toArray) :
    (∃ (v : Option Value) (vm₁ : Vm) (B : Pt), s.WarmedH vm₁ ∧ Stand p l e R s m args below meth c B.U B.locs B.cells B.slots ∧ Post ⟨T.setVm vm₁, locs, cells, slots⟩ argsL.toArray v B ∧
      ∀ target, Steps p.tables e below (B.U.setTop { g with pc := g.pc + 3, stack := v.toList ++ rest }) target → Steps p.tables e below (T.setTop g) target) ∨
    (∃ (q : Addr) (vm₁ : Vm) (B : Pt), s.WarmedH vm₁ ∧ Stand p l e R s m args below meth c B.U B.locs B.cells B.slots ∧ PostX ⟨T.setVm vm₁, locs, cells, slots⟩ argsL.toArray q B ∧
      Steps p.tables e below (T.setTop g) ((B.U.setTop { g with stack := rest }).pushFrame (.throwing q))) := by
  obtain ⟨mk, methM, cM, hnamed, hmethM, -, -, -, -, -, -, hsigM⟩ := Cond.codeWith_spec hcode
  have hstatic : methM.isStatic = true := Cond.static_spec hnamed hmethM hstat
  obtain ⟨kP, hkP, -⟩ := className_of_methodNamed hnamed
  have hinitP : kP.init = .initialized := Cond.initialized_spec (findClass_of_methodNamed hnamed) hkP hinit
  obtain ⟨vm₁, X₁, hstep₁⟩ := X.invokestatic hexec hown hlink hnamed hmethM hstatic hkP hinitP hy (g := g) hg (argsL := argsL) (rest := rest) (hlen _ hsigM) hstack hdg
  rcases hK m meth c ⟨T.setVm vm₁, locs, cells, slots⟩ { g with stack := rest } (.invokestatic index) mk argsL.toArray X₁ hg hsize hdg hW (X₁.named hnamed) (hpre vm₁ X₁.warmed) with ⟨v, B, X', hpost, hsteps⟩ | ⟨q, B, X', hpost, hsteps⟩
  · exact Or.inl ⟨v, vm₁, B, X₁.warmed, X', hpost, fun target h => hstep₁ _ fun acts => by rw [doInvoke_state]; exact hsteps.trans h⟩
  · exact Or.inr ⟨q, vm₁, B, X₁.warmed, X', hpost, hstep₁ _ fun acts => by rw [doInvoke_state]; exact hsteps⟩
theorem vx_callVW (X : Stand p l e R s m args below meth c T locs cells slots) (hexec : p.tables.exec = Jvm.exec) {own C : String} {index : Nat} {y : MethodName} {bytes : ByteArray} {maxL : Nat} {ret : Option FieldType} {hh : List (Nat × Nat × Nat × Nat)}
    (hown : s.vm.findClass own = some m.cls) (hlink : (Cond.methodLink own index y).before args s = true) (hinst : (Cond.instanceMethod y).before args s = true) (hsel : (Cond.selects C y y).before args s = true)
    (hcode : (Cond.codeWith y bytes maxL ret hh).before args s = true) (hy : y.cls ≠ "java/lang/invoke/MethodHandle" ∧ y.cls ≠ "java/lang/invoke/VarHandle")
    {W9 : Nat} {Pre : Pt → Array Value → Prop} {Post : Pt → Array Value → Option Value → Pt → Prop} (hK : Back l R p e below s args y 3 W9 Pre Post)
    {b : Addr} {cellB : Cell} (hcell : T.heap[b]? = some cellB) (hobj : cellB.vm.isStatics = false) (hcls : s.vm.findClass C = some cellB.cls)
    {g : JFrame} (hg : g.method = m) (hsize : g.locals.size = c.maxLocals) {argsL rest : List Value} (hlen : ∀ sig, parseMethodDescriptor y.desc = some sig → argsL.length = sig.parameters.length)
    (hstack : g.stack = argsL.reverse ++ .ref b :: rest) (hW : 2 * g.monitorRoom + (rest.map fun v => v.category).sum ≤ W9) (hdg : decode c.code g.pc = .ok (.invokevirtual index, 3))
    (hpre : ∀ vm₁, s.WarmedH vm₁ → Pre ⟨T.setVm vm₁, locs, cells, slots⟩ (Value.ref b :: argsL).toArray) :
    ∃ (v : Option Value) (vm₁ : Vm) (B : Pt), s.WarmedH vm₁ ∧ Stand p l e R s m args below meth c B.U B.locs B.cells B.slots ∧ Post ⟨T.setVm vm₁, locs, cells, slots⟩ (Value.ref b :: argsL).toArray v B ∧
      ∀ target, Steps p.tables e below (B.U.setTop { g with pc := g.pc + 3, stack := v.toList ++ rest }) target → Steps p.tables e below (T.setTop g) target := by
  obtain ⟨mk, methM, hnamed, hmethM, hstM, habM⟩ := Cond.instanceMethod_spec hinst
  obtain ⟨m8, methM', cM, hn8, hmethM', -, -, -, -, -, -, hsigM⟩ := Cond.codeWith_spec hcode
  cases Option.some.inj (hn8.symm.trans hnamed)
  cases hmethM.symm.trans hmethM'
  obtain ⟨c2, r2, m2, q1, q2, q3, q4, kP, hkP, hkPi⟩ := Cond.selects_spec hsel
  cases hcls.symm.trans q1
  cases (State.methodFound?_of_named hnamed hy).symm.trans q2
  cases hnamed.symm.trans q3
  have hselP : selectMethod e.platform s.vm cellB.cls mk = .method mk := by rw [Launch.admits_selectMethod X.admits]; exact q4
  obtain ⟨vm₁, X₁, hstep₁⟩ := X.invokevirtual hexec hown hlink hnamed hmethM hstM hkP hkPi hy (a := b) (cell := cellB) hcell
    (fun z h => by rw [h] at hobj; cases hobj) hselP hmethM habM hkP hkPi (g := g) hg (argsL := argsL) (rest := rest) (hlen _ hsigM) hstack hdg
  obtain ⟨v, B, X', hpost, hsteps⟩ := hK m meth c ⟨T.setVm vm₁, locs, cells, slots⟩ { g with stack := rest } (.invokevirtual index) mk (Value.ref b :: argsL).toArray X₁ hg hsize hdg hW (X₁.named hnamed) (hpre vm₁ X₁.warmed)
  exact ⟨v, vm₁, B, X₁.warmed, X', hpost, fun target h => hstep₁ _ fun acts => by rw [doInvoke_state]; exact hsteps.trans h⟩
abbrev vx_CVW (R : Room) (s : State) (args : Array Value) (own C : String) (index : Nat) (y : MethodName) (bytes : ByteArray) (maxL : Nat) (ret : Option FieldType) (hh : List (Nat × Nat × Nat × Nat)) (ws : List Cond) (rm : Room) (mc ms n : Nat) : Prop :=
  (rm.cells = mc ∧ rm.slots = ms ∧ rm.frames + 1 ≤ R.frames ∧ 8 + (maxL + 11) + rm.locals ≤ R.locals ∧ (∀ w ∈ ws, ∀ (a' : Array Value) (U : State), s.WarmedH U.vm → w.before a' U = true) ∧ Cond.codeWith y bytes maxL ret hh ∈ ws) ∧
  (Cond.codeWith y bytes maxL ret hh).before args s = true ∧ (Cond.initialized y.cls).before args s = true ∧ (y.cls ≠ "java/lang/invoke/MethodHandle" ∧ y.cls ≠ "java/lang/invoke/VarHandle") ∧
  (∀ sig, parseMethodDescriptor y.desc = some sig → n = sig.parameters.length) ∧ (Cond.methodLink own index y).before args s = true ∧ (Cond.instanceMethod y).before args s = true ∧ (Cond.selects C y y).before args s = true
theorem vx_cwVW {own C : String} {index maxL mc ms : Nat} {y : MethodName} {bytes : ByteArray} {ret : Option FieldType} {hh : List (Nat × Nat × Nat × Nat)} {Ts ws ws' : List Cond} {rm : Room} (n : Nat) (ht : ∀ w ∈ Ts, w.before args s = true) (hT : GoodIn Ts (wsV own index C y ws)) (hw : ws = Cond.codeWith y bytes maxL ret hh :: ws') (hrc : rm.cells = mc) (hrs : rm.slots = ms)
    (hd : y.cls = C ∧ y.cls ≠ "java/lang/invoke/MethodHandle" ∧ y.cls ≠ "java/lang/invoke/VarHandle" ∧ (parseMethodDescriptor y.desc).map (fun d => d.parameters.length) = some n) (hR : rm.frames + 1 ≤ R.frames ∧ 8 + (maxL + 11) + rm.locals ≤ R.locals) :
    vx_CVW R s args own C index y bytes maxL ret hh ws rm mc ms n := by
  obtain ⟨hC, hd⟩ := hd
  subst hC
  have ok : ∀ w ∈ wsV own index y.cls y ws, w.before args s = true := fun w h => ht w (hT w h).1
  have hG : GoodIn Ts ws := fun w h => hT w (by unfold wsV; exact List.mem_append_right _ h)
  have hc : Cond.codeWith y bytes maxL ret hh ∈ ws := by rw [hw]; exact List.mem_cons_self
  refine ⟨⟨hrc, hrs, hR.1, hR.2, pay_in ht hG, hc⟩, ht _ (hG _ hc).1, ok _ (by simp [wsV]), ⟨hd.1, hd.2.1⟩, fun sig h => ?_, ok _ (by simp [wsV]), ok _ (by simp [wsV]), ok _ (by simp [wsV])⟩
  have h2 := hd.2.2
  rw [h] at h2
  exact (Option.some.inj h2).symm
theorem vx_runVW {y : MethodName} {bytes cc : ByteArray} {maxL nL mc ms n index : Nat} {ret : Option FieldType} {hh : List (Nat × Nat × Nat × Nat)} {ws : List Cond} {rm : Room} {Pc : Array Value → State → Prop} {Qc : Array Value → State → Outcome → State → Prop} {free : Addr → Prop} {Ts : List Cond} {own C : String} {b : Addr} {As rest : List Value} {g : JFrame}
    (S : CallFix p m c cc nL s args Ts own) (hM : Met l y ws rm Pc Qc mc ms free) (cw : vx_CVW R s args own C index y bytes maxL ret hh ws rm mc ms n) (hp : PreV s H C b Pc As)
    (hg : g.method = m) (hn : As.length = n) (hsize : g.locals.size = nL) (hstack : g.stack = As.reverse ++ .ref b :: rest) (hW : 2 * g.monitorRoom + (rest.map fun v => v.category).sum ≤ 8) (hdg : decode cc g.pc = .ok (.invokevirtual index, 3)) (hf : cells + mc ≤ R.cells ∧ slots + ms ≤ R.slots) :
    va_Run p l e R s m args below meth c H locs cells slots mc ms g rest (Qc (Value.ref b :: As).toArray) free := by
  obtain ⟨⟨hrc, hrs, hfr, hlo, hws, hcw⟩, hcode, hini, hy, hlen, hl, hin, hse⟩ := cw
  have hK : Back l R p e below s args y 3 8 (PreOf R mc ms Pc) (PostOf Qc mc ms free) := va_backW (hh := hh) (bytes := bytes) (maxL := maxL) (ret := ret) hM hp.1 hrc hrs hfr hlo hws hcw (fun a' U hW => word_at hW (Or.inl (by first | rfl | simp [Cond.onTables, Cond.keeps, Cond.steady])) hini)
  obtain ⟨hx, hb, hml, ho, -⟩ := S
  obtain ⟨-, ⟨cellB, hcB, hoB, hclB⟩, hPc⟩ := hp
  intro T hT X
  obtain ⟨v, vm₁, ⟨U', l2, c2, s2⟩, hW₁, X', ⟨g', mk, t, L, e1, e2, hq, h1, hL, h2, h3⟩, st⟩ := vx_callVW X hx (C := C) (hh := hh) (bytes := bytes) (maxL := maxL) (ret := ret) ho hl hin hse hcode hy hK (by rw [hT]; exact hcB) hoB hclB hg (hsize.trans hml.symm) (argsL := As) (rest := rest) (fun sig h => hn.trans (hlen sig h)) hstack hW (by rw [hb]; exact hdg)
    (fun vm₁ hW₁ => ⟨hf.1, hf.2, hPc (T.setVm vm₁) hT hW₁⟩)
  dsimp only [Pt.U, Pt.locs, Pt.cells, Pt.slots] at X' e1 e2 h1 h2 h3 st
  subst h1; subst h2; subst h3
  exact ⟨v, (T.setVm vm₁).calling g' mk (Value.ref b :: As).toArray, t, U', L, hT, X', hL, e1, e2, hq, st⟩
section
variable {y : MethodName} {bytes cc : ByteArray} {maxL nL mc ms n index : Nat} {ret : Option FieldType} {ws : List Cond} {rm : Room} {Pc : Array Value → State → Prop} {Qc : Array Value → State → Outcome → State → Prop} {XC : String → State → State → Prop} {free : Addr → Prop} {Ts : List Cond} {own C : String} {b : Addr} {As rest : List Value} {g : JFrame}
theorem vx_runVX {hh : List (Nat × Nat × Nat × Nat)} (S : CallFix p m c cc nL s args Ts own) (hM : vx_Met l y ws rm Pc Qc XC mc ms free) (cw : vx_CVW R s args own C index y bytes maxL ret hh ws rm mc ms n) (hp : PreV s H C b Pc As)
    (hg : g.method = m) (hn : As.length = n) (hsize : g.locals.size = nL) (hstack : g.stack = As.reverse ++ .ref b :: rest) (hW : 2 * g.monitorRoom + (rest.map fun v => v.category).sum ≤ 8) (hdg : decode cc g.pc = .ok (.invokevirtual index, 3)) (hf : cells + mc ≤ R.cells ∧ slots + ms ≤ R.slots) :
    vx_Run p l e R s m args below meth c H locs cells slots mc ms g rest (Qc (Value.ref b :: As).toArray) XC free := by
  obtain ⟨⟨hrc, hrs, hfr, hlo, hws, hcw⟩, hcode, hini, hy, hlen, hl, hin, hse⟩ := cw
  have hK : vx_Back l R p e below s args y 3 8 (PreOf R mc ms Pc) (PostOf Qc mc ms free) (vx_Post XC mc ms free) := vx_backW (hh := hh) (bytes := bytes) (maxL := maxL) (ret := ret) hM hp.1 hrc hrs hfr hlo hws hcw (fun a' U hW => word_at hW (Or.inl (by first | rfl | simp [Cond.onTables, Cond.keeps, Cond.steady])) hini)
  obtain ⟨hx, hb, hml, ho, -⟩ := S
  obtain ⟨-, ⟨cellB, hcB, hoB, hclB⟩, hPc⟩ := hp
  intro T hT X
  rcases vx_callVX X hx (C := C) (hh := hh) (bytes := bytes) (maxL := maxL) (ret := ret) ho hl hin hse hcode hy hK (by rw [hT]; exact hcB) hoB hclB hg (hsize.trans hml.symm) (argsL := As) (rest := rest) (fun sig h => hn.trans (hlen sig h)) hstack hW (by rw [hb]; exact hdg)
    (fun vm₁ hW₁ => ⟨hf.1, hf.2, hPc (T.setVm vm₁) hT hW₁⟩) with ⟨v, vm₁, ⟨U', l2, c2, s2⟩, hW₁, X', ⟨g', mk, t, L, e1, e2, hq, h1, hL, h2, h3⟩, st⟩ | ⟨q, vm₁, ⟨U', l2, c2, s2⟩, hW₁, X', ⟨g', mk, t, L, E, ce, e1, e2, hq, hce, hcv, hcl, h1, hL, h2, h3⟩, st⟩
  · dsimp only [Pt.U, Pt.locs, Pt.cells, Pt.slots] at X' e1 e2 h1 h2 h3 st
    subst h1; subst h2; subst h3
    exact Or.inl ⟨v, (T.setVm vm₁).calling g' mk (Value.ref b :: As).toArray, t, U', L, hT, X', hL, e1, e2, hq, st⟩
  · dsimp only [Pt.U, Pt.locs, Pt.cells, Pt.slots] at X' e1 e2 h1 h2 h3 st hcl
    subst h1; subst h2; subst h3
    exact Or.inr ⟨q, (T.setVm vm₁).calling g' mk (Value.ref b :: As).toArray, t, U', L, E, ce, hT, X', hL, e1, e2, hq, hce, hcv, vx_cls hW₁ hcl, st⟩
theorem vx_runSX {hh : List (Nat × Nat × Nat × Nat)} (S : CallFix p m c cc nL s args Ts own) (hM : vx_Met l y ws rm Pc Qc XC mc ms free) (cw : vx_CSW R s args own index y bytes maxL ret hh ws rm mc ms n) (hp : PreS s H Pc As)
    (hg : g.method = m) (hn : As.length = n) (hsize : g.locals.size = nL) (hstack : g.stack = As.reverse ++ rest) (hW : 2 * g.monitorRoom + (rest.map fun v => v.category).sum ≤ 8) (hdg : decode cc g.pc = .ok (.invokestatic index, 3)) (hf : cells + mc ≤ R.cells ∧ slots + ms ≤ R.slots) :
    vx_Run p l e R s m args below meth c H locs cells slots mc ms g rest (Qc As.toArray) XC free := by
  obtain ⟨⟨hrc, hrs, hfr, hlo, hws, hcw⟩, hcode, hini, hy, hlen, hl, hstt⟩ := cw
  have hK : vx_Back l R p e below s args y 3 8 (PreOf R mc ms Pc) (PostOf Qc mc ms free) (vx_Post XC mc ms free) := vx_backW (hh := hh) (bytes := bytes) (maxL := maxL) (ret := ret) hM hp.1 hrc hrs hfr hlo hws hcw (fun a' U hW => word_at hW (Or.inl (by first | rfl | simp [Cond.onTables, Cond.keeps, Cond.steady])) hini)
  obtain ⟨hx, hb, hml, ho, -⟩ := S
  intro T hT X
  rcases vx_callSX X hx (hh := hh) (bytes := bytes) (maxL := maxL) (ret := ret) ho hl hstt hini hcode hy hK hg (hsize.trans hml.symm) (argsL := As) (rest := rest) (fun sig h => hn.trans (hlen sig h)) hstack hW (by rw [hb]; exact hdg)
    (fun vm₁ hW₁ => ⟨hf.1, hf.2, hp.2 (T.setVm vm₁) hT hW₁⟩) with ⟨v, vm₁, ⟨U', l2, c2, s2⟩, hW₁, X', ⟨g', mk, t, L, e1, e2, hq, h1, hL, h2, h3⟩, st⟩ | ⟨q, vm₁, ⟨U', l2, c2, s2⟩, hW₁, X', ⟨g', mk, t, L, E, ce, e1, e2, hq, hce, hcv, hcl, h1, hL, h2, h3⟩, st⟩
  · dsimp only [Pt.U, Pt.locs, Pt.cells, Pt.slots] at X' e1 e2 h1 h2 h3 st
    subst h1; subst h2; subst h3
    exact Or.inl ⟨v, (T.setVm vm₁).calling g' mk As.toArray, t, U', L, hT, X', hL, e1, e2, hq, st⟩
  · dsimp only [Pt.U, Pt.locs, Pt.cells, Pt.slots] at X' e1 e2 h1 h2 h3 st hcl
    subst h1; subst h2; subst h3
    exact Or.inr ⟨q, (T.setVm vm₁).calling g' mk As.toArray, t, U', L, E, ce, hT, X', hL, e1, e2, hq, hce, hcv, vx_cls hW₁ hcl, st⟩
end
end VXH
theorem vx_ofWH {l : Launch} {y : MethodName} {ws ws' : List Cond} {rm : Room} {Pc : Array Value → State → Prop} {Qc : Array Value → State → Outcome → State → Prop} {XC : String → State → State → Prop} {mc ms : Nat} {free : Addr → Prop} {cc : ByteArray} {maxL : Nat} {ret : Option FieldType} {hh : List (Nat × Nat × Nat × Nat)}
    (hy : plainName y.cls = true) (hw : ws = Cond.codeWith y cc maxL ret hh :: ws')
    (body : ∀ p e s m args below meth c s₁, BodyLoose p l y (headSpec ws rm) cc maxL ret e s m args below meth c s₁ → c.maxLocals = maxL → Pc args s →
      W p l e (headSpec ws rm).room s m args below meth c s.heap [] 0 0 (vx_MQ below Qc XC args s mc ms free) (entryFrame m args maxL)) : vx_Met l y ws rm Pc Qc XC mc ms free := by
  refine MetFree.of_bodyS (code := cc) (maxLocals := maxL) (ret := ret) hy ?_ ?_
  · intro args s m h hn
    obtain ⟨m9, meth, c, hn9, h1, h2, h3, h4, -, h5, h6, -⟩ := Cond.codeWith_spec (atoms_spec (ws := ws) h _ (by rw [hw]; exact List.mem_cons_self))
    cases hn.symm.trans hn9
    exact ⟨meth, c, h1, h2, h3, h4, h5, h6⟩
  · intro p e s m args below meth c s₁ B hml hP _
    have hh0 : s₁.heap = s.heap := by rw [B.state]; rfl
    obtain ⟨t, a1, o, b1, b2, b3⟩ := body p e s m args below meth c s₁ B hml hP s₁ hh0 (Stand.of_body B)
    exact ⟨t, o, a1, b1, b2, b3⟩
/-! ===== END ===== -/
end
section
def RX0 : String := "GyreWatch$Buoy"
def TX0 : u_T := fun k => match k with
  | 0 => ("GyreWatch$Buoy", "number", "I", true)
  | 1 => ("GyreWatch$Buoy", "parks", "I", true)
  | 2 => ("GyreWatch$Buoy", "bias", "I", true)
  | 3 => ("GyreWatch$Buoy", "cell", "I", false)
  | 4 => ("GyreWatch$Buoy", "daysLeft", "I", false)
  | 5 => ("GyreWatch$Buoy", "battery", "I", false)
  | 6 => ("GyreWatch$Buoy", "correction", "I", false)
  | 7 => ("GyreWatch$Buoy", "readingsKept", "I", false)
  | _ => ("GyreWatch$Buoy", "latest", "LGyreWatch$Reading;", false)
def tyX0 : Nat → FieldType := fun k => match k with
  | 0 => .int
  | 1 => .int
  | 2 => .int
  | 3 => .int
  | 4 => .int
  | 5 => .int
  | 6 => .int
  | 7 => .int
  | _ => .object "GyreWatch$Reading"
abbrev wsX00 : List Cond := u_ws RX0 TX0 9
theorem nmX0 : ∀ a, a < 9 → ∀ b, b < 9 → a ≠ b → (TX0 a).2.1 ≠ (TX0 b).2.1 := by decide +kernel
theorem tyX0_ok : ∀ k, k < 9 → parseFieldDescriptor (TX0 k).2.2.1 = some (tyX0 k) := by decide +kernel
abbrev cX0_init : ByteArray := prog_2_method_1_code
def yX0_init : MethodName := ⟨RX0, "<init>", "(IIIII)V"⟩
def RX1 : String := "GyreWatch$Layer"
def TX1 : u_T := fun k => match k with
  | 0 => ("GyreWatch$Layer", "heat", "[I", true)
  | _ => ("GyreWatch$Layer", "salt", "[I", true)
def tyX1 : Nat → FieldType := fun k => match k with
  | 0 => .array .int
  | _ => .array .int
abbrev wsX10 : List Cond := u_ws RX1 TX1 2
theorem nmX1 : ∀ a, a < 2 → ∀ b, b < 2 → a ≠ b → (TX1 a).2.1 ≠ (TX1 b).2.1 := by decide +kernel
theorem tyX1_ok : ∀ k, k < 2 → parseFieldDescriptor (TX1 k).2.2.1 = some (tyX1 k) := by decide +kernel
abbrev cX1_init : ByteArray := prog_3_method_1_code
def yX1_init : MethodName := ⟨RX1, "<init>", "(II)V"⟩
abbrev cX1_weightAt : ByteArray := prog_3_method_2_code
def yX1_weightAt : MethodName := ⟨RX1, "weightAt", "(I)I"⟩
abbrev cX1_emptyAt : ByteArray := prog_3_method_3_code
def yX1_emptyAt : MethodName := ⟨RX1, "emptyAt", "(I)V"⟩
def RX2 : String := "GyreWatch$Log"
def TX2 : u_T := fun k => match k with
  | 0 => ("GyreWatch$Log", "kept", "[LGyreWatch$Reading;", true)
  | 1 => ("GyreWatch$Log", "count", "I", false)
  | _ => ("GyreWatch$Log", "bound", "I", false)
def tyX2 : Nat → FieldType := fun k => match k with
  | 0 => .array (.object "GyreWatch$Reading")
  | 1 => .int
  | _ => .int
abbrev wsX20 : List Cond := u_ws RX2 TX2 3
theorem nmX2 : ∀ a, a < 3 → ∀ b, b < 3 → a ≠ b → (TX2 a).2.1 ≠ (TX2 b).2.1 := by decide +kernel
theorem tyX2_ok : ∀ k, k < 3 → parseFieldDescriptor (TX2 k).2.2.1 = some (tyX2 k) := by decide +kernel
abbrev cX2_init : ByteArray := prog_4_method_1_code
def yX2_init : MethodName := ⟨RX2, "<init>", "()V"⟩
abbrev cX2_keep : ByteArray := prog_4_method_2_code
def yX2_keep : MethodName := ⟨RX2, "keep", "(IIILGyreWatch$Buoy;)V"⟩
abbrev cX2_chain : ByteArray := prog_4_method_3_code
def yX2_chain : MethodName := ⟨RX2, "chain", "(LGyreWatch$Reading;LGyreWatch$Buoy;)V"⟩
abbrev cX2_nearestOfShip : ByteArray := prog_4_method_4_code
def yX2_nearestOfShip : MethodName := ⟨RX2, "nearestOfShip", "(LGyreWatch$Reading;)LGyreWatch$Reading;"⟩
abbrev cX2_weightsWithout : ByteArray := prog_4_method_5_code
def yX2_weightsWithout : MethodName := ⟨RX2, "weightsWithout", "(LGyreWatch$Reading;III)I"⟩
abbrev cX2_weighedValuesWithout : ByteArray := prog_4_method_6_code
def yX2_weighedValuesWithout : MethodName := ⟨RX2, "weighedValuesWithout", "(LGyreWatch$Reading;III)J"⟩
abbrev cX2_isInSpan : ByteArray := prog_4_method_7_code
def yX2_isInSpan : MethodName := ⟨RX2, "isInSpan", "(LGyreWatch$Reading;II)Z"⟩
def RX3 : String := "GyreWatch$Part"
def TX3 : u_T := fun k => match k with
  | _ => ("", "", "", false)
def tyX3 : Nat → FieldType := fun k => match k with
  | _ => .int
abbrev wsX30 : List Cond := u_ws RX3 TX3 0
theorem nmX3 : ∀ a, a < 0 → ∀ b, b < 0 → a ≠ b → (TX3 a).2.1 ≠ (TX3 b).2.1 := by decide +kernel
theorem tyX3_ok : ∀ k, k < 0 → parseFieldDescriptor (TX3 k).2.2.1 = some (tyX3 k) := by decide +kernel
def RX4 : String := "GyreWatch$Reading"
def TX4 : u_T := fun k => match k with
  | 0 => ("GyreWatch$Reading", "day", "I", true)
  | 1 => ("GyreWatch$Reading", "cell", "I", true)
  | 2 => ("GyreWatch$Reading", "value", "I", true)
  | 3 => ("GyreWatch$Reading", "buoy", "LGyreWatch$Buoy;", true)
  | 4 => ("GyreWatch$Reading", "byHand", "I", false)
  | 5 => ("GyreWatch$Reading", "before", "LGyreWatch$Reading;", false)
  | _ => ("GyreWatch$Reading", "behind", "LGyreWatch$Reading;", false)
def tyX4 : Nat → FieldType := fun k => match k with
  | 0 => .int
  | 1 => .int
  | 2 => .int
  | 3 => .object "GyreWatch$Buoy"
  | 4 => .int
  | 5 => .object "GyreWatch$Reading"
  | _ => .object "GyreWatch$Reading"
abbrev wsX40 : List Cond := u_ws RX4 TX4 7
theorem nmX4 : ∀ a, a < 7 → ∀ b, b < 7 → a ≠ b → (TX4 a).2.1 ≠ (TX4 b).2.1 := by decide +kernel
theorem tyX4_ok : ∀ k, k < 7 → parseFieldDescriptor (TX4 k).2.2.1 = some (tyX4 k) := by decide +kernel
abbrev cX4_init : ByteArray := prog_6_method_1_code
def yX4_init : MethodName := ⟨RX4, "<init>", "(IIILGyreWatch$Buoy;)V"⟩
abbrev cX4_corrected : ByteArray := prog_6_method_2_code
def yX4_corrected : MethodName := ⟨RX4, "corrected", "()I"⟩
abbrev cX4_flagBy : ByteArray := prog_6_method_3_code
def yX4_flagBy : MethodName := ⟨RX4, "flagBy", "(I)I"⟩
abbrev cX4_isSpike : ByteArray := prog_6_method_4_code
def yX4_isSpike : MethodName := ⟨RX4, "isSpike", "(I)Z"⟩
abbrev cX4_daysFrom : ByteArray := prog_6_method_5_code
def yX4_daysFrom : MethodName := ⟨RX4, "daysFrom", "(I)I"⟩
abbrev cX4_weightIn : ByteArray := prog_6_method_6_code
def yX4_weightIn : MethodName := ⟨RX4, "weightIn", "(I)I"⟩
def RX5 : String := "GyreWatch$Sea"
def TX5 : u_T := fun k => match k with
  | 0 => ("GyreWatch$Sea", "upper", "LGyreWatch$Layer;", true)
  | 1 => ("GyreWatch$Sea", "lower", "LGyreWatch$Layer;", true)
  | 2 => ("GyreWatch$Sea", "currents", "[I", true)
  | 3 => ("GyreWatch$Sea", "suns", "[I", true)
  | 4 => ("GyreWatch$Sea", "gift", "I", false)
  | 5 => ("GyreWatch$Sea", "lands", "[Z", true)
  | 6 => ("GyreWatch$Sea", "ahead", "[I", true)
  | _ => ("GyreWatch$Sea", "landCount", "I", false)
def tyX5 : Nat → FieldType := fun k => match k with
  | 0 => .object "GyreWatch$Layer"
  | 1 => .object "GyreWatch$Layer"
  | 2 => .array .int
  | 3 => .array .int
  | 4 => .int
  | 5 => .array .boolean
  | 6 => .array .int
  | _ => .int
abbrev wsX50 : List Cond := u_ws RX5 TX5 8
theorem nmX5 : ∀ a, a < 8 → ∀ b, b < 8 → a ≠ b → (TX5 a).2.1 ≠ (TX5 b).2.1 := by decide +kernel
theorem tyX5_ok : ∀ k, k < 8 → parseFieldDescriptor (TX5 k).2.2.1 = some (tyX5 k) := by decide +kernel
abbrev cX5_init : ByteArray := prog_7_method_1_code
def yX5_init : MethodName := ⟨RX5, "<init>", "()V"⟩
abbrev cX5_isLand : ByteArray := prog_7_method_2_code
def yX5_isLand : MethodName := ⟨RX5, "isLand", "(I)Z"⟩
abbrev cX5_upperHeat : ByteArray := prog_7_method_3_code
def yX5_upperHeat : MethodName := ⟨RX5, "upperHeat", "(I)I"⟩
abbrev cX5_makeLand : ByteArray := prog_7_method_4_code
def yX5_makeLand : MethodName := ⟨RX5, "makeLand", "(I)I"⟩
abbrev cX5_seaBeside : ByteArray := prog_7_method_5_code
def yX5_seaBeside : MethodName := ⟨RX5, "seaBeside", "(II)I"⟩
abbrev cX5_leadsTo : ByteArray := prog_7_method_6_code
def yX5_leadsTo : MethodName := ⟨RX5, "leadsTo", "(I)I"⟩
abbrev cX5_flow : ByteArray := prog_7_method_7_code
def yX5_flow : MethodName := ⟨RX5, "flow", "()V"⟩
abbrev cX5_carry : ByteArray := prog_7_method_8_code
def yX5_carry : MethodName := ⟨RX5, "carry", "([I)V"⟩
abbrev cX5_shine : ByteArray := prog_7_method_9_code
def yX5_shine : MethodName := ⟨RX5, "shine", "()V"⟩
abbrev cX5_turnOver : ByteArray := prog_7_method_10_code
def yX5_turnOver : MethodName := ⟨RX5, "turnOver", "()V"⟩
abbrev cX5_share : ByteArray := prog_7_method_11_code
def yX5_share : MethodName := ⟨RX5, "share", "([I[II)V"⟩
def RX6 : String := "GyreWatch$Search"
def TX6 : u_T := fun k => match k with
  | 0 => ("GyreWatch$Search", "beginning", "I", true)
  | 1 => ("GyreWatch$Search", "chances", "[I", true)
  | _ => ("GyreWatch$Search", "copy", "[I", true)
def tyX6 : Nat → FieldType := fun k => match k with
  | 0 => .int
  | 1 => .array .int
  | _ => .array .int
abbrev wsX60 : List Cond := u_ws RX6 TX6 3
theorem nmX6 : ∀ a, a < 3 → ∀ b, b < 3 → a ≠ b → (TX6 a).2.1 ≠ (TX6 b).2.1 := by decide +kernel
theorem tyX6_ok : ∀ k, k < 3 → parseFieldDescriptor (TX6 k).2.2.1 = some (tyX6 k) := by decide +kernel
abbrev cX6_init : ByteArray := prog_8_method_1_code
def yX6_init : MethodName := ⟨RX6, "<init>", "(I)V"⟩
abbrev cX6_goOn : ByteArray := prog_8_method_2_code
def yX6_goOn : MethodName := ⟨RX6, "goOn", "(LGyreWatch$Sea;)V"⟩
abbrev cX6_give : ByteArray := prog_8_method_3_code
def yX6_give : MethodName := ⟨RX6, "give", "(III)V"⟩
abbrev cX6_tryLegs : ByteArray := prog_8_method_4_code
def yX6_tryLegs : MethodName := ⟨RX6, "tryLegs", "(II)I"⟩
abbrev cX6_lookAt : ByteArray := prog_8_method_5_code
def yX6_lookAt : MethodName := ⟨RX6, "lookAt", "([III)I"⟩
abbrev cX6_bestOf : ByteArray := prog_8_method_6_code
def yX6_bestOf : MethodName := ⟨RX6, "bestOf", "([I)I"⟩
def RX7 : String := "GyreWatch$Ships"
def TX7 : u_T := fun k => match k with
  | 0 => ("GyreWatch$Ships", "stationCount", "I", false)
  | 1 => ("GyreWatch$Ships", "stations", "[I", true)
  | 2 => ("GyreWatch$Ships", "stormFrom", "[I", true)
  | 3 => ("GyreWatch$Ships", "stormTo", "[I", true)
  | _ => ("GyreWatch$Ships", "stormCount", "I", false)
def tyX7 : Nat → FieldType := fun k => match k with
  | 0 => .int
  | 1 => .array .int
  | 2 => .array .int
  | 3 => .array .int
  | _ => .int
abbrev wsX70 : List Cond := u_ws RX7 TX7 5
theorem nmX7 : ∀ a, a < 5 → ∀ b, b < 5 → a ≠ b → (TX7 a).2.1 ≠ (TX7 b).2.1 := by decide +kernel
theorem tyX7_ok : ∀ k, k < 5 → parseFieldDescriptor (TX7 k).2.2.1 = some (tyX7 k) := by decide +kernel
abbrev cX7_init : ByteArray := prog_9_method_1_code
def yX7_init : MethodName := ⟨RX7, "<init>", "()V"⟩
abbrev cX7_stationOf : ByteArray := prog_9_method_2_code
def yX7_stationOf : MethodName := ⟨RX7, "stationOf", "(II)I"⟩
abbrev cX7_dayOf : ByteArray := prog_9_method_3_code
def yX7_dayOf : MethodName := ⟨RX7, "dayOf", "(I)I"⟩
abbrev cX7_cellOf : ByteArray := prog_9_method_4_code
def yX7_cellOf : MethodName := ⟨RX7, "cellOf", "(I)I"⟩
abbrev cX7_hasStation : ByteArray := prog_9_method_5_code
def yX7_hasStation : MethodName := ⟨RX7, "hasStation", "(II)Z"⟩
abbrev cX7_hasStationIn : ByteArray := prog_9_method_6_code
def yX7_hasStationIn : MethodName := ⟨RX7, "hasStationIn", "(I)Z"⟩
abbrev cX7_areAllStationsTold : ByteArray := prog_9_method_7_code
def yX7_areAllStationsTold : MethodName := ⟨RX7, "areAllStationsTold", "()Z"⟩
abbrev cX7_tellStation : ByteArray := prog_9_method_8_code
def yX7_tellStation : MethodName := ⟨RX7, "tellStation", "(II)I"⟩
abbrev cX7_countDue : ByteArray := prog_9_method_9_code
def yX7_countDue : MethodName := ⟨RX7, "countDue", "(I)I"⟩
abbrev cX7_dropFirst : ByteArray := prog_9_method_10_code
def yX7_dropFirst : MethodName := ⟨RX7, "dropFirst", "(I)V"⟩
abbrev cX7_areAllStormsTold : ByteArray := prog_9_method_11_code
def yX7_areAllStormsTold : MethodName := ⟨RX7, "areAllStormsTold", "()Z"⟩
abbrev cX7_tellStorm : ByteArray := prog_9_method_12_code
def yX7_tellStorm : MethodName := ⟨RX7, "tellStorm", "(II)V"⟩
abbrev cX7_hasStorm : ByteArray := prog_9_method_13_code
def yX7_hasStorm : MethodName := ⟨RX7, "hasStorm", "(I)Z"⟩
abbrev cX7_calmStations : ByteArray := prog_9_method_14_code
def yX7_calmStations : MethodName := ⟨RX7, "calmStations", "(II)I"⟩
def RX8 : String := "GyreWatch"
def TX8 : u_T := fun k => match k with
  | 0 => ("GyreWatch", "sea", "LGyreWatch$Sea;", true)
  | 1 => ("GyreWatch", "buoys", "[LGyreWatch$Buoy;", true)
  | 2 => ("GyreWatch", "log", "LGyreWatch$Log;", true)
  | 3 => ("GyreWatch", "ships", "LGyreWatch$Ships;", true)
  | 4 => ("GyreWatch", "searches", "[LGyreWatch$Search;", true)
  | 5 => ("GyreWatch", "parts", "[LGyreWatch$Part;", true)
  | 6 => ("GyreWatch", "buoyCount", "I", false)
  | 7 => ("GyreWatch", "searchCount", "I", false)
  | 8 => ("GyreWatch", "partCount", "I", false)
  | _ => ("GyreWatch", "today", "I", false)
def tyX8 : Nat → FieldType := fun k => match k with
  | 0 => .object "GyreWatch$Sea"
  | 1 => .array (.object "GyreWatch$Buoy")
  | 2 => .object "GyreWatch$Log"
  | 3 => .object "GyreWatch$Ships"
  | 4 => .array (.object "GyreWatch$Search")
  | 5 => .array (.object "GyreWatch$Part")
  | 6 => .int
  | 7 => .int
  | 8 => .int
  | _ => .int
abbrev wsX80 : List Cond := u_ws RX8 TX8 10
theorem nmX8 : ∀ a, a < 10 → ∀ b, b < 10 → a ≠ b → (TX8 a).2.1 ≠ (TX8 b).2.1 := by decide +kernel
theorem tyX8_ok : ∀ k, k < 10 → parseFieldDescriptor (TX8 k).2.2.1 = some (tyX8 k) := by decide +kernel
abbrev cX8_init : ByteArray := prog_1_method_1_code
def yX8_init : MethodName := ⟨RX8, "<init>", "()V"⟩
abbrev cX8_land : ByteArray := prog_1_method_2_code
def yX8_land : MethodName := ⟨RX8, "land", "(I)I"⟩
abbrev cX8_current : ByteArray := prog_1_method_3_code
def yX8_current : MethodName := ⟨RX8, "current", "(II)I"⟩
abbrev cX8_sun : ByteArray := prog_1_method_4_code
def yX8_sun : MethodName := ⟨RX8, "sun", "(II)I"⟩
abbrev cX8_pass : ByteArray := prog_1_method_5_code
def yX8_pass : MethodName := ⟨RX8, "pass", "(I)I"⟩
abbrev cX8_lay : ByteArray := prog_1_method_6_code
def yX8_lay : MethodName := ⟨RX8, "lay", "(IIII)I"⟩
abbrev cX8_station : ByteArray := prog_1_method_7_code
def yX8_station : MethodName := ⟨RX8, "station", "(II)I"⟩
abbrev cX8_storm : ByteArray := prog_1_method_8_code
def yX8_storm : MethodName := ⟨RX8, "storm", "(II)I"⟩
abbrev cX8_calibrate : ByteArray := prog_1_method_9_code
def yX8_calibrate : MethodName := ⟨RX8, "calibrate", "(I)I"⟩
abbrev cX8_flag : ByteArray := prog_1_method_10_code
def yX8_flag : MethodName := ⟨RX8, "flag", "(II)I"⟩
abbrev cX8_bound : ByteArray := prog_1_method_11_code
def yX8_bound : MethodName := ⟨RX8, "bound", "(I)I"⟩
abbrev cX8_search : ByteArray := prog_1_method_12_code
def yX8_search : MethodName := ⟨RX8, "search", "(I)I"⟩
abbrev cX8_leg : ByteArray := prog_1_method_13_code
def yX8_leg : MethodName := ⟨RX8, "leg", "(III)I"⟩
abbrev cX8_day : ByteArray := prog_1_method_15_code
def yX8_day : MethodName := ⟨RX8, "day", "()I"⟩
abbrev cX8_ofLayer : ByteArray := prog_1_method_16_code
def yX8_ofLayer : MethodName := ⟨RX8, "ofLayer", "(III)I"⟩
abbrev cX8_total : ByteArray := prog_1_method_17_code
def yX8_total : MethodName := ⟨RX8, "total", "(I)I"⟩
abbrev cX8_ofFloat : ByteArray := prog_1_method_18_code
def yX8_ofFloat : MethodName := ⟨RX8, "ofFloat", "(II)I"⟩
abbrev cX8_stations : ByteArray := prog_1_method_19_code
def yX8_stations : MethodName := ⟨RX8, "stations", "()I"⟩
abbrev cX8_readings : ByteArray := prog_1_method_20_code
def yX8_readings : MethodName := ⟨RX8, "readings", "()I"⟩
abbrev cX8_ofReading : ByteArray := prog_1_method_21_code
def yX8_ofReading : MethodName := ⟨RX8, "ofReading", "(II)I"⟩
abbrev cX8_mean : ByteArray := prog_1_method_22_code
def yX8_mean : MethodName := ⟨RX8, "mean", "(III)I"⟩
abbrev cX8_error : ByteArray := prog_1_method_23_code
def yX8_error : MethodName := ⟨RX8, "error", "(III)I"⟩
abbrev cX8_residual : ByteArray := prog_1_method_24_code
def yX8_residual : MethodName := ⟨RX8, "residual", "(II)I"⟩
abbrev cX8_chance : ByteArray := prog_1_method_25_code
def yX8_chance : MethodName := ⟨RX8, "chance", "(II)I"⟩
abbrev cX8_best : ByteArray := prog_1_method_26_code
def yX8_best : MethodName := ⟨RX8, "best", "(I)I"⟩
abbrev cX8_plan : ByteArray := prog_1_method_27_code
def yX8_plan : MethodName := ⟨RX8, "plan", "(III)I"⟩
abbrev cX8_isIndex : ByteArray := prog_1_method_30_code
def yX8_isIndex : MethodName := ⟨RX8, "isIndex", "(II)Z"⟩
abbrev cX8_isCell : ByteArray := prog_1_method_31_code
def yX8_isCell : MethodName := ⟨RX8, "isCell", "(I)Z"⟩
abbrev cX8_needCell : ByteArray := prog_1_method_32_code
def yX8_needCell : MethodName := ⟨RX8, "needCell", "(I)V"⟩
abbrev cX8_needRange : ByteArray := prog_1_method_33_code
def yX8_needRange : MethodName := ⟨RX8, "needRange", "(III)V"⟩
abbrev cX8_needMap : ByteArray := prog_1_method_34_code
def yX8_needMap : MethodName := ⟨RX8, "needMap", "(III)V"⟩
abbrev cX8_needSea : ByteArray := prog_1_method_35_code
def yX8_needSea : MethodName := ⟨RX8, "needSea", "(I)V"⟩
abbrev cX8_buoyNumbered : ByteArray := prog_1_method_36_code
def yX8_buoyNumbered : MethodName := ⟨RX8, "buoyNumbered", "(I)LGyreWatch$Buoy;"⟩
abbrev cX8_readingNumbered : ByteArray := prog_1_method_37_code
def yX8_readingNumbered : MethodName := ⟨RX8, "readingNumbered", "(I)LGyreWatch$Reading;"⟩
abbrev cX8_searchNumbered : ByteArray := prog_1_method_38_code
def yX8_searchNumbered : MethodName := ⟨RX8, "searchNumbered", "(I)LGyreWatch$Search;"⟩
abbrev cX8_sumOf : ByteArray := prog_1_method_39_code
def yX8_sumOf : MethodName := ⟨RX8, "sumOf", "([I)I"⟩
abbrev cX8_isTaken : ByteArray := prog_1_method_40_code
def yX8_isTaken : MethodName := ⟨RX8, "isTaken", "(I)Z"⟩
abbrev cX8_meanWithout : ByteArray := prog_1_method_41_code
def yX8_meanWithout : MethodName := ⟨RX8, "meanWithout", "(LGyreWatch$Reading;III)I"⟩
abbrev cX8_passOneDay : ByteArray := prog_1_method_43_code
def yX8_passOneDay : MethodName := ⟨RX8, "passOneDay", "()V"⟩
abbrev cX8_letDrift : ByteArray := prog_1_method_44_code
def yX8_letDrift : MethodName := ⟨RX8, "letDrift", "(LGyreWatch$Buoy;)V"⟩
abbrev cX8_readAtStations : ByteArray := prog_1_method_45_code
def yX8_readAtStations : MethodName := ⟨RX8, "readAtStations", "()V"⟩
def RX9 : String := "GyreWatchModel"
def TX9 : u_T := fun k => match k with
  | _ => ("", "", "", false)
def tyX9 : Nat → FieldType := fun k => match k with
  | _ => .int
abbrev wsX90 : List Cond := u_ws RX9 TX9 0
theorem nmX9 : ∀ a, a < 0 → ∀ b, b < 0 → a ≠ b → (TX9 a).2.1 ≠ (TX9 b).2.1 := by decide +kernel
theorem tyX9_ok : ∀ k, k < 0 → parseFieldDescriptor (TX9 k).2.2.1 = some (tyX9 k) := by decide +kernel
def RJx145de : String := "java/io/Serializable"
def TJx145de : u_T := fun k => match k with
  | _ => ("", "", "", false)
def tyJx145de : Nat → FieldType := fun k => match k with
  | _ => .int
theorem nmJx145de : ∀ a, a < 0 → ∀ b, b < 0 → a ≠ b → (TJx145de a).2.1 ≠ (TJx145de b).2.1 := by decide +kernel
theorem tyJx145de_ok : ∀ k, k < 0 → parseFieldDescriptor (TJx145de k).2.2.1 = some (tyJx145de k) := by decide +kernel
def RJ9 : String := "java/lang/Math"
def TJ9 : u_T := fun k => match k with
  | _ => ("", "", "", false)
def tyJ9 : Nat → FieldType := fun k => match k with
  | _ => .int
theorem nmJ9 : ∀ a, a < 0 → ∀ b, b < 0 → a ≠ b → (TJ9 a).2.1 ≠ (TJ9 b).2.1 := by decide +kernel
theorem tyJ9_ok : ∀ k, k < 0 → parseFieldDescriptor (TJ9 k).2.2.1 = some (tyJ9 k) := by decide +kernel
abbrev cJ9_abs_0f7a4 : ByteArray := prog_16_method_59_code
def yJ9_abs_0f7a4 : MethodName := ⟨RJ9, "abs", "(I)I"⟩
abbrev cJ9_max_7cf53 : ByteArray := prog_16_method_65_code
def yJ9_max_7cf53 : MethodName := ⟨RJ9, "max", "(II)I"⟩
abbrev cJ9_min_7cf53 : ByteArray := prog_16_method_69_code
def yJ9_min_7cf53 : MethodName := ⟨RJ9, "min", "(II)I"⟩
def RJ0 : String := "java/lang/String"
def TJ0 : u_T := fun k => match k with
  | _ => ("", "", "", false)
def tyJ0 : Nat → FieldType := fun k => match k with
  | _ => .int
theorem nmJ0 : ∀ a, a < 0 → ∀ b, b < 0 → a ≠ b → (TJ0 a).2.1 ≠ (TJ0 b).2.1 := by decide +kernel
theorem tyJ0_ok : ∀ k, k < 0 → parseFieldDescriptor (TJ0 k).2.2.1 = some (tyJ0 k) := by decide +kernel
def RJ10 : String := "java/lang/System"
def TJ10 : u_T := fun k => match k with
  | _ => ("", "", "", false)
def tyJ10 : Nat → FieldType := fun k => match k with
  | _ => .int
theorem nmJ10 : ∀ a, a < 0 → ∀ b, b < 0 → a ≠ b → (TJ10 a).2.1 ≠ (TJ10 b).2.1 := by decide +kernel
theorem tyJ10_ok : ∀ k, k < 0 → parseFieldDescriptor (TJ10 k).2.2.1 = some (tyJ10 k) := by decide +kernel
def RJ7 : String := "java/util/Arrays"
def TJ7 : u_T := fun k => match k with
  | _ => ("", "", "", false)
def tyJ7 : Nat → FieldType := fun k => match k with
  | _ => .int
theorem nmJ7 : ∀ a, a < 0 → ∀ b, b < 0 → a ≠ b → (TJ7 a).2.1 ≠ (TJ7 b).2.1 := by decide +kernel
theorem tyJ7_ok : ∀ k, k < 0 → parseFieldDescriptor (TJ7 k).2.2.1 = some (tyJ7 k) := by decide +kernel
abbrev cJ7_fill_53178 : ByteArray := prog_21_method_103_code
def yJ7_fill_53178 : MethodName := ⟨RJ7, "fill", "([II)V"⟩
def RL : String := "GyreWatchLaw"
abbrev cL_cell : ByteArray := method_2_code
def yL_cell : MethodName := ⟨RL, "cell", "([II)I"⟩
abbrev cL_low : ByteArray := method_3_code
def yL_low : MethodName := ⟨RL, "low", "(II)I"⟩
abbrev cL_calls : ByteArray := method_4_code
def yL_calls : MethodName := ⟨RL, "calls", "(LGyreWatch;IIII)I"⟩
abbrev cL_way : ByteArray := method_5_code
def yL_way : MethodName := ⟨RL, "way", "(II[I)I"⟩
abbrev cL_leads : ByteArray := method_6_code
def yL_leads : MethodName := ⟨RL, "leads", "(I[I)I"⟩
abbrev cL_flowed : ByteArray := method_7_code
def yL_flowed : MethodName := ⟨RL, "flowed", "(I[I[I)I"⟩
abbrev cL_drifted : ByteArray := method_8_code
def yL_drifted : MethodName := ⟨RL, "drifted", "(I[I[I)I"⟩
abbrev cL_isStorm : ByteArray := method_9_code
def yL_isStorm : MethodName := ⟨RL, "isStorm", "(I[I[I)Z"⟩
abbrev cL_reads : ByteArray := method_10_code
def yL_reads : MethodName := ⟨RL, "reads", "(III[I[I[I[I)V"⟩
abbrev cL_copies : ByteArray := method_11_code
def yL_copies : MethodName := ⟨RL, "copies", "([I[I)V"⟩
abbrev cL_passes : ByteArray := method_12_code
def yL_passes : MethodName := ⟨RL, "passes", "([I[I[I[I[I[I[I[I[I[I[I[I[I[I[I[I)V"⟩
abbrev cL_apart : ByteArray := method_13_code
def yL_apart : MethodName := ⟨RL, "apart", "(II)I"⟩
abbrev cL_corrected : ByteArray := method_14_code
def yL_corrected : MethodName := ⟨RL, "corrected", "(I[I[I[I)I"⟩
abbrev cL_flag : ByteArray := method_15_code
def yL_flag : MethodName := ⟨RL, "flag", "(I[I[I[I)I"⟩
abbrev cL_map : ByteArray := method_16_code
def yL_map : MethodName := ⟨RL, "map", "(IIII[I[I[I[I[I[I)V"⟩
abbrev cL_calibrated : ByteArray := method_17_code
def yL_calibrated : MethodName := ⟨RL, "calibrated", "(I[I[I[I[I)I"⟩
abbrev cL_best : ByteArray := method_18_code
def yL_best : MethodName := ⟨RL, "best", "([I)I"⟩
abbrev cL_searches : ByteArray := method_19_code
def yL_searches : MethodName := ⟨RL, "searches", "(LGyreWatch;II[I[I)Z"⟩
abbrev cL_same : ByteArray := method_20_code
def yL_same : MethodName := ⟨RL, "same", "(LGyreWatch;I[I[I[I[I[I[I[I[I[I[I[I[I[I[I)Z"⟩
abbrev cL_tells : ByteArray := method_21_code
def yL_tells : MethodName := ⟨RL, "tells", "(LGyreWatch;II[I[I[I[I[I[I[I[I[I[I[I[I[I[I)Z"⟩
abbrev cL_law : ByteArray := code
def yL_law : MethodName := ⟨RL, "law", "([I)Z"⟩
end
section
theorem dX0_init_0 : decode cX0_init 0 = .ok (.aload_n 0, 1) := by decide +kernel
theorem dX0_init_1 : decode cX0_init 1 = .ok (.invokespecial 1, 3) := by decide +kernel
theorem dX0_init_4 : decode cX0_init 4 = .ok (.aload_n 0, 1) := by decide +kernel
theorem dX0_init_5 : decode cX0_init 5 = .ok (.iload_n 1, 1) := by decide +kernel
theorem dX0_init_6 : decode cX0_init 6 = .ok (.putfield 7, 3) := by decide +kernel
theorem dX0_init_9 : decode cX0_init 9 = .ok (.aload_n 0, 1) := by decide +kernel
theorem dX0_init_10 : decode cX0_init 10 = .ok (.iload_n 2, 1) := by decide +kernel
theorem dX0_init_11 : decode cX0_init 11 = .ok (.putfield 13, 3) := by decide +kernel
theorem dX0_init_14 : decode cX0_init 14 = .ok (.aload_n 0, 1) := by decide +kernel
theorem dX0_init_15 : decode cX0_init 15 = .ok (.iload_n 3, 1) := by decide +kernel
theorem dX0_init_16 : decode cX0_init 16 = .ok (.putfield 16, 3) := by decide +kernel
theorem dX0_init_19 : decode cX0_init 19 = .ok (.aload_n 0, 1) := by decide +kernel
theorem dX0_init_20 : decode cX0_init 20 = .ok (.iload_n 3, 1) := by decide +kernel
theorem dX0_init_21 : decode cX0_init 21 = .ok (.putfield 19, 3) := by decide +kernel
theorem dX0_init_24 : decode cX0_init 24 = .ok (.aload_n 0, 1) := by decide +kernel
theorem dX0_init_25 : decode cX0_init 25 = .ok (.iload 4, 2) := by decide +kernel
theorem dX0_init_27 : decode cX0_init 27 = .ok (.putfield 22, 3) := by decide +kernel
theorem dX0_init_30 : decode cX0_init 30 = .ok (.aload_n 0, 1) := by decide +kernel
theorem dX0_init_31 : decode cX0_init 31 = .ok (.iload 5, 2) := by decide +kernel
theorem dX0_init_33 : decode cX0_init 33 = .ok (.putfield 25, 3) := by decide +kernel
theorem dX0_init_36 : decode cX0_init 36 = .ok (.return_, 1) := by decide +kernel
theorem dX1_init_0 : decode cX1_init 0 = .ok (.aload_n 0, 1) := by decide +kernel
theorem dX1_init_1 : decode cX1_init 1 = .ok (.invokespecial 3, 3) := by decide +kernel
theorem dX1_init_4 : decode cX1_init 4 = .ok (.aload_n 0, 1) := by decide +kernel
theorem dX1_init_5 : decode cX1_init 5 = .ok (.bipush 60, 2) := by decide +kernel
theorem dX1_init_7 : decode cX1_init 7 = .ok (.newarray .int, 2) := by decide +kernel
theorem dX1_init_9 : decode cX1_init 9 = .ok (.putfield 9, 3) := by decide +kernel
theorem dX1_init_12 : decode cX1_init 12 = .ok (.aload_n 0, 1) := by decide +kernel
theorem dX1_init_13 : decode cX1_init 13 = .ok (.bipush 60, 2) := by decide +kernel
theorem dX1_init_15 : decode cX1_init 15 = .ok (.newarray .int, 2) := by decide +kernel
theorem dX1_init_17 : decode cX1_init 17 = .ok (.putfield 15, 3) := by decide +kernel
theorem dX1_init_20 : decode cX1_init 20 = .ok (.aload_n 0, 1) := by decide +kernel
theorem dX1_init_21 : decode cX1_init 21 = .ok (.getfield 9, 3) := by decide +kernel
theorem dX1_init_24 : decode cX1_init 24 = .ok (.iload_n 1, 1) := by decide +kernel
theorem dX1_init_25 : decode cX1_init 25 = .ok (.invokestatic 18, 3) := by decide +kernel
theorem dX1_init_28 : decode cX1_init 28 = .ok (.aload_n 0, 1) := by decide +kernel
theorem dX1_init_29 : decode cX1_init 29 = .ok (.getfield 15, 3) := by decide +kernel
theorem dX1_init_32 : decode cX1_init 32 = .ok (.iload_n 2, 1) := by decide +kernel
theorem dX1_init_33 : decode cX1_init 33 = .ok (.invokestatic 18, 3) := by decide +kernel
theorem dX1_init_36 : decode cX1_init 36 = .ok (.return_, 1) := by decide +kernel
theorem dX1_weightAt_0 : decode cX1_weightAt 0 = .ok (.iload_n 1, 1) := by decide +kernel
theorem dX1_weightAt_1 : decode cX1_weightAt 1 = .ok (.invokestatic 24, 3) := by decide +kernel
theorem dX1_weightAt_4 : decode cX1_weightAt 4 = .ok (.ifCond .eq 21, 3) := by decide +kernel
theorem dX1_weightAt_7 : decode cX1_weightAt 7 = .ok (.iconst 5, 1) := by decide +kernel
theorem dX1_weightAt_8 : decode cX1_weightAt 8 = .ok (.aload_n 0, 1) := by decide +kernel
theorem dX1_weightAt_9 : decode cX1_weightAt 9 = .ok (.getfield 15, 3) := by decide +kernel
theorem dX1_weightAt_12 : decode cX1_weightAt 12 = .ok (.iload_n 1, 1) := by decide +kernel
theorem dX1_weightAt_13 : decode cX1_weightAt 13 = .ok (.iaload, 1) := by decide +kernel
theorem dX1_weightAt_14 : decode cX1_weightAt 14 = .ok (.imul, 1) := by decide +kernel
theorem dX1_weightAt_15 : decode cX1_weightAt 15 = .ok (.aload_n 0, 1) := by decide +kernel
theorem dX1_weightAt_16 : decode cX1_weightAt 16 = .ok (.getfield 9, 3) := by decide +kernel
theorem dX1_weightAt_19 : decode cX1_weightAt 19 = .ok (.iload_n 1, 1) := by decide +kernel
theorem dX1_weightAt_20 : decode cX1_weightAt 20 = .ok (.iaload, 1) := by decide +kernel
theorem dX1_weightAt_21 : decode cX1_weightAt 21 = .ok (.isub, 1) := by decide +kernel
theorem dX1_weightAt_22 : decode cX1_weightAt 22 = .ok (.goto 4, 3) := by decide +kernel
theorem dX1_weightAt_25 : decode cX1_weightAt 25 = .ok (.iconst 0, 1) := by decide +kernel
theorem dX1_weightAt_26 : decode cX1_weightAt 26 = .ok (.ireturn, 1) := by decide +kernel
theorem dX1_emptyAt_0 : decode cX1_emptyAt 0 = .ok (.iload_n 1, 1) := by decide +kernel
theorem dX1_emptyAt_1 : decode cX1_emptyAt 1 = .ok (.invokestatic 24, 3) := by decide +kernel
theorem dX1_emptyAt_4 : decode cX1_emptyAt 4 = .ok (.ifCond .eq 17, 3) := by decide +kernel
theorem dX1_emptyAt_7 : decode cX1_emptyAt 7 = .ok (.aload_n 0, 1) := by decide +kernel
theorem dX1_emptyAt_8 : decode cX1_emptyAt 8 = .ok (.getfield 9, 3) := by decide +kernel
theorem dX1_emptyAt_11 : decode cX1_emptyAt 11 = .ok (.iload_n 1, 1) := by decide +kernel
theorem dX1_emptyAt_12 : decode cX1_emptyAt 12 = .ok (.iconst 0, 1) := by decide +kernel
theorem dX1_emptyAt_13 : decode cX1_emptyAt 13 = .ok (.iastore, 1) := by decide +kernel
theorem dX1_emptyAt_14 : decode cX1_emptyAt 14 = .ok (.aload_n 0, 1) := by decide +kernel
theorem dX1_emptyAt_15 : decode cX1_emptyAt 15 = .ok (.getfield 15, 3) := by decide +kernel
theorem dX1_emptyAt_18 : decode cX1_emptyAt 18 = .ok (.iload_n 1, 1) := by decide +kernel
theorem dX1_emptyAt_19 : decode cX1_emptyAt 19 = .ok (.iconst 0, 1) := by decide +kernel
theorem dX1_emptyAt_20 : decode cX1_emptyAt 20 = .ok (.iastore, 1) := by decide +kernel
theorem dX1_emptyAt_21 : decode cX1_emptyAt 21 = .ok (.return_, 1) := by decide +kernel
theorem dX2_init_0 : decode cX2_init 0 = .ok (.aload_n 0, 1) := by decide +kernel
theorem dX2_init_1 : decode cX2_init 1 = .ok (.invokespecial 3, 3) := by decide +kernel
theorem dX2_init_4 : decode cX2_init 4 = .ok (.aload_n 0, 1) := by decide +kernel
theorem dX2_init_5 : decode cX2_init 5 = .ok (.bipush 100, 2) := by decide +kernel
theorem dX2_init_7 : decode cX2_init 7 = .ok (.anewarray 9, 3) := by decide +kernel
theorem dX2_init_10 : decode cX2_init 10 = .ok (.putfield 11, 3) := by decide +kernel
theorem dX2_init_13 : decode cX2_init 13 = .ok (.aload_n 0, 1) := by decide +kernel
theorem dX2_init_14 : decode cX2_init 14 = .ok (.bipush 100, 2) := by decide +kernel
theorem dX2_init_16 : decode cX2_init 16 = .ok (.putfield 17, 3) := by decide +kernel
theorem dX2_init_19 : decode cX2_init 19 = .ok (.return_, 1) := by decide +kernel
theorem dX2_keep_0 : decode cX2_keep 0 = .ok (.aload_n 0, 1) := by decide +kernel
theorem dX2_keep_1 : decode cX2_keep 1 = .ok (.getfield 21, 3) := by decide +kernel
theorem dX2_keep_4 : decode cX2_keep 4 = .ok (.aload_n 0, 1) := by decide +kernel
theorem dX2_keep_5 : decode cX2_keep 5 = .ok (.getfield 11, 3) := by decide +kernel
theorem dX2_keep_8 : decode cX2_keep 8 = .ok (.arraylength, 1) := by decide +kernel
theorem dX2_keep_9 : decode cX2_keep 9 = .ok (.invokestatic 24, 3) := by decide +kernel
theorem dX2_keep_12 : decode cX2_keep 12 = .ok (.ifCond .ne 4, 3) := by decide +kernel
theorem dX2_keep_15 : decode cX2_keep 15 = .ok (.return_, 1) := by decide +kernel
theorem dX2_keep_16 : decode cX2_keep 16 = .ok (.new 9, 3) := by decide +kernel
theorem dX2_keep_19 : decode cX2_keep 19 = .ok (.dup, 1) := by decide +kernel
theorem dX2_keep_20 : decode cX2_keep 20 = .ok (.iload_n 1, 1) := by decide +kernel
theorem dX2_keep_21 : decode cX2_keep 21 = .ok (.iload_n 2, 1) := by decide +kernel
theorem dX2_keep_22 : decode cX2_keep 22 = .ok (.iload_n 3, 1) := by decide +kernel
theorem dX2_keep_23 : decode cX2_keep 23 = .ok (.aload 4, 2) := by decide +kernel
theorem dX2_keep_25 : decode cX2_keep 25 = .ok (.invokespecial 28, 3) := by decide +kernel
theorem dX2_keep_28 : decode cX2_keep 28 = .ok (.astore 5, 2) := by decide +kernel
theorem dX2_keep_30 : decode cX2_keep 30 = .ok (.aload_n 0, 1) := by decide +kernel
theorem dX2_keep_31 : decode cX2_keep 31 = .ok (.getfield 11, 3) := by decide +kernel
theorem dX2_keep_34 : decode cX2_keep 34 = .ok (.aload_n 0, 1) := by decide +kernel
theorem dX2_keep_35 : decode cX2_keep 35 = .ok (.getfield 21, 3) := by decide +kernel
theorem dX2_keep_38 : decode cX2_keep 38 = .ok (.aload 5, 2) := by decide +kernel
theorem dX2_keep_40 : decode cX2_keep 40 = .ok (.aastore, 1) := by decide +kernel
theorem dX2_keep_41 : decode cX2_keep 41 = .ok (.aload_n 0, 1) := by decide +kernel
theorem dX2_keep_42 : decode cX2_keep 42 = .ok (.dup, 1) := by decide +kernel
theorem dX2_keep_43 : decode cX2_keep 43 = .ok (.getfield 21, 3) := by decide +kernel
theorem dX2_keep_46 : decode cX2_keep 46 = .ok (.iconst 1, 1) := by decide +kernel
theorem dX2_keep_47 : decode cX2_keep 47 = .ok (.iadd, 1) := by decide +kernel
theorem dX2_keep_48 : decode cX2_keep 48 = .ok (.putfield 21, 3) := by decide +kernel
theorem dX2_keep_51 : decode cX2_keep 51 = .ok (.aload 4, 2) := by decide +kernel
theorem dX2_keep_53 : decode cX2_keep 53 = .ok (.ifnull 10, 3) := by decide +kernel
theorem dX2_keep_56 : decode cX2_keep 56 = .ok (.aload 5, 2) := by decide +kernel
theorem dX2_keep_58 : decode cX2_keep 58 = .ok (.aload 4, 2) := by decide +kernel
theorem dX2_keep_60 : decode cX2_keep 60 = .ok (.invokestatic 31, 3) := by decide +kernel
theorem dX2_keep_63 : decode cX2_keep 63 = .ok (.return_, 1) := by decide +kernel
theorem dX2_chain_0 : decode cX2_chain 0 = .ok (.aload_n 0, 1) := by decide +kernel
theorem dX2_chain_1 : decode cX2_chain 1 = .ok (.aload_n 1, 1) := by decide +kernel
theorem dX2_chain_2 : decode cX2_chain 2 = .ok (.getfield 35, 3) := by decide +kernel
theorem dX2_chain_5 : decode cX2_chain 5 = .ok (.putfield 41, 3) := by decide +kernel
theorem dX2_chain_8 : decode cX2_chain 8 = .ok (.aload_n 1, 1) := by decide +kernel
theorem dX2_chain_9 : decode cX2_chain 9 = .ok (.getfield 35, 3) := by decide +kernel
theorem dX2_chain_12 : decode cX2_chain 12 = .ok (.ifnull 11, 3) := by decide +kernel
theorem dX2_chain_15 : decode cX2_chain 15 = .ok (.aload_n 1, 1) := by decide +kernel
theorem dX2_chain_16 : decode cX2_chain 16 = .ok (.getfield 35, 3) := by decide +kernel
theorem dX2_chain_19 : decode cX2_chain 19 = .ok (.aload_n 0, 1) := by decide +kernel
theorem dX2_chain_20 : decode cX2_chain 20 = .ok (.putfield 44, 3) := by decide +kernel
theorem dX2_chain_23 : decode cX2_chain 23 = .ok (.aload_n 1, 1) := by decide +kernel
theorem dX2_chain_24 : decode cX2_chain 24 = .ok (.aload_n 0, 1) := by decide +kernel
theorem dX2_chain_25 : decode cX2_chain 25 = .ok (.putfield 35, 3) := by decide +kernel
theorem dX2_chain_28 : decode cX2_chain 28 = .ok (.aload_n 1, 1) := by decide +kernel
theorem dX2_chain_29 : decode cX2_chain 29 = .ok (.dup, 1) := by decide +kernel
theorem dX2_chain_30 : decode cX2_chain 30 = .ok (.getfield 47, 3) := by decide +kernel
theorem dX2_chain_33 : decode cX2_chain 33 = .ok (.iconst 1, 1) := by decide +kernel
theorem dX2_chain_34 : decode cX2_chain 34 = .ok (.iadd, 1) := by decide +kernel
theorem dX2_chain_35 : decode cX2_chain 35 = .ok (.putfield 47, 3) := by decide +kernel
theorem dX2_chain_38 : decode cX2_chain 38 = .ok (.return_, 1) := by decide +kernel
theorem dX2_nearestOfShip_0 : decode cX2_nearestOfShip 0 = .ok (.aconst_null, 1) := by decide +kernel
theorem dX2_nearestOfShip_1 : decode cX2_nearestOfShip 1 = .ok (.astore_n 2, 1) := by decide +kernel
theorem dX2_nearestOfShip_2 : decode cX2_nearestOfShip 2 = .ok (.iconst 3, 1) := by decide +kernel
theorem dX2_nearestOfShip_3 : decode cX2_nearestOfShip 3 = .ok (.istore_n 3, 1) := by decide +kernel
theorem dX2_nearestOfShip_4 : decode cX2_nearestOfShip 4 = .ok (.aload_n 0, 1) := by decide +kernel
theorem dX2_nearestOfShip_5 : decode cX2_nearestOfShip 5 = .ok (.getfield 11, 3) := by decide +kernel
theorem dX2_nearestOfShip_8 : decode cX2_nearestOfShip 8 = .ok (.astore 4, 2) := by decide +kernel
theorem dX2_nearestOfShip_10 : decode cX2_nearestOfShip 10 = .ok (.aload 4, 2) := by decide +kernel
theorem dX2_nearestOfShip_12 : decode cX2_nearestOfShip 12 = .ok (.arraylength, 1) := by decide +kernel
theorem dX2_nearestOfShip_13 : decode cX2_nearestOfShip 13 = .ok (.istore 5, 2) := by decide +kernel
theorem dX2_nearestOfShip_15 : decode cX2_nearestOfShip 15 = .ok (.iconst 0, 1) := by decide +kernel
theorem dX2_nearestOfShip_16 : decode cX2_nearestOfShip 16 = .ok (.istore 6, 2) := by decide +kernel
theorem dX2_nearestOfShip_18 : decode cX2_nearestOfShip 18 = .ok (.iload 6, 2) := by decide +kernel
theorem dX2_nearestOfShip_20 : decode cX2_nearestOfShip 20 = .ok (.iload 5, 2) := by decide +kernel
theorem dX2_nearestOfShip_22 : decode cX2_nearestOfShip 22 = .ok (.if_icmp .ge 67, 3) := by decide +kernel
theorem dX2_nearestOfShip_25 : decode cX2_nearestOfShip 25 = .ok (.aload 4, 2) := by decide +kernel
theorem dX2_nearestOfShip_27 : decode cX2_nearestOfShip 27 = .ok (.iload 6, 2) := by decide +kernel
theorem dX2_nearestOfShip_29 : decode cX2_nearestOfShip 29 = .ok (.aaload, 1) := by decide +kernel
theorem dX2_nearestOfShip_30 : decode cX2_nearestOfShip 30 = .ok (.astore 7, 2) := by decide +kernel
theorem dX2_nearestOfShip_32 : decode cX2_nearestOfShip 32 = .ok (.aload 7, 2) := by decide +kernel
theorem dX2_nearestOfShip_34 : decode cX2_nearestOfShip 34 = .ok (.ifnull 49, 3) := by decide +kernel
theorem dX2_nearestOfShip_37 : decode cX2_nearestOfShip 37 = .ok (.aload 7, 2) := by decide +kernel
theorem dX2_nearestOfShip_39 : decode cX2_nearestOfShip 39 = .ok (.getfield 50, 3) := by decide +kernel
theorem dX2_nearestOfShip_42 : decode cX2_nearestOfShip 42 = .ok (.ifnonnull 41, 3) := by decide +kernel
theorem dX2_nearestOfShip_45 : decode cX2_nearestOfShip 45 = .ok (.aload 7, 2) := by decide +kernel
theorem dX2_nearestOfShip_47 : decode cX2_nearestOfShip 47 = .ok (.getfield 54, 3) := by decide +kernel
theorem dX2_nearestOfShip_50 : decode cX2_nearestOfShip 50 = .ok (.aload_n 1, 1) := by decide +kernel
theorem dX2_nearestOfShip_51 : decode cX2_nearestOfShip 51 = .ok (.getfield 54, 3) := by decide +kernel
theorem dX2_nearestOfShip_54 : decode cX2_nearestOfShip 54 = .ok (.if_icmp .ne 29, 3) := by decide +kernel
theorem dX2_nearestOfShip_57 : decode cX2_nearestOfShip 57 = .ok (.aload 7, 2) := by decide +kernel
theorem dX2_nearestOfShip_59 : decode cX2_nearestOfShip 59 = .ok (.aload_n 1, 1) := by decide +kernel
theorem dX2_nearestOfShip_60 : decode cX2_nearestOfShip 60 = .ok (.getfield 57, 3) := by decide +kernel
theorem dX2_nearestOfShip_63 : decode cX2_nearestOfShip 63 = .ok (.invokevirtual 60, 3) := by decide +kernel
theorem dX2_nearestOfShip_66 : decode cX2_nearestOfShip 66 = .ok (.iload_n 3, 1) := by decide +kernel
theorem dX2_nearestOfShip_67 : decode cX2_nearestOfShip 67 = .ok (.if_icmp .ge 16, 3) := by decide +kernel
theorem dX2_nearestOfShip_70 : decode cX2_nearestOfShip 70 = .ok (.aload 7, 2) := by decide +kernel
theorem dX2_nearestOfShip_72 : decode cX2_nearestOfShip 72 = .ok (.astore_n 2, 1) := by decide +kernel
theorem dX2_nearestOfShip_73 : decode cX2_nearestOfShip 73 = .ok (.aload 7, 2) := by decide +kernel
theorem dX2_nearestOfShip_75 : decode cX2_nearestOfShip 75 = .ok (.aload_n 1, 1) := by decide +kernel
theorem dX2_nearestOfShip_76 : decode cX2_nearestOfShip 76 = .ok (.getfield 57, 3) := by decide +kernel
theorem dX2_nearestOfShip_79 : decode cX2_nearestOfShip 79 = .ok (.invokevirtual 60, 3) := by decide +kernel
theorem dX2_nearestOfShip_82 : decode cX2_nearestOfShip 82 = .ok (.istore_n 3, 1) := by decide +kernel
theorem dX2_nearestOfShip_83 : decode cX2_nearestOfShip 83 = .ok (.iinc 6 1, 3) := by decide +kernel
theorem dX2_nearestOfShip_86 : decode cX2_nearestOfShip 86 = .ok (.goto (-68), 3) := by decide +kernel
theorem dX2_nearestOfShip_89 : decode cX2_nearestOfShip 89 = .ok (.aload_n 2, 1) := by decide +kernel
theorem dX2_nearestOfShip_90 : decode cX2_nearestOfShip 90 = .ok (.areturn, 1) := by decide +kernel
theorem dX2_weightsWithout_0 : decode cX2_weightsWithout 0 = .ok (.iconst 0, 1) := by decide +kernel
theorem dX2_weightsWithout_1 : decode cX2_weightsWithout 1 = .ok (.istore 5, 2) := by decide +kernel
theorem dX2_weightsWithout_3 : decode cX2_weightsWithout 3 = .ok (.aload_n 0, 1) := by decide +kernel
theorem dX2_weightsWithout_4 : decode cX2_weightsWithout 4 = .ok (.getfield 11, 3) := by decide +kernel
theorem dX2_weightsWithout_7 : decode cX2_weightsWithout 7 = .ok (.astore 6, 2) := by decide +kernel
theorem dX2_weightsWithout_9 : decode cX2_weightsWithout 9 = .ok (.aload 6, 2) := by decide +kernel
theorem dX2_weightsWithout_11 : decode cX2_weightsWithout 11 = .ok (.arraylength, 1) := by decide +kernel
theorem dX2_weightsWithout_12 : decode cX2_weightsWithout 12 = .ok (.istore 7, 2) := by decide +kernel
theorem dX2_weightsWithout_14 : decode cX2_weightsWithout 14 = .ok (.iconst 0, 1) := by decide +kernel
theorem dX2_weightsWithout_15 : decode cX2_weightsWithout 15 = .ok (.istore 8, 2) := by decide +kernel
theorem dX2_weightsWithout_17 : decode cX2_weightsWithout 17 = .ok (.iload 8, 2) := by decide +kernel
theorem dX2_weightsWithout_19 : decode cX2_weightsWithout 19 = .ok (.iload 7, 2) := by decide +kernel
theorem dX2_weightsWithout_21 : decode cX2_weightsWithout 21 = .ok (.if_icmp .ge 45, 3) := by decide +kernel
theorem dX2_weightsWithout_24 : decode cX2_weightsWithout 24 = .ok (.aload 6, 2) := by decide +kernel
theorem dX2_weightsWithout_26 : decode cX2_weightsWithout 26 = .ok (.iload 8, 2) := by decide +kernel
theorem dX2_weightsWithout_28 : decode cX2_weightsWithout 28 = .ok (.aaload, 1) := by decide +kernel
theorem dX2_weightsWithout_29 : decode cX2_weightsWithout 29 = .ok (.astore 9, 2) := by decide +kernel
theorem dX2_weightsWithout_31 : decode cX2_weightsWithout 31 = .ok (.aload 9, 2) := by decide +kernel
theorem dX2_weightsWithout_33 : decode cX2_weightsWithout 33 = .ok (.aload_n 1, 1) := by decide +kernel
theorem dX2_weightsWithout_34 : decode cX2_weightsWithout 34 = .ok (.if_acmp .eq 26, 3) := by decide +kernel
theorem dX2_weightsWithout_37 : decode cX2_weightsWithout 37 = .ok (.aload_n 0, 1) := by decide +kernel
theorem dX2_weightsWithout_38 : decode cX2_weightsWithout 38 = .ok (.aload 9, 2) := by decide +kernel
theorem dX2_weightsWithout_40 : decode cX2_weightsWithout 40 = .ok (.iload_n 3, 1) := by decide +kernel
theorem dX2_weightsWithout_41 : decode cX2_weightsWithout 41 = .ok (.iload 4, 2) := by decide +kernel
theorem dX2_weightsWithout_43 : decode cX2_weightsWithout 43 = .ok (.invokevirtual 64, 3) := by decide +kernel
theorem dX2_weightsWithout_46 : decode cX2_weightsWithout 46 = .ok (.ifCond .eq 14, 3) := by decide +kernel
theorem dX2_weightsWithout_49 : decode cX2_weightsWithout 49 = .ok (.iload 5, 2) := by decide +kernel
theorem dX2_weightsWithout_51 : decode cX2_weightsWithout 51 = .ok (.aload 9, 2) := by decide +kernel
theorem dX2_weightsWithout_53 : decode cX2_weightsWithout 53 = .ok (.iload_n 2, 1) := by decide +kernel
theorem dX2_weightsWithout_54 : decode cX2_weightsWithout 54 = .ok (.invokevirtual 68, 3) := by decide +kernel
theorem dX2_weightsWithout_57 : decode cX2_weightsWithout 57 = .ok (.iadd, 1) := by decide +kernel
theorem dX2_weightsWithout_58 : decode cX2_weightsWithout 58 = .ok (.istore 5, 2) := by decide +kernel
theorem dX2_weightsWithout_60 : decode cX2_weightsWithout 60 = .ok (.iinc 8 1, 3) := by decide +kernel
theorem dX2_weightsWithout_63 : decode cX2_weightsWithout 63 = .ok (.goto (-46), 3) := by decide +kernel
theorem dX2_weightsWithout_66 : decode cX2_weightsWithout 66 = .ok (.iload 5, 2) := by decide +kernel
theorem dX2_weightsWithout_68 : decode cX2_weightsWithout 68 = .ok (.ireturn, 1) := by decide +kernel
theorem dX2_weighedValuesWithout_0 : decode cX2_weighedValuesWithout 0 = .ok (.lconst 0, 1) := by decide +kernel
theorem dX2_weighedValuesWithout_1 : decode cX2_weighedValuesWithout 1 = .ok (.lstore 5, 2) := by decide +kernel
theorem dX2_weighedValuesWithout_3 : decode cX2_weighedValuesWithout 3 = .ok (.aload_n 0, 1) := by decide +kernel
theorem dX2_weighedValuesWithout_4 : decode cX2_weighedValuesWithout 4 = .ok (.getfield 11, 3) := by decide +kernel
theorem dX2_weighedValuesWithout_7 : decode cX2_weighedValuesWithout 7 = .ok (.astore 7, 2) := by decide +kernel
theorem dX2_weighedValuesWithout_9 : decode cX2_weighedValuesWithout 9 = .ok (.aload 7, 2) := by decide +kernel
theorem dX2_weighedValuesWithout_11 : decode cX2_weighedValuesWithout 11 = .ok (.arraylength, 1) := by decide +kernel
theorem dX2_weighedValuesWithout_12 : decode cX2_weighedValuesWithout 12 = .ok (.istore 8, 2) := by decide +kernel
theorem dX2_weighedValuesWithout_14 : decode cX2_weighedValuesWithout 14 = .ok (.iconst 0, 1) := by decide +kernel
theorem dX2_weighedValuesWithout_15 : decode cX2_weighedValuesWithout 15 = .ok (.istore 9, 2) := by decide +kernel
theorem dX2_weighedValuesWithout_17 : decode cX2_weighedValuesWithout 17 = .ok (.iload 9, 2) := by decide +kernel
theorem dX2_weighedValuesWithout_19 : decode cX2_weighedValuesWithout 19 = .ok (.iload 8, 2) := by decide +kernel
theorem dX2_weighedValuesWithout_21 : decode cX2_weighedValuesWithout 21 = .ok (.if_icmp .ge 53, 3) := by decide +kernel
theorem dX2_weighedValuesWithout_24 : decode cX2_weighedValuesWithout 24 = .ok (.aload 7, 2) := by decide +kernel
theorem dX2_weighedValuesWithout_26 : decode cX2_weighedValuesWithout 26 = .ok (.iload 9, 2) := by decide +kernel
theorem dX2_weighedValuesWithout_28 : decode cX2_weighedValuesWithout 28 = .ok (.aaload, 1) := by decide +kernel
theorem dX2_weighedValuesWithout_29 : decode cX2_weighedValuesWithout 29 = .ok (.astore 10, 2) := by decide +kernel
theorem dX2_weighedValuesWithout_31 : decode cX2_weighedValuesWithout 31 = .ok (.aload 10, 2) := by decide +kernel
theorem dX2_weighedValuesWithout_33 : decode cX2_weighedValuesWithout 33 = .ok (.aload_n 1, 1) := by decide +kernel
theorem dX2_weighedValuesWithout_34 : decode cX2_weighedValuesWithout 34 = .ok (.if_acmp .eq 34, 3) := by decide +kernel
theorem dX2_weighedValuesWithout_37 : decode cX2_weighedValuesWithout 37 = .ok (.aload_n 0, 1) := by decide +kernel
theorem dX2_weighedValuesWithout_38 : decode cX2_weighedValuesWithout 38 = .ok (.aload 10, 2) := by decide +kernel
theorem dX2_weighedValuesWithout_40 : decode cX2_weighedValuesWithout 40 = .ok (.iload_n 3, 1) := by decide +kernel
theorem dX2_weighedValuesWithout_41 : decode cX2_weighedValuesWithout 41 = .ok (.iload 4, 2) := by decide +kernel
theorem dX2_weighedValuesWithout_43 : decode cX2_weighedValuesWithout 43 = .ok (.invokevirtual 64, 3) := by decide +kernel
theorem dX2_weighedValuesWithout_46 : decode cX2_weighedValuesWithout 46 = .ok (.ifCond .eq 22, 3) := by decide +kernel
theorem dX2_weighedValuesWithout_49 : decode cX2_weighedValuesWithout 49 = .ok (.lload 5, 2) := by decide +kernel
theorem dX2_weighedValuesWithout_51 : decode cX2_weighedValuesWithout 51 = .ok (.aload 10, 2) := by decide +kernel
theorem dX2_weighedValuesWithout_53 : decode cX2_weighedValuesWithout 53 = .ok (.invokevirtual 71, 3) := by decide +kernel
theorem dX2_weighedValuesWithout_56 : decode cX2_weighedValuesWithout 56 = .ok (.i2l, 1) := by decide +kernel
theorem dX2_weighedValuesWithout_57 : decode cX2_weighedValuesWithout 57 = .ok (.aload 10, 2) := by decide +kernel
theorem dX2_weighedValuesWithout_59 : decode cX2_weighedValuesWithout 59 = .ok (.iload_n 2, 1) := by decide +kernel
theorem dX2_weighedValuesWithout_60 : decode cX2_weighedValuesWithout 60 = .ok (.invokevirtual 68, 3) := by decide +kernel
theorem dX2_weighedValuesWithout_63 : decode cX2_weighedValuesWithout 63 = .ok (.i2l, 1) := by decide +kernel
theorem dX2_weighedValuesWithout_64 : decode cX2_weighedValuesWithout 64 = .ok (.lmul, 1) := by decide +kernel
theorem dX2_weighedValuesWithout_65 : decode cX2_weighedValuesWithout 65 = .ok (.ladd, 1) := by decide +kernel
theorem dX2_weighedValuesWithout_66 : decode cX2_weighedValuesWithout 66 = .ok (.lstore 5, 2) := by decide +kernel
theorem dX2_weighedValuesWithout_68 : decode cX2_weighedValuesWithout 68 = .ok (.iinc 9 1, 3) := by decide +kernel
theorem dX2_weighedValuesWithout_71 : decode cX2_weighedValuesWithout 71 = .ok (.goto (-54), 3) := by decide +kernel
theorem dX2_weighedValuesWithout_74 : decode cX2_weighedValuesWithout 74 = .ok (.lload 5, 2) := by decide +kernel
theorem dX2_weighedValuesWithout_76 : decode cX2_weighedValuesWithout 76 = .ok (.lreturn, 1) := by decide +kernel
theorem dX2_isInSpan_0 : decode cX2_isInSpan 0 = .ok (.aload_n 1, 1) := by decide +kernel
theorem dX2_isInSpan_1 : decode cX2_isInSpan 1 = .ok (.ifnull 27, 3) := by decide +kernel
theorem dX2_isInSpan_4 : decode cX2_isInSpan 4 = .ok (.aload_n 1, 1) := by decide +kernel
theorem dX2_isInSpan_5 : decode cX2_isInSpan 5 = .ok (.iload_n 2, 1) := by decide +kernel
theorem dX2_isInSpan_6 : decode cX2_isInSpan 6 = .ok (.invokevirtual 60, 3) := by decide +kernel
theorem dX2_isInSpan_9 : decode cX2_isInSpan 9 = .ok (.iload_n 3, 1) := by decide +kernel
theorem dX2_isInSpan_10 : decode cX2_isInSpan 10 = .ok (.if_icmp .gt 18, 3) := by decide +kernel
theorem dX2_isInSpan_13 : decode cX2_isInSpan 13 = .ok (.aload_n 1, 1) := by decide +kernel
theorem dX2_isInSpan_14 : decode cX2_isInSpan 14 = .ok (.aload_n 0, 1) := by decide +kernel
theorem dX2_isInSpan_15 : decode cX2_isInSpan 15 = .ok (.getfield 17, 3) := by decide +kernel
theorem dX2_isInSpan_18 : decode cX2_isInSpan 18 = .ok (.invokevirtual 75, 3) := by decide +kernel
theorem dX2_isInSpan_21 : decode cX2_isInSpan 21 = .ok (.ifCond .ne 7, 3) := by decide +kernel
theorem dX2_isInSpan_24 : decode cX2_isInSpan 24 = .ok (.iconst 1, 1) := by decide +kernel
theorem dX2_isInSpan_25 : decode cX2_isInSpan 25 = .ok (.goto 4, 3) := by decide +kernel
theorem dX2_isInSpan_28 : decode cX2_isInSpan 28 = .ok (.iconst 0, 1) := by decide +kernel
theorem dX2_isInSpan_29 : decode cX2_isInSpan 29 = .ok (.ireturn, 1) := by decide +kernel
theorem dX4_init_0 : decode cX4_init 0 = .ok (.aload_n 0, 1) := by decide +kernel
theorem dX4_init_1 : decode cX4_init 1 = .ok (.invokespecial 3, 3) := by decide +kernel
theorem dX4_init_4 : decode cX4_init 4 = .ok (.aload_n 0, 1) := by decide +kernel
theorem dX4_init_5 : decode cX4_init 5 = .ok (.iconst (-1), 1) := by decide +kernel
theorem dX4_init_6 : decode cX4_init 6 = .ok (.putfield 9, 3) := by decide +kernel
theorem dX4_init_9 : decode cX4_init 9 = .ok (.aload_n 0, 1) := by decide +kernel
theorem dX4_init_10 : decode cX4_init 10 = .ok (.iload_n 1, 1) := by decide +kernel
theorem dX4_init_11 : decode cX4_init 11 = .ok (.putfield 15, 3) := by decide +kernel
theorem dX4_init_14 : decode cX4_init 14 = .ok (.aload_n 0, 1) := by decide +kernel
theorem dX4_init_15 : decode cX4_init 15 = .ok (.iload_n 2, 1) := by decide +kernel
theorem dX4_init_16 : decode cX4_init 16 = .ok (.putfield 18, 3) := by decide +kernel
theorem dX4_init_19 : decode cX4_init 19 = .ok (.aload_n 0, 1) := by decide +kernel
theorem dX4_init_20 : decode cX4_init 20 = .ok (.iload_n 3, 1) := by decide +kernel
theorem dX4_init_21 : decode cX4_init 21 = .ok (.putfield 21, 3) := by decide +kernel
theorem dX4_init_24 : decode cX4_init 24 = .ok (.aload_n 0, 1) := by decide +kernel
theorem dX4_init_25 : decode cX4_init 25 = .ok (.aload 4, 2) := by decide +kernel
theorem dX4_init_27 : decode cX4_init 27 = .ok (.putfield 24, 3) := by decide +kernel
theorem dX4_init_30 : decode cX4_init 30 = .ok (.return_, 1) := by decide +kernel
theorem dX4_corrected_0 : decode cX4_corrected 0 = .ok (.aload_n 0, 1) := by decide +kernel
theorem dX4_corrected_1 : decode cX4_corrected 1 = .ok (.getfield 24, 3) := by decide +kernel
theorem dX4_corrected_4 : decode cX4_corrected 4 = .ok (.ifnonnull 10, 3) := by decide +kernel
theorem dX4_corrected_7 : decode cX4_corrected 7 = .ok (.aload_n 0, 1) := by decide +kernel
theorem dX4_corrected_8 : decode cX4_corrected 8 = .ok (.getfield 21, 3) := by decide +kernel
theorem dX4_corrected_11 : decode cX4_corrected 11 = .ok (.goto 15, 3) := by decide +kernel
theorem dX4_corrected_14 : decode cX4_corrected 14 = .ok (.aload_n 0, 1) := by decide +kernel
theorem dX4_corrected_15 : decode cX4_corrected 15 = .ok (.getfield 21, 3) := by decide +kernel
theorem dX4_corrected_18 : decode cX4_corrected 18 = .ok (.aload_n 0, 1) := by decide +kernel
theorem dX4_corrected_19 : decode cX4_corrected 19 = .ok (.getfield 24, 3) := by decide +kernel
theorem dX4_corrected_22 : decode cX4_corrected 22 = .ok (.getfield 28, 3) := by decide +kernel
theorem dX4_corrected_25 : decode cX4_corrected 25 = .ok (.isub, 1) := by decide +kernel
theorem dX4_corrected_26 : decode cX4_corrected 26 = .ok (.ireturn, 1) := by decide +kernel
theorem dX4_flagBy_0 : decode cX4_flagBy 0 = .ok (.aload_n 0, 1) := by decide +kernel
theorem dX4_flagBy_1 : decode cX4_flagBy 1 = .ok (.getfield 9, 3) := by decide +kernel
theorem dX4_flagBy_4 : decode cX4_flagBy 4 = .ok (.iconst (-1), 1) := by decide +kernel
theorem dX4_flagBy_5 : decode cX4_flagBy 5 = .ok (.if_icmp .eq 8, 3) := by decide +kernel
theorem dX4_flagBy_8 : decode cX4_flagBy 8 = .ok (.aload_n 0, 1) := by decide +kernel
theorem dX4_flagBy_9 : decode cX4_flagBy 9 = .ok (.getfield 9, 3) := by decide +kernel
theorem dX4_flagBy_12 : decode cX4_flagBy 12 = .ok (.ireturn, 1) := by decide +kernel
theorem dX4_flagBy_13 : decode cX4_flagBy 13 = .ok (.aload_n 0, 1) := by decide +kernel
theorem dX4_flagBy_14 : decode cX4_flagBy 14 = .ok (.iload_n 1, 1) := by decide +kernel
theorem dX4_flagBy_15 : decode cX4_flagBy 15 = .ok (.invokevirtual 33, 3) := by decide +kernel
theorem dX4_flagBy_18 : decode cX4_flagBy 18 = .ok (.ifCond .eq 7, 3) := by decide +kernel
theorem dX4_flagBy_21 : decode cX4_flagBy 21 = .ok (.iconst 1, 1) := by decide +kernel
theorem dX4_flagBy_22 : decode cX4_flagBy 22 = .ok (.goto 4, 3) := by decide +kernel
theorem dX4_flagBy_25 : decode cX4_flagBy 25 = .ok (.iconst 0, 1) := by decide +kernel
theorem dX4_flagBy_26 : decode cX4_flagBy 26 = .ok (.ireturn, 1) := by decide +kernel
theorem dX4_isSpike_0 : decode cX4_isSpike 0 = .ok (.aload_n 0, 1) := by decide +kernel
theorem dX4_isSpike_1 : decode cX4_isSpike 1 = .ok (.getfield 37, 3) := by decide +kernel
theorem dX4_isSpike_4 : decode cX4_isSpike 4 = .ok (.ifnull 10, 3) := by decide +kernel
theorem dX4_isSpike_7 : decode cX4_isSpike 7 = .ok (.aload_n 0, 1) := by decide +kernel
theorem dX4_isSpike_8 : decode cX4_isSpike 8 = .ok (.getfield 41, 3) := by decide +kernel
theorem dX4_isSpike_11 : decode cX4_isSpike 11 = .ok (.ifnonnull 5, 3) := by decide +kernel
theorem dX4_isSpike_14 : decode cX4_isSpike 14 = .ok (.iconst 0, 1) := by decide +kernel
theorem dX4_isSpike_15 : decode cX4_isSpike 15 = .ok (.ireturn, 1) := by decide +kernel
theorem dX4_isSpike_16 : decode cX4_isSpike 16 = .ok (.aload_n 0, 1) := by decide +kernel
theorem dX4_isSpike_17 : decode cX4_isSpike 17 = .ok (.invokevirtual 44, 3) := by decide +kernel
theorem dX4_isSpike_20 : decode cX4_isSpike 20 = .ok (.aload_n 0, 1) := by decide +kernel
theorem dX4_isSpike_21 : decode cX4_isSpike 21 = .ok (.getfield 37, 3) := by decide +kernel
theorem dX4_isSpike_24 : decode cX4_isSpike 24 = .ok (.invokevirtual 44, 3) := by decide +kernel
theorem dX4_isSpike_27 : decode cX4_isSpike 27 = .ok (.isub, 1) := by decide +kernel
theorem dX4_isSpike_28 : decode cX4_isSpike 28 = .ok (.istore_n 2, 1) := by decide +kernel
theorem dX4_isSpike_29 : decode cX4_isSpike 29 = .ok (.aload_n 0, 1) := by decide +kernel
theorem dX4_isSpike_30 : decode cX4_isSpike 30 = .ok (.invokevirtual 44, 3) := by decide +kernel
theorem dX4_isSpike_33 : decode cX4_isSpike 33 = .ok (.aload_n 0, 1) := by decide +kernel
theorem dX4_isSpike_34 : decode cX4_isSpike 34 = .ok (.getfield 41, 3) := by decide +kernel
theorem dX4_isSpike_37 : decode cX4_isSpike 37 = .ok (.invokevirtual 44, 3) := by decide +kernel
theorem dX4_isSpike_40 : decode cX4_isSpike 40 = .ok (.isub, 1) := by decide +kernel
theorem dX4_isSpike_41 : decode cX4_isSpike 41 = .ok (.istore_n 3, 1) := by decide +kernel
theorem dX4_isSpike_42 : decode cX4_isSpike 42 = .ok (.iload_n 2, 1) := by decide +kernel
theorem dX4_isSpike_43 : decode cX4_isSpike 43 = .ok (.iload_n 1, 1) := by decide +kernel
theorem dX4_isSpike_44 : decode cX4_isSpike 44 = .ok (.if_icmp .le 8, 3) := by decide +kernel
theorem dX4_isSpike_47 : decode cX4_isSpike 47 = .ok (.iload_n 3, 1) := by decide +kernel
theorem dX4_isSpike_48 : decode cX4_isSpike 48 = .ok (.iload_n 1, 1) := by decide +kernel
theorem dX4_isSpike_49 : decode cX4_isSpike 49 = .ok (.if_icmp .gt 15, 3) := by decide +kernel
theorem dX4_isSpike_52 : decode cX4_isSpike 52 = .ok (.iload_n 2, 1) := by decide +kernel
theorem dX4_isSpike_53 : decode cX4_isSpike 53 = .ok (.iload_n 1, 1) := by decide +kernel
theorem dX4_isSpike_54 : decode cX4_isSpike 54 = .ok (.ineg, 1) := by decide +kernel
theorem dX4_isSpike_55 : decode cX4_isSpike 55 = .ok (.if_icmp .ge 13, 3) := by decide +kernel
theorem dX4_isSpike_58 : decode cX4_isSpike 58 = .ok (.iload_n 3, 1) := by decide +kernel
theorem dX4_isSpike_59 : decode cX4_isSpike 59 = .ok (.iload_n 1, 1) := by decide +kernel
theorem dX4_isSpike_60 : decode cX4_isSpike 60 = .ok (.ineg, 1) := by decide +kernel
theorem dX4_isSpike_61 : decode cX4_isSpike 61 = .ok (.if_icmp .ge 7, 3) := by decide +kernel
theorem dX4_isSpike_64 : decode cX4_isSpike 64 = .ok (.iconst 1, 1) := by decide +kernel
theorem dX4_isSpike_65 : decode cX4_isSpike 65 = .ok (.goto 4, 3) := by decide +kernel
theorem dX4_isSpike_68 : decode cX4_isSpike 68 = .ok (.iconst 0, 1) := by decide +kernel
theorem dX4_isSpike_69 : decode cX4_isSpike 69 = .ok (.ireturn, 1) := by decide +kernel
theorem dX4_daysFrom_0 : decode cX4_daysFrom 0 = .ok (.aload_n 0, 1) := by decide +kernel
theorem dX4_daysFrom_1 : decode cX4_daysFrom 1 = .ok (.getfield 15, 3) := by decide +kernel
theorem dX4_daysFrom_4 : decode cX4_daysFrom 4 = .ok (.iload_n 1, 1) := by decide +kernel
theorem dX4_daysFrom_5 : decode cX4_daysFrom 5 = .ok (.isub, 1) := by decide +kernel
theorem dX4_daysFrom_6 : decode cX4_daysFrom 6 = .ok (.invokestatic 48, 3) := by decide +kernel
theorem dX4_daysFrom_9 : decode cX4_daysFrom 9 = .ok (.ireturn, 1) := by decide +kernel
theorem dX4_weightIn_0 : decode cX4_weightIn 0 = .ok (.aload_n 0, 1) := by decide +kernel
theorem dX4_weightIn_1 : decode cX4_weightIn 1 = .ok (.getfield 18, 3) := by decide +kernel
theorem dX4_weightIn_4 : decode cX4_weightIn 4 = .ok (.bipush 10, 2) := by decide +kernel
theorem dX4_weightIn_6 : decode cX4_weightIn 6 = .ok (.irem, 1) := by decide +kernel
theorem dX4_weightIn_7 : decode cX4_weightIn 7 = .ok (.iload_n 1, 1) := by decide +kernel
theorem dX4_weightIn_8 : decode cX4_weightIn 8 = .ok (.bipush 10, 2) := by decide +kernel
theorem dX4_weightIn_10 : decode cX4_weightIn 10 = .ok (.irem, 1) := by decide +kernel
theorem dX4_weightIn_11 : decode cX4_weightIn 11 = .ok (.isub, 1) := by decide +kernel
theorem dX4_weightIn_12 : decode cX4_weightIn 12 = .ok (.invokestatic 48, 3) := by decide +kernel
theorem dX4_weightIn_15 : decode cX4_weightIn 15 = .ok (.aload_n 0, 1) := by decide +kernel
theorem dX4_weightIn_16 : decode cX4_weightIn 16 = .ok (.getfield 18, 3) := by decide +kernel
theorem dX4_weightIn_19 : decode cX4_weightIn 19 = .ok (.bipush 10, 2) := by decide +kernel
theorem dX4_weightIn_21 : decode cX4_weightIn 21 = .ok (.idiv, 1) := by decide +kernel
theorem dX4_weightIn_22 : decode cX4_weightIn 22 = .ok (.iload_n 1, 1) := by decide +kernel
theorem dX4_weightIn_23 : decode cX4_weightIn 23 = .ok (.bipush 10, 2) := by decide +kernel
theorem dX4_weightIn_25 : decode cX4_weightIn 25 = .ok (.idiv, 1) := by decide +kernel
theorem dX4_weightIn_26 : decode cX4_weightIn 26 = .ok (.isub, 1) := by decide +kernel
theorem dX4_weightIn_27 : decode cX4_weightIn 27 = .ok (.invokestatic 48, 3) := by decide +kernel
theorem dX4_weightIn_30 : decode cX4_weightIn 30 = .ok (.iadd, 1) := by decide +kernel
theorem dX4_weightIn_31 : decode cX4_weightIn 31 = .ok (.istore_n 2, 1) := by decide +kernel
theorem dX4_weightIn_32 : decode cX4_weightIn 32 = .ok (.iconst 0, 1) := by decide +kernel
theorem dX4_weightIn_33 : decode cX4_weightIn 33 = .ok (.bipush 8, 2) := by decide +kernel
theorem dX4_weightIn_35 : decode cX4_weightIn 35 = .ok (.iload_n 2, 1) := by decide +kernel
theorem dX4_weightIn_36 : decode cX4_weightIn 36 = .ok (.isub, 1) := by decide +kernel
theorem dX4_weightIn_37 : decode cX4_weightIn 37 = .ok (.invokestatic 54, 3) := by decide +kernel
theorem dX4_weightIn_40 : decode cX4_weightIn 40 = .ok (.ireturn, 1) := by decide +kernel
theorem dX5_init_0 : decode cX5_init 0 = .ok (.aload_n 0, 1) := by decide +kernel
theorem dX5_init_1 : decode cX5_init 1 = .ok (.invokespecial 3, 3) := by decide +kernel
theorem dX5_init_4 : decode cX5_init 4 = .ok (.aload_n 0, 1) := by decide +kernel
theorem dX5_init_5 : decode cX5_init 5 = .ok (.new 9, 3) := by decide +kernel
theorem dX5_init_8 : decode cX5_init 8 = .ok (.dup, 1) := by decide +kernel
theorem dX5_init_9 : decode cX5_init 9 = .ok (.sipush 1000, 3) := by decide +kernel
theorem dX5_init_12 : decode cX5_init 12 = .ok (.sipush 350, 3) := by decide +kernel
theorem dX5_init_15 : decode cX5_init 15 = .ok (.invokespecial 11, 3) := by decide +kernel
theorem dX5_init_18 : decode cX5_init 18 = .ok (.putfield 14, 3) := by decide +kernel
theorem dX5_init_21 : decode cX5_init 21 = .ok (.aload_n 0, 1) := by decide +kernel
theorem dX5_init_22 : decode cX5_init 22 = .ok (.new 9, 3) := by decide +kernel
theorem dX5_init_25 : decode cX5_init 25 = .ok (.dup, 1) := by decide +kernel
theorem dX5_init_26 : decode cX5_init 26 = .ok (.sipush 400, 3) := by decide +kernel
theorem dX5_init_29 : decode cX5_init 29 = .ok (.sipush 360, 3) := by decide +kernel
theorem dX5_init_32 : decode cX5_init 32 = .ok (.invokespecial 11, 3) := by decide +kernel
theorem dX5_init_35 : decode cX5_init 35 = .ok (.putfield 20, 3) := by decide +kernel
theorem dX5_init_38 : decode cX5_init 38 = .ok (.aload_n 0, 1) := by decide +kernel
theorem dX5_init_39 : decode cX5_init 39 = .ok (.bipush 60, 2) := by decide +kernel
theorem dX5_init_41 : decode cX5_init 41 = .ok (.newarray .int, 2) := by decide +kernel
theorem dX5_init_43 : decode cX5_init 43 = .ok (.putfield 23, 3) := by decide +kernel
theorem dX5_init_46 : decode cX5_init 46 = .ok (.aload_n 0, 1) := by decide +kernel
theorem dX5_init_47 : decode cX5_init 47 = .ok (.bipush 6, 2) := by decide +kernel
theorem dX5_init_49 : decode cX5_init 49 = .ok (.newarray .int, 2) := by decide +kernel
theorem dX5_init_51 : decode cX5_init 51 = .ok (.putfield 27, 3) := by decide +kernel
theorem dX5_init_54 : decode cX5_init 54 = .ok (.aload_n 0, 1) := by decide +kernel
theorem dX5_init_55 : decode cX5_init 55 = .ok (.bipush 60, 2) := by decide +kernel
theorem dX5_init_57 : decode cX5_init 57 = .ok (.newarray .boolean, 2) := by decide +kernel
theorem dX5_init_59 : decode cX5_init 59 = .ok (.putfield 30, 3) := by decide +kernel
theorem dX5_init_62 : decode cX5_init 62 = .ok (.aload_n 0, 1) := by decide +kernel
theorem dX5_init_63 : decode cX5_init 63 = .ok (.bipush 60, 2) := by decide +kernel
theorem dX5_init_65 : decode cX5_init 65 = .ok (.newarray .int, 2) := by decide +kernel
theorem dX5_init_67 : decode cX5_init 67 = .ok (.putfield 34, 3) := by decide +kernel
theorem dX5_init_70 : decode cX5_init 70 = .ok (.return_, 1) := by decide +kernel
theorem dX5_isLand_0 : decode cX5_isLand 0 = .ok (.iload_n 1, 1) := by decide +kernel
theorem dX5_isLand_1 : decode cX5_isLand 1 = .ok (.invokestatic 37, 3) := by decide +kernel
theorem dX5_isLand_4 : decode cX5_isLand 4 = .ok (.ifCond .eq 16, 3) := by decide +kernel
theorem dX5_isLand_7 : decode cX5_isLand 7 = .ok (.aload_n 0, 1) := by decide +kernel
theorem dX5_isLand_8 : decode cX5_isLand 8 = .ok (.getfield 30, 3) := by decide +kernel
theorem dX5_isLand_11 : decode cX5_isLand 11 = .ok (.iload_n 1, 1) := by decide +kernel
theorem dX5_isLand_12 : decode cX5_isLand 12 = .ok (.baload, 1) := by decide +kernel
theorem dX5_isLand_13 : decode cX5_isLand 13 = .ok (.ifCond .eq 7, 3) := by decide +kernel
theorem dX5_isLand_16 : decode cX5_isLand 16 = .ok (.iconst 1, 1) := by decide +kernel
theorem dX5_isLand_17 : decode cX5_isLand 17 = .ok (.goto 4, 3) := by decide +kernel
theorem dX5_isLand_20 : decode cX5_isLand 20 = .ok (.iconst 0, 1) := by decide +kernel
theorem dX5_isLand_21 : decode cX5_isLand 21 = .ok (.ireturn, 1) := by decide +kernel
theorem dX5_upperHeat_0 : decode cX5_upperHeat 0 = .ok (.iload_n 1, 1) := by decide +kernel
theorem dX5_upperHeat_1 : decode cX5_upperHeat 1 = .ok (.invokestatic 37, 3) := by decide +kernel
theorem dX5_upperHeat_4 : decode cX5_upperHeat 4 = .ok (.ifCond .eq 15, 3) := by decide +kernel
theorem dX5_upperHeat_7 : decode cX5_upperHeat 7 = .ok (.aload_n 0, 1) := by decide +kernel
theorem dX5_upperHeat_8 : decode cX5_upperHeat 8 = .ok (.getfield 14, 3) := by decide +kernel
theorem dX5_upperHeat_11 : decode cX5_upperHeat 11 = .ok (.getfield 41, 3) := by decide +kernel
theorem dX5_upperHeat_14 : decode cX5_upperHeat 14 = .ok (.iload_n 1, 1) := by decide +kernel
theorem dX5_upperHeat_15 : decode cX5_upperHeat 15 = .ok (.iaload, 1) := by decide +kernel
theorem dX5_upperHeat_16 : decode cX5_upperHeat 16 = .ok (.goto 4, 3) := by decide +kernel
theorem dX5_upperHeat_19 : decode cX5_upperHeat 19 = .ok (.iconst 0, 1) := by decide +kernel
theorem dX5_upperHeat_20 : decode cX5_upperHeat 20 = .ok (.ireturn, 1) := by decide +kernel
theorem dX5_makeLand_0 : decode cX5_makeLand 0 = .ok (.iload_n 1, 1) := by decide +kernel
theorem dX5_makeLand_1 : decode cX5_makeLand 1 = .ok (.invokestatic 37, 3) := by decide +kernel
theorem dX5_makeLand_4 : decode cX5_makeLand 4 = .ok (.ifCond .eq 45, 3) := by decide +kernel
theorem dX5_makeLand_7 : decode cX5_makeLand 7 = .ok (.aload_n 0, 1) := by decide +kernel
theorem dX5_makeLand_8 : decode cX5_makeLand 8 = .ok (.getfield 30, 3) := by decide +kernel
theorem dX5_makeLand_11 : decode cX5_makeLand 11 = .ok (.iload_n 1, 1) := by decide +kernel
theorem dX5_makeLand_12 : decode cX5_makeLand 12 = .ok (.baload, 1) := by decide +kernel
theorem dX5_makeLand_13 : decode cX5_makeLand 13 = .ok (.ifCond .ne 36, 3) := by decide +kernel
theorem dX5_makeLand_16 : decode cX5_makeLand 16 = .ok (.aload_n 0, 1) := by decide +kernel
theorem dX5_makeLand_17 : decode cX5_makeLand 17 = .ok (.getfield 30, 3) := by decide +kernel
theorem dX5_makeLand_20 : decode cX5_makeLand 20 = .ok (.iload_n 1, 1) := by decide +kernel
theorem dX5_makeLand_21 : decode cX5_makeLand 21 = .ok (.iconst 1, 1) := by decide +kernel
theorem dX5_makeLand_22 : decode cX5_makeLand 22 = .ok (.bastore, 1) := by decide +kernel
theorem dX5_makeLand_23 : decode cX5_makeLand 23 = .ok (.aload_n 0, 1) := by decide +kernel
theorem dX5_makeLand_24 : decode cX5_makeLand 24 = .ok (.dup, 1) := by decide +kernel
theorem dX5_makeLand_25 : decode cX5_makeLand 25 = .ok (.getfield 44, 3) := by decide +kernel
theorem dX5_makeLand_28 : decode cX5_makeLand 28 = .ok (.iconst 1, 1) := by decide +kernel
theorem dX5_makeLand_29 : decode cX5_makeLand 29 = .ok (.iadd, 1) := by decide +kernel
theorem dX5_makeLand_30 : decode cX5_makeLand 30 = .ok (.putfield 44, 3) := by decide +kernel
theorem dX5_makeLand_33 : decode cX5_makeLand 33 = .ok (.aload_n 0, 1) := by decide +kernel
theorem dX5_makeLand_34 : decode cX5_makeLand 34 = .ok (.getfield 14, 3) := by decide +kernel
theorem dX5_makeLand_37 : decode cX5_makeLand 37 = .ok (.iload_n 1, 1) := by decide +kernel
theorem dX5_makeLand_38 : decode cX5_makeLand 38 = .ok (.invokevirtual 48, 3) := by decide +kernel
theorem dX5_makeLand_41 : decode cX5_makeLand 41 = .ok (.aload_n 0, 1) := by decide +kernel
theorem dX5_makeLand_42 : decode cX5_makeLand 42 = .ok (.getfield 20, 3) := by decide +kernel
theorem dX5_makeLand_45 : decode cX5_makeLand 45 = .ok (.iload_n 1, 1) := by decide +kernel
theorem dX5_makeLand_46 : decode cX5_makeLand 46 = .ok (.invokevirtual 48, 3) := by decide +kernel
theorem dX5_makeLand_49 : decode cX5_makeLand 49 = .ok (.aload_n 0, 1) := by decide +kernel
theorem dX5_makeLand_50 : decode cX5_makeLand 50 = .ok (.getfield 44, 3) := by decide +kernel
theorem dX5_makeLand_53 : decode cX5_makeLand 53 = .ok (.ireturn, 1) := by decide +kernel
theorem dX5_seaBeside_0 : decode cX5_seaBeside 0 = .ok (.iload_n 1, 1) := by decide +kernel
theorem dX5_seaBeside_1 : decode cX5_seaBeside 1 = .ok (.invokestatic 37, 3) := by decide +kernel
theorem dX5_seaBeside_4 : decode cX5_seaBeside 4 = .ok (.ifCond .ne 5, 3) := by decide +kernel
theorem dX5_seaBeside_7 : decode cX5_seaBeside 7 = .ok (.iconst (-1), 1) := by decide +kernel
theorem dX5_seaBeside_8 : decode cX5_seaBeside 8 = .ok (.ireturn, 1) := by decide +kernel
theorem dX5_seaBeside_9 : decode cX5_seaBeside 9 = .ok (.iload_n 1, 1) := by decide +kernel
theorem dX5_seaBeside_10 : decode cX5_seaBeside 10 = .ok (.bipush 10, 2) := by decide +kernel
theorem dX5_seaBeside_12 : decode cX5_seaBeside 12 = .ok (.irem, 1) := by decide +kernel
theorem dX5_seaBeside_13 : decode cX5_seaBeside 13 = .ok (.istore_n 3, 1) := by decide +kernel
theorem dX5_seaBeside_14 : decode cX5_seaBeside 14 = .ok (.iload_n 1, 1) := by decide +kernel
theorem dX5_seaBeside_15 : decode cX5_seaBeside 15 = .ok (.bipush 10, 2) := by decide +kernel
theorem dX5_seaBeside_17 : decode cX5_seaBeside 17 = .ok (.idiv, 1) := by decide +kernel
theorem dX5_seaBeside_18 : decode cX5_seaBeside 18 = .ok (.istore 4, 2) := by decide +kernel
theorem dX5_seaBeside_20 : decode cX5_seaBeside 20 = .ok (.iload_n 2, 1) := by decide +kernel
theorem dX5_seaBeside_21 : decode cX5_seaBeside 21 = .ok (.tableswitch 55 1 4 #[31, 37, 43, 49], 31) := by decide +kernel
theorem dX5_seaBeside_52 : decode cX5_seaBeside 52 = .ok (.iinc 3 1, 3) := by decide +kernel
theorem dX5_seaBeside_55 : decode cX5_seaBeside 55 = .ok (.goto 23, 3) := by decide +kernel
theorem dX5_seaBeside_58 : decode cX5_seaBeside 58 = .ok (.iinc 3 (-1), 3) := by decide +kernel
theorem dX5_seaBeside_61 : decode cX5_seaBeside 61 = .ok (.goto 17, 3) := by decide +kernel
theorem dX5_seaBeside_64 : decode cX5_seaBeside 64 = .ok (.iinc 4 1, 3) := by decide +kernel
theorem dX5_seaBeside_67 : decode cX5_seaBeside 67 = .ok (.goto 11, 3) := by decide +kernel
theorem dX5_seaBeside_70 : decode cX5_seaBeside 70 = .ok (.iinc 4 (-1), 3) := by decide +kernel
theorem dX5_seaBeside_73 : decode cX5_seaBeside 73 = .ok (.goto 5, 3) := by decide +kernel
theorem dX5_seaBeside_76 : decode cX5_seaBeside 76 = .ok (.iconst (-1), 1) := by decide +kernel
theorem dX5_seaBeside_77 : decode cX5_seaBeside 77 = .ok (.ireturn, 1) := by decide +kernel
theorem dX5_seaBeside_78 : decode cX5_seaBeside 78 = .ok (.iload_n 3, 1) := by decide +kernel
theorem dX5_seaBeside_79 : decode cX5_seaBeside 79 = .ok (.bipush 10, 2) := by decide +kernel
theorem dX5_seaBeside_81 : decode cX5_seaBeside 81 = .ok (.invokestatic 52, 3) := by decide +kernel
theorem dX5_seaBeside_84 : decode cX5_seaBeside 84 = .ok (.ifCond .eq 13, 3) := by decide +kernel
theorem dX5_seaBeside_87 : decode cX5_seaBeside 87 = .ok (.iload 4, 2) := by decide +kernel
theorem dX5_seaBeside_89 : decode cX5_seaBeside 89 = .ok (.bipush 6, 2) := by decide +kernel
theorem dX5_seaBeside_91 : decode cX5_seaBeside 91 = .ok (.invokestatic 52, 3) := by decide +kernel
theorem dX5_seaBeside_94 : decode cX5_seaBeside 94 = .ok (.ifCond .ne 5, 3) := by decide +kernel
theorem dX5_seaBeside_97 : decode cX5_seaBeside 97 = .ok (.iconst (-1), 1) := by decide +kernel
theorem dX5_seaBeside_98 : decode cX5_seaBeside 98 = .ok (.ireturn, 1) := by decide +kernel
theorem dX5_seaBeside_99 : decode cX5_seaBeside 99 = .ok (.bipush 10, 2) := by decide +kernel
theorem dX5_seaBeside_101 : decode cX5_seaBeside 101 = .ok (.iload 4, 2) := by decide +kernel
theorem dX5_seaBeside_103 : decode cX5_seaBeside 103 = .ok (.imul, 1) := by decide +kernel
theorem dX5_seaBeside_104 : decode cX5_seaBeside 104 = .ok (.iload_n 3, 1) := by decide +kernel
theorem dX5_seaBeside_105 : decode cX5_seaBeside 105 = .ok (.iadd, 1) := by decide +kernel
theorem dX5_seaBeside_106 : decode cX5_seaBeside 106 = .ok (.istore 5, 2) := by decide +kernel
theorem dX5_seaBeside_108 : decode cX5_seaBeside 108 = .ok (.iload 5, 2) := by decide +kernel
theorem dX5_seaBeside_110 : decode cX5_seaBeside 110 = .ok (.invokestatic 37, 3) := by decide +kernel
theorem dX5_seaBeside_113 : decode cX5_seaBeside 113 = .ok (.ifCond .eq 18, 3) := by decide +kernel
theorem dX5_seaBeside_116 : decode cX5_seaBeside 116 = .ok (.aload_n 0, 1) := by decide +kernel
theorem dX5_seaBeside_117 : decode cX5_seaBeside 117 = .ok (.getfield 30, 3) := by decide +kernel
theorem dX5_seaBeside_120 : decode cX5_seaBeside 120 = .ok (.iload 5, 2) := by decide +kernel
theorem dX5_seaBeside_122 : decode cX5_seaBeside 122 = .ok (.baload, 1) := by decide +kernel
theorem dX5_seaBeside_123 : decode cX5_seaBeside 123 = .ok (.ifCond .ne 8, 3) := by decide +kernel
theorem dX5_seaBeside_126 : decode cX5_seaBeside 126 = .ok (.iload 5, 2) := by decide +kernel
theorem dX5_seaBeside_128 : decode cX5_seaBeside 128 = .ok (.goto 4, 3) := by decide +kernel
theorem dX5_seaBeside_131 : decode cX5_seaBeside 131 = .ok (.iconst (-1), 1) := by decide +kernel
theorem dX5_seaBeside_132 : decode cX5_seaBeside 132 = .ok (.ireturn, 1) := by decide +kernel
theorem dX5_leadsTo_0 : decode cX5_leadsTo 0 = .ok (.iload_n 1, 1) := by decide +kernel
theorem dX5_leadsTo_1 : decode cX5_leadsTo 1 = .ok (.invokestatic 37, 3) := by decide +kernel
theorem dX5_leadsTo_4 : decode cX5_leadsTo 4 = .ok (.ifCond .eq 17, 3) := by decide +kernel
theorem dX5_leadsTo_7 : decode cX5_leadsTo 7 = .ok (.aload_n 0, 1) := by decide +kernel
theorem dX5_leadsTo_8 : decode cX5_leadsTo 8 = .ok (.iload_n 1, 1) := by decide +kernel
theorem dX5_leadsTo_9 : decode cX5_leadsTo 9 = .ok (.aload_n 0, 1) := by decide +kernel
theorem dX5_leadsTo_10 : decode cX5_leadsTo 10 = .ok (.getfield 23, 3) := by decide +kernel
theorem dX5_leadsTo_13 : decode cX5_leadsTo 13 = .ok (.iload_n 1, 1) := by decide +kernel
theorem dX5_leadsTo_14 : decode cX5_leadsTo 14 = .ok (.iaload, 1) := by decide +kernel
theorem dX5_leadsTo_15 : decode cX5_leadsTo 15 = .ok (.invokevirtual 56, 3) := by decide +kernel
theorem dX5_leadsTo_18 : decode cX5_leadsTo 18 = .ok (.goto 4, 3) := by decide +kernel
theorem dX5_leadsTo_21 : decode cX5_leadsTo 21 = .ok (.iconst (-1), 1) := by decide +kernel
theorem dX5_leadsTo_22 : decode cX5_leadsTo 22 = .ok (.ireturn, 1) := by decide +kernel
theorem dX5_flow_0 : decode cX5_flow 0 = .ok (.aload_n 0, 1) := by decide +kernel
theorem dX5_flow_1 : decode cX5_flow 1 = .ok (.aload_n 0, 1) := by decide +kernel
theorem dX5_flow_2 : decode cX5_flow 2 = .ok (.getfield 14, 3) := by decide +kernel
theorem dX5_flow_5 : decode cX5_flow 5 = .ok (.getfield 41, 3) := by decide +kernel
theorem dX5_flow_8 : decode cX5_flow 8 = .ok (.invokevirtual 60, 3) := by decide +kernel
theorem dX5_flow_11 : decode cX5_flow 11 = .ok (.aload_n 0, 1) := by decide +kernel
theorem dX5_flow_12 : decode cX5_flow 12 = .ok (.aload_n 0, 1) := by decide +kernel
theorem dX5_flow_13 : decode cX5_flow 13 = .ok (.getfield 14, 3) := by decide +kernel
theorem dX5_flow_16 : decode cX5_flow 16 = .ok (.getfield 64, 3) := by decide +kernel
theorem dX5_flow_19 : decode cX5_flow 19 = .ok (.invokevirtual 60, 3) := by decide +kernel
theorem dX5_flow_22 : decode cX5_flow 22 = .ok (.return_, 1) := by decide +kernel
theorem dX5_carry_0 : decode cX5_carry 0 = .ok (.aload_n 1, 1) := by decide +kernel
theorem dX5_carry_1 : decode cX5_carry 1 = .ok (.arraylength, 1) := by decide +kernel
theorem dX5_carry_2 : decode cX5_carry 2 = .ok (.bipush 60, 2) := by decide +kernel
theorem dX5_carry_4 : decode cX5_carry 4 = .ok (.invokestatic 67, 3) := by decide +kernel
theorem dX5_carry_7 : decode cX5_carry 7 = .ok (.istore_n 2, 1) := by decide +kernel
theorem dX5_carry_8 : decode cX5_carry 8 = .ok (.aload_n 1, 1) := by decide +kernel
theorem dX5_carry_9 : decode cX5_carry 9 = .ok (.iconst 0, 1) := by decide +kernel
theorem dX5_carry_10 : decode cX5_carry 10 = .ok (.aload_n 0, 1) := by decide +kernel
theorem dX5_carry_11 : decode cX5_carry 11 = .ok (.getfield 34, 3) := by decide +kernel
theorem dX5_carry_14 : decode cX5_carry 14 = .ok (.iconst 0, 1) := by decide +kernel
theorem dX5_carry_15 : decode cX5_carry 15 = .ok (.iload_n 2, 1) := by decide +kernel
theorem dX5_carry_16 : decode cX5_carry 16 = .ok (.invokestatic 72, 3) := by decide +kernel
theorem dX5_carry_19 : decode cX5_carry 19 = .ok (.iconst 0, 1) := by decide +kernel
theorem dX5_carry_20 : decode cX5_carry 20 = .ok (.istore_n 3, 1) := by decide +kernel
theorem dX5_carry_21 : decode cX5_carry 21 = .ok (.iload_n 3, 1) := by decide +kernel
theorem dX5_carry_22 : decode cX5_carry 22 = .ok (.iload_n 2, 1) := by decide +kernel
theorem dX5_carry_23 : decode cX5_carry 23 = .ok (.if_icmp .ge 53, 3) := by decide +kernel
theorem dX5_carry_26 : decode cX5_carry 26 = .ok (.aload_n 0, 1) := by decide +kernel
theorem dX5_carry_27 : decode cX5_carry 27 = .ok (.iload_n 3, 1) := by decide +kernel
theorem dX5_carry_28 : decode cX5_carry 28 = .ok (.invokevirtual 78, 3) := by decide +kernel
theorem dX5_carry_31 : decode cX5_carry 31 = .ok (.istore 4, 2) := by decide +kernel
theorem dX5_carry_33 : decode cX5_carry 33 = .ok (.iload 4, 2) := by decide +kernel
theorem dX5_carry_35 : decode cX5_carry 35 = .ok (.iload_n 2, 1) := by decide +kernel
theorem dX5_carry_36 : decode cX5_carry 36 = .ok (.invokestatic 52, 3) := by decide +kernel
theorem dX5_carry_39 : decode cX5_carry 39 = .ok (.ifCond .eq 31, 3) := by decide +kernel
theorem dX5_carry_42 : decode cX5_carry 42 = .ok (.aload_n 0, 1) := by decide +kernel
theorem dX5_carry_43 : decode cX5_carry 43 = .ok (.getfield 34, 3) := by decide +kernel
theorem dX5_carry_46 : decode cX5_carry 46 = .ok (.iload_n 3, 1) := by decide +kernel
theorem dX5_carry_47 : decode cX5_carry 47 = .ok (.iaload, 1) := by decide +kernel
theorem dX5_carry_48 : decode cX5_carry 48 = .ok (.bipush 10, 2) := by decide +kernel
theorem dX5_carry_50 : decode cX5_carry 50 = .ok (.idiv, 1) := by decide +kernel
theorem dX5_carry_51 : decode cX5_carry 51 = .ok (.istore 5, 2) := by decide +kernel
theorem dX5_carry_53 : decode cX5_carry 53 = .ok (.aload_n 1, 1) := by decide +kernel
theorem dX5_carry_54 : decode cX5_carry 54 = .ok (.iload_n 3, 1) := by decide +kernel
theorem dX5_carry_55 : decode cX5_carry 55 = .ok (.dup2, 1) := by decide +kernel
theorem dX5_carry_56 : decode cX5_carry 56 = .ok (.iaload, 1) := by decide +kernel
theorem dX5_carry_57 : decode cX5_carry 57 = .ok (.iload 5, 2) := by decide +kernel
theorem dX5_carry_59 : decode cX5_carry 59 = .ok (.isub, 1) := by decide +kernel
theorem dX5_carry_60 : decode cX5_carry 60 = .ok (.iastore, 1) := by decide +kernel
theorem dX5_carry_61 : decode cX5_carry 61 = .ok (.aload_n 1, 1) := by decide +kernel
theorem dX5_carry_62 : decode cX5_carry 62 = .ok (.iload 4, 2) := by decide +kernel
theorem dX5_carry_64 : decode cX5_carry 64 = .ok (.dup2, 1) := by decide +kernel
theorem dX5_carry_65 : decode cX5_carry 65 = .ok (.iaload, 1) := by decide +kernel
theorem dX5_carry_66 : decode cX5_carry 66 = .ok (.iload 5, 2) := by decide +kernel
theorem dX5_carry_68 : decode cX5_carry 68 = .ok (.iadd, 1) := by decide +kernel
theorem dX5_carry_69 : decode cX5_carry 69 = .ok (.iastore, 1) := by decide +kernel
theorem dX5_carry_70 : decode cX5_carry 70 = .ok (.iinc 3 1, 3) := by decide +kernel
theorem dX5_carry_73 : decode cX5_carry 73 = .ok (.goto (-52), 3) := by decide +kernel
theorem dX5_carry_76 : decode cX5_carry 76 = .ok (.return_, 1) := by decide +kernel
theorem dX5_shine_0 : decode cX5_shine 0 = .ok (.iconst 0, 1) := by decide +kernel
theorem dX5_shine_1 : decode cX5_shine 1 = .ok (.istore_n 1, 1) := by decide +kernel
theorem dX5_shine_2 : decode cX5_shine 2 = .ok (.iload_n 1, 1) := by decide +kernel
theorem dX5_shine_3 : decode cX5_shine 3 = .ok (.bipush 60, 2) := by decide +kernel
theorem dX5_shine_5 : decode cX5_shine 5 = .ok (.if_icmp .ge 72, 3) := by decide +kernel
theorem dX5_shine_8 : decode cX5_shine 8 = .ok (.aload_n 0, 1) := by decide +kernel
theorem dX5_shine_9 : decode cX5_shine 9 = .ok (.getfield 30, 3) := by decide +kernel
theorem dX5_shine_12 : decode cX5_shine 12 = .ok (.iload_n 1, 1) := by decide +kernel
theorem dX5_shine_13 : decode cX5_shine 13 = .ok (.baload, 1) := by decide +kernel
theorem dX5_shine_14 : decode cX5_shine 14 = .ok (.ifCond .ne 57, 3) := by decide +kernel
theorem dX5_shine_17 : decode cX5_shine 17 = .ok (.aload_n 0, 1) := by decide +kernel
theorem dX5_shine_18 : decode cX5_shine 18 = .ok (.getfield 14, 3) := by decide +kernel
theorem dX5_shine_21 : decode cX5_shine 21 = .ok (.getfield 41, 3) := by decide +kernel
theorem dX5_shine_24 : decode cX5_shine 24 = .ok (.iload_n 1, 1) := by decide +kernel
theorem dX5_shine_25 : decode cX5_shine 25 = .ok (.iaload, 1) := by decide +kernel
theorem dX5_shine_26 : decode cX5_shine 26 = .ok (.istore_n 2, 1) := by decide +kernel
theorem dX5_shine_27 : decode cX5_shine 27 = .ok (.aload_n 0, 1) := by decide +kernel
theorem dX5_shine_28 : decode cX5_shine 28 = .ok (.getfield 14, 3) := by decide +kernel
theorem dX5_shine_31 : decode cX5_shine 31 = .ok (.getfield 41, 3) := by decide +kernel
theorem dX5_shine_34 : decode cX5_shine 34 = .ok (.iload_n 1, 1) := by decide +kernel
theorem dX5_shine_35 : decode cX5_shine 35 = .ok (.iconst 0, 1) := by decide +kernel
theorem dX5_shine_36 : decode cX5_shine 36 = .ok (.iload_n 2, 1) := by decide +kernel
theorem dX5_shine_37 : decode cX5_shine 37 = .ok (.aload_n 0, 1) := by decide +kernel
theorem dX5_shine_38 : decode cX5_shine 38 = .ok (.getfield 27, 3) := by decide +kernel
theorem dX5_shine_41 : decode cX5_shine 41 = .ok (.iload_n 1, 1) := by decide +kernel
theorem dX5_shine_42 : decode cX5_shine 42 = .ok (.bipush 10, 2) := by decide +kernel
theorem dX5_shine_44 : decode cX5_shine 44 = .ok (.idiv, 1) := by decide +kernel
theorem dX5_shine_45 : decode cX5_shine 45 = .ok (.iaload, 1) := by decide +kernel
theorem dX5_shine_46 : decode cX5_shine 46 = .ok (.iadd, 1) := by decide +kernel
theorem dX5_shine_47 : decode cX5_shine 47 = .ok (.invokestatic 82, 3) := by decide +kernel
theorem dX5_shine_50 : decode cX5_shine 50 = .ok (.iastore, 1) := by decide +kernel
theorem dX5_shine_51 : decode cX5_shine 51 = .ok (.aload_n 0, 1) := by decide +kernel
theorem dX5_shine_52 : decode cX5_shine 52 = .ok (.dup, 1) := by decide +kernel
theorem dX5_shine_53 : decode cX5_shine 53 = .ok (.getfield 85, 3) := by decide +kernel
theorem dX5_shine_56 : decode cX5_shine 56 = .ok (.aload_n 0, 1) := by decide +kernel
theorem dX5_shine_57 : decode cX5_shine 57 = .ok (.getfield 14, 3) := by decide +kernel
theorem dX5_shine_60 : decode cX5_shine 60 = .ok (.getfield 41, 3) := by decide +kernel
theorem dX5_shine_63 : decode cX5_shine 63 = .ok (.iload_n 1, 1) := by decide +kernel
theorem dX5_shine_64 : decode cX5_shine 64 = .ok (.iaload, 1) := by decide +kernel
theorem dX5_shine_65 : decode cX5_shine 65 = .ok (.iload_n 2, 1) := by decide +kernel
theorem dX5_shine_66 : decode cX5_shine 66 = .ok (.isub, 1) := by decide +kernel
theorem dX5_shine_67 : decode cX5_shine 67 = .ok (.iadd, 1) := by decide +kernel
theorem dX5_shine_68 : decode cX5_shine 68 = .ok (.putfield 85, 3) := by decide +kernel
theorem dX5_shine_71 : decode cX5_shine 71 = .ok (.iinc 1 1, 3) := by decide +kernel
theorem dX5_shine_74 : decode cX5_shine 74 = .ok (.goto (-72), 3) := by decide +kernel
theorem dX5_shine_77 : decode cX5_shine 77 = .ok (.return_, 1) := by decide +kernel
theorem dX5_turnOver_0 : decode cX5_turnOver 0 = .ok (.iconst 0, 1) := by decide +kernel
theorem dX5_turnOver_1 : decode cX5_turnOver 1 = .ok (.istore_n 1, 1) := by decide +kernel
theorem dX5_turnOver_2 : decode cX5_turnOver 2 = .ok (.iload_n 1, 1) := by decide +kernel
theorem dX5_turnOver_3 : decode cX5_turnOver 3 = .ok (.bipush 60, 2) := by decide +kernel
theorem dX5_turnOver_5 : decode cX5_turnOver 5 = .ok (.if_icmp .ge 64, 3) := by decide +kernel
theorem dX5_turnOver_8 : decode cX5_turnOver 8 = .ok (.aload_n 0, 1) := by decide +kernel
theorem dX5_turnOver_9 : decode cX5_turnOver 9 = .ok (.getfield 14, 3) := by decide +kernel
theorem dX5_turnOver_12 : decode cX5_turnOver 12 = .ok (.iload_n 1, 1) := by decide +kernel
theorem dX5_turnOver_13 : decode cX5_turnOver 13 = .ok (.invokevirtual 88, 3) := by decide +kernel
theorem dX5_turnOver_16 : decode cX5_turnOver 16 = .ok (.aload_n 0, 1) := by decide +kernel
theorem dX5_turnOver_17 : decode cX5_turnOver 17 = .ok (.getfield 20, 3) := by decide +kernel
theorem dX5_turnOver_20 : decode cX5_turnOver 20 = .ok (.iload_n 1, 1) := by decide +kernel
theorem dX5_turnOver_21 : decode cX5_turnOver 21 = .ok (.invokevirtual 88, 3) := by decide +kernel
theorem dX5_turnOver_24 : decode cX5_turnOver 24 = .ok (.if_icmp .le 39, 3) := by decide +kernel
theorem dX5_turnOver_27 : decode cX5_turnOver 27 = .ok (.aload_n 0, 1) := by decide +kernel
theorem dX5_turnOver_28 : decode cX5_turnOver 28 = .ok (.getfield 14, 3) := by decide +kernel
theorem dX5_turnOver_31 : decode cX5_turnOver 31 = .ok (.getfield 41, 3) := by decide +kernel
theorem dX5_turnOver_34 : decode cX5_turnOver 34 = .ok (.aload_n 0, 1) := by decide +kernel
theorem dX5_turnOver_35 : decode cX5_turnOver 35 = .ok (.getfield 20, 3) := by decide +kernel
theorem dX5_turnOver_38 : decode cX5_turnOver 38 = .ok (.getfield 41, 3) := by decide +kernel
theorem dX5_turnOver_41 : decode cX5_turnOver 41 = .ok (.iload_n 1, 1) := by decide +kernel
theorem dX5_turnOver_42 : decode cX5_turnOver 42 = .ok (.invokestatic 91, 3) := by decide +kernel
theorem dX5_turnOver_45 : decode cX5_turnOver 45 = .ok (.aload_n 0, 1) := by decide +kernel
theorem dX5_turnOver_46 : decode cX5_turnOver 46 = .ok (.getfield 14, 3) := by decide +kernel
theorem dX5_turnOver_49 : decode cX5_turnOver 49 = .ok (.getfield 64, 3) := by decide +kernel
theorem dX5_turnOver_52 : decode cX5_turnOver 52 = .ok (.aload_n 0, 1) := by decide +kernel
theorem dX5_turnOver_53 : decode cX5_turnOver 53 = .ok (.getfield 20, 3) := by decide +kernel
theorem dX5_turnOver_56 : decode cX5_turnOver 56 = .ok (.getfield 64, 3) := by decide +kernel
theorem dX5_turnOver_59 : decode cX5_turnOver 59 = .ok (.iload_n 1, 1) := by decide +kernel
theorem dX5_turnOver_60 : decode cX5_turnOver 60 = .ok (.invokestatic 91, 3) := by decide +kernel
theorem dX5_turnOver_63 : decode cX5_turnOver 63 = .ok (.iinc 1 1, 3) := by decide +kernel
theorem dX5_turnOver_66 : decode cX5_turnOver 66 = .ok (.goto (-64), 3) := by decide +kernel
theorem dX5_turnOver_69 : decode cX5_turnOver 69 = .ok (.return_, 1) := by decide +kernel
theorem dX5_share_0 : decode cX5_share 0 = .ok (.iload_n 2, 1) := by decide +kernel
theorem dX5_share_1 : decode cX5_share 1 = .ok (.aload_n 0, 1) := by decide +kernel
theorem dX5_share_2 : decode cX5_share 2 = .ok (.arraylength, 1) := by decide +kernel
theorem dX5_share_3 : decode cX5_share 3 = .ok (.invokestatic 52, 3) := by decide +kernel
theorem dX5_share_6 : decode cX5_share 6 = .ok (.ifCond .eq 34, 3) := by decide +kernel
theorem dX5_share_9 : decode cX5_share 9 = .ok (.iload_n 2, 1) := by decide +kernel
theorem dX5_share_10 : decode cX5_share 10 = .ok (.aload_n 1, 1) := by decide +kernel
theorem dX5_share_11 : decode cX5_share 11 = .ok (.arraylength, 1) := by decide +kernel
theorem dX5_share_12 : decode cX5_share 12 = .ok (.invokestatic 52, 3) := by decide +kernel
theorem dX5_share_15 : decode cX5_share 15 = .ok (.ifCond .eq 25, 3) := by decide +kernel
theorem dX5_share_18 : decode cX5_share 18 = .ok (.aload_n 0, 1) := by decide +kernel
theorem dX5_share_19 : decode cX5_share 19 = .ok (.iload_n 2, 1) := by decide +kernel
theorem dX5_share_20 : decode cX5_share 20 = .ok (.iaload, 1) := by decide +kernel
theorem dX5_share_21 : decode cX5_share 21 = .ok (.aload_n 1, 1) := by decide +kernel
theorem dX5_share_22 : decode cX5_share 22 = .ok (.iload_n 2, 1) := by decide +kernel
theorem dX5_share_23 : decode cX5_share 23 = .ok (.iaload, 1) := by decide +kernel
theorem dX5_share_24 : decode cX5_share 24 = .ok (.iadd, 1) := by decide +kernel
theorem dX5_share_25 : decode cX5_share 25 = .ok (.istore_n 3, 1) := by decide +kernel
theorem dX5_share_26 : decode cX5_share 26 = .ok (.aload_n 0, 1) := by decide +kernel
theorem dX5_share_27 : decode cX5_share 27 = .ok (.iload_n 2, 1) := by decide +kernel
theorem dX5_share_28 : decode cX5_share 28 = .ok (.iload_n 3, 1) := by decide +kernel
theorem dX5_share_29 : decode cX5_share 29 = .ok (.iconst 2, 1) := by decide +kernel
theorem dX5_share_30 : decode cX5_share 30 = .ok (.idiv, 1) := by decide +kernel
theorem dX5_share_31 : decode cX5_share 31 = .ok (.iastore, 1) := by decide +kernel
theorem dX5_share_32 : decode cX5_share 32 = .ok (.aload_n 1, 1) := by decide +kernel
theorem dX5_share_33 : decode cX5_share 33 = .ok (.iload_n 2, 1) := by decide +kernel
theorem dX5_share_34 : decode cX5_share 34 = .ok (.iload_n 3, 1) := by decide +kernel
theorem dX5_share_35 : decode cX5_share 35 = .ok (.aload_n 0, 1) := by decide +kernel
theorem dX5_share_36 : decode cX5_share 36 = .ok (.iload_n 2, 1) := by decide +kernel
theorem dX5_share_37 : decode cX5_share 37 = .ok (.iaload, 1) := by decide +kernel
theorem dX5_share_38 : decode cX5_share 38 = .ok (.isub, 1) := by decide +kernel
theorem dX5_share_39 : decode cX5_share 39 = .ok (.iastore, 1) := by decide +kernel
theorem dX5_share_40 : decode cX5_share 40 = .ok (.return_, 1) := by decide +kernel
theorem dX6_init_0 : decode cX6_init 0 = .ok (.aload_n 0, 1) := by decide +kernel
theorem dX6_init_1 : decode cX6_init 1 = .ok (.invokespecial 3, 3) := by decide +kernel
theorem dX6_init_4 : decode cX6_init 4 = .ok (.aload_n 0, 1) := by decide +kernel
theorem dX6_init_5 : decode cX6_init 5 = .ok (.bipush 60, 2) := by decide +kernel
theorem dX6_init_7 : decode cX6_init 7 = .ok (.newarray .int, 2) := by decide +kernel
theorem dX6_init_9 : decode cX6_init 9 = .ok (.putfield 9, 3) := by decide +kernel
theorem dX6_init_12 : decode cX6_init 12 = .ok (.aload_n 0, 1) := by decide +kernel
theorem dX6_init_13 : decode cX6_init 13 = .ok (.bipush 60, 2) := by decide +kernel
theorem dX6_init_15 : decode cX6_init 15 = .ok (.newarray .int, 2) := by decide +kernel
theorem dX6_init_17 : decode cX6_init 17 = .ok (.putfield 15, 3) := by decide +kernel
theorem dX6_init_20 : decode cX6_init 20 = .ok (.aload_n 0, 1) := by decide +kernel
theorem dX6_init_21 : decode cX6_init 21 = .ok (.iload_n 1, 1) := by decide +kernel
theorem dX6_init_22 : decode cX6_init 22 = .ok (.putfield 18, 3) := by decide +kernel
theorem dX6_init_25 : decode cX6_init 25 = .ok (.iload_n 1, 1) := by decide +kernel
theorem dX6_init_26 : decode cX6_init 26 = .ok (.invokestatic 22, 3) := by decide +kernel
theorem dX6_init_29 : decode cX6_init 29 = .ok (.ifCond .eq 12, 3) := by decide +kernel
theorem dX6_init_32 : decode cX6_init 32 = .ok (.aload_n 0, 1) := by decide +kernel
theorem dX6_init_33 : decode cX6_init 33 = .ok (.getfield 9, 3) := by decide +kernel
theorem dX6_init_36 : decode cX6_init 36 = .ok (.iload_n 1, 1) := by decide +kernel
theorem dX6_init_37 : decode cX6_init 37 = .ok (.sipush 10000, 3) := by decide +kernel
theorem dX6_init_40 : decode cX6_init 40 = .ok (.iastore, 1) := by decide +kernel
theorem dX6_init_41 : decode cX6_init 41 = .ok (.return_, 1) := by decide +kernel
theorem dX6_goOn_0 : decode cX6_goOn 0 = .ok (.aload_n 0, 1) := by decide +kernel
theorem dX6_goOn_1 : decode cX6_goOn 1 = .ok (.getfield 9, 3) := by decide +kernel
theorem dX6_goOn_4 : decode cX6_goOn 4 = .ok (.iconst 0, 1) := by decide +kernel
theorem dX6_goOn_5 : decode cX6_goOn 5 = .ok (.aload_n 0, 1) := by decide +kernel
theorem dX6_goOn_6 : decode cX6_goOn 6 = .ok (.getfield 15, 3) := by decide +kernel
theorem dX6_goOn_9 : decode cX6_goOn 9 = .ok (.iconst 0, 1) := by decide +kernel
theorem dX6_goOn_10 : decode cX6_goOn 10 = .ok (.bipush 60, 2) := by decide +kernel
theorem dX6_goOn_12 : decode cX6_goOn 12 = .ok (.invokestatic 26, 3) := by decide +kernel
theorem dX6_goOn_15 : decode cX6_goOn 15 = .ok (.iconst 0, 1) := by decide +kernel
theorem dX6_goOn_16 : decode cX6_goOn 16 = .ok (.istore_n 2, 1) := by decide +kernel
theorem dX6_goOn_17 : decode cX6_goOn 17 = .ok (.iload_n 2, 1) := by decide +kernel
theorem dX6_goOn_18 : decode cX6_goOn 18 = .ok (.bipush 60, 2) := by decide +kernel
theorem dX6_goOn_20 : decode cX6_goOn 20 = .ok (.if_icmp .ge 63, 3) := by decide +kernel
theorem dX6_goOn_23 : decode cX6_goOn 23 = .ok (.aload_n 0, 1) := by decide +kernel
theorem dX6_goOn_24 : decode cX6_goOn 24 = .ok (.getfield 15, 3) := by decide +kernel
theorem dX6_goOn_27 : decode cX6_goOn 27 = .ok (.iload_n 2, 1) := by decide +kernel
theorem dX6_goOn_28 : decode cX6_goOn 28 = .ok (.iaload, 1) := by decide +kernel
theorem dX6_goOn_29 : decode cX6_goOn 29 = .ok (.istore_n 3, 1) := by decide +kernel
theorem dX6_goOn_30 : decode cX6_goOn 30 = .ok (.iconst 1, 1) := by decide +kernel
theorem dX6_goOn_31 : decode cX6_goOn 31 = .ok (.istore 4, 2) := by decide +kernel
theorem dX6_goOn_33 : decode cX6_goOn 33 = .ok (.iload 4, 2) := by decide +kernel
theorem dX6_goOn_35 : decode cX6_goOn 35 = .ok (.iconst 4, 1) := by decide +kernel
theorem dX6_goOn_36 : decode cX6_goOn 36 = .ok (.if_icmp .gt 25, 3) := by decide +kernel
theorem dX6_goOn_39 : decode cX6_goOn 39 = .ok (.aload_n 0, 1) := by decide +kernel
theorem dX6_goOn_40 : decode cX6_goOn 40 = .ok (.iload_n 2, 1) := by decide +kernel
theorem dX6_goOn_41 : decode cX6_goOn 41 = .ok (.aload_n 1, 1) := by decide +kernel
theorem dX6_goOn_42 : decode cX6_goOn 42 = .ok (.iload_n 2, 1) := by decide +kernel
theorem dX6_goOn_43 : decode cX6_goOn 43 = .ok (.iload 4, 2) := by decide +kernel
theorem dX6_goOn_45 : decode cX6_goOn 45 = .ok (.invokevirtual 32, 3) := by decide +kernel
theorem dX6_goOn_48 : decode cX6_goOn 48 = .ok (.iload_n 3, 1) := by decide +kernel
theorem dX6_goOn_49 : decode cX6_goOn 49 = .ok (.bipush 10, 2) := by decide +kernel
theorem dX6_goOn_51 : decode cX6_goOn 51 = .ok (.idiv, 1) := by decide +kernel
theorem dX6_goOn_52 : decode cX6_goOn 52 = .ok (.invokevirtual 38, 3) := by decide +kernel
theorem dX6_goOn_55 : decode cX6_goOn 55 = .ok (.iinc 4 1, 3) := by decide +kernel
theorem dX6_goOn_58 : decode cX6_goOn 58 = .ok (.goto (-25), 3) := by decide +kernel
theorem dX6_goOn_61 : decode cX6_goOn 61 = .ok (.aload_n 0, 1) := by decide +kernel
theorem dX6_goOn_62 : decode cX6_goOn 62 = .ok (.iload_n 2, 1) := by decide +kernel
theorem dX6_goOn_63 : decode cX6_goOn 63 = .ok (.aload_n 1, 1) := by decide +kernel
theorem dX6_goOn_64 : decode cX6_goOn 64 = .ok (.iload_n 2, 1) := by decide +kernel
theorem dX6_goOn_65 : decode cX6_goOn 65 = .ok (.invokevirtual 42, 3) := by decide +kernel
theorem dX6_goOn_68 : decode cX6_goOn 68 = .ok (.iconst 4, 1) := by decide +kernel
theorem dX6_goOn_69 : decode cX6_goOn 69 = .ok (.iload_n 3, 1) := by decide +kernel
theorem dX6_goOn_70 : decode cX6_goOn 70 = .ok (.imul, 1) := by decide +kernel
theorem dX6_goOn_71 : decode cX6_goOn 71 = .ok (.bipush 10, 2) := by decide +kernel
theorem dX6_goOn_73 : decode cX6_goOn 73 = .ok (.idiv, 1) := by decide +kernel
theorem dX6_goOn_74 : decode cX6_goOn 74 = .ok (.invokevirtual 38, 3) := by decide +kernel
theorem dX6_goOn_77 : decode cX6_goOn 77 = .ok (.iinc 2 1, 3) := by decide +kernel
theorem dX6_goOn_80 : decode cX6_goOn 80 = .ok (.goto (-63), 3) := by decide +kernel
theorem dX6_goOn_83 : decode cX6_goOn 83 = .ok (.return_, 1) := by decide +kernel
theorem dX6_give_0 : decode cX6_give 0 = .ok (.iload_n 1, 1) := by decide +kernel
theorem dX6_give_1 : decode cX6_give 1 = .ok (.invokestatic 22, 3) := by decide +kernel
theorem dX6_give_4 : decode cX6_give 4 = .ok (.ifCond .eq 30, 3) := by decide +kernel
theorem dX6_give_7 : decode cX6_give 7 = .ok (.iload_n 2, 1) := by decide +kernel
theorem dX6_give_8 : decode cX6_give 8 = .ok (.invokestatic 22, 3) := by decide +kernel
theorem dX6_give_11 : decode cX6_give 11 = .ok (.ifCond .eq 23, 3) := by decide +kernel
theorem dX6_give_14 : decode cX6_give 14 = .ok (.aload_n 0, 1) := by decide +kernel
theorem dX6_give_15 : decode cX6_give 15 = .ok (.getfield 9, 3) := by decide +kernel
theorem dX6_give_18 : decode cX6_give 18 = .ok (.iload_n 1, 1) := by decide +kernel
theorem dX6_give_19 : decode cX6_give 19 = .ok (.dup2, 1) := by decide +kernel
theorem dX6_give_20 : decode cX6_give 20 = .ok (.iaload, 1) := by decide +kernel
theorem dX6_give_21 : decode cX6_give 21 = .ok (.iload_n 3, 1) := by decide +kernel
theorem dX6_give_22 : decode cX6_give 22 = .ok (.isub, 1) := by decide +kernel
theorem dX6_give_23 : decode cX6_give 23 = .ok (.iastore, 1) := by decide +kernel
theorem dX6_give_24 : decode cX6_give 24 = .ok (.aload_n 0, 1) := by decide +kernel
theorem dX6_give_25 : decode cX6_give 25 = .ok (.getfield 9, 3) := by decide +kernel
theorem dX6_give_28 : decode cX6_give 28 = .ok (.iload_n 2, 1) := by decide +kernel
theorem dX6_give_29 : decode cX6_give 29 = .ok (.dup2, 1) := by decide +kernel
theorem dX6_give_30 : decode cX6_give 30 = .ok (.iaload, 1) := by decide +kernel
theorem dX6_give_31 : decode cX6_give 31 = .ok (.iload_n 3, 1) := by decide +kernel
theorem dX6_give_32 : decode cX6_give 32 = .ok (.iadd, 1) := by decide +kernel
theorem dX6_give_33 : decode cX6_give 33 = .ok (.iastore, 1) := by decide +kernel
theorem dX6_give_34 : decode cX6_give 34 = .ok (.return_, 1) := by decide +kernel
theorem dX6_tryLegs_0 : decode cX6_tryLegs 0 = .ok (.aload_n 0, 1) := by decide +kernel
theorem dX6_tryLegs_1 : decode cX6_tryLegs 1 = .ok (.getfield 9, 3) := by decide +kernel
theorem dX6_tryLegs_4 : decode cX6_tryLegs 4 = .ok (.iconst 0, 1) := by decide +kernel
theorem dX6_tryLegs_5 : decode cX6_tryLegs 5 = .ok (.aload_n 0, 1) := by decide +kernel
theorem dX6_tryLegs_6 : decode cX6_tryLegs 6 = .ok (.getfield 15, 3) := by decide +kernel
theorem dX6_tryLegs_9 : decode cX6_tryLegs 9 = .ok (.iconst 0, 1) := by decide +kernel
theorem dX6_tryLegs_10 : decode cX6_tryLegs 10 = .ok (.bipush 60, 2) := by decide +kernel
theorem dX6_tryLegs_12 : decode cX6_tryLegs 12 = .ok (.invokestatic 26, 3) := by decide +kernel
theorem dX6_tryLegs_15 : decode cX6_tryLegs 15 = .ok (.iconst 0, 1) := by decide +kernel
theorem dX6_tryLegs_16 : decode cX6_tryLegs 16 = .ok (.istore_n 3, 1) := by decide +kernel
theorem dX6_tryLegs_17 : decode cX6_tryLegs 17 = .ok (.iconst 0, 1) := by decide +kernel
theorem dX6_tryLegs_18 : decode cX6_tryLegs 18 = .ok (.istore 4, 2) := by decide +kernel
theorem dX6_tryLegs_20 : decode cX6_tryLegs 20 = .ok (.iload 4, 2) := by decide +kernel
theorem dX6_tryLegs_22 : decode cX6_tryLegs 22 = .ok (.iload_n 1, 1) := by decide +kernel
theorem dX6_tryLegs_23 : decode cX6_tryLegs 23 = .ok (.if_icmp .ge 27, 3) := by decide +kernel
theorem dX6_tryLegs_26 : decode cX6_tryLegs 26 = .ok (.iload_n 3, 1) := by decide +kernel
theorem dX6_tryLegs_27 : decode cX6_tryLegs 27 = .ok (.aload_n 0, 1) := by decide +kernel
theorem dX6_tryLegs_28 : decode cX6_tryLegs 28 = .ok (.getfield 15, 3) := by decide +kernel
theorem dX6_tryLegs_31 : decode cX6_tryLegs 31 = .ok (.aload_n 0, 1) := by decide +kernel
theorem dX6_tryLegs_32 : decode cX6_tryLegs 32 = .ok (.getfield 15, 3) := by decide +kernel
theorem dX6_tryLegs_35 : decode cX6_tryLegs 35 = .ok (.invokestatic 46, 3) := by decide +kernel
theorem dX6_tryLegs_38 : decode cX6_tryLegs 38 = .ok (.iload_n 2, 1) := by decide +kernel
theorem dX6_tryLegs_39 : decode cX6_tryLegs 39 = .ok (.invokestatic 50, 3) := by decide +kernel
theorem dX6_tryLegs_42 : decode cX6_tryLegs 42 = .ok (.iadd, 1) := by decide +kernel
theorem dX6_tryLegs_43 : decode cX6_tryLegs 43 = .ok (.istore_n 3, 1) := by decide +kernel
theorem dX6_tryLegs_44 : decode cX6_tryLegs 44 = .ok (.iinc 4 1, 3) := by decide +kernel
theorem dX6_tryLegs_47 : decode cX6_tryLegs 47 = .ok (.goto (-27), 3) := by decide +kernel
theorem dX6_tryLegs_50 : decode cX6_tryLegs 50 = .ok (.iload_n 3, 1) := by decide +kernel
theorem dX6_tryLegs_51 : decode cX6_tryLegs 51 = .ok (.ireturn, 1) := by decide +kernel
theorem dX6_lookAt_0 : decode cX6_lookAt 0 = .ok (.iload_n 1, 1) := by decide +kernel
theorem dX6_lookAt_1 : decode cX6_lookAt 1 = .ok (.aload_n 0, 1) := by decide +kernel
theorem dX6_lookAt_2 : decode cX6_lookAt 2 = .ok (.arraylength, 1) := by decide +kernel
theorem dX6_lookAt_3 : decode cX6_lookAt 3 = .ok (.invokestatic 54, 3) := by decide +kernel
theorem dX6_lookAt_6 : decode cX6_lookAt 6 = .ok (.ifCond .ne 5, 3) := by decide +kernel
theorem dX6_lookAt_9 : decode cX6_lookAt 9 = .ok (.iconst 0, 1) := by decide +kernel
theorem dX6_lookAt_10 : decode cX6_lookAt 10 = .ok (.ireturn, 1) := by decide +kernel
theorem dX6_lookAt_11 : decode cX6_lookAt 11 = .ok (.aload_n 0, 1) := by decide +kernel
theorem dX6_lookAt_12 : decode cX6_lookAt 12 = .ok (.iload_n 1, 1) := by decide +kernel
theorem dX6_lookAt_13 : decode cX6_lookAt 13 = .ok (.iaload, 1) := by decide +kernel
theorem dX6_lookAt_14 : decode cX6_lookAt 14 = .ok (.iload_n 2, 1) := by decide +kernel
theorem dX6_lookAt_15 : decode cX6_lookAt 15 = .ok (.imul, 1) := by decide +kernel
theorem dX6_lookAt_16 : decode cX6_lookAt 16 = .ok (.bipush 100, 2) := by decide +kernel
theorem dX6_lookAt_18 : decode cX6_lookAt 18 = .ok (.idiv, 1) := by decide +kernel
theorem dX6_lookAt_19 : decode cX6_lookAt 19 = .ok (.istore_n 3, 1) := by decide +kernel
theorem dX6_lookAt_20 : decode cX6_lookAt 20 = .ok (.aload_n 0, 1) := by decide +kernel
theorem dX6_lookAt_21 : decode cX6_lookAt 21 = .ok (.iload_n 1, 1) := by decide +kernel
theorem dX6_lookAt_22 : decode cX6_lookAt 22 = .ok (.dup2, 1) := by decide +kernel
theorem dX6_lookAt_23 : decode cX6_lookAt 23 = .ok (.iaload, 1) := by decide +kernel
theorem dX6_lookAt_24 : decode cX6_lookAt 24 = .ok (.iload_n 3, 1) := by decide +kernel
theorem dX6_lookAt_25 : decode cX6_lookAt 25 = .ok (.isub, 1) := by decide +kernel
theorem dX6_lookAt_26 : decode cX6_lookAt 26 = .ok (.iastore, 1) := by decide +kernel
theorem dX6_lookAt_27 : decode cX6_lookAt 27 = .ok (.iload_n 3, 1) := by decide +kernel
theorem dX6_lookAt_28 : decode cX6_lookAt 28 = .ok (.ireturn, 1) := by decide +kernel
theorem dX6_bestOf_0 : decode cX6_bestOf 0 = .ok (.iconst 0, 1) := by decide +kernel
theorem dX6_bestOf_1 : decode cX6_bestOf 1 = .ok (.istore_n 1, 1) := by decide +kernel
theorem dX6_bestOf_2 : decode cX6_bestOf 2 = .ok (.iconst 1, 1) := by decide +kernel
theorem dX6_bestOf_3 : decode cX6_bestOf 3 = .ok (.istore_n 2, 1) := by decide +kernel
theorem dX6_bestOf_4 : decode cX6_bestOf 4 = .ok (.iload_n 2, 1) := by decide +kernel
theorem dX6_bestOf_5 : decode cX6_bestOf 5 = .ok (.aload_n 0, 1) := by decide +kernel
theorem dX6_bestOf_6 : decode cX6_bestOf 6 = .ok (.arraylength, 1) := by decide +kernel
theorem dX6_bestOf_7 : decode cX6_bestOf 7 = .ok (.if_icmp .ge 20, 3) := by decide +kernel
theorem dX6_bestOf_10 : decode cX6_bestOf 10 = .ok (.aload_n 0, 1) := by decide +kernel
theorem dX6_bestOf_11 : decode cX6_bestOf 11 = .ok (.iload_n 2, 1) := by decide +kernel
theorem dX6_bestOf_12 : decode cX6_bestOf 12 = .ok (.iaload, 1) := by decide +kernel
theorem dX6_bestOf_13 : decode cX6_bestOf 13 = .ok (.aload_n 0, 1) := by decide +kernel
theorem dX6_bestOf_14 : decode cX6_bestOf 14 = .ok (.iload_n 1, 1) := by decide +kernel
theorem dX6_bestOf_15 : decode cX6_bestOf 15 = .ok (.iaload, 1) := by decide +kernel
theorem dX6_bestOf_16 : decode cX6_bestOf 16 = .ok (.if_icmp .le 5, 3) := by decide +kernel
theorem dX6_bestOf_19 : decode cX6_bestOf 19 = .ok (.iload_n 2, 1) := by decide +kernel
theorem dX6_bestOf_20 : decode cX6_bestOf 20 = .ok (.istore_n 1, 1) := by decide +kernel
theorem dX6_bestOf_21 : decode cX6_bestOf 21 = .ok (.iinc 2 1, 3) := by decide +kernel
theorem dX6_bestOf_24 : decode cX6_bestOf 24 = .ok (.goto (-20), 3) := by decide +kernel
theorem dX6_bestOf_27 : decode cX6_bestOf 27 = .ok (.iload_n 1, 1) := by decide +kernel
theorem dX6_bestOf_28 : decode cX6_bestOf 28 = .ok (.ireturn, 1) := by decide +kernel
theorem dX7_init_0 : decode cX7_init 0 = .ok (.aload_n 0, 1) := by decide +kernel
theorem dX7_init_1 : decode cX7_init 1 = .ok (.invokespecial 3, 3) := by decide +kernel
theorem dX7_init_4 : decode cX7_init 4 = .ok (.aload_n 0, 1) := by decide +kernel
theorem dX7_init_5 : decode cX7_init 5 = .ok (.bipush 30, 2) := by decide +kernel
theorem dX7_init_7 : decode cX7_init 7 = .ok (.newarray .int, 2) := by decide +kernel
theorem dX7_init_9 : decode cX7_init 9 = .ok (.putfield 9, 3) := by decide +kernel
theorem dX7_init_12 : decode cX7_init 12 = .ok (.aload_n 0, 1) := by decide +kernel
theorem dX7_init_13 : decode cX7_init 13 = .ok (.bipush 20, 2) := by decide +kernel
theorem dX7_init_15 : decode cX7_init 15 = .ok (.newarray .int, 2) := by decide +kernel
theorem dX7_init_17 : decode cX7_init 17 = .ok (.putfield 15, 3) := by decide +kernel
theorem dX7_init_20 : decode cX7_init 20 = .ok (.aload_n 0, 1) := by decide +kernel
theorem dX7_init_21 : decode cX7_init 21 = .ok (.bipush 20, 2) := by decide +kernel
theorem dX7_init_23 : decode cX7_init 23 = .ok (.newarray .int, 2) := by decide +kernel
theorem dX7_init_25 : decode cX7_init 25 = .ok (.putfield 18, 3) := by decide +kernel
theorem dX7_init_28 : decode cX7_init 28 = .ok (.return_, 1) := by decide +kernel
theorem dX7_stationOf_0 : decode cX7_stationOf 0 = .ok (.iload_n 0, 1) := by decide +kernel
theorem dX7_stationOf_1 : decode cX7_stationOf 1 = .ok (.bipush 60, 2) := by decide +kernel
theorem dX7_stationOf_3 : decode cX7_stationOf 3 = .ok (.imul, 1) := by decide +kernel
theorem dX7_stationOf_4 : decode cX7_stationOf 4 = .ok (.iload_n 1, 1) := by decide +kernel
theorem dX7_stationOf_5 : decode cX7_stationOf 5 = .ok (.iadd, 1) := by decide +kernel
theorem dX7_stationOf_6 : decode cX7_stationOf 6 = .ok (.ireturn, 1) := by decide +kernel
theorem dX7_dayOf_0 : decode cX7_dayOf 0 = .ok (.iload_n 0, 1) := by decide +kernel
theorem dX7_dayOf_1 : decode cX7_dayOf 1 = .ok (.bipush 60, 2) := by decide +kernel
theorem dX7_dayOf_3 : decode cX7_dayOf 3 = .ok (.idiv, 1) := by decide +kernel
theorem dX7_dayOf_4 : decode cX7_dayOf 4 = .ok (.ireturn, 1) := by decide +kernel
theorem dX7_cellOf_0 : decode cX7_cellOf 0 = .ok (.iload_n 1, 1) := by decide +kernel
theorem dX7_cellOf_1 : decode cX7_cellOf 1 = .ok (.aload_n 0, 1) := by decide +kernel
theorem dX7_cellOf_2 : decode cX7_cellOf 2 = .ok (.getfield 9, 3) := by decide +kernel
theorem dX7_cellOf_5 : decode cX7_cellOf 5 = .ok (.arraylength, 1) := by decide +kernel
theorem dX7_cellOf_6 : decode cX7_cellOf 6 = .ok (.invokestatic 21, 3) := by decide +kernel
theorem dX7_cellOf_9 : decode cX7_cellOf 9 = .ok (.ifCond .eq 15, 3) := by decide +kernel
theorem dX7_cellOf_12 : decode cX7_cellOf 12 = .ok (.aload_n 0, 1) := by decide +kernel
theorem dX7_cellOf_13 : decode cX7_cellOf 13 = .ok (.getfield 9, 3) := by decide +kernel
theorem dX7_cellOf_16 : decode cX7_cellOf 16 = .ok (.iload_n 1, 1) := by decide +kernel
theorem dX7_cellOf_17 : decode cX7_cellOf 17 = .ok (.iaload, 1) := by decide +kernel
theorem dX7_cellOf_18 : decode cX7_cellOf 18 = .ok (.bipush 60, 2) := by decide +kernel
theorem dX7_cellOf_20 : decode cX7_cellOf 20 = .ok (.irem, 1) := by decide +kernel
theorem dX7_cellOf_21 : decode cX7_cellOf 21 = .ok (.goto 4, 3) := by decide +kernel
theorem dX7_cellOf_24 : decode cX7_cellOf 24 = .ok (.iconst 0, 1) := by decide +kernel
theorem dX7_cellOf_25 : decode cX7_cellOf 25 = .ok (.ireturn, 1) := by decide +kernel
theorem dX7_hasStation_0 : decode cX7_hasStation 0 = .ok (.iload_n 1, 1) := by decide +kernel
theorem dX7_hasStation_1 : decode cX7_hasStation 1 = .ok (.iload_n 2, 1) := by decide +kernel
theorem dX7_hasStation_2 : decode cX7_hasStation 2 = .ok (.invokestatic 25, 3) := by decide +kernel
theorem dX7_hasStation_5 : decode cX7_hasStation 5 = .ok (.istore_n 3, 1) := by decide +kernel
theorem dX7_hasStation_6 : decode cX7_hasStation 6 = .ok (.iconst 0, 1) := by decide +kernel
theorem dX7_hasStation_7 : decode cX7_hasStation 7 = .ok (.istore 4, 2) := by decide +kernel
theorem dX7_hasStation_9 : decode cX7_hasStation 9 = .ok (.iload 4, 2) := by decide +kernel
theorem dX7_hasStation_11 : decode cX7_hasStation 11 = .ok (.aload_n 0, 1) := by decide +kernel
theorem dX7_hasStation_12 : decode cX7_hasStation 12 = .ok (.getfield 29, 3) := by decide +kernel
theorem dX7_hasStation_15 : decode cX7_hasStation 15 = .ok (.if_icmp .ge 32, 3) := by decide +kernel
theorem dX7_hasStation_18 : decode cX7_hasStation 18 = .ok (.iload 4, 2) := by decide +kernel
theorem dX7_hasStation_20 : decode cX7_hasStation 20 = .ok (.aload_n 0, 1) := by decide +kernel
theorem dX7_hasStation_21 : decode cX7_hasStation 21 = .ok (.getfield 9, 3) := by decide +kernel
theorem dX7_hasStation_24 : decode cX7_hasStation 24 = .ok (.arraylength, 1) := by decide +kernel
theorem dX7_hasStation_25 : decode cX7_hasStation 25 = .ok (.if_icmp .ge 22, 3) := by decide +kernel
theorem dX7_hasStation_28 : decode cX7_hasStation 28 = .ok (.aload_n 0, 1) := by decide +kernel
theorem dX7_hasStation_29 : decode cX7_hasStation 29 = .ok (.getfield 9, 3) := by decide +kernel
theorem dX7_hasStation_32 : decode cX7_hasStation 32 = .ok (.iload 4, 2) := by decide +kernel
theorem dX7_hasStation_34 : decode cX7_hasStation 34 = .ok (.iaload, 1) := by decide +kernel
theorem dX7_hasStation_35 : decode cX7_hasStation 35 = .ok (.iload_n 3, 1) := by decide +kernel
theorem dX7_hasStation_36 : decode cX7_hasStation 36 = .ok (.if_icmp .ne 5, 3) := by decide +kernel
theorem dX7_hasStation_39 : decode cX7_hasStation 39 = .ok (.iconst 1, 1) := by decide +kernel
theorem dX7_hasStation_40 : decode cX7_hasStation 40 = .ok (.ireturn, 1) := by decide +kernel
theorem dX7_hasStation_41 : decode cX7_hasStation 41 = .ok (.iinc 4 1, 3) := by decide +kernel
theorem dX7_hasStation_44 : decode cX7_hasStation 44 = .ok (.goto (-35), 3) := by decide +kernel
theorem dX7_hasStation_47 : decode cX7_hasStation 47 = .ok (.iconst 0, 1) := by decide +kernel
theorem dX7_hasStation_48 : decode cX7_hasStation 48 = .ok (.ireturn, 1) := by decide +kernel
theorem dX7_hasStationIn_0 : decode cX7_hasStationIn 0 = .ok (.iconst 0, 1) := by decide +kernel
theorem dX7_hasStationIn_1 : decode cX7_hasStationIn 1 = .ok (.istore_n 2, 1) := by decide +kernel
theorem dX7_hasStationIn_2 : decode cX7_hasStationIn 2 = .ok (.iload_n 2, 1) := by decide +kernel
theorem dX7_hasStationIn_3 : decode cX7_hasStationIn 3 = .ok (.aload_n 0, 1) := by decide +kernel
theorem dX7_hasStationIn_4 : decode cX7_hasStationIn 4 = .ok (.getfield 29, 3) := by decide +kernel
theorem dX7_hasStationIn_7 : decode cX7_hasStationIn 7 = .ok (.if_icmp .ge 29, 3) := by decide +kernel
theorem dX7_hasStationIn_10 : decode cX7_hasStationIn 10 = .ok (.iload_n 2, 1) := by decide +kernel
theorem dX7_hasStationIn_11 : decode cX7_hasStationIn 11 = .ok (.aload_n 0, 1) := by decide +kernel
theorem dX7_hasStationIn_12 : decode cX7_hasStationIn 12 = .ok (.getfield 9, 3) := by decide +kernel
theorem dX7_hasStationIn_15 : decode cX7_hasStationIn 15 = .ok (.arraylength, 1) := by decide +kernel
theorem dX7_hasStationIn_16 : decode cX7_hasStationIn 16 = .ok (.if_icmp .ge 20, 3) := by decide +kernel
theorem dX7_hasStationIn_19 : decode cX7_hasStationIn 19 = .ok (.aload_n 0, 1) := by decide +kernel
theorem dX7_hasStationIn_20 : decode cX7_hasStationIn 20 = .ok (.iload_n 2, 1) := by decide +kernel
theorem dX7_hasStationIn_21 : decode cX7_hasStationIn 21 = .ok (.invokevirtual 33, 3) := by decide +kernel
theorem dX7_hasStationIn_24 : decode cX7_hasStationIn 24 = .ok (.iload_n 1, 1) := by decide +kernel
theorem dX7_hasStationIn_25 : decode cX7_hasStationIn 25 = .ok (.if_icmp .ne 5, 3) := by decide +kernel
theorem dX7_hasStationIn_28 : decode cX7_hasStationIn 28 = .ok (.iconst 1, 1) := by decide +kernel
theorem dX7_hasStationIn_29 : decode cX7_hasStationIn 29 = .ok (.ireturn, 1) := by decide +kernel
theorem dX7_hasStationIn_30 : decode cX7_hasStationIn 30 = .ok (.iinc 2 1, 3) := by decide +kernel
theorem dX7_hasStationIn_33 : decode cX7_hasStationIn 33 = .ok (.goto (-31), 3) := by decide +kernel
theorem dX7_hasStationIn_36 : decode cX7_hasStationIn 36 = .ok (.iconst 0, 1) := by decide +kernel
theorem dX7_hasStationIn_37 : decode cX7_hasStationIn 37 = .ok (.ireturn, 1) := by decide +kernel
theorem dX7_areAllStationsTold_0 : decode cX7_areAllStationsTold 0 = .ok (.aload_n 0, 1) := by decide +kernel
theorem dX7_areAllStationsTold_1 : decode cX7_areAllStationsTold 1 = .ok (.getfield 29, 3) := by decide +kernel
theorem dX7_areAllStationsTold_4 : decode cX7_areAllStationsTold 4 = .ok (.aload_n 0, 1) := by decide +kernel
theorem dX7_areAllStationsTold_5 : decode cX7_areAllStationsTold 5 = .ok (.getfield 9, 3) := by decide +kernel
theorem dX7_areAllStationsTold_8 : decode cX7_areAllStationsTold 8 = .ok (.arraylength, 1) := by decide +kernel
theorem dX7_areAllStationsTold_9 : decode cX7_areAllStationsTold 9 = .ok (.invokestatic 21, 3) := by decide +kernel
theorem dX7_areAllStationsTold_12 : decode cX7_areAllStationsTold 12 = .ok (.ifCond .ne 7, 3) := by decide +kernel
theorem dX7_areAllStationsTold_15 : decode cX7_areAllStationsTold 15 = .ok (.iconst 1, 1) := by decide +kernel
theorem dX7_areAllStationsTold_16 : decode cX7_areAllStationsTold 16 = .ok (.goto 4, 3) := by decide +kernel
theorem dX7_areAllStationsTold_19 : decode cX7_areAllStationsTold 19 = .ok (.iconst 0, 1) := by decide +kernel
theorem dX7_areAllStationsTold_20 : decode cX7_areAllStationsTold 20 = .ok (.ireturn, 1) := by decide +kernel
theorem dX7_tellStation_0 : decode cX7_tellStation 0 = .ok (.aload_n 0, 1) := by decide +kernel
theorem dX7_tellStation_1 : decode cX7_tellStation 1 = .ok (.invokevirtual 37, 3) := by decide +kernel
theorem dX7_tellStation_4 : decode cX7_tellStation 4 = .ok (.ifCond .eq 8, 3) := by decide +kernel
theorem dX7_tellStation_7 : decode cX7_tellStation 7 = .ok (.aload_n 0, 1) := by decide +kernel
theorem dX7_tellStation_8 : decode cX7_tellStation 8 = .ok (.getfield 29, 3) := by decide +kernel
theorem dX7_tellStation_11 : decode cX7_tellStation 11 = .ok (.ireturn, 1) := by decide +kernel
theorem dX7_tellStation_12 : decode cX7_tellStation 12 = .ok (.iload_n 1, 1) := by decide +kernel
theorem dX7_tellStation_13 : decode cX7_tellStation 13 = .ok (.iload_n 2, 1) := by decide +kernel
theorem dX7_tellStation_14 : decode cX7_tellStation 14 = .ok (.invokestatic 25, 3) := by decide +kernel
theorem dX7_tellStation_17 : decode cX7_tellStation 17 = .ok (.istore_n 3, 1) := by decide +kernel
theorem dX7_tellStation_18 : decode cX7_tellStation 18 = .ok (.aload_n 0, 1) := by decide +kernel
theorem dX7_tellStation_19 : decode cX7_tellStation 19 = .ok (.getfield 29, 3) := by decide +kernel
theorem dX7_tellStation_22 : decode cX7_tellStation 22 = .ok (.istore 4, 2) := by decide +kernel
theorem dX7_tellStation_24 : decode cX7_tellStation 24 = .ok (.iload 4, 2) := by decide +kernel
theorem dX7_tellStation_26 : decode cX7_tellStation 26 = .ok (.ifCond .le 38, 3) := by decide +kernel
theorem dX7_tellStation_29 : decode cX7_tellStation 29 = .ok (.aload_n 0, 1) := by decide +kernel
theorem dX7_tellStation_30 : decode cX7_tellStation 30 = .ok (.getfield 9, 3) := by decide +kernel
theorem dX7_tellStation_33 : decode cX7_tellStation 33 = .ok (.iload 4, 2) := by decide +kernel
theorem dX7_tellStation_35 : decode cX7_tellStation 35 = .ok (.iconst 1, 1) := by decide +kernel
theorem dX7_tellStation_36 : decode cX7_tellStation 36 = .ok (.isub, 1) := by decide +kernel
theorem dX7_tellStation_37 : decode cX7_tellStation 37 = .ok (.iaload, 1) := by decide +kernel
theorem dX7_tellStation_38 : decode cX7_tellStation 38 = .ok (.iload_n 3, 1) := by decide +kernel
theorem dX7_tellStation_39 : decode cX7_tellStation 39 = .ok (.if_icmp .le 25, 3) := by decide +kernel
theorem dX7_tellStation_42 : decode cX7_tellStation 42 = .ok (.aload_n 0, 1) := by decide +kernel
theorem dX7_tellStation_43 : decode cX7_tellStation 43 = .ok (.getfield 9, 3) := by decide +kernel
theorem dX7_tellStation_46 : decode cX7_tellStation 46 = .ok (.iload 4, 2) := by decide +kernel
theorem dX7_tellStation_48 : decode cX7_tellStation 48 = .ok (.aload_n 0, 1) := by decide +kernel
theorem dX7_tellStation_49 : decode cX7_tellStation 49 = .ok (.getfield 9, 3) := by decide +kernel
theorem dX7_tellStation_52 : decode cX7_tellStation 52 = .ok (.iload 4, 2) := by decide +kernel
theorem dX7_tellStation_54 : decode cX7_tellStation 54 = .ok (.iconst 1, 1) := by decide +kernel
theorem dX7_tellStation_55 : decode cX7_tellStation 55 = .ok (.isub, 1) := by decide +kernel
theorem dX7_tellStation_56 : decode cX7_tellStation 56 = .ok (.iaload, 1) := by decide +kernel
theorem dX7_tellStation_57 : decode cX7_tellStation 57 = .ok (.iastore, 1) := by decide +kernel
theorem dX7_tellStation_58 : decode cX7_tellStation 58 = .ok (.iinc 4 (-1), 3) := by decide +kernel
theorem dX7_tellStation_61 : decode cX7_tellStation 61 = .ok (.goto (-37), 3) := by decide +kernel
theorem dX7_tellStation_64 : decode cX7_tellStation 64 = .ok (.aload_n 0, 1) := by decide +kernel
theorem dX7_tellStation_65 : decode cX7_tellStation 65 = .ok (.getfield 9, 3) := by decide +kernel
theorem dX7_tellStation_68 : decode cX7_tellStation 68 = .ok (.iload 4, 2) := by decide +kernel
theorem dX7_tellStation_70 : decode cX7_tellStation 70 = .ok (.iload_n 3, 1) := by decide +kernel
theorem dX7_tellStation_71 : decode cX7_tellStation 71 = .ok (.iastore, 1) := by decide +kernel
theorem dX7_tellStation_72 : decode cX7_tellStation 72 = .ok (.aload_n 0, 1) := by decide +kernel
theorem dX7_tellStation_73 : decode cX7_tellStation 73 = .ok (.dup, 1) := by decide +kernel
theorem dX7_tellStation_74 : decode cX7_tellStation 74 = .ok (.getfield 29, 3) := by decide +kernel
theorem dX7_tellStation_77 : decode cX7_tellStation 77 = .ok (.iconst 1, 1) := by decide +kernel
theorem dX7_tellStation_78 : decode cX7_tellStation 78 = .ok (.iadd, 1) := by decide +kernel
theorem dX7_tellStation_79 : decode cX7_tellStation 79 = .ok (.putfield 29, 3) := by decide +kernel
theorem dX7_tellStation_82 : decode cX7_tellStation 82 = .ok (.aload_n 0, 1) := by decide +kernel
theorem dX7_tellStation_83 : decode cX7_tellStation 83 = .ok (.getfield 29, 3) := by decide +kernel
theorem dX7_tellStation_86 : decode cX7_tellStation 86 = .ok (.ireturn, 1) := by decide +kernel
theorem dX7_countDue_0 : decode cX7_countDue 0 = .ok (.iconst 0, 1) := by decide +kernel
theorem dX7_countDue_1 : decode cX7_countDue 1 = .ok (.istore_n 2, 1) := by decide +kernel
theorem dX7_countDue_2 : decode cX7_countDue 2 = .ok (.iload_n 2, 1) := by decide +kernel
theorem dX7_countDue_3 : decode cX7_countDue 3 = .ok (.aload_n 0, 1) := by decide +kernel
theorem dX7_countDue_4 : decode cX7_countDue 4 = .ok (.getfield 29, 3) := by decide +kernel
theorem dX7_countDue_7 : decode cX7_countDue 7 = .ok (.if_icmp .ge 31, 3) := by decide +kernel
theorem dX7_countDue_10 : decode cX7_countDue 10 = .ok (.iload_n 2, 1) := by decide +kernel
theorem dX7_countDue_11 : decode cX7_countDue 11 = .ok (.aload_n 0, 1) := by decide +kernel
theorem dX7_countDue_12 : decode cX7_countDue 12 = .ok (.getfield 9, 3) := by decide +kernel
theorem dX7_countDue_15 : decode cX7_countDue 15 = .ok (.arraylength, 1) := by decide +kernel
theorem dX7_countDue_16 : decode cX7_countDue 16 = .ok (.if_icmp .ge 22, 3) := by decide +kernel
theorem dX7_countDue_19 : decode cX7_countDue 19 = .ok (.aload_n 0, 1) := by decide +kernel
theorem dX7_countDue_20 : decode cX7_countDue 20 = .ok (.getfield 9, 3) := by decide +kernel
theorem dX7_countDue_23 : decode cX7_countDue 23 = .ok (.iload_n 2, 1) := by decide +kernel
theorem dX7_countDue_24 : decode cX7_countDue 24 = .ok (.iaload, 1) := by decide +kernel
theorem dX7_countDue_25 : decode cX7_countDue 25 = .ok (.invokestatic 41, 3) := by decide +kernel
theorem dX7_countDue_28 : decode cX7_countDue 28 = .ok (.iload_n 1, 1) := by decide +kernel
theorem dX7_countDue_29 : decode cX7_countDue 29 = .ok (.if_icmp .gt 9, 3) := by decide +kernel
theorem dX7_countDue_32 : decode cX7_countDue 32 = .ok (.iinc 2 1, 3) := by decide +kernel
theorem dX7_countDue_35 : decode cX7_countDue 35 = .ok (.goto (-33), 3) := by decide +kernel
theorem dX7_countDue_38 : decode cX7_countDue 38 = .ok (.iload_n 2, 1) := by decide +kernel
theorem dX7_countDue_39 : decode cX7_countDue 39 = .ok (.ireturn, 1) := by decide +kernel
theorem dX7_dropFirst_0 : decode cX7_dropFirst 0 = .ok (.iload_n 1, 1) := by decide +kernel
theorem dX7_dropFirst_1 : decode cX7_dropFirst 1 = .ok (.ifCond .le 23, 3) := by decide +kernel
theorem dX7_dropFirst_4 : decode cX7_dropFirst 4 = .ok (.iload_n 1, 1) := by decide +kernel
theorem dX7_dropFirst_5 : decode cX7_dropFirst 5 = .ok (.aload_n 0, 1) := by decide +kernel
theorem dX7_dropFirst_6 : decode cX7_dropFirst 6 = .ok (.getfield 29, 3) := by decide +kernel
theorem dX7_dropFirst_9 : decode cX7_dropFirst 9 = .ok (.if_icmp .gt 15, 3) := by decide +kernel
theorem dX7_dropFirst_12 : decode cX7_dropFirst 12 = .ok (.aload_n 0, 1) := by decide +kernel
theorem dX7_dropFirst_13 : decode cX7_dropFirst 13 = .ok (.getfield 29, 3) := by decide +kernel
theorem dX7_dropFirst_16 : decode cX7_dropFirst 16 = .ok (.aload_n 0, 1) := by decide +kernel
theorem dX7_dropFirst_17 : decode cX7_dropFirst 17 = .ok (.getfield 9, 3) := by decide +kernel
theorem dX7_dropFirst_20 : decode cX7_dropFirst 20 = .ok (.arraylength, 1) := by decide +kernel
theorem dX7_dropFirst_21 : decode cX7_dropFirst 21 = .ok (.if_icmp .le 4, 3) := by decide +kernel
theorem dX7_dropFirst_24 : decode cX7_dropFirst 24 = .ok (.return_, 1) := by decide +kernel
theorem dX7_dropFirst_25 : decode cX7_dropFirst 25 = .ok (.aload_n 0, 1) := by decide +kernel
theorem dX7_dropFirst_26 : decode cX7_dropFirst 26 = .ok (.dup, 1) := by decide +kernel
theorem dX7_dropFirst_27 : decode cX7_dropFirst 27 = .ok (.getfield 29, 3) := by decide +kernel
theorem dX7_dropFirst_30 : decode cX7_dropFirst 30 = .ok (.iload_n 1, 1) := by decide +kernel
theorem dX7_dropFirst_31 : decode cX7_dropFirst 31 = .ok (.isub, 1) := by decide +kernel
theorem dX7_dropFirst_32 : decode cX7_dropFirst 32 = .ok (.putfield 29, 3) := by decide +kernel
theorem dX7_dropFirst_35 : decode cX7_dropFirst 35 = .ok (.aload_n 0, 1) := by decide +kernel
theorem dX7_dropFirst_36 : decode cX7_dropFirst 36 = .ok (.getfield 9, 3) := by decide +kernel
theorem dX7_dropFirst_39 : decode cX7_dropFirst 39 = .ok (.iload_n 1, 1) := by decide +kernel
theorem dX7_dropFirst_40 : decode cX7_dropFirst 40 = .ok (.aload_n 0, 1) := by decide +kernel
theorem dX7_dropFirst_41 : decode cX7_dropFirst 41 = .ok (.getfield 9, 3) := by decide +kernel
theorem dX7_dropFirst_44 : decode cX7_dropFirst 44 = .ok (.iconst 0, 1) := by decide +kernel
theorem dX7_dropFirst_45 : decode cX7_dropFirst 45 = .ok (.aload_n 0, 1) := by decide +kernel
theorem dX7_dropFirst_46 : decode cX7_dropFirst 46 = .ok (.getfield 29, 3) := by decide +kernel
theorem dX7_dropFirst_49 : decode cX7_dropFirst 49 = .ok (.invokestatic 44, 3) := by decide +kernel
theorem dX7_dropFirst_52 : decode cX7_dropFirst 52 = .ok (.return_, 1) := by decide +kernel
theorem dX7_areAllStormsTold_0 : decode cX7_areAllStormsTold 0 = .ok (.aload_n 0, 1) := by decide +kernel
theorem dX7_areAllStormsTold_1 : decode cX7_areAllStormsTold 1 = .ok (.getfield 50, 3) := by decide +kernel
theorem dX7_areAllStormsTold_4 : decode cX7_areAllStormsTold 4 = .ok (.bipush 20, 2) := by decide +kernel
theorem dX7_areAllStormsTold_6 : decode cX7_areAllStormsTold 6 = .ok (.invokestatic 21, 3) := by decide +kernel
theorem dX7_areAllStormsTold_9 : decode cX7_areAllStormsTold 9 = .ok (.ifCond .ne 7, 3) := by decide +kernel
theorem dX7_areAllStormsTold_12 : decode cX7_areAllStormsTold 12 = .ok (.iconst 1, 1) := by decide +kernel
theorem dX7_areAllStormsTold_13 : decode cX7_areAllStormsTold 13 = .ok (.goto 4, 3) := by decide +kernel
theorem dX7_areAllStormsTold_16 : decode cX7_areAllStormsTold 16 = .ok (.iconst 0, 1) := by decide +kernel
theorem dX7_areAllStormsTold_17 : decode cX7_areAllStormsTold 17 = .ok (.ireturn, 1) := by decide +kernel
theorem dX7_tellStorm_0 : decode cX7_tellStorm 0 = .ok (.aload_n 0, 1) := by decide +kernel
theorem dX7_tellStorm_1 : decode cX7_tellStorm 1 = .ok (.invokevirtual 53, 3) := by decide +kernel
theorem dX7_tellStorm_4 : decode cX7_tellStorm 4 = .ok (.ifCond .ne 33, 3) := by decide +kernel
theorem dX7_tellStorm_7 : decode cX7_tellStorm 7 = .ok (.aload_n 0, 1) := by decide +kernel
theorem dX7_tellStorm_8 : decode cX7_tellStorm 8 = .ok (.getfield 15, 3) := by decide +kernel
theorem dX7_tellStorm_11 : decode cX7_tellStorm 11 = .ok (.aload_n 0, 1) := by decide +kernel
theorem dX7_tellStorm_12 : decode cX7_tellStorm 12 = .ok (.getfield 50, 3) := by decide +kernel
theorem dX7_tellStorm_15 : decode cX7_tellStorm 15 = .ok (.iload_n 1, 1) := by decide +kernel
theorem dX7_tellStorm_16 : decode cX7_tellStorm 16 = .ok (.iastore, 1) := by decide +kernel
theorem dX7_tellStorm_17 : decode cX7_tellStorm 17 = .ok (.aload_n 0, 1) := by decide +kernel
theorem dX7_tellStorm_18 : decode cX7_tellStorm 18 = .ok (.getfield 18, 3) := by decide +kernel
theorem dX7_tellStorm_21 : decode cX7_tellStorm 21 = .ok (.aload_n 0, 1) := by decide +kernel
theorem dX7_tellStorm_22 : decode cX7_tellStorm 22 = .ok (.getfield 50, 3) := by decide +kernel
theorem dX7_tellStorm_25 : decode cX7_tellStorm 25 = .ok (.iload_n 2, 1) := by decide +kernel
theorem dX7_tellStorm_26 : decode cX7_tellStorm 26 = .ok (.iastore, 1) := by decide +kernel
theorem dX7_tellStorm_27 : decode cX7_tellStorm 27 = .ok (.aload_n 0, 1) := by decide +kernel
theorem dX7_tellStorm_28 : decode cX7_tellStorm 28 = .ok (.dup, 1) := by decide +kernel
theorem dX7_tellStorm_29 : decode cX7_tellStorm 29 = .ok (.getfield 50, 3) := by decide +kernel
theorem dX7_tellStorm_32 : decode cX7_tellStorm 32 = .ok (.iconst 1, 1) := by decide +kernel
theorem dX7_tellStorm_33 : decode cX7_tellStorm 33 = .ok (.iadd, 1) := by decide +kernel
theorem dX7_tellStorm_34 : decode cX7_tellStorm 34 = .ok (.putfield 50, 3) := by decide +kernel
theorem dX7_tellStorm_37 : decode cX7_tellStorm 37 = .ok (.return_, 1) := by decide +kernel
theorem dX7_hasStorm_0 : decode cX7_hasStorm 0 = .ok (.iconst 0, 1) := by decide +kernel
theorem dX7_hasStorm_1 : decode cX7_hasStorm 1 = .ok (.istore_n 2, 1) := by decide +kernel
theorem dX7_hasStorm_2 : decode cX7_hasStorm 2 = .ok (.iload_n 2, 1) := by decide +kernel
theorem dX7_hasStorm_3 : decode cX7_hasStorm 3 = .ok (.aload_n 0, 1) := by decide +kernel
theorem dX7_hasStorm_4 : decode cX7_hasStorm 4 = .ok (.getfield 50, 3) := by decide +kernel
theorem dX7_hasStorm_7 : decode cX7_hasStorm 7 = .ok (.if_icmp .ge 37, 3) := by decide +kernel
theorem dX7_hasStorm_10 : decode cX7_hasStorm 10 = .ok (.iload_n 2, 1) := by decide +kernel
theorem dX7_hasStorm_11 : decode cX7_hasStorm 11 = .ok (.bipush 20, 2) := by decide +kernel
theorem dX7_hasStorm_13 : decode cX7_hasStorm 13 = .ok (.if_icmp .ge 31, 3) := by decide +kernel
theorem dX7_hasStorm_16 : decode cX7_hasStorm 16 = .ok (.aload_n 0, 1) := by decide +kernel
theorem dX7_hasStorm_17 : decode cX7_hasStorm 17 = .ok (.getfield 15, 3) := by decide +kernel
theorem dX7_hasStorm_20 : decode cX7_hasStorm 20 = .ok (.iload_n 2, 1) := by decide +kernel
theorem dX7_hasStorm_21 : decode cX7_hasStorm 21 = .ok (.iaload, 1) := by decide +kernel
theorem dX7_hasStorm_22 : decode cX7_hasStorm 22 = .ok (.iload_n 1, 1) := by decide +kernel
theorem dX7_hasStorm_23 : decode cX7_hasStorm 23 = .ok (.if_icmp .gt 15, 3) := by decide +kernel
theorem dX7_hasStorm_26 : decode cX7_hasStorm 26 = .ok (.iload_n 1, 1) := by decide +kernel
theorem dX7_hasStorm_27 : decode cX7_hasStorm 27 = .ok (.aload_n 0, 1) := by decide +kernel
theorem dX7_hasStorm_28 : decode cX7_hasStorm 28 = .ok (.getfield 18, 3) := by decide +kernel
theorem dX7_hasStorm_31 : decode cX7_hasStorm 31 = .ok (.iload_n 2, 1) := by decide +kernel
theorem dX7_hasStorm_32 : decode cX7_hasStorm 32 = .ok (.iaload, 1) := by decide +kernel
theorem dX7_hasStorm_33 : decode cX7_hasStorm 33 = .ok (.if_icmp .gt 5, 3) := by decide +kernel
theorem dX7_hasStorm_36 : decode cX7_hasStorm 36 = .ok (.iconst 1, 1) := by decide +kernel
theorem dX7_hasStorm_37 : decode cX7_hasStorm 37 = .ok (.ireturn, 1) := by decide +kernel
theorem dX7_hasStorm_38 : decode cX7_hasStorm 38 = .ok (.iinc 2 1, 3) := by decide +kernel
theorem dX7_hasStorm_41 : decode cX7_hasStorm 41 = .ok (.goto (-39), 3) := by decide +kernel
theorem dX7_hasStorm_44 : decode cX7_hasStorm 44 = .ok (.iconst 0, 1) := by decide +kernel
theorem dX7_hasStorm_45 : decode cX7_hasStorm 45 = .ok (.ireturn, 1) := by decide +kernel
theorem dX7_calmStations_0 : decode cX7_calmStations 0 = .ok (.iconst 0, 1) := by decide +kernel
theorem dX7_calmStations_1 : decode cX7_calmStations 1 = .ok (.istore_n 3, 1) := by decide +kernel
theorem dX7_calmStations_2 : decode cX7_calmStations 2 = .ok (.iconst 0, 1) := by decide +kernel
theorem dX7_calmStations_3 : decode cX7_calmStations 3 = .ok (.istore 4, 2) := by decide +kernel
theorem dX7_calmStations_5 : decode cX7_calmStations 5 = .ok (.iload 4, 2) := by decide +kernel
theorem dX7_calmStations_7 : decode cX7_calmStations 7 = .ok (.aload_n 0, 1) := by decide +kernel
theorem dX7_calmStations_8 : decode cX7_calmStations 8 = .ok (.getfield 29, 3) := by decide +kernel
theorem dX7_calmStations_11 : decode cX7_calmStations 11 = .ok (.if_icmp .ge 55, 3) := by decide +kernel
theorem dX7_calmStations_14 : decode cX7_calmStations 14 = .ok (.iload 4, 2) := by decide +kernel
theorem dX7_calmStations_16 : decode cX7_calmStations 16 = .ok (.aload_n 0, 1) := by decide +kernel
theorem dX7_calmStations_17 : decode cX7_calmStations 17 = .ok (.getfield 9, 3) := by decide +kernel
theorem dX7_calmStations_20 : decode cX7_calmStations 20 = .ok (.arraylength, 1) := by decide +kernel
theorem dX7_calmStations_21 : decode cX7_calmStations 21 = .ok (.if_icmp .ge 45, 3) := by decide +kernel
theorem dX7_calmStations_24 : decode cX7_calmStations 24 = .ok (.aload_n 0, 1) := by decide +kernel
theorem dX7_calmStations_25 : decode cX7_calmStations 25 = .ok (.getfield 9, 3) := by decide +kernel
theorem dX7_calmStations_28 : decode cX7_calmStations 28 = .ok (.iload 4, 2) := by decide +kernel
theorem dX7_calmStations_30 : decode cX7_calmStations 30 = .ok (.iaload, 1) := by decide +kernel
theorem dX7_calmStations_31 : decode cX7_calmStations 31 = .ok (.invokestatic 41, 3) := by decide +kernel
theorem dX7_calmStations_34 : decode cX7_calmStations 34 = .ok (.istore 5, 2) := by decide +kernel
theorem dX7_calmStations_36 : decode cX7_calmStations 36 = .ok (.iload_n 1, 1) := by decide +kernel
theorem dX7_calmStations_37 : decode cX7_calmStations 37 = .ok (.iload 5, 2) := by decide +kernel
theorem dX7_calmStations_39 : decode cX7_calmStations 39 = .ok (.if_icmp .gt 21, 3) := by decide +kernel
theorem dX7_calmStations_42 : decode cX7_calmStations 42 = .ok (.iload 5, 2) := by decide +kernel
theorem dX7_calmStations_44 : decode cX7_calmStations 44 = .ok (.iload_n 2, 1) := by decide +kernel
theorem dX7_calmStations_45 : decode cX7_calmStations 45 = .ok (.if_icmp .gt 15, 3) := by decide +kernel
theorem dX7_calmStations_48 : decode cX7_calmStations 48 = .ok (.aload_n 0, 1) := by decide +kernel
theorem dX7_calmStations_49 : decode cX7_calmStations 49 = .ok (.iload 5, 2) := by decide +kernel
theorem dX7_calmStations_51 : decode cX7_calmStations 51 = .ok (.invokevirtual 56, 3) := by decide +kernel
theorem dX7_calmStations_54 : decode cX7_calmStations 54 = .ok (.ifCond .ne 6, 3) := by decide +kernel
theorem dX7_calmStations_57 : decode cX7_calmStations 57 = .ok (.iinc 3 1, 3) := by decide +kernel
theorem dX7_calmStations_60 : decode cX7_calmStations 60 = .ok (.iinc 4 1, 3) := by decide +kernel
theorem dX7_calmStations_63 : decode cX7_calmStations 63 = .ok (.goto (-58), 3) := by decide +kernel
theorem dX7_calmStations_66 : decode cX7_calmStations 66 = .ok (.iload_n 3, 1) := by decide +kernel
theorem dX7_calmStations_67 : decode cX7_calmStations 67 = .ok (.ireturn, 1) := by decide +kernel
theorem dX8_init_0 : decode cX8_init 0 = .ok (.aload_n 0, 1) := by decide +kernel
theorem dX8_init_1 : decode cX8_init 1 = .ok (.invokespecial 3, 3) := by decide +kernel
theorem dX8_init_4 : decode cX8_init 4 = .ok (.aload_n 0, 1) := by decide +kernel
theorem dX8_init_5 : decode cX8_init 5 = .ok (.new 9, 3) := by decide +kernel
theorem dX8_init_8 : decode cX8_init 8 = .ok (.dup, 1) := by decide +kernel
theorem dX8_init_9 : decode cX8_init 9 = .ok (.invokespecial 11, 3) := by decide +kernel
theorem dX8_init_12 : decode cX8_init 12 = .ok (.putfield 12, 3) := by decide +kernel
theorem dX8_init_15 : decode cX8_init 15 = .ok (.aload_n 0, 1) := by decide +kernel
theorem dX8_init_16 : decode cX8_init 16 = .ok (.bipush 8, 2) := by decide +kernel
theorem dX8_init_18 : decode cX8_init 18 = .ok (.anewarray 16, 3) := by decide +kernel
theorem dX8_init_21 : decode cX8_init 21 = .ok (.putfield 18, 3) := by decide +kernel
theorem dX8_init_24 : decode cX8_init 24 = .ok (.aload_n 0, 1) := by decide +kernel
theorem dX8_init_25 : decode cX8_init 25 = .ok (.new 22, 3) := by decide +kernel
theorem dX8_init_28 : decode cX8_init 28 = .ok (.dup, 1) := by decide +kernel
theorem dX8_init_29 : decode cX8_init 29 = .ok (.invokespecial 24, 3) := by decide +kernel
theorem dX8_init_32 : decode cX8_init 32 = .ok (.putfield 25, 3) := by decide +kernel
theorem dX8_init_35 : decode cX8_init 35 = .ok (.aload_n 0, 1) := by decide +kernel
theorem dX8_init_36 : decode cX8_init 36 = .ok (.new 29, 3) := by decide +kernel
theorem dX8_init_39 : decode cX8_init 39 = .ok (.dup, 1) := by decide +kernel
theorem dX8_init_40 : decode cX8_init 40 = .ok (.invokespecial 31, 3) := by decide +kernel
theorem dX8_init_43 : decode cX8_init 43 = .ok (.putfield 32, 3) := by decide +kernel
theorem dX8_init_46 : decode cX8_init 46 = .ok (.aload_n 0, 1) := by decide +kernel
theorem dX8_init_47 : decode cX8_init 47 = .ok (.iconst 4, 1) := by decide +kernel
theorem dX8_init_48 : decode cX8_init 48 = .ok (.anewarray 36, 3) := by decide +kernel
theorem dX8_init_51 : decode cX8_init 51 = .ok (.putfield 38, 3) := by decide +kernel
theorem dX8_init_54 : decode cX8_init 54 = .ok (.aload_n 0, 1) := by decide +kernel
theorem dX8_init_55 : decode cX8_init 55 = .ok (.bipush 6, 2) := by decide +kernel
theorem dX8_init_57 : decode cX8_init 57 = .ok (.anewarray 42, 3) := by decide +kernel
theorem dX8_init_60 : decode cX8_init 60 = .ok (.putfield 44, 3) := by decide +kernel
theorem dX8_init_63 : decode cX8_init 63 = .ok (.return_, 1) := by decide +kernel
theorem dX8_land_0 : decode cX8_land 0 = .ok (.iload_n 1, 1) := by decide +kernel
theorem dX8_land_1 : decode cX8_land 1 = .ok (.invokestatic 48, 3) := by decide +kernel
theorem dX8_land_4 : decode cX8_land 4 = .ok (.aload_n 0, 1) := by decide +kernel
theorem dX8_land_5 : decode cX8_land 5 = .ok (.getfield 52, 3) := by decide +kernel
theorem dX8_land_8 : decode cX8_land 8 = .ok (.ifCond .ne 22, 3) := by decide +kernel
theorem dX8_land_11 : decode cX8_land 11 = .ok (.aload_n 0, 1) := by decide +kernel
theorem dX8_land_12 : decode cX8_land 12 = .ok (.getfield 12, 3) := by decide +kernel
theorem dX8_land_15 : decode cX8_land 15 = .ok (.iload_n 1, 1) := by decide +kernel
theorem dX8_land_16 : decode cX8_land 16 = .ok (.invokevirtual 56, 3) := by decide +kernel
theorem dX8_land_19 : decode cX8_land 19 = .ok (.ifCond .ne 11, 3) := by decide +kernel
theorem dX8_land_22 : decode cX8_land 22 = .ok (.aload_n 0, 1) := by decide +kernel
theorem dX8_land_23 : decode cX8_land 23 = .ok (.iload_n 1, 1) := by decide +kernel
theorem dX8_land_24 : decode cX8_land 24 = .ok (.invokevirtual 60, 3) := by decide +kernel
theorem dX8_land_27 : decode cX8_land 27 = .ok (.ifCond .eq 13, 3) := by decide +kernel
theorem dX8_land_30 : decode cX8_land 30 = .ok (.new 63, 3) := by decide +kernel
theorem dX8_land_33 : decode cX8_land 33 = .ok (.dup, 1) := by decide +kernel
theorem dX8_land_34 : decode cX8_land 34 = .ok (.ldc 65, 2) := by decide +kernel
theorem dX8_land_36 : decode cX8_land 36 = .ok (.invokespecial 67, 3) := by decide +kernel
theorem dX8_land_39 : decode cX8_land 39 = .ok (.athrow, 1) := by decide +kernel
theorem dX8_land_40 : decode cX8_land 40 = .ok (.aload_n 0, 1) := by decide +kernel
theorem dX8_land_41 : decode cX8_land 41 = .ok (.getfield 12, 3) := by decide +kernel
theorem dX8_land_44 : decode cX8_land 44 = .ok (.iload_n 1, 1) := by decide +kernel
theorem dX8_land_45 : decode cX8_land 45 = .ok (.invokevirtual 70, 3) := by decide +kernel
theorem dX8_land_48 : decode cX8_land 48 = .ok (.ireturn, 1) := by decide +kernel
theorem dX8_current_0 : decode cX8_current 0 = .ok (.iload_n 1, 1) := by decide +kernel
theorem dX8_current_1 : decode cX8_current 1 = .ok (.invokestatic 48, 3) := by decide +kernel
theorem dX8_current_4 : decode cX8_current 4 = .ok (.iload_n 2, 1) := by decide +kernel
theorem dX8_current_5 : decode cX8_current 5 = .ok (.iconst 0, 1) := by decide +kernel
theorem dX8_current_6 : decode cX8_current 6 = .ok (.iconst 4, 1) := by decide +kernel
theorem dX8_current_7 : decode cX8_current 7 = .ok (.invokestatic 74, 3) := by decide +kernel
theorem dX8_current_10 : decode cX8_current 10 = .ok (.aload_n 0, 1) := by decide +kernel
theorem dX8_current_11 : decode cX8_current 11 = .ok (.getfield 12, 3) := by decide +kernel
theorem dX8_current_14 : decode cX8_current 14 = .ok (.getfield 78, 3) := by decide +kernel
theorem dX8_current_17 : decode cX8_current 17 = .ok (.iload_n 1, 1) := by decide +kernel
theorem dX8_current_18 : decode cX8_current 18 = .ok (.iaload, 1) := by decide +kernel
theorem dX8_current_19 : decode cX8_current 19 = .ok (.istore_n 3, 1) := by decide +kernel
theorem dX8_current_20 : decode cX8_current 20 = .ok (.aload_n 0, 1) := by decide +kernel
theorem dX8_current_21 : decode cX8_current 21 = .ok (.getfield 12, 3) := by decide +kernel
theorem dX8_current_24 : decode cX8_current 24 = .ok (.getfield 78, 3) := by decide +kernel
theorem dX8_current_27 : decode cX8_current 27 = .ok (.iload_n 1, 1) := by decide +kernel
theorem dX8_current_28 : decode cX8_current 28 = .ok (.iload_n 2, 1) := by decide +kernel
theorem dX8_current_29 : decode cX8_current 29 = .ok (.iastore, 1) := by decide +kernel
theorem dX8_current_30 : decode cX8_current 30 = .ok (.iload_n 3, 1) := by decide +kernel
theorem dX8_current_31 : decode cX8_current 31 = .ok (.ireturn, 1) := by decide +kernel
theorem dX8_sun_0 : decode cX8_sun 0 = .ok (.iload_n 1, 1) := by decide +kernel
theorem dX8_sun_1 : decode cX8_sun 1 = .ok (.iconst 0, 1) := by decide +kernel
theorem dX8_sun_2 : decode cX8_sun 2 = .ok (.iconst 5, 1) := by decide +kernel
theorem dX8_sun_3 : decode cX8_sun 3 = .ok (.invokestatic 74, 3) := by decide +kernel
theorem dX8_sun_6 : decode cX8_sun 6 = .ok (.iload_n 2, 1) := by decide +kernel
theorem dX8_sun_7 : decode cX8_sun 7 = .ok (.bipush (-50), 2) := by decide +kernel
theorem dX8_sun_9 : decode cX8_sun 9 = .ok (.bipush 50, 2) := by decide +kernel
theorem dX8_sun_11 : decode cX8_sun 11 = .ok (.invokestatic 74, 3) := by decide +kernel
theorem dX8_sun_14 : decode cX8_sun 14 = .ok (.aload_n 0, 1) := by decide +kernel
theorem dX8_sun_15 : decode cX8_sun 15 = .ok (.getfield 12, 3) := by decide +kernel
theorem dX8_sun_18 : decode cX8_sun 18 = .ok (.getfield 82, 3) := by decide +kernel
theorem dX8_sun_21 : decode cX8_sun 21 = .ok (.iload_n 1, 1) := by decide +kernel
theorem dX8_sun_22 : decode cX8_sun 22 = .ok (.iaload, 1) := by decide +kernel
theorem dX8_sun_23 : decode cX8_sun 23 = .ok (.istore_n 3, 1) := by decide +kernel
theorem dX8_sun_24 : decode cX8_sun 24 = .ok (.aload_n 0, 1) := by decide +kernel
theorem dX8_sun_25 : decode cX8_sun 25 = .ok (.getfield 12, 3) := by decide +kernel
theorem dX8_sun_28 : decode cX8_sun 28 = .ok (.getfield 82, 3) := by decide +kernel
theorem dX8_sun_31 : decode cX8_sun 31 = .ok (.iload_n 1, 1) := by decide +kernel
theorem dX8_sun_32 : decode cX8_sun 32 = .ok (.iload_n 2, 1) := by decide +kernel
theorem dX8_sun_33 : decode cX8_sun 33 = .ok (.iastore, 1) := by decide +kernel
theorem dX8_sun_34 : decode cX8_sun 34 = .ok (.iload_n 3, 1) := by decide +kernel
theorem dX8_sun_35 : decode cX8_sun 35 = .ok (.ireturn, 1) := by decide +kernel
theorem dX8_pass_0 : decode cX8_pass 0 = .ok (.iload_n 1, 1) := by decide +kernel
theorem dX8_pass_1 : decode cX8_pass 1 = .ok (.iconst 1, 1) := by decide +kernel
theorem dX8_pass_2 : decode cX8_pass 2 = .ok (.bipush 50, 2) := by decide +kernel
theorem dX8_pass_4 : decode cX8_pass 4 = .ok (.invokestatic 74, 3) := by decide +kernel
theorem dX8_pass_7 : decode cX8_pass 7 = .ok (.iload_n 1, 1) := by decide +kernel
theorem dX8_pass_8 : decode cX8_pass 8 = .ok (.sipush 1000, 3) := by decide +kernel
theorem dX8_pass_11 : decode cX8_pass 11 = .ok (.aload_n 0, 1) := by decide +kernel
theorem dX8_pass_12 : decode cX8_pass 12 = .ok (.getfield 52, 3) := by decide +kernel
theorem dX8_pass_15 : decode cX8_pass 15 = .ok (.isub, 1) := by decide +kernel
theorem dX8_pass_16 : decode cX8_pass 16 = .ok (.if_icmp .le 13, 3) := by decide +kernel
theorem dX8_pass_19 : decode cX8_pass 19 = .ok (.new 63, 3) := by decide +kernel
theorem dX8_pass_22 : decode cX8_pass 22 = .ok (.dup, 1) := by decide +kernel
theorem dX8_pass_23 : decode cX8_pass 23 = .ok (.ldc 85, 2) := by decide +kernel
theorem dX8_pass_25 : decode cX8_pass 25 = .ok (.invokespecial 67, 3) := by decide +kernel
theorem dX8_pass_28 : decode cX8_pass 28 = .ok (.athrow, 1) := by decide +kernel
theorem dX8_pass_29 : decode cX8_pass 29 = .ok (.iconst 0, 1) := by decide +kernel
theorem dX8_pass_30 : decode cX8_pass 30 = .ok (.istore_n 2, 1) := by decide +kernel
theorem dX8_pass_31 : decode cX8_pass 31 = .ok (.iload_n 2, 1) := by decide +kernel
theorem dX8_pass_32 : decode cX8_pass 32 = .ok (.iload_n 1, 1) := by decide +kernel
theorem dX8_pass_33 : decode cX8_pass 33 = .ok (.if_icmp .ge 13, 3) := by decide +kernel
theorem dX8_pass_36 : decode cX8_pass 36 = .ok (.aload_n 0, 1) := by decide +kernel
theorem dX8_pass_37 : decode cX8_pass 37 = .ok (.invokevirtual 87, 3) := by decide +kernel
theorem dX8_pass_40 : decode cX8_pass 40 = .ok (.iinc 2 1, 3) := by decide +kernel
theorem dX8_pass_43 : decode cX8_pass 43 = .ok (.goto (-12), 3) := by decide +kernel
theorem dX8_pass_46 : decode cX8_pass 46 = .ok (.aload_n 0, 1) := by decide +kernel
theorem dX8_pass_47 : decode cX8_pass 47 = .ok (.getfield 52, 3) := by decide +kernel
theorem dX8_pass_50 : decode cX8_pass 50 = .ok (.ireturn, 1) := by decide +kernel
theorem dX8_lay_0 : decode cX8_lay 0 = .ok (.iload_n 1, 1) := by decide +kernel
theorem dX8_lay_1 : decode cX8_lay 1 = .ok (.invokestatic 48, 3) := by decide +kernel
theorem dX8_lay_4 : decode cX8_lay 4 = .ok (.iload_n 2, 1) := by decide +kernel
theorem dX8_lay_5 : decode cX8_lay 5 = .ok (.iconst 1, 1) := by decide +kernel
theorem dX8_lay_6 : decode cX8_lay 6 = .ok (.bipush 20, 2) := by decide +kernel
theorem dX8_lay_8 : decode cX8_lay 8 = .ok (.invokestatic 74, 3) := by decide +kernel
theorem dX8_lay_11 : decode cX8_lay 11 = .ok (.iload_n 3, 1) := by decide +kernel
theorem dX8_lay_12 : decode cX8_lay 12 = .ok (.iconst 1, 1) := by decide +kernel
theorem dX8_lay_13 : decode cX8_lay 13 = .ok (.bipush 100, 2) := by decide +kernel
theorem dX8_lay_15 : decode cX8_lay 15 = .ok (.invokestatic 74, 3) := by decide +kernel
theorem dX8_lay_18 : decode cX8_lay 18 = .ok (.iload 4, 2) := by decide +kernel
theorem dX8_lay_20 : decode cX8_lay 20 = .ok (.bipush (-50), 2) := by decide +kernel
theorem dX8_lay_22 : decode cX8_lay 22 = .ok (.bipush 50, 2) := by decide +kernel
theorem dX8_lay_24 : decode cX8_lay 24 = .ok (.invokestatic 74, 3) := by decide +kernel
theorem dX8_lay_27 : decode cX8_lay 27 = .ok (.aload_n 0, 1) := by decide +kernel
theorem dX8_lay_28 : decode cX8_lay 28 = .ok (.getfield 90, 3) := by decide +kernel
theorem dX8_lay_31 : decode cX8_lay 31 = .ok (.istore 5, 2) := by decide +kernel
theorem dX8_lay_33 : decode cX8_lay 33 = .ok (.aload_n 0, 1) := by decide +kernel
theorem dX8_lay_34 : decode cX8_lay 34 = .ok (.getfield 12, 3) := by decide +kernel
theorem dX8_lay_37 : decode cX8_lay 37 = .ok (.iload_n 1, 1) := by decide +kernel
theorem dX8_lay_38 : decode cX8_lay 38 = .ok (.invokevirtual 56, 3) := by decide +kernel
theorem dX8_lay_41 : decode cX8_lay 41 = .ok (.ifCond .ne 16, 3) := by decide +kernel
theorem dX8_lay_44 : decode cX8_lay 44 = .ok (.iload 5, 2) := by decide +kernel
theorem dX8_lay_46 : decode cX8_lay 46 = .ok (.aload_n 0, 1) := by decide +kernel
theorem dX8_lay_47 : decode cX8_lay 47 = .ok (.getfield 18, 3) := by decide +kernel
theorem dX8_lay_50 : decode cX8_lay 50 = .ok (.arraylength, 1) := by decide +kernel
theorem dX8_lay_51 : decode cX8_lay 51 = .ok (.invokestatic 93, 3) := by decide +kernel
theorem dX8_lay_54 : decode cX8_lay 54 = .ok (.ifCond .ne 13, 3) := by decide +kernel
theorem dX8_lay_57 : decode cX8_lay 57 = .ok (.new 63, 3) := by decide +kernel
theorem dX8_lay_60 : decode cX8_lay 60 = .ok (.dup, 1) := by decide +kernel
theorem dX8_lay_61 : decode cX8_lay 61 = .ok (.ldc 97, 2) := by decide +kernel
theorem dX8_lay_63 : decode cX8_lay 63 = .ok (.invokespecial 67, 3) := by decide +kernel
theorem dX8_lay_66 : decode cX8_lay 66 = .ok (.athrow, 1) := by decide +kernel
theorem dX8_lay_67 : decode cX8_lay 67 = .ok (.aload_n 0, 1) := by decide +kernel
theorem dX8_lay_68 : decode cX8_lay 68 = .ok (.getfield 18, 3) := by decide +kernel
theorem dX8_lay_71 : decode cX8_lay 71 = .ok (.iload 5, 2) := by decide +kernel
theorem dX8_lay_73 : decode cX8_lay 73 = .ok (.new 16, 3) := by decide +kernel
theorem dX8_lay_76 : decode cX8_lay 76 = .ok (.dup, 1) := by decide +kernel
theorem dX8_lay_77 : decode cX8_lay 77 = .ok (.iload 5, 2) := by decide +kernel
theorem dX8_lay_79 : decode cX8_lay 79 = .ok (.iload_n 1, 1) := by decide +kernel
theorem dX8_lay_80 : decode cX8_lay 80 = .ok (.iload_n 2, 1) := by decide +kernel
theorem dX8_lay_81 : decode cX8_lay 81 = .ok (.iload_n 3, 1) := by decide +kernel
theorem dX8_lay_82 : decode cX8_lay 82 = .ok (.iload 4, 2) := by decide +kernel
theorem dX8_lay_84 : decode cX8_lay 84 = .ok (.invokespecial 99, 3) := by decide +kernel
theorem dX8_lay_87 : decode cX8_lay 87 = .ok (.aastore, 1) := by decide +kernel
theorem dX8_lay_88 : decode cX8_lay 88 = .ok (.aload_n 0, 1) := by decide +kernel
theorem dX8_lay_89 : decode cX8_lay 89 = .ok (.iload 5, 2) := by decide +kernel
theorem dX8_lay_91 : decode cX8_lay 91 = .ok (.iconst 1, 1) := by decide +kernel
theorem dX8_lay_92 : decode cX8_lay 92 = .ok (.iadd, 1) := by decide +kernel
theorem dX8_lay_93 : decode cX8_lay 93 = .ok (.putfield 90, 3) := by decide +kernel
theorem dX8_lay_96 : decode cX8_lay 96 = .ok (.iload 5, 2) := by decide +kernel
theorem dX8_lay_98 : decode cX8_lay 98 = .ok (.ireturn, 1) := by decide +kernel
theorem dX8_station_0 : decode cX8_station 0 = .ok (.iload_n 2, 1) := by decide +kernel
theorem dX8_station_1 : decode cX8_station 1 = .ok (.invokestatic 48, 3) := by decide +kernel
theorem dX8_station_4 : decode cX8_station 4 = .ok (.iload_n 1, 1) := by decide +kernel
theorem dX8_station_5 : decode cX8_station 5 = .ok (.aload_n 0, 1) := by decide +kernel
theorem dX8_station_6 : decode cX8_station 6 = .ok (.getfield 52, 3) := by decide +kernel
theorem dX8_station_9 : decode cX8_station 9 = .ok (.iconst 1, 1) := by decide +kernel
theorem dX8_station_10 : decode cX8_station 10 = .ok (.iadd, 1) := by decide +kernel
theorem dX8_station_11 : decode cX8_station 11 = .ok (.sipush 1000, 3) := by decide +kernel
theorem dX8_station_14 : decode cX8_station 14 = .ok (.invokestatic 74, 3) := by decide +kernel
theorem dX8_station_17 : decode cX8_station 17 = .ok (.aload_n 0, 1) := by decide +kernel
theorem dX8_station_18 : decode cX8_station 18 = .ok (.getfield 12, 3) := by decide +kernel
theorem dX8_station_21 : decode cX8_station 21 = .ok (.iload_n 2, 1) := by decide +kernel
theorem dX8_station_22 : decode cX8_station 22 = .ok (.invokevirtual 56, 3) := by decide +kernel
theorem dX8_station_25 : decode cX8_station 25 = .ok (.ifCond .ne 25, 3) := by decide +kernel
theorem dX8_station_28 : decode cX8_station 28 = .ok (.aload_n 0, 1) := by decide +kernel
theorem dX8_station_29 : decode cX8_station 29 = .ok (.getfield 32, 3) := by decide +kernel
theorem dX8_station_32 : decode cX8_station 32 = .ok (.iload_n 1, 1) := by decide +kernel
theorem dX8_station_33 : decode cX8_station 33 = .ok (.iload_n 2, 1) := by decide +kernel
theorem dX8_station_34 : decode cX8_station 34 = .ok (.invokevirtual 102, 3) := by decide +kernel
theorem dX8_station_37 : decode cX8_station 37 = .ok (.ifCond .ne 13, 3) := by decide +kernel
theorem dX8_station_40 : decode cX8_station 40 = .ok (.aload_n 0, 1) := by decide +kernel
theorem dX8_station_41 : decode cX8_station 41 = .ok (.getfield 32, 3) := by decide +kernel
theorem dX8_station_44 : decode cX8_station 44 = .ok (.invokevirtual 105, 3) := by decide +kernel
theorem dX8_station_47 : decode cX8_station 47 = .ok (.ifCond .eq 13, 3) := by decide +kernel
theorem dX8_station_50 : decode cX8_station 50 = .ok (.new 63, 3) := by decide +kernel
theorem dX8_station_53 : decode cX8_station 53 = .ok (.dup, 1) := by decide +kernel
theorem dX8_station_54 : decode cX8_station 54 = .ok (.ldc 109, 2) := by decide +kernel
theorem dX8_station_56 : decode cX8_station 56 = .ok (.invokespecial 67, 3) := by decide +kernel
theorem dX8_station_59 : decode cX8_station 59 = .ok (.athrow, 1) := by decide +kernel
theorem dX8_station_60 : decode cX8_station 60 = .ok (.aload_n 0, 1) := by decide +kernel
theorem dX8_station_61 : decode cX8_station 61 = .ok (.getfield 32, 3) := by decide +kernel
theorem dX8_station_64 : decode cX8_station 64 = .ok (.iload_n 1, 1) := by decide +kernel
theorem dX8_station_65 : decode cX8_station 65 = .ok (.iload_n 2, 1) := by decide +kernel
theorem dX8_station_66 : decode cX8_station 66 = .ok (.invokevirtual 111, 3) := by decide +kernel
theorem dX8_station_69 : decode cX8_station 69 = .ok (.ireturn, 1) := by decide +kernel
theorem dX8_storm_0 : decode cX8_storm 0 = .ok (.iload_n 1, 1) := by decide +kernel
theorem dX8_storm_1 : decode cX8_storm 1 = .ok (.aload_n 0, 1) := by decide +kernel
theorem dX8_storm_2 : decode cX8_storm 2 = .ok (.getfield 52, 3) := by decide +kernel
theorem dX8_storm_5 : decode cX8_storm 5 = .ok (.iconst 1, 1) := by decide +kernel
theorem dX8_storm_6 : decode cX8_storm 6 = .ok (.iadd, 1) := by decide +kernel
theorem dX8_storm_7 : decode cX8_storm 7 = .ok (.sipush 1000, 3) := by decide +kernel
theorem dX8_storm_10 : decode cX8_storm 10 = .ok (.invokestatic 74, 3) := by decide +kernel
theorem dX8_storm_13 : decode cX8_storm 13 = .ok (.iload_n 2, 1) := by decide +kernel
theorem dX8_storm_14 : decode cX8_storm 14 = .ok (.iload_n 1, 1) := by decide +kernel
theorem dX8_storm_15 : decode cX8_storm 15 = .ok (.sipush 1000, 3) := by decide +kernel
theorem dX8_storm_18 : decode cX8_storm 18 = .ok (.invokestatic 74, 3) := by decide +kernel
theorem dX8_storm_21 : decode cX8_storm 21 = .ok (.aload_n 0, 1) := by decide +kernel
theorem dX8_storm_22 : decode cX8_storm 22 = .ok (.getfield 32, 3) := by decide +kernel
theorem dX8_storm_25 : decode cX8_storm 25 = .ok (.invokevirtual 115, 3) := by decide +kernel
theorem dX8_storm_28 : decode cX8_storm 28 = .ok (.ifCond .eq 13, 3) := by decide +kernel
theorem dX8_storm_31 : decode cX8_storm 31 = .ok (.new 63, 3) := by decide +kernel
theorem dX8_storm_34 : decode cX8_storm 34 = .ok (.dup, 1) := by decide +kernel
theorem dX8_storm_35 : decode cX8_storm 35 = .ok (.ldc 118, 2) := by decide +kernel
theorem dX8_storm_37 : decode cX8_storm 37 = .ok (.invokespecial 67, 3) := by decide +kernel
theorem dX8_storm_40 : decode cX8_storm 40 = .ok (.athrow, 1) := by decide +kernel
theorem dX8_storm_41 : decode cX8_storm 41 = .ok (.aload_n 0, 1) := by decide +kernel
theorem dX8_storm_42 : decode cX8_storm 42 = .ok (.getfield 32, 3) := by decide +kernel
theorem dX8_storm_45 : decode cX8_storm 45 = .ok (.iload_n 1, 1) := by decide +kernel
theorem dX8_storm_46 : decode cX8_storm 46 = .ok (.iload_n 2, 1) := by decide +kernel
theorem dX8_storm_47 : decode cX8_storm 47 = .ok (.invokevirtual 120, 3) := by decide +kernel
theorem dX8_storm_50 : decode cX8_storm 50 = .ok (.istore_n 3, 1) := by decide +kernel
theorem dX8_storm_51 : decode cX8_storm 51 = .ok (.aload_n 0, 1) := by decide +kernel
theorem dX8_storm_52 : decode cX8_storm 52 = .ok (.getfield 32, 3) := by decide +kernel
theorem dX8_storm_55 : decode cX8_storm 55 = .ok (.iload_n 1, 1) := by decide +kernel
theorem dX8_storm_56 : decode cX8_storm 56 = .ok (.iload_n 2, 1) := by decide +kernel
theorem dX8_storm_57 : decode cX8_storm 57 = .ok (.invokevirtual 123, 3) := by decide +kernel
theorem dX8_storm_60 : decode cX8_storm 60 = .ok (.iload_n 3, 1) := by decide +kernel
theorem dX8_storm_61 : decode cX8_storm 61 = .ok (.ireturn, 1) := by decide +kernel
theorem dX8_calibrate_0 : decode cX8_calibrate 0 = .ok (.aload_n 0, 1) := by decide +kernel
theorem dX8_calibrate_1 : decode cX8_calibrate 1 = .ok (.iload_n 1, 1) := by decide +kernel
theorem dX8_calibrate_2 : decode cX8_calibrate 2 = .ok (.invokevirtual 127, 3) := by decide +kernel
theorem dX8_calibrate_5 : decode cX8_calibrate 5 = .ok (.astore_n 2, 1) := by decide +kernel
theorem dX8_calibrate_6 : decode cX8_calibrate 6 = .ok (.aload_n 2, 1) := by decide +kernel
theorem dX8_calibrate_7 : decode cX8_calibrate 7 = .ok (.getfield 131, 3) := by decide +kernel
theorem dX8_calibrate_10 : decode cX8_calibrate 10 = .ok (.astore_n 3, 1) := by decide +kernel
theorem dX8_calibrate_11 : decode cX8_calibrate 11 = .ok (.aload_n 3, 1) := by decide +kernel
theorem dX8_calibrate_12 : decode cX8_calibrate 12 = .ok (.ifnull 45, 3) := by decide +kernel
theorem dX8_calibrate_15 : decode cX8_calibrate 15 = .ok (.aload_n 0, 1) := by decide +kernel
theorem dX8_calibrate_16 : decode cX8_calibrate 16 = .ok (.getfield 25, 3) := by decide +kernel
theorem dX8_calibrate_19 : decode cX8_calibrate 19 = .ok (.aload_n 3, 1) := by decide +kernel
theorem dX8_calibrate_20 : decode cX8_calibrate 20 = .ok (.invokevirtual 135, 3) := by decide +kernel
theorem dX8_calibrate_23 : decode cX8_calibrate 23 = .ok (.astore 4, 2) := by decide +kernel
theorem dX8_calibrate_25 : decode cX8_calibrate 25 = .ok (.aload 4, 2) := by decide +kernel
theorem dX8_calibrate_27 : decode cX8_calibrate 27 = .ok (.ifnull 22, 3) := by decide +kernel
theorem dX8_calibrate_30 : decode cX8_calibrate 30 = .ok (.aload_n 2, 1) := by decide +kernel
theorem dX8_calibrate_31 : decode cX8_calibrate 31 = .ok (.aload_n 3, 1) := by decide +kernel
theorem dX8_calibrate_32 : decode cX8_calibrate 32 = .ok (.getfield 139, 3) := by decide +kernel
theorem dX8_calibrate_35 : decode cX8_calibrate 35 = .ok (.aload 4, 2) := by decide +kernel
theorem dX8_calibrate_37 : decode cX8_calibrate 37 = .ok (.getfield 139, 3) := by decide +kernel
theorem dX8_calibrate_40 : decode cX8_calibrate 40 = .ok (.isub, 1) := by decide +kernel
theorem dX8_calibrate_41 : decode cX8_calibrate 41 = .ok (.putfield 144, 3) := by decide +kernel
theorem dX8_calibrate_44 : decode cX8_calibrate 44 = .ok (.aload_n 2, 1) := by decide +kernel
theorem dX8_calibrate_45 : decode cX8_calibrate 45 = .ok (.getfield 144, 3) := by decide +kernel
theorem dX8_calibrate_48 : decode cX8_calibrate 48 = .ok (.ireturn, 1) := by decide +kernel
theorem dX8_calibrate_49 : decode cX8_calibrate 49 = .ok (.aload_n 3, 1) := by decide +kernel
theorem dX8_calibrate_50 : decode cX8_calibrate 50 = .ok (.getfield 147, 3) := by decide +kernel
theorem dX8_calibrate_53 : decode cX8_calibrate 53 = .ok (.astore_n 3, 1) := by decide +kernel
theorem dX8_calibrate_54 : decode cX8_calibrate 54 = .ok (.goto (-43), 3) := by decide +kernel
theorem dX8_calibrate_57 : decode cX8_calibrate 57 = .ok (.new 63, 3) := by decide +kernel
theorem dX8_calibrate_60 : decode cX8_calibrate 60 = .ok (.dup, 1) := by decide +kernel
theorem dX8_calibrate_61 : decode cX8_calibrate 61 = .ok (.ldc 150, 2) := by decide +kernel
theorem dX8_calibrate_63 : decode cX8_calibrate 63 = .ok (.invokespecial 67, 3) := by decide +kernel
theorem dX8_calibrate_66 : decode cX8_calibrate 66 = .ok (.athrow, 1) := by decide +kernel
theorem dX8_flag_0 : decode cX8_flag 0 = .ok (.aload_n 0, 1) := by decide +kernel
theorem dX8_flag_1 : decode cX8_flag 1 = .ok (.iload_n 1, 1) := by decide +kernel
theorem dX8_flag_2 : decode cX8_flag 2 = .ok (.invokevirtual 152, 3) := by decide +kernel
theorem dX8_flag_5 : decode cX8_flag 5 = .ok (.astore_n 3, 1) := by decide +kernel
theorem dX8_flag_6 : decode cX8_flag 6 = .ok (.iload_n 2, 1) := by decide +kernel
theorem dX8_flag_7 : decode cX8_flag 7 = .ok (.iconst (-1), 1) := by decide +kernel
theorem dX8_flag_8 : decode cX8_flag 8 = .ok (.iconst 2, 1) := by decide +kernel
theorem dX8_flag_9 : decode cX8_flag 9 = .ok (.invokestatic 74, 3) := by decide +kernel
theorem dX8_flag_12 : decode cX8_flag 12 = .ok (.aload_n 3, 1) := by decide +kernel
theorem dX8_flag_13 : decode cX8_flag 13 = .ok (.aload_n 0, 1) := by decide +kernel
theorem dX8_flag_14 : decode cX8_flag 14 = .ok (.getfield 25, 3) := by decide +kernel
theorem dX8_flag_17 : decode cX8_flag 17 = .ok (.getfield 156, 3) := by decide +kernel
theorem dX8_flag_20 : decode cX8_flag 20 = .ok (.invokevirtual 159, 3) := by decide +kernel
theorem dX8_flag_23 : decode cX8_flag 23 = .ok (.istore 4, 2) := by decide +kernel
theorem dX8_flag_25 : decode cX8_flag 25 = .ok (.aload_n 3, 1) := by decide +kernel
theorem dX8_flag_26 : decode cX8_flag 26 = .ok (.iload_n 2, 1) := by decide +kernel
theorem dX8_flag_27 : decode cX8_flag 27 = .ok (.putfield 162, 3) := by decide +kernel
theorem dX8_flag_30 : decode cX8_flag 30 = .ok (.iload 4, 2) := by decide +kernel
theorem dX8_flag_32 : decode cX8_flag 32 = .ok (.ireturn, 1) := by decide +kernel
theorem dX8_bound_0 : decode cX8_bound 0 = .ok (.iload_n 1, 1) := by decide +kernel
theorem dX8_bound_1 : decode cX8_bound 1 = .ok (.iconst 0, 1) := by decide +kernel
theorem dX8_bound_2 : decode cX8_bound 2 = .ok (.sipush 1000, 3) := by decide +kernel
theorem dX8_bound_5 : decode cX8_bound 5 = .ok (.invokestatic 74, 3) := by decide +kernel
theorem dX8_bound_8 : decode cX8_bound 8 = .ok (.aload_n 0, 1) := by decide +kernel
theorem dX8_bound_9 : decode cX8_bound 9 = .ok (.getfield 25, 3) := by decide +kernel
theorem dX8_bound_12 : decode cX8_bound 12 = .ok (.getfield 156, 3) := by decide +kernel
theorem dX8_bound_15 : decode cX8_bound 15 = .ok (.istore_n 2, 1) := by decide +kernel
theorem dX8_bound_16 : decode cX8_bound 16 = .ok (.aload_n 0, 1) := by decide +kernel
theorem dX8_bound_17 : decode cX8_bound 17 = .ok (.getfield 25, 3) := by decide +kernel
theorem dX8_bound_20 : decode cX8_bound 20 = .ok (.iload_n 1, 1) := by decide +kernel
theorem dX8_bound_21 : decode cX8_bound 21 = .ok (.putfield 156, 3) := by decide +kernel
theorem dX8_bound_24 : decode cX8_bound 24 = .ok (.iload_n 2, 1) := by decide +kernel
theorem dX8_bound_25 : decode cX8_bound 25 = .ok (.ireturn, 1) := by decide +kernel
theorem dX8_search_0 : decode cX8_search 0 = .ok (.iload_n 1, 1) := by decide +kernel
theorem dX8_search_1 : decode cX8_search 1 = .ok (.invokestatic 48, 3) := by decide +kernel
theorem dX8_search_4 : decode cX8_search 4 = .ok (.aload_n 0, 1) := by decide +kernel
theorem dX8_search_5 : decode cX8_search 5 = .ok (.getfield 165, 3) := by decide +kernel
theorem dX8_search_8 : decode cX8_search 8 = .ok (.istore_n 2, 1) := by decide +kernel
theorem dX8_search_9 : decode cX8_search 9 = .ok (.aload_n 0, 1) := by decide +kernel
theorem dX8_search_10 : decode cX8_search 10 = .ok (.getfield 12, 3) := by decide +kernel
theorem dX8_search_13 : decode cX8_search 13 = .ok (.iload_n 1, 1) := by decide +kernel
theorem dX8_search_14 : decode cX8_search 14 = .ok (.invokevirtual 56, 3) := by decide +kernel
theorem dX8_search_17 : decode cX8_search 17 = .ok (.ifCond .ne 15, 3) := by decide +kernel
theorem dX8_search_20 : decode cX8_search 20 = .ok (.iload_n 2, 1) := by decide +kernel
theorem dX8_search_21 : decode cX8_search 21 = .ok (.aload_n 0, 1) := by decide +kernel
theorem dX8_search_22 : decode cX8_search 22 = .ok (.getfield 38, 3) := by decide +kernel
theorem dX8_search_25 : decode cX8_search 25 = .ok (.arraylength, 1) := by decide +kernel
theorem dX8_search_26 : decode cX8_search 26 = .ok (.invokestatic 93, 3) := by decide +kernel
theorem dX8_search_29 : decode cX8_search 29 = .ok (.ifCond .ne 13, 3) := by decide +kernel
theorem dX8_search_32 : decode cX8_search 32 = .ok (.new 63, 3) := by decide +kernel
theorem dX8_search_35 : decode cX8_search 35 = .ok (.dup, 1) := by decide +kernel
theorem dX8_search_36 : decode cX8_search 36 = .ok (.ldc 168, 2) := by decide +kernel
theorem dX8_search_38 : decode cX8_search 38 = .ok (.invokespecial 67, 3) := by decide +kernel
theorem dX8_search_41 : decode cX8_search 41 = .ok (.athrow, 1) := by decide +kernel
theorem dX8_search_42 : decode cX8_search 42 = .ok (.aload_n 0, 1) := by decide +kernel
theorem dX8_search_43 : decode cX8_search 43 = .ok (.getfield 38, 3) := by decide +kernel
theorem dX8_search_46 : decode cX8_search 46 = .ok (.iload_n 2, 1) := by decide +kernel
theorem dX8_search_47 : decode cX8_search 47 = .ok (.new 36, 3) := by decide +kernel
theorem dX8_search_50 : decode cX8_search 50 = .ok (.dup, 1) := by decide +kernel
theorem dX8_search_51 : decode cX8_search 51 = .ok (.iload_n 1, 1) := by decide +kernel
theorem dX8_search_52 : decode cX8_search 52 = .ok (.invokespecial 170, 3) := by decide +kernel
theorem dX8_search_55 : decode cX8_search 55 = .ok (.aastore, 1) := by decide +kernel
theorem dX8_search_56 : decode cX8_search 56 = .ok (.aload_n 0, 1) := by decide +kernel
theorem dX8_search_57 : decode cX8_search 57 = .ok (.iload_n 2, 1) := by decide +kernel
theorem dX8_search_58 : decode cX8_search 58 = .ok (.iconst 1, 1) := by decide +kernel
theorem dX8_search_59 : decode cX8_search 59 = .ok (.iadd, 1) := by decide +kernel
theorem dX8_search_60 : decode cX8_search 60 = .ok (.putfield 165, 3) := by decide +kernel
theorem dX8_search_63 : decode cX8_search 63 = .ok (.iload_n 2, 1) := by decide +kernel
theorem dX8_search_64 : decode cX8_search 64 = .ok (.ireturn, 1) := by decide +kernel
theorem dX8_leg_0 : decode cX8_leg 0 = .ok (.aload_n 0, 1) := by decide +kernel
theorem dX8_leg_1 : decode cX8_leg 1 = .ok (.iload_n 1, 1) := by decide +kernel
theorem dX8_leg_2 : decode cX8_leg 2 = .ok (.invokevirtual 172, 3) := by decide +kernel
theorem dX8_leg_5 : decode cX8_leg 5 = .ok (.astore 4, 2) := by decide +kernel
theorem dX8_leg_7 : decode cX8_leg 7 = .ok (.iload_n 2, 1) := by decide +kernel
theorem dX8_leg_8 : decode cX8_leg 8 = .ok (.invokestatic 48, 3) := by decide +kernel
theorem dX8_leg_11 : decode cX8_leg 11 = .ok (.iload_n 3, 1) := by decide +kernel
theorem dX8_leg_12 : decode cX8_leg 12 = .ok (.iconst 1, 1) := by decide +kernel
theorem dX8_leg_13 : decode cX8_leg 13 = .ok (.bipush 100, 2) := by decide +kernel
theorem dX8_leg_15 : decode cX8_leg 15 = .ok (.invokestatic 74, 3) := by decide +kernel
theorem dX8_leg_18 : decode cX8_leg 18 = .ok (.aload 4, 2) := by decide +kernel
theorem dX8_leg_20 : decode cX8_leg 20 = .ok (.getfield 176, 3) := by decide +kernel
theorem dX8_leg_23 : decode cX8_leg 23 = .ok (.iload_n 2, 1) := by decide +kernel
theorem dX8_leg_24 : decode cX8_leg 24 = .ok (.iload_n 3, 1) := by decide +kernel
theorem dX8_leg_25 : decode cX8_leg 25 = .ok (.invokestatic 179, 3) := by decide +kernel
theorem dX8_leg_28 : decode cX8_leg 28 = .ok (.ireturn, 1) := by decide +kernel
theorem dX8_day_0 : decode cX8_day 0 = .ok (.aload_n 0, 1) := by decide +kernel
theorem dX8_day_1 : decode cX8_day 1 = .ok (.getfield 52, 3) := by decide +kernel
theorem dX8_day_4 : decode cX8_day 4 = .ok (.ireturn, 1) := by decide +kernel
theorem dX8_ofLayer_0 : decode cX8_ofLayer 0 = .ok (.iload_n 1, 1) := by decide +kernel
theorem dX8_ofLayer_1 : decode cX8_ofLayer 1 = .ok (.invokestatic 48, 3) := by decide +kernel
theorem dX8_ofLayer_4 : decode cX8_ofLayer 4 = .ok (.iload_n 2, 1) := by decide +kernel
theorem dX8_ofLayer_5 : decode cX8_ofLayer 5 = .ok (.iconst 0, 1) := by decide +kernel
theorem dX8_ofLayer_6 : decode cX8_ofLayer 6 = .ok (.iconst 1, 1) := by decide +kernel
theorem dX8_ofLayer_7 : decode cX8_ofLayer 7 = .ok (.invokestatic 74, 3) := by decide +kernel
theorem dX8_ofLayer_10 : decode cX8_ofLayer 10 = .ok (.iload_n 3, 1) := by decide +kernel
theorem dX8_ofLayer_11 : decode cX8_ofLayer 11 = .ok (.iconst 0, 1) := by decide +kernel
theorem dX8_ofLayer_12 : decode cX8_ofLayer 12 = .ok (.iconst 2, 1) := by decide +kernel
theorem dX8_ofLayer_13 : decode cX8_ofLayer 13 = .ok (.invokestatic 74, 3) := by decide +kernel
theorem dX8_ofLayer_16 : decode cX8_ofLayer 16 = .ok (.iload_n 2, 1) := by decide +kernel
theorem dX8_ofLayer_17 : decode cX8_ofLayer 17 = .ok (.ifCond .ne 13, 3) := by decide +kernel
theorem dX8_ofLayer_20 : decode cX8_ofLayer 20 = .ok (.aload_n 0, 1) := by decide +kernel
theorem dX8_ofLayer_21 : decode cX8_ofLayer 21 = .ok (.getfield 12, 3) := by decide +kernel
theorem dX8_ofLayer_24 : decode cX8_ofLayer 24 = .ok (.getfield 190, 3) := by decide +kernel
theorem dX8_ofLayer_27 : decode cX8_ofLayer 27 = .ok (.goto 10, 3) := by decide +kernel
theorem dX8_ofLayer_30 : decode cX8_ofLayer 30 = .ok (.aload_n 0, 1) := by decide +kernel
theorem dX8_ofLayer_31 : decode cX8_ofLayer 31 = .ok (.getfield 12, 3) := by decide +kernel
theorem dX8_ofLayer_34 : decode cX8_ofLayer 34 = .ok (.getfield 194, 3) := by decide +kernel
theorem dX8_ofLayer_37 : decode cX8_ofLayer 37 = .ok (.astore 4, 2) := by decide +kernel
theorem dX8_ofLayer_39 : decode cX8_ofLayer 39 = .ok (.iload_n 3, 1) := by decide +kernel
theorem dX8_ofLayer_40 : decode cX8_ofLayer 40 = .ok (.lookupswitch 44 #[(0, 28), (1, 36)], 28) := by decide +kernel
theorem dX8_ofLayer_68 : decode cX8_ofLayer 68 = .ok (.aload 4, 2) := by decide +kernel
theorem dX8_ofLayer_70 : decode cX8_ofLayer 70 = .ok (.getfield 197, 3) := by decide +kernel
theorem dX8_ofLayer_73 : decode cX8_ofLayer 73 = .ok (.iload_n 1, 1) := by decide +kernel
theorem dX8_ofLayer_74 : decode cX8_ofLayer 74 = .ok (.iaload, 1) := by decide +kernel
theorem dX8_ofLayer_75 : decode cX8_ofLayer 75 = .ok (.ireturn, 1) := by decide +kernel
theorem dX8_ofLayer_76 : decode cX8_ofLayer 76 = .ok (.aload 4, 2) := by decide +kernel
theorem dX8_ofLayer_78 : decode cX8_ofLayer 78 = .ok (.getfield 202, 3) := by decide +kernel
theorem dX8_ofLayer_81 : decode cX8_ofLayer 81 = .ok (.iload_n 1, 1) := by decide +kernel
theorem dX8_ofLayer_82 : decode cX8_ofLayer 82 = .ok (.iaload, 1) := by decide +kernel
theorem dX8_ofLayer_83 : decode cX8_ofLayer 83 = .ok (.ireturn, 1) := by decide +kernel
theorem dX8_ofLayer_84 : decode cX8_ofLayer 84 = .ok (.aload 4, 2) := by decide +kernel
theorem dX8_ofLayer_86 : decode cX8_ofLayer 86 = .ok (.iload_n 1, 1) := by decide +kernel
theorem dX8_ofLayer_87 : decode cX8_ofLayer 87 = .ok (.invokevirtual 205, 3) := by decide +kernel
theorem dX8_ofLayer_90 : decode cX8_ofLayer 90 = .ok (.ireturn, 1) := by decide +kernel
theorem dX8_total_0 : decode cX8_total 0 = .ok (.iload_n 1, 1) := by decide +kernel
theorem dX8_total_1 : decode cX8_total 1 = .ok (.iconst 0, 1) := by decide +kernel
theorem dX8_total_2 : decode cX8_total 2 = .ok (.iconst 2, 1) := by decide +kernel
theorem dX8_total_3 : decode cX8_total 3 = .ok (.invokestatic 74, 3) := by decide +kernel
theorem dX8_total_6 : decode cX8_total 6 = .ok (.iload_n 1, 1) := by decide +kernel
theorem dX8_total_7 : decode cX8_total 7 = .ok (.lookupswitch 81 #[(0, 25), (1, 53)], 25) := by decide +kernel
theorem dX8_total_32 : decode cX8_total 32 = .ok (.aload_n 0, 1) := by decide +kernel
theorem dX8_total_33 : decode cX8_total 33 = .ok (.getfield 12, 3) := by decide +kernel
theorem dX8_total_36 : decode cX8_total 36 = .ok (.getfield 190, 3) := by decide +kernel
theorem dX8_total_39 : decode cX8_total 39 = .ok (.getfield 197, 3) := by decide +kernel
theorem dX8_total_42 : decode cX8_total 42 = .ok (.invokestatic 208, 3) := by decide +kernel
theorem dX8_total_45 : decode cX8_total 45 = .ok (.aload_n 0, 1) := by decide +kernel
theorem dX8_total_46 : decode cX8_total 46 = .ok (.getfield 12, 3) := by decide +kernel
theorem dX8_total_49 : decode cX8_total 49 = .ok (.getfield 194, 3) := by decide +kernel
theorem dX8_total_52 : decode cX8_total 52 = .ok (.getfield 197, 3) := by decide +kernel
theorem dX8_total_55 : decode cX8_total 55 = .ok (.invokestatic 208, 3) := by decide +kernel
theorem dX8_total_58 : decode cX8_total 58 = .ok (.iadd, 1) := by decide +kernel
theorem dX8_total_59 : decode cX8_total 59 = .ok (.ireturn, 1) := by decide +kernel
theorem dX8_total_60 : decode cX8_total 60 = .ok (.aload_n 0, 1) := by decide +kernel
theorem dX8_total_61 : decode cX8_total 61 = .ok (.getfield 12, 3) := by decide +kernel
theorem dX8_total_64 : decode cX8_total 64 = .ok (.getfield 190, 3) := by decide +kernel
theorem dX8_total_67 : decode cX8_total 67 = .ok (.getfield 202, 3) := by decide +kernel
theorem dX8_total_70 : decode cX8_total 70 = .ok (.invokestatic 208, 3) := by decide +kernel
theorem dX8_total_73 : decode cX8_total 73 = .ok (.aload_n 0, 1) := by decide +kernel
theorem dX8_total_74 : decode cX8_total 74 = .ok (.getfield 12, 3) := by decide +kernel
theorem dX8_total_77 : decode cX8_total 77 = .ok (.getfield 194, 3) := by decide +kernel
theorem dX8_total_80 : decode cX8_total 80 = .ok (.getfield 202, 3) := by decide +kernel
theorem dX8_total_83 : decode cX8_total 83 = .ok (.invokestatic 208, 3) := by decide +kernel
theorem dX8_total_86 : decode cX8_total 86 = .ok (.iadd, 1) := by decide +kernel
theorem dX8_total_87 : decode cX8_total 87 = .ok (.ireturn, 1) := by decide +kernel
theorem dX8_total_88 : decode cX8_total 88 = .ok (.aload_n 0, 1) := by decide +kernel
theorem dX8_total_89 : decode cX8_total 89 = .ok (.getfield 12, 3) := by decide +kernel
theorem dX8_total_92 : decode cX8_total 92 = .ok (.getfield 212, 3) := by decide +kernel
theorem dX8_total_95 : decode cX8_total 95 = .ok (.ireturn, 1) := by decide +kernel
theorem dX8_ofFloat_0 : decode cX8_ofFloat 0 = .ok (.aload_n 0, 1) := by decide +kernel
theorem dX8_ofFloat_1 : decode cX8_ofFloat 1 = .ok (.iload_n 1, 1) := by decide +kernel
theorem dX8_ofFloat_2 : decode cX8_ofFloat 2 = .ok (.invokevirtual 127, 3) := by decide +kernel
theorem dX8_ofFloat_5 : decode cX8_ofFloat 5 = .ok (.astore_n 3, 1) := by decide +kernel
theorem dX8_ofFloat_6 : decode cX8_ofFloat 6 = .ok (.iload_n 2, 1) := by decide +kernel
theorem dX8_ofFloat_7 : decode cX8_ofFloat 7 = .ok (.iconst 0, 1) := by decide +kernel
theorem dX8_ofFloat_8 : decode cX8_ofFloat 8 = .ok (.iconst 4, 1) := by decide +kernel
theorem dX8_ofFloat_9 : decode cX8_ofFloat 9 = .ok (.invokestatic 74, 3) := by decide +kernel
theorem dX8_ofFloat_12 : decode cX8_ofFloat 12 = .ok (.iload_n 2, 1) := by decide +kernel
theorem dX8_ofFloat_13 : decode cX8_ofFloat 13 = .ok (.tableswitch 51 0 3 #[31, 36, 41, 46], 31) := by decide +kernel
theorem dX8_ofFloat_44 : decode cX8_ofFloat 44 = .ok (.aload_n 3, 1) := by decide +kernel
theorem dX8_ofFloat_45 : decode cX8_ofFloat 45 = .ok (.getfield 215, 3) := by decide +kernel
theorem dX8_ofFloat_48 : decode cX8_ofFloat 48 = .ok (.ireturn, 1) := by decide +kernel
theorem dX8_ofFloat_49 : decode cX8_ofFloat 49 = .ok (.aload_n 3, 1) := by decide +kernel
theorem dX8_ofFloat_50 : decode cX8_ofFloat 50 = .ok (.getfield 218, 3) := by decide +kernel
theorem dX8_ofFloat_53 : decode cX8_ofFloat 53 = .ok (.ireturn, 1) := by decide +kernel
theorem dX8_ofFloat_54 : decode cX8_ofFloat 54 = .ok (.aload_n 3, 1) := by decide +kernel
theorem dX8_ofFloat_55 : decode cX8_ofFloat 55 = .ok (.getfield 221, 3) := by decide +kernel
theorem dX8_ofFloat_58 : decode cX8_ofFloat 58 = .ok (.ireturn, 1) := by decide +kernel
theorem dX8_ofFloat_59 : decode cX8_ofFloat 59 = .ok (.aload_n 3, 1) := by decide +kernel
theorem dX8_ofFloat_60 : decode cX8_ofFloat 60 = .ok (.getfield 144, 3) := by decide +kernel
theorem dX8_ofFloat_63 : decode cX8_ofFloat 63 = .ok (.ireturn, 1) := by decide +kernel
theorem dX8_ofFloat_64 : decode cX8_ofFloat 64 = .ok (.aload_n 3, 1) := by decide +kernel
theorem dX8_ofFloat_65 : decode cX8_ofFloat 65 = .ok (.getfield 224, 3) := by decide +kernel
theorem dX8_ofFloat_68 : decode cX8_ofFloat 68 = .ok (.ireturn, 1) := by decide +kernel
theorem dX8_stations_0 : decode cX8_stations 0 = .ok (.aload_n 0, 1) := by decide +kernel
theorem dX8_stations_1 : decode cX8_stations 1 = .ok (.getfield 32, 3) := by decide +kernel
theorem dX8_stations_4 : decode cX8_stations 4 = .ok (.getfield 227, 3) := by decide +kernel
theorem dX8_stations_7 : decode cX8_stations 7 = .ok (.ireturn, 1) := by decide +kernel
theorem dX8_readings_0 : decode cX8_readings 0 = .ok (.aload_n 0, 1) := by decide +kernel
theorem dX8_readings_1 : decode cX8_readings 1 = .ok (.getfield 25, 3) := by decide +kernel
theorem dX8_readings_4 : decode cX8_readings 4 = .ok (.getfield 230, 3) := by decide +kernel
theorem dX8_readings_7 : decode cX8_readings 7 = .ok (.ireturn, 1) := by decide +kernel
theorem dX8_ofReading_0 : decode cX8_ofReading 0 = .ok (.aload_n 0, 1) := by decide +kernel
theorem dX8_ofReading_1 : decode cX8_ofReading 1 = .ok (.iload_n 1, 1) := by decide +kernel
theorem dX8_ofReading_2 : decode cX8_ofReading 2 = .ok (.invokevirtual 152, 3) := by decide +kernel
theorem dX8_ofReading_5 : decode cX8_ofReading 5 = .ok (.astore_n 3, 1) := by decide +kernel
theorem dX8_ofReading_6 : decode cX8_ofReading 6 = .ok (.iload_n 2, 1) := by decide +kernel
theorem dX8_ofReading_7 : decode cX8_ofReading 7 = .ok (.iconst 0, 1) := by decide +kernel
theorem dX8_ofReading_8 : decode cX8_ofReading 8 = .ok (.iconst 5, 1) := by decide +kernel
theorem dX8_ofReading_9 : decode cX8_ofReading 9 = .ok (.invokestatic 74, 3) := by decide +kernel
theorem dX8_ofReading_12 : decode cX8_ofReading 12 = .ok (.iload_n 2, 1) := by decide +kernel
theorem dX8_ofReading_13 : decode cX8_ofReading 13 = .ok (.tableswitch 67 0 4 #[35, 40, 45, 50, 55], 35) := by decide +kernel
theorem dX8_ofReading_48 : decode cX8_ofReading 48 = .ok (.aload_n 3, 1) := by decide +kernel
theorem dX8_ofReading_49 : decode cX8_ofReading 49 = .ok (.getfield 233, 3) := by decide +kernel
theorem dX8_ofReading_52 : decode cX8_ofReading 52 = .ok (.ireturn, 1) := by decide +kernel
theorem dX8_ofReading_53 : decode cX8_ofReading 53 = .ok (.aload_n 3, 1) := by decide +kernel
theorem dX8_ofReading_54 : decode cX8_ofReading 54 = .ok (.getfield 236, 3) := by decide +kernel
theorem dX8_ofReading_57 : decode cX8_ofReading 57 = .ok (.ireturn, 1) := by decide +kernel
theorem dX8_ofReading_58 : decode cX8_ofReading 58 = .ok (.aload_n 3, 1) := by decide +kernel
theorem dX8_ofReading_59 : decode cX8_ofReading 59 = .ok (.getfield 139, 3) := by decide +kernel
theorem dX8_ofReading_62 : decode cX8_ofReading 62 = .ok (.ireturn, 1) := by decide +kernel
theorem dX8_ofReading_63 : decode cX8_ofReading 63 = .ok (.aload_n 3, 1) := by decide +kernel
theorem dX8_ofReading_64 : decode cX8_ofReading 64 = .ok (.invokevirtual 237, 3) := by decide +kernel
theorem dX8_ofReading_67 : decode cX8_ofReading 67 = .ok (.ireturn, 1) := by decide +kernel
theorem dX8_ofReading_68 : decode cX8_ofReading 68 = .ok (.aload_n 3, 1) := by decide +kernel
theorem dX8_ofReading_69 : decode cX8_ofReading 69 = .ok (.aload_n 0, 1) := by decide +kernel
theorem dX8_ofReading_70 : decode cX8_ofReading 70 = .ok (.getfield 25, 3) := by decide +kernel
theorem dX8_ofReading_73 : decode cX8_ofReading 73 = .ok (.getfield 156, 3) := by decide +kernel
theorem dX8_ofReading_76 : decode cX8_ofReading 76 = .ok (.invokevirtual 159, 3) := by decide +kernel
theorem dX8_ofReading_79 : decode cX8_ofReading 79 = .ok (.ireturn, 1) := by decide +kernel
theorem dX8_ofReading_80 : decode cX8_ofReading 80 = .ok (.aload_n 3, 1) := by decide +kernel
theorem dX8_ofReading_81 : decode cX8_ofReading 81 = .ok (.getfield 241, 3) := by decide +kernel
theorem dX8_ofReading_84 : decode cX8_ofReading 84 = .ok (.ifnonnull 7, 3) := by decide +kernel
theorem dX8_ofReading_87 : decode cX8_ofReading 87 = .ok (.iconst (-1), 1) := by decide +kernel
theorem dX8_ofReading_88 : decode cX8_ofReading 88 = .ok (.goto 10, 3) := by decide +kernel
theorem dX8_ofReading_91 : decode cX8_ofReading 91 = .ok (.aload_n 3, 1) := by decide +kernel
theorem dX8_ofReading_92 : decode cX8_ofReading 92 = .ok (.getfield 241, 3) := by decide +kernel
theorem dX8_ofReading_95 : decode cX8_ofReading 95 = .ok (.getfield 245, 3) := by decide +kernel
theorem dX8_ofReading_98 : decode cX8_ofReading 98 = .ok (.ireturn, 1) := by decide +kernel
theorem dX8_mean_0 : decode cX8_mean 0 = .ok (.iload_n 1, 1) := by decide +kernel
theorem dX8_mean_1 : decode cX8_mean 1 = .ok (.iload_n 2, 1) := by decide +kernel
theorem dX8_mean_2 : decode cX8_mean 2 = .ok (.iload_n 3, 1) := by decide +kernel
theorem dX8_mean_3 : decode cX8_mean 3 = .ok (.invokestatic 248, 3) := by decide +kernel
theorem dX8_mean_6 : decode cX8_mean 6 = .ok (.aload_n 0, 1) := by decide +kernel
theorem dX8_mean_7 : decode cX8_mean 7 = .ok (.iload_n 1, 1) := by decide +kernel
theorem dX8_mean_8 : decode cX8_mean 8 = .ok (.invokevirtual 251, 3) := by decide +kernel
theorem dX8_mean_11 : decode cX8_mean 11 = .ok (.aload_n 0, 1) := by decide +kernel
theorem dX8_mean_12 : decode cX8_mean 12 = .ok (.aconst_null, 1) := by decide +kernel
theorem dX8_mean_13 : decode cX8_mean 13 = .ok (.iload_n 1, 1) := by decide +kernel
theorem dX8_mean_14 : decode cX8_mean 14 = .ok (.iload_n 2, 1) := by decide +kernel
theorem dX8_mean_15 : decode cX8_mean 15 = .ok (.iload_n 3, 1) := by decide +kernel
theorem dX8_mean_16 : decode cX8_mean 16 = .ok (.invokevirtual 254, 3) := by decide +kernel
theorem dX8_mean_19 : decode cX8_mean 19 = .ok (.ireturn, 1) := by decide +kernel
theorem dX8_error_0 : decode cX8_error 0 = .ok (.iload_n 1, 1) := by decide +kernel
theorem dX8_error_1 : decode cX8_error 1 = .ok (.iload_n 2, 1) := by decide +kernel
theorem dX8_error_2 : decode cX8_error 2 = .ok (.iload_n 3, 1) := by decide +kernel
end
section
theorem dX8_error_3 : decode cX8_error 3 = .ok (.invokestatic 248, 3) := by decide +kernel
theorem dX8_error_6 : decode cX8_error 6 = .ok (.aload_n 0, 1) := by decide +kernel
theorem dX8_error_7 : decode cX8_error 7 = .ok (.iload_n 1, 1) := by decide +kernel
theorem dX8_error_8 : decode cX8_error 8 = .ok (.invokevirtual 251, 3) := by decide +kernel
theorem dX8_error_11 : decode cX8_error 11 = .ok (.iconst 1, 1) := by decide +kernel
theorem dX8_error_12 : decode cX8_error 12 = .ok (.aload_n 0, 1) := by decide +kernel
theorem dX8_error_13 : decode cX8_error 13 = .ok (.getfield 25, 3) := by decide +kernel
theorem dX8_error_16 : decode cX8_error 16 = .ok (.aconst_null, 1) := by decide +kernel
theorem dX8_error_17 : decode cX8_error 17 = .ok (.iload_n 1, 1) := by decide +kernel
theorem dX8_error_18 : decode cX8_error 18 = .ok (.iload_n 2, 1) := by decide +kernel
theorem dX8_error_19 : decode cX8_error 19 = .ok (.iload_n 3, 1) := by decide +kernel
theorem dX8_error_20 : decode cX8_error 20 = .ok (.invokevirtual 258, 3) := by decide +kernel
theorem dX8_error_23 : decode cX8_error 23 = .ok (.iadd, 1) := by decide +kernel
theorem dX8_error_24 : decode cX8_error 24 = .ok (.istore 4, 2) := by decide +kernel
theorem dX8_error_26 : decode cX8_error 26 = .ok (.iload 4, 2) := by decide +kernel
theorem dX8_error_28 : decode cX8_error 28 = .ok (.ifCond .le 12, 3) := by decide +kernel
theorem dX8_error_31 : decode cX8_error 31 = .ok (.sipush 1000, 3) := by decide +kernel
theorem dX8_error_34 : decode cX8_error 34 = .ok (.iload 4, 2) := by decide +kernel
theorem dX8_error_36 : decode cX8_error 36 = .ok (.idiv, 1) := by decide +kernel
theorem dX8_error_37 : decode cX8_error 37 = .ok (.goto 4, 3) := by decide +kernel
theorem dX8_error_40 : decode cX8_error 40 = .ok (.iconst 0, 1) := by decide +kernel
theorem dX8_error_41 : decode cX8_error 41 = .ok (.ireturn, 1) := by decide +kernel
theorem dX8_residual_0 : decode cX8_residual 0 = .ok (.aload_n 0, 1) := by decide +kernel
theorem dX8_residual_1 : decode cX8_residual 1 = .ok (.iload_n 1, 1) := by decide +kernel
theorem dX8_residual_2 : decode cX8_residual 2 = .ok (.invokevirtual 152, 3) := by decide +kernel
theorem dX8_residual_5 : decode cX8_residual 5 = .ok (.astore_n 3, 1) := by decide +kernel
theorem dX8_residual_6 : decode cX8_residual 6 = .ok (.iload_n 2, 1) := by decide +kernel
theorem dX8_residual_7 : decode cX8_residual 7 = .ok (.iconst 0, 1) := by decide +kernel
theorem dX8_residual_8 : decode cX8_residual 8 = .ok (.sipush 1000, 3) := by decide +kernel
theorem dX8_residual_11 : decode cX8_residual 11 = .ok (.invokestatic 74, 3) := by decide +kernel
theorem dX8_residual_14 : decode cX8_residual 14 = .ok (.aload_n 3, 1) := by decide +kernel
theorem dX8_residual_15 : decode cX8_residual 15 = .ok (.invokevirtual 237, 3) := by decide +kernel
theorem dX8_residual_18 : decode cX8_residual 18 = .ok (.aload_n 0, 1) := by decide +kernel
theorem dX8_residual_19 : decode cX8_residual 19 = .ok (.aload_n 3, 1) := by decide +kernel
theorem dX8_residual_20 : decode cX8_residual 20 = .ok (.aload_n 3, 1) := by decide +kernel
theorem dX8_residual_21 : decode cX8_residual 21 = .ok (.getfield 236, 3) := by decide +kernel
theorem dX8_residual_24 : decode cX8_residual 24 = .ok (.aload_n 3, 1) := by decide +kernel
theorem dX8_residual_25 : decode cX8_residual 25 = .ok (.getfield 233, 3) := by decide +kernel
theorem dX8_residual_28 : decode cX8_residual 28 = .ok (.iload_n 2, 1) := by decide +kernel
theorem dX8_residual_29 : decode cX8_residual 29 = .ok (.invokevirtual 254, 3) := by decide +kernel
theorem dX8_residual_32 : decode cX8_residual 32 = .ok (.isub, 1) := by decide +kernel
theorem dX8_residual_33 : decode cX8_residual 33 = .ok (.ireturn, 1) := by decide +kernel
theorem dX8_chance_0 : decode cX8_chance 0 = .ok (.aload_n 0, 1) := by decide +kernel
theorem dX8_chance_1 : decode cX8_chance 1 = .ok (.iload_n 1, 1) := by decide +kernel
theorem dX8_chance_2 : decode cX8_chance 2 = .ok (.invokevirtual 172, 3) := by decide +kernel
theorem dX8_chance_5 : decode cX8_chance 5 = .ok (.astore_n 3, 1) := by decide +kernel
theorem dX8_chance_6 : decode cX8_chance 6 = .ok (.iload_n 2, 1) := by decide +kernel
theorem dX8_chance_7 : decode cX8_chance 7 = .ok (.invokestatic 48, 3) := by decide +kernel
theorem dX8_chance_10 : decode cX8_chance 10 = .ok (.aload_n 3, 1) := by decide +kernel
theorem dX8_chance_11 : decode cX8_chance 11 = .ok (.getfield 176, 3) := by decide +kernel
theorem dX8_chance_14 : decode cX8_chance 14 = .ok (.iload_n 2, 1) := by decide +kernel
theorem dX8_chance_15 : decode cX8_chance 15 = .ok (.iaload, 1) := by decide +kernel
theorem dX8_chance_16 : decode cX8_chance 16 = .ok (.ireturn, 1) := by decide +kernel
theorem dX8_best_0 : decode cX8_best 0 = .ok (.aload_n 0, 1) := by decide +kernel
theorem dX8_best_1 : decode cX8_best 1 = .ok (.iload_n 1, 1) := by decide +kernel
theorem dX8_best_2 : decode cX8_best 2 = .ok (.invokevirtual 172, 3) := by decide +kernel
theorem dX8_best_5 : decode cX8_best 5 = .ok (.getfield 176, 3) := by decide +kernel
theorem dX8_best_8 : decode cX8_best 8 = .ok (.invokestatic 261, 3) := by decide +kernel
theorem dX8_best_11 : decode cX8_best 11 = .ok (.ireturn, 1) := by decide +kernel
theorem dX8_plan_0 : decode cX8_plan 0 = .ok (.aload_n 0, 1) := by decide +kernel
theorem dX8_plan_1 : decode cX8_plan 1 = .ok (.iload_n 1, 1) := by decide +kernel
theorem dX8_plan_2 : decode cX8_plan 2 = .ok (.invokevirtual 172, 3) := by decide +kernel
theorem dX8_plan_5 : decode cX8_plan 5 = .ok (.astore 4, 2) := by decide +kernel
theorem dX8_plan_7 : decode cX8_plan 7 = .ok (.iload_n 2, 1) := by decide +kernel
theorem dX8_plan_8 : decode cX8_plan 8 = .ok (.iconst 1, 1) := by decide +kernel
theorem dX8_plan_9 : decode cX8_plan 9 = .ok (.bipush 20, 2) := by decide +kernel
theorem dX8_plan_11 : decode cX8_plan 11 = .ok (.invokestatic 74, 3) := by decide +kernel
theorem dX8_plan_14 : decode cX8_plan 14 = .ok (.iload_n 3, 1) := by decide +kernel
theorem dX8_plan_15 : decode cX8_plan 15 = .ok (.iconst 1, 1) := by decide +kernel
theorem dX8_plan_16 : decode cX8_plan 16 = .ok (.bipush 100, 2) := by decide +kernel
theorem dX8_plan_18 : decode cX8_plan 18 = .ok (.invokestatic 74, 3) := by decide +kernel
theorem dX8_plan_21 : decode cX8_plan 21 = .ok (.aload 4, 2) := by decide +kernel
theorem dX8_plan_23 : decode cX8_plan 23 = .ok (.iload_n 2, 1) := by decide +kernel
theorem dX8_plan_24 : decode cX8_plan 24 = .ok (.iload_n 3, 1) := by decide +kernel
theorem dX8_plan_25 : decode cX8_plan 25 = .ok (.invokevirtual 264, 3) := by decide +kernel
theorem dX8_plan_28 : decode cX8_plan 28 = .ok (.ireturn, 1) := by decide +kernel
theorem dX8_isIndex_0 : decode cX8_isIndex 0 = .ok (.iload_n 0, 1) := by decide +kernel
theorem dX8_isIndex_1 : decode cX8_isIndex 1 = .ok (.ifCond .lt 12, 3) := by decide +kernel
theorem dX8_isIndex_4 : decode cX8_isIndex 4 = .ok (.iload_n 0, 1) := by decide +kernel
theorem dX8_isIndex_5 : decode cX8_isIndex 5 = .ok (.iload_n 1, 1) := by decide +kernel
theorem dX8_isIndex_6 : decode cX8_isIndex 6 = .ok (.if_icmp .ge 7, 3) := by decide +kernel
theorem dX8_isIndex_9 : decode cX8_isIndex 9 = .ok (.iconst 1, 1) := by decide +kernel
theorem dX8_isIndex_10 : decode cX8_isIndex 10 = .ok (.goto 4, 3) := by decide +kernel
theorem dX8_isIndex_13 : decode cX8_isIndex 13 = .ok (.iconst 0, 1) := by decide +kernel
theorem dX8_isIndex_14 : decode cX8_isIndex 14 = .ok (.ireturn, 1) := by decide +kernel
theorem dX8_isCell_0 : decode cX8_isCell 0 = .ok (.iload_n 0, 1) := by decide +kernel
theorem dX8_isCell_1 : decode cX8_isCell 1 = .ok (.ifCond .lt 13, 3) := by decide +kernel
theorem dX8_isCell_4 : decode cX8_isCell 4 = .ok (.iload_n 0, 1) := by decide +kernel
theorem dX8_isCell_5 : decode cX8_isCell 5 = .ok (.bipush 60, 2) := by decide +kernel
theorem dX8_isCell_7 : decode cX8_isCell 7 = .ok (.if_icmp .ge 7, 3) := by decide +kernel
theorem dX8_isCell_10 : decode cX8_isCell 10 = .ok (.iconst 1, 1) := by decide +kernel
theorem dX8_isCell_11 : decode cX8_isCell 11 = .ok (.goto 4, 3) := by decide +kernel
theorem dX8_isCell_14 : decode cX8_isCell 14 = .ok (.iconst 0, 1) := by decide +kernel
theorem dX8_isCell_15 : decode cX8_isCell 15 = .ok (.ireturn, 1) := by decide +kernel
theorem dX8_needCell_0 : decode cX8_needCell 0 = .ok (.iload_n 0, 1) := by decide +kernel
theorem dX8_needCell_1 : decode cX8_needCell 1 = .ok (.invokestatic 276, 3) := by decide +kernel
theorem dX8_needCell_4 : decode cX8_needCell 4 = .ok (.ifCond .ne 14, 3) := by decide +kernel
theorem dX8_needCell_7 : decode cX8_needCell 7 = .ok (.new 279, 3) := by decide +kernel
theorem dX8_needCell_10 : decode cX8_needCell 10 = .ok (.dup, 1) := by decide +kernel
theorem dX8_needCell_11 : decode cX8_needCell 11 = .ok (.ldc_w 281, 3) := by decide +kernel
theorem dX8_needCell_14 : decode cX8_needCell 14 = .ok (.invokespecial 283, 3) := by decide +kernel
theorem dX8_needCell_17 : decode cX8_needCell 17 = .ok (.athrow, 1) := by decide +kernel
theorem dX8_needCell_18 : decode cX8_needCell 18 = .ok (.return_, 1) := by decide +kernel
theorem dX8_needRange_0 : decode cX8_needRange 0 = .ok (.iload_n 0, 1) := by decide +kernel
theorem dX8_needRange_1 : decode cX8_needRange 1 = .ok (.iload_n 1, 1) := by decide +kernel
theorem dX8_needRange_2 : decode cX8_needRange 2 = .ok (.if_icmp .lt 8, 3) := by decide +kernel
theorem dX8_needRange_5 : decode cX8_needRange 5 = .ok (.iload_n 0, 1) := by decide +kernel
theorem dX8_needRange_6 : decode cX8_needRange 6 = .ok (.iload_n 2, 1) := by decide +kernel
theorem dX8_needRange_7 : decode cX8_needRange 7 = .ok (.if_icmp .le 14, 3) := by decide +kernel
theorem dX8_needRange_10 : decode cX8_needRange 10 = .ok (.new 284, 3) := by decide +kernel
theorem dX8_needRange_13 : decode cX8_needRange 13 = .ok (.dup, 1) := by decide +kernel
theorem dX8_needRange_14 : decode cX8_needRange 14 = .ok (.ldc_w 286, 3) := by decide +kernel
theorem dX8_needRange_17 : decode cX8_needRange 17 = .ok (.invokespecial 288, 3) := by decide +kernel
theorem dX8_needRange_20 : decode cX8_needRange 20 = .ok (.athrow, 1) := by decide +kernel
theorem dX8_needRange_21 : decode cX8_needRange 21 = .ok (.return_, 1) := by decide +kernel
theorem dX8_needMap_0 : decode cX8_needMap 0 = .ok (.iload_n 0, 1) := by decide +kernel
theorem dX8_needMap_1 : decode cX8_needMap 1 = .ok (.invokestatic 48, 3) := by decide +kernel
theorem dX8_needMap_4 : decode cX8_needMap 4 = .ok (.iload_n 1, 1) := by decide +kernel
theorem dX8_needMap_5 : decode cX8_needMap 5 = .ok (.iconst 0, 1) := by decide +kernel
theorem dX8_needMap_6 : decode cX8_needMap 6 = .ok (.sipush 1000, 3) := by decide +kernel
theorem dX8_needMap_9 : decode cX8_needMap 9 = .ok (.invokestatic 74, 3) := by decide +kernel
theorem dX8_needMap_12 : decode cX8_needMap 12 = .ok (.iload_n 2, 1) := by decide +kernel
theorem dX8_needMap_13 : decode cX8_needMap 13 = .ok (.iconst 0, 1) := by decide +kernel
theorem dX8_needMap_14 : decode cX8_needMap 14 = .ok (.sipush 1000, 3) := by decide +kernel
theorem dX8_needMap_17 : decode cX8_needMap 17 = .ok (.invokestatic 74, 3) := by decide +kernel
theorem dX8_needMap_20 : decode cX8_needMap 20 = .ok (.return_, 1) := by decide +kernel
theorem dX8_needSea_0 : decode cX8_needSea 0 = .ok (.aload_n 0, 1) := by decide +kernel
theorem dX8_needSea_1 : decode cX8_needSea 1 = .ok (.getfield 12, 3) := by decide +kernel
theorem dX8_needSea_4 : decode cX8_needSea 4 = .ok (.iload_n 1, 1) := by decide +kernel
theorem dX8_needSea_5 : decode cX8_needSea 5 = .ok (.invokevirtual 56, 3) := by decide +kernel
theorem dX8_needSea_8 : decode cX8_needSea 8 = .ok (.ifCond .eq 14, 3) := by decide +kernel
theorem dX8_needSea_11 : decode cX8_needSea 11 = .ok (.new 63, 3) := by decide +kernel
theorem dX8_needSea_14 : decode cX8_needSea 14 = .ok (.dup, 1) := by decide +kernel
theorem dX8_needSea_15 : decode cX8_needSea 15 = .ok (.ldc_w 289, 3) := by decide +kernel
theorem dX8_needSea_18 : decode cX8_needSea 18 = .ok (.invokespecial 67, 3) := by decide +kernel
theorem dX8_needSea_21 : decode cX8_needSea 21 = .ok (.athrow, 1) := by decide +kernel
theorem dX8_needSea_22 : decode cX8_needSea 22 = .ok (.return_, 1) := by decide +kernel
theorem dX8_buoyNumbered_0 : decode cX8_buoyNumbered 0 = .ok (.iload_n 1, 1) := by decide +kernel
theorem dX8_buoyNumbered_1 : decode cX8_buoyNumbered 1 = .ok (.aload_n 0, 1) := by decide +kernel
theorem dX8_buoyNumbered_2 : decode cX8_buoyNumbered 2 = .ok (.getfield 18, 3) := by decide +kernel
theorem dX8_buoyNumbered_5 : decode cX8_buoyNumbered 5 = .ok (.arraylength, 1) := by decide +kernel
theorem dX8_buoyNumbered_6 : decode cX8_buoyNumbered 6 = .ok (.invokestatic 93, 3) := by decide +kernel
theorem dX8_buoyNumbered_9 : decode cX8_buoyNumbered 9 = .ok (.ifCond .eq 12, 3) := by decide +kernel
theorem dX8_buoyNumbered_12 : decode cX8_buoyNumbered 12 = .ok (.aload_n 0, 1) := by decide +kernel
theorem dX8_buoyNumbered_13 : decode cX8_buoyNumbered 13 = .ok (.getfield 18, 3) := by decide +kernel
theorem dX8_buoyNumbered_16 : decode cX8_buoyNumbered 16 = .ok (.iload_n 1, 1) := by decide +kernel
theorem dX8_buoyNumbered_17 : decode cX8_buoyNumbered 17 = .ok (.aaload, 1) := by decide +kernel
theorem dX8_buoyNumbered_18 : decode cX8_buoyNumbered 18 = .ok (.goto 4, 3) := by decide +kernel
theorem dX8_buoyNumbered_21 : decode cX8_buoyNumbered 21 = .ok (.aconst_null, 1) := by decide +kernel
theorem dX8_buoyNumbered_22 : decode cX8_buoyNumbered 22 = .ok (.astore_n 2, 1) := by decide +kernel
theorem dX8_buoyNumbered_23 : decode cX8_buoyNumbered 23 = .ok (.aload_n 2, 1) := by decide +kernel
theorem dX8_buoyNumbered_24 : decode cX8_buoyNumbered 24 = .ok (.ifnonnull 14, 3) := by decide +kernel
theorem dX8_buoyNumbered_27 : decode cX8_buoyNumbered 27 = .ok (.new 279, 3) := by decide +kernel
theorem dX8_buoyNumbered_30 : decode cX8_buoyNumbered 30 = .ok (.dup, 1) := by decide +kernel
theorem dX8_buoyNumbered_31 : decode cX8_buoyNumbered 31 = .ok (.ldc_w 291, 3) := by decide +kernel
theorem dX8_buoyNumbered_34 : decode cX8_buoyNumbered 34 = .ok (.invokespecial 283, 3) := by decide +kernel
theorem dX8_buoyNumbered_37 : decode cX8_buoyNumbered 37 = .ok (.athrow, 1) := by decide +kernel
theorem dX8_buoyNumbered_38 : decode cX8_buoyNumbered 38 = .ok (.aload_n 2, 1) := by decide +kernel
theorem dX8_buoyNumbered_39 : decode cX8_buoyNumbered 39 = .ok (.areturn, 1) := by decide +kernel
theorem dX8_readingNumbered_0 : decode cX8_readingNumbered 0 = .ok (.iload_n 1, 1) := by decide +kernel
theorem dX8_readingNumbered_1 : decode cX8_readingNumbered 1 = .ok (.aload_n 0, 1) := by decide +kernel
theorem dX8_readingNumbered_2 : decode cX8_readingNumbered 2 = .ok (.getfield 25, 3) := by decide +kernel
theorem dX8_readingNumbered_5 : decode cX8_readingNumbered 5 = .ok (.getfield 293, 3) := by decide +kernel
theorem dX8_readingNumbered_8 : decode cX8_readingNumbered 8 = .ok (.arraylength, 1) := by decide +kernel
theorem dX8_readingNumbered_9 : decode cX8_readingNumbered 9 = .ok (.invokestatic 93, 3) := by decide +kernel
theorem dX8_readingNumbered_12 : decode cX8_readingNumbered 12 = .ok (.ifCond .eq 15, 3) := by decide +kernel
theorem dX8_readingNumbered_15 : decode cX8_readingNumbered 15 = .ok (.aload_n 0, 1) := by decide +kernel
theorem dX8_readingNumbered_16 : decode cX8_readingNumbered 16 = .ok (.getfield 25, 3) := by decide +kernel
theorem dX8_readingNumbered_19 : decode cX8_readingNumbered 19 = .ok (.getfield 293, 3) := by decide +kernel
theorem dX8_readingNumbered_22 : decode cX8_readingNumbered 22 = .ok (.iload_n 1, 1) := by decide +kernel
theorem dX8_readingNumbered_23 : decode cX8_readingNumbered 23 = .ok (.aaload, 1) := by decide +kernel
theorem dX8_readingNumbered_24 : decode cX8_readingNumbered 24 = .ok (.goto 4, 3) := by decide +kernel
theorem dX8_readingNumbered_27 : decode cX8_readingNumbered 27 = .ok (.aconst_null, 1) := by decide +kernel
theorem dX8_readingNumbered_28 : decode cX8_readingNumbered 28 = .ok (.astore_n 2, 1) := by decide +kernel
theorem dX8_readingNumbered_29 : decode cX8_readingNumbered 29 = .ok (.aload_n 2, 1) := by decide +kernel
theorem dX8_readingNumbered_30 : decode cX8_readingNumbered 30 = .ok (.ifnonnull 14, 3) := by decide +kernel
theorem dX8_readingNumbered_33 : decode cX8_readingNumbered 33 = .ok (.new 279, 3) := by decide +kernel
theorem dX8_readingNumbered_36 : decode cX8_readingNumbered 36 = .ok (.dup, 1) := by decide +kernel
theorem dX8_readingNumbered_37 : decode cX8_readingNumbered 37 = .ok (.ldc_w 297, 3) := by decide +kernel
theorem dX8_readingNumbered_40 : decode cX8_readingNumbered 40 = .ok (.invokespecial 283, 3) := by decide +kernel
theorem dX8_readingNumbered_43 : decode cX8_readingNumbered 43 = .ok (.athrow, 1) := by decide +kernel
theorem dX8_readingNumbered_44 : decode cX8_readingNumbered 44 = .ok (.aload_n 2, 1) := by decide +kernel
theorem dX8_readingNumbered_45 : decode cX8_readingNumbered 45 = .ok (.areturn, 1) := by decide +kernel
theorem dX8_searchNumbered_0 : decode cX8_searchNumbered 0 = .ok (.iload_n 1, 1) := by decide +kernel
theorem dX8_searchNumbered_1 : decode cX8_searchNumbered 1 = .ok (.aload_n 0, 1) := by decide +kernel
theorem dX8_searchNumbered_2 : decode cX8_searchNumbered 2 = .ok (.getfield 38, 3) := by decide +kernel
theorem dX8_searchNumbered_5 : decode cX8_searchNumbered 5 = .ok (.arraylength, 1) := by decide +kernel
theorem dX8_searchNumbered_6 : decode cX8_searchNumbered 6 = .ok (.invokestatic 93, 3) := by decide +kernel
theorem dX8_searchNumbered_9 : decode cX8_searchNumbered 9 = .ok (.ifCond .eq 12, 3) := by decide +kernel
theorem dX8_searchNumbered_12 : decode cX8_searchNumbered 12 = .ok (.aload_n 0, 1) := by decide +kernel
theorem dX8_searchNumbered_13 : decode cX8_searchNumbered 13 = .ok (.getfield 38, 3) := by decide +kernel
theorem dX8_searchNumbered_16 : decode cX8_searchNumbered 16 = .ok (.iload_n 1, 1) := by decide +kernel
theorem dX8_searchNumbered_17 : decode cX8_searchNumbered 17 = .ok (.aaload, 1) := by decide +kernel
theorem dX8_searchNumbered_18 : decode cX8_searchNumbered 18 = .ok (.goto 4, 3) := by decide +kernel
theorem dX8_searchNumbered_21 : decode cX8_searchNumbered 21 = .ok (.aconst_null, 1) := by decide +kernel
theorem dX8_searchNumbered_22 : decode cX8_searchNumbered 22 = .ok (.astore_n 2, 1) := by decide +kernel
theorem dX8_searchNumbered_23 : decode cX8_searchNumbered 23 = .ok (.aload_n 2, 1) := by decide +kernel
theorem dX8_searchNumbered_24 : decode cX8_searchNumbered 24 = .ok (.ifnonnull 14, 3) := by decide +kernel
theorem dX8_searchNumbered_27 : decode cX8_searchNumbered 27 = .ok (.new 279, 3) := by decide +kernel
theorem dX8_searchNumbered_30 : decode cX8_searchNumbered 30 = .ok (.dup, 1) := by decide +kernel
theorem dX8_searchNumbered_31 : decode cX8_searchNumbered 31 = .ok (.ldc_w 299, 3) := by decide +kernel
theorem dX8_searchNumbered_34 : decode cX8_searchNumbered 34 = .ok (.invokespecial 283, 3) := by decide +kernel
theorem dX8_searchNumbered_37 : decode cX8_searchNumbered 37 = .ok (.athrow, 1) := by decide +kernel
theorem dX8_searchNumbered_38 : decode cX8_searchNumbered 38 = .ok (.aload_n 2, 1) := by decide +kernel
theorem dX8_searchNumbered_39 : decode cX8_searchNumbered 39 = .ok (.areturn, 1) := by decide +kernel
theorem dX8_sumOf_0 : decode cX8_sumOf 0 = .ok (.iconst 0, 1) := by decide +kernel
theorem dX8_sumOf_1 : decode cX8_sumOf 1 = .ok (.istore_n 1, 1) := by decide +kernel
theorem dX8_sumOf_2 : decode cX8_sumOf 2 = .ok (.aload_n 0, 1) := by decide +kernel
theorem dX8_sumOf_3 : decode cX8_sumOf 3 = .ok (.astore_n 2, 1) := by decide +kernel
theorem dX8_sumOf_4 : decode cX8_sumOf 4 = .ok (.aload_n 2, 1) := by decide +kernel
theorem dX8_sumOf_5 : decode cX8_sumOf 5 = .ok (.arraylength, 1) := by decide +kernel
theorem dX8_sumOf_6 : decode cX8_sumOf 6 = .ok (.istore_n 3, 1) := by decide +kernel
theorem dX8_sumOf_7 : decode cX8_sumOf 7 = .ok (.iconst 0, 1) := by decide +kernel
theorem dX8_sumOf_8 : decode cX8_sumOf 8 = .ok (.istore 4, 2) := by decide +kernel
theorem dX8_sumOf_10 : decode cX8_sumOf 10 = .ok (.iload 4, 2) := by decide +kernel
theorem dX8_sumOf_12 : decode cX8_sumOf 12 = .ok (.iload_n 3, 1) := by decide +kernel
theorem dX8_sumOf_13 : decode cX8_sumOf 13 = .ok (.if_icmp .ge 20, 3) := by decide +kernel
theorem dX8_sumOf_16 : decode cX8_sumOf 16 = .ok (.aload_n 2, 1) := by decide +kernel
theorem dX8_sumOf_17 : decode cX8_sumOf 17 = .ok (.iload 4, 2) := by decide +kernel
theorem dX8_sumOf_19 : decode cX8_sumOf 19 = .ok (.iaload, 1) := by decide +kernel
theorem dX8_sumOf_20 : decode cX8_sumOf 20 = .ok (.istore 5, 2) := by decide +kernel
theorem dX8_sumOf_22 : decode cX8_sumOf 22 = .ok (.iload_n 1, 1) := by decide +kernel
theorem dX8_sumOf_23 : decode cX8_sumOf 23 = .ok (.iload 5, 2) := by decide +kernel
theorem dX8_sumOf_25 : decode cX8_sumOf 25 = .ok (.iadd, 1) := by decide +kernel
theorem dX8_sumOf_26 : decode cX8_sumOf 26 = .ok (.istore_n 1, 1) := by decide +kernel
theorem dX8_sumOf_27 : decode cX8_sumOf 27 = .ok (.iinc 4 1, 3) := by decide +kernel
theorem dX8_sumOf_30 : decode cX8_sumOf 30 = .ok (.goto (-20), 3) := by decide +kernel
theorem dX8_sumOf_33 : decode cX8_sumOf 33 = .ok (.iload_n 1, 1) := by decide +kernel
theorem dX8_sumOf_34 : decode cX8_sumOf 34 = .ok (.ireturn, 1) := by decide +kernel
theorem dX8_isTaken_0 : decode cX8_isTaken 0 = .ok (.aload_n 0, 1) := by decide +kernel
theorem dX8_isTaken_1 : decode cX8_isTaken 1 = .ok (.getfield 18, 3) := by decide +kernel
theorem dX8_isTaken_4 : decode cX8_isTaken 4 = .ok (.astore_n 2, 1) := by decide +kernel
theorem dX8_isTaken_5 : decode cX8_isTaken 5 = .ok (.aload_n 2, 1) := by decide +kernel
theorem dX8_isTaken_6 : decode cX8_isTaken 6 = .ok (.arraylength, 1) := by decide +kernel
theorem dX8_isTaken_7 : decode cX8_isTaken 7 = .ok (.istore_n 3, 1) := by decide +kernel
theorem dX8_isTaken_8 : decode cX8_isTaken 8 = .ok (.iconst 0, 1) := by decide +kernel
theorem dX8_isTaken_9 : decode cX8_isTaken 9 = .ok (.istore 4, 2) := by decide +kernel
theorem dX8_isTaken_11 : decode cX8_isTaken 11 = .ok (.iload 4, 2) := by decide +kernel
theorem dX8_isTaken_13 : decode cX8_isTaken 13 = .ok (.iload_n 3, 1) := by decide +kernel
theorem dX8_isTaken_14 : decode cX8_isTaken 14 = .ok (.if_icmp .ge 31, 3) := by decide +kernel
theorem dX8_isTaken_17 : decode cX8_isTaken 17 = .ok (.aload_n 2, 1) := by decide +kernel
theorem dX8_isTaken_18 : decode cX8_isTaken 18 = .ok (.iload 4, 2) := by decide +kernel
theorem dX8_isTaken_20 : decode cX8_isTaken 20 = .ok (.aaload, 1) := by decide +kernel
theorem dX8_isTaken_21 : decode cX8_isTaken 21 = .ok (.astore 5, 2) := by decide +kernel
theorem dX8_isTaken_23 : decode cX8_isTaken 23 = .ok (.aload 5, 2) := by decide +kernel
theorem dX8_isTaken_25 : decode cX8_isTaken 25 = .ok (.ifnull 14, 3) := by decide +kernel
theorem dX8_isTaken_28 : decode cX8_isTaken 28 = .ok (.aload 5, 2) := by decide +kernel
theorem dX8_isTaken_30 : decode cX8_isTaken 30 = .ok (.getfield 215, 3) := by decide +kernel
theorem dX8_isTaken_33 : decode cX8_isTaken 33 = .ok (.iload_n 1, 1) := by decide +kernel
theorem dX8_isTaken_34 : decode cX8_isTaken 34 = .ok (.if_icmp .ne 5, 3) := by decide +kernel
theorem dX8_isTaken_37 : decode cX8_isTaken 37 = .ok (.iconst 1, 1) := by decide +kernel
theorem dX8_isTaken_38 : decode cX8_isTaken 38 = .ok (.ireturn, 1) := by decide +kernel
theorem dX8_isTaken_39 : decode cX8_isTaken 39 = .ok (.iinc 4 1, 3) := by decide +kernel
theorem dX8_isTaken_42 : decode cX8_isTaken 42 = .ok (.goto (-31), 3) := by decide +kernel
theorem dX8_isTaken_45 : decode cX8_isTaken 45 = .ok (.aload_n 0, 1) := by decide +kernel
theorem dX8_isTaken_46 : decode cX8_isTaken 46 = .ok (.getfield 38, 3) := by decide +kernel
theorem dX8_isTaken_49 : decode cX8_isTaken 49 = .ok (.astore_n 2, 1) := by decide +kernel
theorem dX8_isTaken_50 : decode cX8_isTaken 50 = .ok (.aload_n 2, 1) := by decide +kernel
theorem dX8_isTaken_51 : decode cX8_isTaken 51 = .ok (.arraylength, 1) := by decide +kernel
theorem dX8_isTaken_52 : decode cX8_isTaken 52 = .ok (.istore_n 3, 1) := by decide +kernel
theorem dX8_isTaken_53 : decode cX8_isTaken 53 = .ok (.iconst 0, 1) := by decide +kernel
theorem dX8_isTaken_54 : decode cX8_isTaken 54 = .ok (.istore 4, 2) := by decide +kernel
theorem dX8_isTaken_56 : decode cX8_isTaken 56 = .ok (.iload 4, 2) := by decide +kernel
theorem dX8_isTaken_58 : decode cX8_isTaken 58 = .ok (.iload_n 3, 1) := by decide +kernel
theorem dX8_isTaken_59 : decode cX8_isTaken 59 = .ok (.if_icmp .ge 31, 3) := by decide +kernel
theorem dX8_isTaken_62 : decode cX8_isTaken 62 = .ok (.aload_n 2, 1) := by decide +kernel
theorem dX8_isTaken_63 : decode cX8_isTaken 63 = .ok (.iload 4, 2) := by decide +kernel
theorem dX8_isTaken_65 : decode cX8_isTaken 65 = .ok (.aaload, 1) := by decide +kernel
theorem dX8_isTaken_66 : decode cX8_isTaken 66 = .ok (.astore 5, 2) := by decide +kernel
theorem dX8_isTaken_68 : decode cX8_isTaken 68 = .ok (.aload 5, 2) := by decide +kernel
theorem dX8_isTaken_70 : decode cX8_isTaken 70 = .ok (.ifnull 14, 3) := by decide +kernel
theorem dX8_isTaken_73 : decode cX8_isTaken 73 = .ok (.aload 5, 2) := by decide +kernel
theorem dX8_isTaken_75 : decode cX8_isTaken 75 = .ok (.getfield 301, 3) := by decide +kernel
theorem dX8_isTaken_78 : decode cX8_isTaken 78 = .ok (.iload_n 1, 1) := by decide +kernel
theorem dX8_isTaken_79 : decode cX8_isTaken 79 = .ok (.if_icmp .ne 5, 3) := by decide +kernel
theorem dX8_isTaken_82 : decode cX8_isTaken 82 = .ok (.iconst 1, 1) := by decide +kernel
theorem dX8_isTaken_83 : decode cX8_isTaken 83 = .ok (.ireturn, 1) := by decide +kernel
theorem dX8_isTaken_84 : decode cX8_isTaken 84 = .ok (.iinc 4 1, 3) := by decide +kernel
theorem dX8_isTaken_87 : decode cX8_isTaken 87 = .ok (.goto (-31), 3) := by decide +kernel
theorem dX8_isTaken_90 : decode cX8_isTaken 90 = .ok (.aload_n 0, 1) := by decide +kernel
theorem dX8_isTaken_91 : decode cX8_isTaken 91 = .ok (.getfield 32, 3) := by decide +kernel
theorem dX8_isTaken_94 : decode cX8_isTaken 94 = .ok (.iload_n 1, 1) := by decide +kernel
theorem dX8_isTaken_95 : decode cX8_isTaken 95 = .ok (.invokevirtual 304, 3) := by decide +kernel
theorem dX8_isTaken_98 : decode cX8_isTaken 98 = .ok (.ireturn, 1) := by decide +kernel
theorem dX8_meanWithout_0 : decode cX8_meanWithout 0 = .ok (.aload_n 0, 1) := by decide +kernel
theorem dX8_meanWithout_1 : decode cX8_meanWithout 1 = .ok (.getfield 25, 3) := by decide +kernel
theorem dX8_meanWithout_4 : decode cX8_meanWithout 4 = .ok (.aload_n 1, 1) := by decide +kernel
theorem dX8_meanWithout_5 : decode cX8_meanWithout 5 = .ok (.iload_n 2, 1) := by decide +kernel
theorem dX8_meanWithout_6 : decode cX8_meanWithout 6 = .ok (.iload_n 3, 1) := by decide +kernel
theorem dX8_meanWithout_7 : decode cX8_meanWithout 7 = .ok (.iload 4, 2) := by decide +kernel
theorem dX8_meanWithout_9 : decode cX8_meanWithout 9 = .ok (.invokevirtual 258, 3) := by decide +kernel
theorem dX8_meanWithout_12 : decode cX8_meanWithout 12 = .ok (.istore 5, 2) := by decide +kernel
theorem dX8_meanWithout_14 : decode cX8_meanWithout 14 = .ok (.iload 5, 2) := by decide +kernel
theorem dX8_meanWithout_16 : decode cX8_meanWithout 16 = .ok (.ifCond .gt 14, 3) := by decide +kernel
theorem dX8_meanWithout_19 : decode cX8_meanWithout 19 = .ok (.new 63, 3) := by decide +kernel
theorem dX8_meanWithout_22 : decode cX8_meanWithout 22 = .ok (.dup, 1) := by decide +kernel
theorem dX8_meanWithout_23 : decode cX8_meanWithout 23 = .ok (.ldc_w 307, 3) := by decide +kernel
theorem dX8_meanWithout_26 : decode cX8_meanWithout 26 = .ok (.invokespecial 67, 3) := by decide +kernel
theorem dX8_meanWithout_29 : decode cX8_meanWithout 29 = .ok (.athrow, 1) := by decide +kernel
theorem dX8_meanWithout_30 : decode cX8_meanWithout 30 = .ok (.aload_n 0, 1) := by decide +kernel
theorem dX8_meanWithout_31 : decode cX8_meanWithout 31 = .ok (.getfield 25, 3) := by decide +kernel
theorem dX8_meanWithout_34 : decode cX8_meanWithout 34 = .ok (.aload_n 1, 1) := by decide +kernel
theorem dX8_meanWithout_35 : decode cX8_meanWithout 35 = .ok (.iload_n 2, 1) := by decide +kernel
theorem dX8_meanWithout_36 : decode cX8_meanWithout 36 = .ok (.iload_n 3, 1) := by decide +kernel
theorem dX8_meanWithout_37 : decode cX8_meanWithout 37 = .ok (.iload 4, 2) := by decide +kernel
theorem dX8_meanWithout_39 : decode cX8_meanWithout 39 = .ok (.invokevirtual 309, 3) := by decide +kernel
theorem dX8_meanWithout_42 : decode cX8_meanWithout 42 = .ok (.iload 5, 2) := by decide +kernel
theorem dX8_meanWithout_44 : decode cX8_meanWithout 44 = .ok (.i2l, 1) := by decide +kernel
theorem dX8_meanWithout_45 : decode cX8_meanWithout 45 = .ok (.ldiv, 1) := by decide +kernel
theorem dX8_meanWithout_46 : decode cX8_meanWithout 46 = .ok (.l2i, 1) := by decide +kernel
theorem dX8_meanWithout_47 : decode cX8_meanWithout 47 = .ok (.ireturn, 1) := by decide +kernel
theorem dX8_passOneDay_0 : decode cX8_passOneDay 0 = .ok (.aload_n 0, 1) := by decide +kernel
theorem dX8_passOneDay_1 : decode cX8_passOneDay 1 = .ok (.dup, 1) := by decide +kernel
theorem dX8_passOneDay_2 : decode cX8_passOneDay 2 = .ok (.getfield 52, 3) := by decide +kernel
theorem dX8_passOneDay_5 : decode cX8_passOneDay 5 = .ok (.iconst 1, 1) := by decide +kernel
theorem dX8_passOneDay_6 : decode cX8_passOneDay 6 = .ok (.iadd, 1) := by decide +kernel
theorem dX8_passOneDay_7 : decode cX8_passOneDay 7 = .ok (.putfield 52, 3) := by decide +kernel
theorem dX8_passOneDay_10 : decode cX8_passOneDay 10 = .ok (.aload_n 0, 1) := by decide +kernel
theorem dX8_passOneDay_11 : decode cX8_passOneDay 11 = .ok (.getfield 12, 3) := by decide +kernel
theorem dX8_passOneDay_14 : decode cX8_passOneDay 14 = .ok (.invokevirtual 316, 3) := by decide +kernel
theorem dX8_passOneDay_17 : decode cX8_passOneDay 17 = .ok (.aload_n 0, 1) := by decide +kernel
theorem dX8_passOneDay_18 : decode cX8_passOneDay 18 = .ok (.getfield 12, 3) := by decide +kernel
theorem dX8_passOneDay_21 : decode cX8_passOneDay 21 = .ok (.invokevirtual 319, 3) := by decide +kernel
theorem dX8_passOneDay_24 : decode cX8_passOneDay 24 = .ok (.aload_n 0, 1) := by decide +kernel
theorem dX8_passOneDay_25 : decode cX8_passOneDay 25 = .ok (.getfield 12, 3) := by decide +kernel
theorem dX8_passOneDay_28 : decode cX8_passOneDay 28 = .ok (.invokevirtual 322, 3) := by decide +kernel
theorem dX8_passOneDay_31 : decode cX8_passOneDay 31 = .ok (.aload_n 0, 1) := by decide +kernel
theorem dX8_passOneDay_32 : decode cX8_passOneDay 32 = .ok (.getfield 18, 3) := by decide +kernel
theorem dX8_passOneDay_35 : decode cX8_passOneDay 35 = .ok (.astore_n 1, 1) := by decide +kernel
theorem dX8_passOneDay_36 : decode cX8_passOneDay 36 = .ok (.aload_n 1, 1) := by decide +kernel
theorem dX8_passOneDay_37 : decode cX8_passOneDay 37 = .ok (.arraylength, 1) := by decide +kernel
theorem dX8_passOneDay_38 : decode cX8_passOneDay 38 = .ok (.istore_n 2, 1) := by decide +kernel
theorem dX8_passOneDay_39 : decode cX8_passOneDay 39 = .ok (.iconst 0, 1) := by decide +kernel
theorem dX8_passOneDay_40 : decode cX8_passOneDay 40 = .ok (.istore_n 3, 1) := by decide +kernel
theorem dX8_passOneDay_41 : decode cX8_passOneDay 41 = .ok (.iload_n 3, 1) := by decide +kernel
theorem dX8_passOneDay_42 : decode cX8_passOneDay 42 = .ok (.iload_n 2, 1) := by decide +kernel
theorem dX8_passOneDay_43 : decode cX8_passOneDay 43 = .ok (.if_icmp .ge 33, 3) := by decide +kernel
theorem dX8_passOneDay_46 : decode cX8_passOneDay 46 = .ok (.aload_n 1, 1) := by decide +kernel
theorem dX8_passOneDay_47 : decode cX8_passOneDay 47 = .ok (.iload_n 3, 1) := by decide +kernel
theorem dX8_passOneDay_48 : decode cX8_passOneDay 48 = .ok (.aaload, 1) := by decide +kernel
theorem dX8_passOneDay_49 : decode cX8_passOneDay 49 = .ok (.astore 4, 2) := by decide +kernel
theorem dX8_passOneDay_51 : decode cX8_passOneDay 51 = .ok (.aload 4, 2) := by decide +kernel
theorem dX8_passOneDay_53 : decode cX8_passOneDay 53 = .ok (.ifnull 17, 3) := by decide +kernel
theorem dX8_passOneDay_56 : decode cX8_passOneDay 56 = .ok (.aload 4, 2) := by decide +kernel
theorem dX8_passOneDay_58 : decode cX8_passOneDay 58 = .ok (.getfield 221, 3) := by decide +kernel
theorem dX8_passOneDay_61 : decode cX8_passOneDay 61 = .ok (.ifCond .le 9, 3) := by decide +kernel
theorem dX8_passOneDay_64 : decode cX8_passOneDay 64 = .ok (.aload_n 0, 1) := by decide +kernel
theorem dX8_passOneDay_65 : decode cX8_passOneDay 65 = .ok (.aload 4, 2) := by decide +kernel
theorem dX8_passOneDay_67 : decode cX8_passOneDay 67 = .ok (.invokevirtual 325, 3) := by decide +kernel
theorem dX8_passOneDay_70 : decode cX8_passOneDay 70 = .ok (.iinc 3 1, 3) := by decide +kernel
theorem dX8_passOneDay_73 : decode cX8_passOneDay 73 = .ok (.goto (-32), 3) := by decide +kernel
theorem dX8_passOneDay_76 : decode cX8_passOneDay 76 = .ok (.aload_n 0, 1) := by decide +kernel
theorem dX8_passOneDay_77 : decode cX8_passOneDay 77 = .ok (.getfield 38, 3) := by decide +kernel
theorem dX8_passOneDay_80 : decode cX8_passOneDay 80 = .ok (.astore_n 1, 1) := by decide +kernel
theorem dX8_passOneDay_81 : decode cX8_passOneDay 81 = .ok (.aload_n 1, 1) := by decide +kernel
theorem dX8_passOneDay_82 : decode cX8_passOneDay 82 = .ok (.arraylength, 1) := by decide +kernel
theorem dX8_passOneDay_83 : decode cX8_passOneDay 83 = .ok (.istore_n 2, 1) := by decide +kernel
theorem dX8_passOneDay_84 : decode cX8_passOneDay 84 = .ok (.iconst 0, 1) := by decide +kernel
theorem dX8_passOneDay_85 : decode cX8_passOneDay 85 = .ok (.istore_n 3, 1) := by decide +kernel
theorem dX8_passOneDay_86 : decode cX8_passOneDay 86 = .ok (.iload_n 3, 1) := by decide +kernel
theorem dX8_passOneDay_87 : decode cX8_passOneDay 87 = .ok (.iload_n 2, 1) := by decide +kernel
theorem dX8_passOneDay_88 : decode cX8_passOneDay 88 = .ok (.if_icmp .ge 28, 3) := by decide +kernel
theorem dX8_passOneDay_91 : decode cX8_passOneDay 91 = .ok (.aload_n 1, 1) := by decide +kernel
theorem dX8_passOneDay_92 : decode cX8_passOneDay 92 = .ok (.iload_n 3, 1) := by decide +kernel
theorem dX8_passOneDay_93 : decode cX8_passOneDay 93 = .ok (.aaload, 1) := by decide +kernel
theorem dX8_passOneDay_94 : decode cX8_passOneDay 94 = .ok (.astore 4, 2) := by decide +kernel
theorem dX8_passOneDay_96 : decode cX8_passOneDay 96 = .ok (.aload 4, 2) := by decide +kernel
theorem dX8_passOneDay_98 : decode cX8_passOneDay 98 = .ok (.ifnull 12, 3) := by decide +kernel
theorem dX8_passOneDay_101 : decode cX8_passOneDay 101 = .ok (.aload 4, 2) := by decide +kernel
theorem dX8_passOneDay_103 : decode cX8_passOneDay 103 = .ok (.aload_n 0, 1) := by decide +kernel
theorem dX8_passOneDay_104 : decode cX8_passOneDay 104 = .ok (.getfield 12, 3) := by decide +kernel
theorem dX8_passOneDay_107 : decode cX8_passOneDay 107 = .ok (.invokevirtual 329, 3) := by decide +kernel
theorem dX8_passOneDay_110 : decode cX8_passOneDay 110 = .ok (.iinc 3 1, 3) := by decide +kernel
theorem dX8_passOneDay_113 : decode cX8_passOneDay 113 = .ok (.goto (-27), 3) := by decide +kernel
theorem dX8_passOneDay_116 : decode cX8_passOneDay 116 = .ok (.aload_n 0, 1) := by decide +kernel
theorem dX8_passOneDay_117 : decode cX8_passOneDay 117 = .ok (.invokevirtual 333, 3) := by decide +kernel
theorem dX8_passOneDay_120 : decode cX8_passOneDay 120 = .ok (.return_, 1) := by decide +kernel
theorem dX8_letDrift_0 : decode cX8_letDrift 0 = .ok (.aload_n 1, 1) := by decide +kernel
theorem dX8_letDrift_1 : decode cX8_letDrift 1 = .ok (.dup, 1) := by decide +kernel
theorem dX8_letDrift_2 : decode cX8_letDrift 2 = .ok (.getfield 218, 3) := by decide +kernel
theorem dX8_letDrift_5 : decode cX8_letDrift 5 = .ok (.iconst 1, 1) := by decide +kernel
theorem dX8_letDrift_6 : decode cX8_letDrift 6 = .ok (.isub, 1) := by decide +kernel
theorem dX8_letDrift_7 : decode cX8_letDrift 7 = .ok (.putfield 218, 3) := by decide +kernel
theorem dX8_letDrift_10 : decode cX8_letDrift 10 = .ok (.aload_n 1, 1) := by decide +kernel
theorem dX8_letDrift_11 : decode cX8_letDrift 11 = .ok (.getfield 218, 3) := by decide +kernel
theorem dX8_letDrift_14 : decode cX8_letDrift 14 = .ok (.ifCond .le 4, 3) := by decide +kernel
theorem dX8_letDrift_17 : decode cX8_letDrift 17 = .ok (.return_, 1) := by decide +kernel
theorem dX8_letDrift_18 : decode cX8_letDrift 18 = .ok (.aload_n 0, 1) := by decide +kernel
theorem dX8_letDrift_19 : decode cX8_letDrift 19 = .ok (.getfield 12, 3) := by decide +kernel
theorem dX8_letDrift_22 : decode cX8_letDrift 22 = .ok (.aload_n 1, 1) := by decide +kernel
theorem dX8_letDrift_23 : decode cX8_letDrift 23 = .ok (.getfield 215, 3) := by decide +kernel
theorem dX8_letDrift_26 : decode cX8_letDrift 26 = .ok (.invokevirtual 336, 3) := by decide +kernel
theorem dX8_letDrift_29 : decode cX8_letDrift 29 = .ok (.istore_n 2, 1) := by decide +kernel
theorem dX8_letDrift_30 : decode cX8_letDrift 30 = .ok (.iload_n 2, 1) := by decide +kernel
theorem dX8_letDrift_31 : decode cX8_letDrift 31 = .ok (.iconst (-1), 1) := by decide +kernel
theorem dX8_letDrift_32 : decode cX8_letDrift 32 = .ok (.if_icmp .eq 8, 3) := by decide +kernel
theorem dX8_letDrift_35 : decode cX8_letDrift 35 = .ok (.aload_n 1, 1) := by decide +kernel
theorem dX8_letDrift_36 : decode cX8_letDrift 36 = .ok (.iload_n 2, 1) := by decide +kernel
theorem dX8_letDrift_37 : decode cX8_letDrift 37 = .ok (.putfield 215, 3) := by decide +kernel
theorem dX8_letDrift_40 : decode cX8_letDrift 40 = .ok (.aload_n 0, 1) := by decide +kernel
theorem dX8_letDrift_41 : decode cX8_letDrift 41 = .ok (.getfield 25, 3) := by decide +kernel
theorem dX8_letDrift_44 : decode cX8_letDrift 44 = .ok (.aload_n 0, 1) := by decide +kernel
theorem dX8_letDrift_45 : decode cX8_letDrift 45 = .ok (.getfield 52, 3) := by decide +kernel
theorem dX8_letDrift_48 : decode cX8_letDrift 48 = .ok (.aload_n 1, 1) := by decide +kernel
theorem dX8_letDrift_49 : decode cX8_letDrift 49 = .ok (.getfield 215, 3) := by decide +kernel
theorem dX8_letDrift_52 : decode cX8_letDrift 52 = .ok (.aload_n 0, 1) := by decide +kernel
theorem dX8_letDrift_53 : decode cX8_letDrift 53 = .ok (.getfield 12, 3) := by decide +kernel
theorem dX8_letDrift_56 : decode cX8_letDrift 56 = .ok (.aload_n 1, 1) := by decide +kernel
theorem dX8_letDrift_57 : decode cX8_letDrift 57 = .ok (.getfield 215, 3) := by decide +kernel
theorem dX8_letDrift_60 : decode cX8_letDrift 60 = .ok (.invokevirtual 339, 3) := by decide +kernel
theorem dX8_letDrift_63 : decode cX8_letDrift 63 = .ok (.aload_n 1, 1) := by decide +kernel
theorem dX8_letDrift_64 : decode cX8_letDrift 64 = .ok (.getfield 342, 3) := by decide +kernel
theorem dX8_letDrift_67 : decode cX8_letDrift 67 = .ok (.iadd, 1) := by decide +kernel
theorem dX8_letDrift_68 : decode cX8_letDrift 68 = .ok (.aload_n 1, 1) := by decide +kernel
theorem dX8_letDrift_69 : decode cX8_letDrift 69 = .ok (.invokevirtual 345, 3) := by decide +kernel
theorem dX8_letDrift_72 : decode cX8_letDrift 72 = .ok (.aload_n 1, 1) := by decide +kernel
theorem dX8_letDrift_73 : decode cX8_letDrift 73 = .ok (.dup, 1) := by decide +kernel
theorem dX8_letDrift_74 : decode cX8_letDrift 74 = .ok (.getfield 221, 3) := by decide +kernel
theorem dX8_letDrift_77 : decode cX8_letDrift 77 = .ok (.iconst 1, 1) := by decide +kernel
theorem dX8_letDrift_78 : decode cX8_letDrift 78 = .ok (.isub, 1) := by decide +kernel
theorem dX8_letDrift_79 : decode cX8_letDrift 79 = .ok (.putfield 221, 3) := by decide +kernel
theorem dX8_letDrift_82 : decode cX8_letDrift 82 = .ok (.aload_n 1, 1) := by decide +kernel
theorem dX8_letDrift_83 : decode cX8_letDrift 83 = .ok (.aload_n 1, 1) := by decide +kernel
theorem dX8_letDrift_84 : decode cX8_letDrift 84 = .ok (.getfield 221, 3) := by decide +kernel
theorem dX8_letDrift_87 : decode cX8_letDrift 87 = .ok (.ifCond .le 10, 3) := by decide +kernel
theorem dX8_letDrift_90 : decode cX8_letDrift 90 = .ok (.aload_n 1, 1) := by decide +kernel
theorem dX8_letDrift_91 : decode cX8_letDrift 91 = .ok (.getfield 349, 3) := by decide +kernel
theorem dX8_letDrift_94 : decode cX8_letDrift 94 = .ok (.goto 4, 3) := by decide +kernel
theorem dX8_letDrift_97 : decode cX8_letDrift 97 = .ok (.iconst 0, 1) := by decide +kernel
theorem dX8_letDrift_98 : decode cX8_letDrift 98 = .ok (.putfield 218, 3) := by decide +kernel
theorem dX8_letDrift_101 : decode cX8_letDrift 101 = .ok (.return_, 1) := by decide +kernel
theorem dX8_readAtStations_0 : decode cX8_readAtStations 0 = .ok (.aload_n 0, 1) := by decide +kernel
theorem dX8_readAtStations_1 : decode cX8_readAtStations 1 = .ok (.getfield 32, 3) := by decide +kernel
theorem dX8_readAtStations_4 : decode cX8_readAtStations 4 = .ok (.aload_n 0, 1) := by decide +kernel
theorem dX8_readAtStations_5 : decode cX8_readAtStations 5 = .ok (.getfield 52, 3) := by decide +kernel
theorem dX8_readAtStations_8 : decode cX8_readAtStations 8 = .ok (.invokevirtual 352, 3) := by decide +kernel
theorem dX8_readAtStations_11 : decode cX8_readAtStations 11 = .ok (.ifCond .ne 7, 3) := by decide +kernel
theorem dX8_readAtStations_14 : decode cX8_readAtStations 14 = .ok (.iconst 1, 1) := by decide +kernel
theorem dX8_readAtStations_15 : decode cX8_readAtStations 15 = .ok (.goto 4, 3) := by decide +kernel
theorem dX8_readAtStations_18 : decode cX8_readAtStations 18 = .ok (.iconst 0, 1) := by decide +kernel
theorem dX8_readAtStations_19 : decode cX8_readAtStations 19 = .ok (.istore_n 1, 1) := by decide +kernel
theorem dX8_readAtStations_20 : decode cX8_readAtStations 20 = .ok (.aload_n 0, 1) := by decide +kernel
theorem dX8_readAtStations_21 : decode cX8_readAtStations 21 = .ok (.getfield 32, 3) := by decide +kernel
theorem dX8_readAtStations_24 : decode cX8_readAtStations 24 = .ok (.aload_n 0, 1) := by decide +kernel
theorem dX8_readAtStations_25 : decode cX8_readAtStations 25 = .ok (.getfield 52, 3) := by decide +kernel
theorem dX8_readAtStations_28 : decode cX8_readAtStations 28 = .ok (.invokevirtual 355, 3) := by decide +kernel
theorem dX8_readAtStations_31 : decode cX8_readAtStations 31 = .ok (.istore_n 2, 1) := by decide +kernel
theorem dX8_readAtStations_32 : decode cX8_readAtStations 32 = .ok (.iconst 0, 1) := by decide +kernel
theorem dX8_readAtStations_33 : decode cX8_readAtStations 33 = .ok (.istore_n 3, 1) := by decide +kernel
theorem dX8_readAtStations_34 : decode cX8_readAtStations 34 = .ok (.iload_n 3, 1) := by decide +kernel
theorem dX8_readAtStations_35 : decode cX8_readAtStations 35 = .ok (.iload_n 2, 1) := by decide +kernel
theorem dX8_readAtStations_36 : decode cX8_readAtStations 36 = .ok (.if_icmp .ge 46, 3) := by decide +kernel
theorem dX8_readAtStations_39 : decode cX8_readAtStations 39 = .ok (.iload_n 1, 1) := by decide +kernel
theorem dX8_readAtStations_40 : decode cX8_readAtStations 40 = .ok (.ifCond .eq 42, 3) := by decide +kernel
theorem dX8_readAtStations_43 : decode cX8_readAtStations 43 = .ok (.aload_n 0, 1) := by decide +kernel
theorem dX8_readAtStations_44 : decode cX8_readAtStations 44 = .ok (.getfield 32, 3) := by decide +kernel
theorem dX8_readAtStations_47 : decode cX8_readAtStations 47 = .ok (.iload_n 3, 1) := by decide +kernel
theorem dX8_readAtStations_48 : decode cX8_readAtStations 48 = .ok (.invokevirtual 358, 3) := by decide +kernel
theorem dX8_readAtStations_51 : decode cX8_readAtStations 51 = .ok (.istore 4, 2) := by decide +kernel
theorem dX8_readAtStations_53 : decode cX8_readAtStations 53 = .ok (.aload_n 0, 1) := by decide +kernel
theorem dX8_readAtStations_54 : decode cX8_readAtStations 54 = .ok (.getfield 25, 3) := by decide +kernel
theorem dX8_readAtStations_57 : decode cX8_readAtStations 57 = .ok (.aload_n 0, 1) := by decide +kernel
theorem dX8_readAtStations_58 : decode cX8_readAtStations 58 = .ok (.getfield 52, 3) := by decide +kernel
theorem dX8_readAtStations_61 : decode cX8_readAtStations 61 = .ok (.iload 4, 2) := by decide +kernel
theorem dX8_readAtStations_63 : decode cX8_readAtStations 63 = .ok (.aload_n 0, 1) := by decide +kernel
theorem dX8_readAtStations_64 : decode cX8_readAtStations 64 = .ok (.getfield 12, 3) := by decide +kernel
theorem dX8_readAtStations_67 : decode cX8_readAtStations 67 = .ok (.iload 4, 2) := by decide +kernel
theorem dX8_readAtStations_69 : decode cX8_readAtStations 69 = .ok (.invokevirtual 339, 3) := by decide +kernel
theorem dX8_readAtStations_72 : decode cX8_readAtStations 72 = .ok (.aconst_null, 1) := by decide +kernel
theorem dX8_readAtStations_73 : decode cX8_readAtStations 73 = .ok (.invokevirtual 345, 3) := by decide +kernel
theorem dX8_readAtStations_76 : decode cX8_readAtStations 76 = .ok (.iinc 3 1, 3) := by decide +kernel
theorem dX8_readAtStations_79 : decode cX8_readAtStations 79 = .ok (.goto (-45), 3) := by decide +kernel
theorem dX8_readAtStations_82 : decode cX8_readAtStations 82 = .ok (.aload_n 0, 1) := by decide +kernel
theorem dX8_readAtStations_83 : decode cX8_readAtStations 83 = .ok (.getfield 32, 3) := by decide +kernel
theorem dX8_readAtStations_86 : decode cX8_readAtStations 86 = .ok (.iload_n 2, 1) := by decide +kernel
theorem dX8_readAtStations_87 : decode cX8_readAtStations 87 = .ok (.invokevirtual 361, 3) := by decide +kernel
theorem dX8_readAtStations_90 : decode cX8_readAtStations 90 = .ok (.return_, 1) := by decide +kernel
theorem dJ9_abs_0f7a4_0 : decode cJ9_abs_0f7a4 0 = .ok (.iload_n 0, 1) := by decide +kernel
theorem dJ9_abs_0f7a4_1 : decode cJ9_abs_0f7a4 1 = .ok (.ifCond .ge 8, 3) := by decide +kernel
theorem dJ9_abs_0f7a4_4 : decode cJ9_abs_0f7a4 4 = .ok (.iload_n 0, 1) := by decide +kernel
theorem dJ9_abs_0f7a4_5 : decode cJ9_abs_0f7a4 5 = .ok (.ineg, 1) := by decide +kernel
theorem dJ9_abs_0f7a4_6 : decode cJ9_abs_0f7a4 6 = .ok (.goto 4, 3) := by decide +kernel
theorem dJ9_abs_0f7a4_9 : decode cJ9_abs_0f7a4 9 = .ok (.iload_n 0, 1) := by decide +kernel
theorem dJ9_abs_0f7a4_10 : decode cJ9_abs_0f7a4 10 = .ok (.ireturn, 1) := by decide +kernel
theorem dJ9_max_7cf53_0 : decode cJ9_max_7cf53 0 = .ok (.iload_n 0, 1) := by decide +kernel
theorem dJ9_max_7cf53_1 : decode cJ9_max_7cf53 1 = .ok (.iload_n 1, 1) := by decide +kernel
theorem dJ9_max_7cf53_2 : decode cJ9_max_7cf53 2 = .ok (.if_icmp .lt 7, 3) := by decide +kernel
theorem dJ9_max_7cf53_5 : decode cJ9_max_7cf53 5 = .ok (.iload_n 0, 1) := by decide +kernel
theorem dJ9_max_7cf53_6 : decode cJ9_max_7cf53 6 = .ok (.goto 4, 3) := by decide +kernel
theorem dJ9_max_7cf53_9 : decode cJ9_max_7cf53 9 = .ok (.iload_n 1, 1) := by decide +kernel
theorem dJ9_max_7cf53_10 : decode cJ9_max_7cf53 10 = .ok (.ireturn, 1) := by decide +kernel
theorem dJ9_min_7cf53_0 : decode cJ9_min_7cf53 0 = .ok (.iload_n 0, 1) := by decide +kernel
theorem dJ9_min_7cf53_1 : decode cJ9_min_7cf53 1 = .ok (.iload_n 1, 1) := by decide +kernel
theorem dJ9_min_7cf53_2 : decode cJ9_min_7cf53 2 = .ok (.if_icmp .gt 7, 3) := by decide +kernel
theorem dJ9_min_7cf53_5 : decode cJ9_min_7cf53 5 = .ok (.iload_n 0, 1) := by decide +kernel
theorem dJ9_min_7cf53_6 : decode cJ9_min_7cf53 6 = .ok (.goto 4, 3) := by decide +kernel
theorem dJ9_min_7cf53_9 : decode cJ9_min_7cf53 9 = .ok (.iload_n 1, 1) := by decide +kernel
theorem dJ9_min_7cf53_10 : decode cJ9_min_7cf53 10 = .ok (.ireturn, 1) := by decide +kernel
theorem dJ7_fill_53178_0 : decode cJ7_fill_53178 0 = .ok (.iconst 0, 1) := by decide +kernel
theorem dJ7_fill_53178_1 : decode cJ7_fill_53178 1 = .ok (.istore_n 2, 1) := by decide +kernel
theorem dJ7_fill_53178_2 : decode cJ7_fill_53178 2 = .ok (.aload_n 0, 1) := by decide +kernel
theorem dJ7_fill_53178_3 : decode cJ7_fill_53178 3 = .ok (.arraylength, 1) := by decide +kernel
theorem dJ7_fill_53178_4 : decode cJ7_fill_53178 4 = .ok (.istore_n 3, 1) := by decide +kernel
theorem dJ7_fill_53178_5 : decode cJ7_fill_53178 5 = .ok (.iload_n 2, 1) := by decide +kernel
theorem dJ7_fill_53178_6 : decode cJ7_fill_53178 6 = .ok (.iload_n 3, 1) := by decide +kernel
theorem dJ7_fill_53178_7 : decode cJ7_fill_53178 7 = .ok (.if_icmp .ge 13, 3) := by decide +kernel
theorem dJ7_fill_53178_10 : decode cJ7_fill_53178 10 = .ok (.aload_n 0, 1) := by decide +kernel
theorem dJ7_fill_53178_11 : decode cJ7_fill_53178 11 = .ok (.iload_n 2, 1) := by decide +kernel
theorem dJ7_fill_53178_12 : decode cJ7_fill_53178 12 = .ok (.iload_n 1, 1) := by decide +kernel
theorem dJ7_fill_53178_13 : decode cJ7_fill_53178 13 = .ok (.iastore, 1) := by decide +kernel
theorem dJ7_fill_53178_14 : decode cJ7_fill_53178 14 = .ok (.iinc 2 1, 3) := by decide +kernel
theorem dJ7_fill_53178_17 : decode cJ7_fill_53178 17 = .ok (.goto (-12), 3) := by decide +kernel
theorem dJ7_fill_53178_20 : decode cJ7_fill_53178 20 = .ok (.return_, 1) := by decide +kernel
theorem dL_cell_0 : decode cL_cell 0 = .ok (.iload_n 1, 1) := by decide +kernel
theorem dL_cell_1 : decode cL_cell 1 = .ok (.aload_n 0, 1) := by decide +kernel
theorem dL_cell_2 : decode cL_cell 2 = .ok (.arraylength, 1) := by decide +kernel
theorem dL_cell_3 : decode cL_cell 3 = .ok (.if_icmp .ge 9, 3) := by decide +kernel
theorem dL_cell_6 : decode cL_cell 6 = .ok (.aload_n 0, 1) := by decide +kernel
theorem dL_cell_7 : decode cL_cell 7 = .ok (.iload_n 1, 1) := by decide +kernel
theorem dL_cell_8 : decode cL_cell 8 = .ok (.iaload, 1) := by decide +kernel
theorem dL_cell_9 : decode cL_cell 9 = .ok (.goto 14, 3) := by decide +kernel
theorem dL_cell_12 : decode cL_cell 12 = .ok (.ldc 7, 2) := by decide +kernel
theorem dL_cell_14 : decode cL_cell 14 = .ok (.iload_n 1, 1) := by decide +kernel
theorem dL_cell_15 : decode cL_cell 15 = .ok (.sipush 139, 3) := by decide +kernel
theorem dL_cell_18 : decode cL_cell 18 = .ok (.iadd, 1) := by decide +kernel
theorem dL_cell_19 : decode cL_cell 19 = .ok (.imul, 1) := by decide +kernel
theorem dL_cell_20 : decode cL_cell 20 = .ok (.ldc 8, 2) := by decide +kernel
theorem dL_cell_22 : decode cL_cell 22 = .ok (.iadd, 1) := by decide +kernel
theorem dL_cell_23 : decode cL_cell 23 = .ok (.ireturn, 1) := by decide +kernel
theorem dL_low_0 : decode cL_low 0 = .ok (.iload_n 0, 1) := by decide +kernel
theorem dL_low_1 : decode cL_low 1 = .ok (.ldc 9, 2) := by decide +kernel
theorem dL_low_3 : decode cL_low 3 = .ok (.iand, 1) := by decide +kernel
theorem dL_low_4 : decode cL_low 4 = .ok (.iload_n 1, 1) := by decide +kernel
theorem dL_low_5 : decode cL_low 5 = .ok (.irem, 1) := by decide +kernel
theorem dL_low_6 : decode cL_low 6 = .ok (.ireturn, 1) := by decide +kernel
theorem dL_calls_0 : decode cL_calls 0 = .ok (.iload_n 1, 1) := by decide +kernel
theorem dL_calls_1 : decode cL_calls 1 = .ok (.ifCond .ne 11, 3) := by decide +kernel
theorem dL_calls_4 : decode cL_calls 4 = .ok (.aload_n 0, 1) := by decide +kernel
theorem dL_calls_5 : decode cL_calls 5 = .ok (.iload_n 2, 1) := by decide +kernel
theorem dL_calls_6 : decode cL_calls 6 = .ok (.invokevirtual 10, 3) := by decide +kernel
theorem dL_calls_9 : decode cL_calls 9 = .ok (.goto 132, 3) := by decide +kernel
theorem dL_calls_12 : decode cL_calls 12 = .ok (.iload_n 1, 1) := by decide +kernel
theorem dL_calls_13 : decode cL_calls 13 = .ok (.iconst 1, 1) := by decide +kernel
theorem dL_calls_14 : decode cL_calls 14 = .ok (.if_icmp .ne 12, 3) := by decide +kernel
theorem dL_calls_17 : decode cL_calls 17 = .ok (.aload_n 0, 1) := by decide +kernel
theorem dL_calls_18 : decode cL_calls 18 = .ok (.iload_n 2, 1) := by decide +kernel
theorem dL_calls_19 : decode cL_calls 19 = .ok (.iload_n 3, 1) := by decide +kernel
theorem dL_calls_20 : decode cL_calls 20 = .ok (.invokevirtual 16, 3) := by decide +kernel
theorem dL_calls_23 : decode cL_calls 23 = .ok (.goto 118, 3) := by decide +kernel
theorem dL_calls_26 : decode cL_calls 26 = .ok (.iload_n 1, 1) := by decide +kernel
theorem dL_calls_27 : decode cL_calls 27 = .ok (.iconst 2, 1) := by decide +kernel
theorem dL_calls_28 : decode cL_calls 28 = .ok (.if_icmp .ne 12, 3) := by decide +kernel
theorem dL_calls_31 : decode cL_calls 31 = .ok (.aload_n 0, 1) := by decide +kernel
theorem dL_calls_32 : decode cL_calls 32 = .ok (.iload_n 2, 1) := by decide +kernel
theorem dL_calls_33 : decode cL_calls 33 = .ok (.iload_n 3, 1) := by decide +kernel
theorem dL_calls_34 : decode cL_calls 34 = .ok (.invokevirtual 20, 3) := by decide +kernel
theorem dL_calls_37 : decode cL_calls 37 = .ok (.goto 104, 3) := by decide +kernel
theorem dL_calls_40 : decode cL_calls 40 = .ok (.iload_n 1, 1) := by decide +kernel
theorem dL_calls_41 : decode cL_calls 41 = .ok (.iconst 3, 1) := by decide +kernel
theorem dL_calls_42 : decode cL_calls 42 = .ok (.if_icmp .ne 11, 3) := by decide +kernel
theorem dL_calls_45 : decode cL_calls 45 = .ok (.aload_n 0, 1) := by decide +kernel
theorem dL_calls_46 : decode cL_calls 46 = .ok (.iload_n 2, 1) := by decide +kernel
theorem dL_calls_47 : decode cL_calls 47 = .ok (.invokevirtual 23, 3) := by decide +kernel
theorem dL_calls_50 : decode cL_calls 50 = .ok (.goto 91, 3) := by decide +kernel
theorem dL_calls_53 : decode cL_calls 53 = .ok (.iload_n 1, 1) := by decide +kernel
theorem dL_calls_54 : decode cL_calls 54 = .ok (.iconst 4, 1) := by decide +kernel
theorem dL_calls_55 : decode cL_calls 55 = .ok (.if_icmp .ne 11, 3) := by decide +kernel
theorem dL_calls_58 : decode cL_calls 58 = .ok (.aload_n 0, 1) := by decide +kernel
theorem dL_calls_59 : decode cL_calls 59 = .ok (.iload_n 2, 1) := by decide +kernel
theorem dL_calls_60 : decode cL_calls 60 = .ok (.invokevirtual 26, 3) := by decide +kernel
theorem dL_calls_63 : decode cL_calls 63 = .ok (.goto 78, 3) := by decide +kernel
theorem dL_calls_66 : decode cL_calls 66 = .ok (.iload_n 1, 1) := by decide +kernel
theorem dL_calls_67 : decode cL_calls 67 = .ok (.iconst 5, 1) := by decide +kernel
theorem dL_calls_68 : decode cL_calls 68 = .ok (.if_icmp .ne 33, 3) := by decide +kernel
theorem dL_calls_71 : decode cL_calls 71 = .ok (.aload_n 0, 1) := by decide +kernel
theorem dL_calls_72 : decode cL_calls 72 = .ok (.iload_n 2, 1) := by decide +kernel
theorem dL_calls_73 : decode cL_calls 73 = .ok (.iload_n 3, 1) := by decide +kernel
theorem dL_calls_74 : decode cL_calls 74 = .ok (.iload 4, 2) := by decide +kernel
theorem dL_calls_76 : decode cL_calls 76 = .ok (.iload_n 2, 1) := by decide +kernel
theorem dL_calls_77 : decode cL_calls 77 = .ok (.bipush 7, 2) := by decide +kernel
theorem dL_calls_79 : decode cL_calls 79 = .ok (.imul, 1) := by decide +kernel
theorem dL_calls_80 : decode cL_calls 80 = .ok (.iload_n 3, 1) := by decide +kernel
theorem dL_calls_81 : decode cL_calls 81 = .ok (.iconst 3, 1) := by decide +kernel
theorem dL_calls_82 : decode cL_calls 82 = .ok (.imul, 1) := by decide +kernel
theorem dL_calls_83 : decode cL_calls 83 = .ok (.iadd, 1) := by decide +kernel
theorem dL_calls_84 : decode cL_calls 84 = .ok (.iload 4, 2) := by decide +kernel
theorem dL_calls_86 : decode cL_calls 86 = .ok (.iadd, 1) := by decide +kernel
theorem dL_calls_87 : decode cL_calls 87 = .ok (.bipush 101, 2) := by decide +kernel
theorem dL_calls_89 : decode cL_calls 89 = .ok (.invokestatic 29, 3) := by decide +kernel
theorem dL_calls_92 : decode cL_calls 92 = .ok (.bipush 50, 2) := by decide +kernel
theorem dL_calls_94 : decode cL_calls 94 = .ok (.isub, 1) := by decide +kernel
theorem dL_calls_95 : decode cL_calls 95 = .ok (.invokevirtual 34, 3) := by decide +kernel
theorem dL_calls_98 : decode cL_calls 98 = .ok (.goto 43, 3) := by decide +kernel
theorem dL_calls_101 : decode cL_calls 101 = .ok (.iload_n 1, 1) := by decide +kernel
theorem dL_calls_102 : decode cL_calls 102 = .ok (.bipush 6, 2) := by decide +kernel
theorem dL_calls_104 : decode cL_calls 104 = .ok (.if_icmp .ne 14, 3) := by decide +kernel
theorem dL_calls_107 : decode cL_calls 107 = .ok (.aload_n 0, 1) := by decide +kernel
theorem dL_calls_108 : decode cL_calls 108 = .ok (.iload_n 2, 1) := by decide +kernel
theorem dL_calls_109 : decode cL_calls 109 = .ok (.iload_n 3, 1) := by decide +kernel
theorem dL_calls_110 : decode cL_calls 110 = .ok (.iload 4, 2) := by decide +kernel
theorem dL_calls_112 : decode cL_calls 112 = .ok (.invokevirtual 38, 3) := by decide +kernel
theorem dL_calls_115 : decode cL_calls 115 = .ok (.goto 26, 3) := by decide +kernel
theorem dL_calls_118 : decode cL_calls 118 = .ok (.iload_n 1, 1) := by decide +kernel
theorem dL_calls_119 : decode cL_calls 119 = .ok (.bipush 7, 2) := by decide +kernel
theorem dL_calls_121 : decode cL_calls 121 = .ok (.if_icmp .ne 14, 3) := by decide +kernel
theorem dL_calls_124 : decode cL_calls 124 = .ok (.aload_n 0, 1) := by decide +kernel
theorem dL_calls_125 : decode cL_calls 125 = .ok (.iload_n 2, 1) := by decide +kernel
theorem dL_calls_126 : decode cL_calls 126 = .ok (.iload_n 3, 1) := by decide +kernel
theorem dL_calls_127 : decode cL_calls 127 = .ok (.iload 4, 2) := by decide +kernel
theorem dL_calls_129 : decode cL_calls 129 = .ok (.invokevirtual 42, 3) := by decide +kernel
theorem dL_calls_132 : decode cL_calls 132 = .ok (.goto 9, 3) := by decide +kernel
theorem dL_calls_135 : decode cL_calls 135 = .ok (.aload_n 0, 1) := by decide +kernel
theorem dL_calls_136 : decode cL_calls 136 = .ok (.iload_n 2, 1) := by decide +kernel
theorem dL_calls_137 : decode cL_calls 137 = .ok (.iload_n 3, 1) := by decide +kernel
theorem dL_calls_138 : decode cL_calls 138 = .ok (.invokevirtual 45, 3) := by decide +kernel
theorem dL_calls_141 : decode cL_calls 141 = .ok (.ireturn, 1) := by decide +kernel
theorem dL_calls_142 : decode cL_calls 142 = .ok (.astore 5, 2) := by decide +kernel
theorem dL_calls_144 : decode cL_calls 144 = .ok (.ldc 50, 2) := by decide +kernel
theorem dL_calls_146 : decode cL_calls 146 = .ok (.ireturn, 1) := by decide +kernel
theorem dL_way_0 : decode cL_way 0 = .ok (.iload_n 0, 1) := by decide +kernel
theorem dL_way_1 : decode cL_way 1 = .ok (.bipush 10, 2) := by decide +kernel
theorem dL_way_3 : decode cL_way 3 = .ok (.irem, 1) := by decide +kernel
theorem dL_way_4 : decode cL_way 4 = .ok (.istore_n 3, 1) := by decide +kernel
theorem dL_way_5 : decode cL_way 5 = .ok (.iload_n 0, 1) := by decide +kernel
theorem dL_way_6 : decode cL_way 6 = .ok (.bipush 10, 2) := by decide +kernel
theorem dL_way_8 : decode cL_way 8 = .ok (.idiv, 1) := by decide +kernel
theorem dL_way_9 : decode cL_way 9 = .ok (.istore 4, 2) := by decide +kernel
theorem dL_way_11 : decode cL_way 11 = .ok (.iload_n 1, 1) := by decide +kernel
theorem dL_way_12 : decode cL_way 12 = .ok (.iconst 1, 1) := by decide +kernel
theorem dL_way_13 : decode cL_way 13 = .ok (.if_icmp .ne 17, 3) := by decide +kernel
theorem dL_way_16 : decode cL_way 16 = .ok (.iload_n 3, 1) := by decide +kernel
theorem dL_way_17 : decode cL_way 17 = .ok (.bipush 9, 2) := by decide +kernel
theorem dL_way_19 : decode cL_way 19 = .ok (.if_icmp .ge 7, 3) := by decide +kernel
theorem dL_way_22 : decode cL_way 22 = .ok (.iconst 1, 1) := by decide +kernel
theorem dL_way_23 : decode cL_way 23 = .ok (.goto 58, 3) := by decide +kernel
theorem dL_way_26 : decode cL_way 26 = .ok (.iconst 0, 1) := by decide +kernel
theorem dL_way_27 : decode cL_way 27 = .ok (.goto 54, 3) := by decide +kernel
theorem dL_way_30 : decode cL_way 30 = .ok (.iload_n 1, 1) := by decide +kernel
theorem dL_way_31 : decode cL_way 31 = .ok (.iconst 2, 1) := by decide +kernel
theorem dL_way_32 : decode cL_way 32 = .ok (.if_icmp .ne 15, 3) := by decide +kernel
theorem dL_way_35 : decode cL_way 35 = .ok (.iload_n 3, 1) := by decide +kernel
theorem dL_way_36 : decode cL_way 36 = .ok (.ifCond .le 7, 3) := by decide +kernel
theorem dL_way_39 : decode cL_way 39 = .ok (.iconst 1, 1) := by decide +kernel
theorem dL_way_40 : decode cL_way 40 = .ok (.goto 41, 3) := by decide +kernel
theorem dL_way_43 : decode cL_way 43 = .ok (.iconst 0, 1) := by decide +kernel
theorem dL_way_44 : decode cL_way 44 = .ok (.goto 37, 3) := by decide +kernel
theorem dL_way_47 : decode cL_way 47 = .ok (.iload_n 1, 1) := by decide +kernel
theorem dL_way_48 : decode cL_way 48 = .ok (.iconst 3, 1) := by decide +kernel
theorem dL_way_49 : decode cL_way 49 = .ok (.if_icmp .ne 17, 3) := by decide +kernel
theorem dL_way_52 : decode cL_way 52 = .ok (.iload 4, 2) := by decide +kernel
theorem dL_way_54 : decode cL_way 54 = .ok (.iconst 5, 1) := by decide +kernel
theorem dL_way_55 : decode cL_way 55 = .ok (.if_icmp .ge 7, 3) := by decide +kernel
theorem dL_way_58 : decode cL_way 58 = .ok (.iconst 1, 1) := by decide +kernel
theorem dL_way_59 : decode cL_way 59 = .ok (.goto 22, 3) := by decide +kernel
theorem dL_way_62 : decode cL_way 62 = .ok (.iconst 0, 1) := by decide +kernel
theorem dL_way_63 : decode cL_way 63 = .ok (.goto 18, 3) := by decide +kernel
theorem dL_way_66 : decode cL_way 66 = .ok (.iload_n 1, 1) := by decide +kernel
theorem dL_way_67 : decode cL_way 67 = .ok (.iconst 4, 1) := by decide +kernel
theorem dL_way_68 : decode cL_way 68 = .ok (.if_icmp .ne 12, 3) := by decide +kernel
theorem dL_way_71 : decode cL_way 71 = .ok (.iload 4, 2) := by decide +kernel
theorem dL_way_73 : decode cL_way 73 = .ok (.ifCond .le 7, 3) := by decide +kernel
theorem dL_way_76 : decode cL_way 76 = .ok (.iconst 1, 1) := by decide +kernel
theorem dL_way_77 : decode cL_way 77 = .ok (.goto 4, 3) := by decide +kernel
theorem dL_way_80 : decode cL_way 80 = .ok (.iconst 0, 1) := by decide +kernel
theorem dL_way_81 : decode cL_way 81 = .ok (.istore 5, 2) := by decide +kernel
theorem dL_way_83 : decode cL_way 83 = .ok (.iload 5, 2) := by decide +kernel
theorem dL_way_85 : decode cL_way 85 = .ok (.ifCond .ne 7, 3) := by decide +kernel
theorem dL_way_88 : decode cL_way 88 = .ok (.iconst (-1), 1) := by decide +kernel
theorem dL_way_89 : decode cL_way 89 = .ok (.goto 41, 3) := by decide +kernel
theorem dL_way_92 : decode cL_way 92 = .ok (.iload_n 1, 1) := by decide +kernel
theorem dL_way_93 : decode cL_way 93 = .ok (.iconst 1, 1) := by decide +kernel
theorem dL_way_94 : decode cL_way 94 = .ok (.if_icmp .ne 9, 3) := by decide +kernel
theorem dL_way_97 : decode cL_way 97 = .ok (.iload_n 0, 1) := by decide +kernel
theorem dL_way_98 : decode cL_way 98 = .ok (.iconst 1, 1) := by decide +kernel
theorem dL_way_99 : decode cL_way 99 = .ok (.iadd, 1) := by decide +kernel
theorem dL_way_100 : decode cL_way 100 = .ok (.goto 30, 3) := by decide +kernel
theorem dL_way_103 : decode cL_way 103 = .ok (.iload_n 1, 1) := by decide +kernel
theorem dL_way_104 : decode cL_way 104 = .ok (.iconst 2, 1) := by decide +kernel
theorem dL_way_105 : decode cL_way 105 = .ok (.if_icmp .ne 9, 3) := by decide +kernel
theorem dL_way_108 : decode cL_way 108 = .ok (.iload_n 0, 1) := by decide +kernel
theorem dL_way_109 : decode cL_way 109 = .ok (.iconst 1, 1) := by decide +kernel
theorem dL_way_110 : decode cL_way 110 = .ok (.isub, 1) := by decide +kernel
theorem dL_way_111 : decode cL_way 111 = .ok (.goto 19, 3) := by decide +kernel
theorem dL_way_114 : decode cL_way 114 = .ok (.iload_n 1, 1) := by decide +kernel
theorem dL_way_115 : decode cL_way 115 = .ok (.iconst 3, 1) := by decide +kernel
theorem dL_way_116 : decode cL_way 116 = .ok (.if_icmp .ne 10, 3) := by decide +kernel
theorem dL_way_119 : decode cL_way 119 = .ok (.iload_n 0, 1) := by decide +kernel
theorem dL_way_120 : decode cL_way 120 = .ok (.bipush 10, 2) := by decide +kernel
theorem dL_way_122 : decode cL_way 122 = .ok (.iadd, 1) := by decide +kernel
theorem dL_way_123 : decode cL_way 123 = .ok (.goto 7, 3) := by decide +kernel
theorem dL_way_126 : decode cL_way 126 = .ok (.iload_n 0, 1) := by decide +kernel
theorem dL_way_127 : decode cL_way 127 = .ok (.bipush 10, 2) := by decide +kernel
theorem dL_way_129 : decode cL_way 129 = .ok (.isub, 1) := by decide +kernel
theorem dL_way_130 : decode cL_way 130 = .ok (.istore 6, 2) := by decide +kernel
theorem dL_way_132 : decode cL_way 132 = .ok (.iload 6, 2) := by decide +kernel
theorem dL_way_134 : decode cL_way 134 = .ok (.ifCond .lt 16, 3) := by decide +kernel
theorem dL_way_137 : decode cL_way 137 = .ok (.aload_n 2, 1) := by decide +kernel
theorem dL_way_138 : decode cL_way 138 = .ok (.iload 6, 2) := by decide +kernel
theorem dL_way_140 : decode cL_way 140 = .ok (.iaload, 1) := by decide +kernel
theorem dL_way_141 : decode cL_way 141 = .ok (.bipush 8, 2) := by decide +kernel
theorem dL_way_143 : decode cL_way 143 = .ok (.if_icmp .lt 7, 3) := by decide +kernel
theorem dL_way_146 : decode cL_way 146 = .ok (.iconst (-1), 1) := by decide +kernel
theorem dL_way_147 : decode cL_way 147 = .ok (.goto 5, 3) := by decide +kernel
theorem dL_way_150 : decode cL_way 150 = .ok (.iload 6, 2) := by decide +kernel
theorem dL_way_152 : decode cL_way 152 = .ok (.ireturn, 1) := by decide +kernel
theorem dL_leads_0 : decode cL_leads 0 = .ok (.iload_n 0, 1) := by decide +kernel
theorem dL_leads_1 : decode cL_leads 1 = .ok (.aload_n 1, 1) := by decide +kernel
theorem dL_leads_2 : decode cL_leads 2 = .ok (.iload_n 0, 1) := by decide +kernel
theorem dL_leads_3 : decode cL_leads 3 = .ok (.iaload, 1) := by decide +kernel
theorem dL_leads_4 : decode cL_leads 4 = .ok (.bipush 8, 2) := by decide +kernel
theorem dL_leads_6 : decode cL_leads 6 = .ok (.irem, 1) := by decide +kernel
theorem dL_leads_7 : decode cL_leads 7 = .ok (.aload_n 1, 1) := by decide +kernel
theorem dL_leads_8 : decode cL_leads 8 = .ok (.invokestatic 51, 3) := by decide +kernel
theorem dL_leads_11 : decode cL_leads 11 = .ok (.ireturn, 1) := by decide +kernel
theorem dL_flowed_0 : decode cL_flowed 0 = .ok (.aload_n 2, 1) := by decide +kernel
theorem dL_flowed_1 : decode cL_flowed 1 = .ok (.iload_n 0, 1) := by decide +kernel
theorem dL_flowed_2 : decode cL_flowed 2 = .ok (.iaload, 1) := by decide +kernel
theorem dL_flowed_3 : decode cL_flowed 3 = .ok (.iload_n 0, 1) := by decide +kernel
theorem dL_flowed_4 : decode cL_flowed 4 = .ok (.aload_n 1, 1) := by decide +kernel
theorem dL_flowed_5 : decode cL_flowed 5 = .ok (.invokestatic 55, 3) := by decide +kernel
theorem dL_flowed_8 : decode cL_flowed 8 = .ok (.ifCond .lt 12, 3) := by decide +kernel
theorem dL_flowed_11 : decode cL_flowed 11 = .ok (.aload_n 2, 1) := by decide +kernel
theorem dL_flowed_12 : decode cL_flowed 12 = .ok (.iload_n 0, 1) := by decide +kernel
theorem dL_flowed_13 : decode cL_flowed 13 = .ok (.iaload, 1) := by decide +kernel
theorem dL_flowed_14 : decode cL_flowed 14 = .ok (.bipush 10, 2) := by decide +kernel
theorem dL_flowed_16 : decode cL_flowed 16 = .ok (.idiv, 1) := by decide +kernel
theorem dL_flowed_17 : decode cL_flowed 17 = .ok (.goto 4, 3) := by decide +kernel
theorem dL_flowed_20 : decode cL_flowed 20 = .ok (.iconst 0, 1) := by decide +kernel
theorem dL_flowed_21 : decode cL_flowed 21 = .ok (.isub, 1) := by decide +kernel
theorem dL_flowed_22 : decode cL_flowed 22 = .ok (.istore_n 3, 1) := by decide +kernel
theorem dL_flowed_23 : decode cL_flowed 23 = .ok (.iconst 1, 1) := by decide +kernel
theorem dL_flowed_24 : decode cL_flowed 24 = .ok (.istore 4, 2) := by decide +kernel
theorem dL_flowed_26 : decode cL_flowed 26 = .ok (.iload 4, 2) := by decide +kernel
theorem dL_flowed_28 : decode cL_flowed 28 = .ok (.iconst 5, 1) := by decide +kernel
theorem dL_flowed_29 : decode cL_flowed 29 = .ok (.if_icmp .ge 47, 3) := by decide +kernel
theorem dL_flowed_32 : decode cL_flowed 32 = .ok (.iload_n 0, 1) := by decide +kernel
theorem dL_flowed_33 : decode cL_flowed 33 = .ok (.iload 4, 2) := by decide +kernel
theorem dL_flowed_35 : decode cL_flowed 35 = .ok (.aload_n 1, 1) := by decide +kernel
theorem dL_flowed_36 : decode cL_flowed 36 = .ok (.invokestatic 51, 3) := by decide +kernel
theorem dL_flowed_39 : decode cL_flowed 39 = .ok (.istore 5, 2) := by decide +kernel
theorem dL_flowed_41 : decode cL_flowed 41 = .ok (.iload_n 3, 1) := by decide +kernel
theorem dL_flowed_42 : decode cL_flowed 42 = .ok (.iload 5, 2) := by decide +kernel
theorem dL_flowed_44 : decode cL_flowed 44 = .ok (.ifCond .lt 23, 3) := by decide +kernel
theorem dL_flowed_47 : decode cL_flowed 47 = .ok (.iload 5, 2) := by decide +kernel
theorem dL_flowed_49 : decode cL_flowed 49 = .ok (.aload_n 1, 1) := by decide +kernel
theorem dL_flowed_50 : decode cL_flowed 50 = .ok (.invokestatic 55, 3) := by decide +kernel
theorem dL_flowed_53 : decode cL_flowed 53 = .ok (.iload_n 0, 1) := by decide +kernel
theorem dL_flowed_54 : decode cL_flowed 54 = .ok (.if_icmp .ne 13, 3) := by decide +kernel
theorem dL_flowed_57 : decode cL_flowed 57 = .ok (.aload_n 2, 1) := by decide +kernel
theorem dL_flowed_58 : decode cL_flowed 58 = .ok (.iload 5, 2) := by decide +kernel
theorem dL_flowed_60 : decode cL_flowed 60 = .ok (.iaload, 1) := by decide +kernel
theorem dL_flowed_61 : decode cL_flowed 61 = .ok (.bipush 10, 2) := by decide +kernel
theorem dL_flowed_63 : decode cL_flowed 63 = .ok (.idiv, 1) := by decide +kernel
theorem dL_flowed_64 : decode cL_flowed 64 = .ok (.goto 4, 3) := by decide +kernel
theorem dL_flowed_67 : decode cL_flowed 67 = .ok (.iconst 0, 1) := by decide +kernel
theorem dL_flowed_68 : decode cL_flowed 68 = .ok (.iadd, 1) := by decide +kernel
theorem dL_flowed_69 : decode cL_flowed 69 = .ok (.istore_n 3, 1) := by decide +kernel
theorem dL_flowed_70 : decode cL_flowed 70 = .ok (.iinc 4 1, 3) := by decide +kernel
theorem dL_flowed_73 : decode cL_flowed 73 = .ok (.goto (-47), 3) := by decide +kernel
theorem dL_flowed_76 : decode cL_flowed 76 = .ok (.iload_n 3, 1) := by decide +kernel
theorem dL_flowed_77 : decode cL_flowed 77 = .ok (.ireturn, 1) := by decide +kernel
theorem dL_drifted_0 : decode cL_drifted 0 = .ok (.aload_n 2, 1) := by decide +kernel
theorem dL_drifted_1 : decode cL_drifted 1 = .ok (.iload_n 0, 1) := by decide +kernel
theorem dL_drifted_2 : decode cL_drifted 2 = .ok (.iaload, 1) := by decide +kernel
theorem dL_drifted_3 : decode cL_drifted 3 = .ok (.iload_n 0, 1) := by decide +kernel
theorem dL_drifted_4 : decode cL_drifted 4 = .ok (.aload_n 1, 1) := by decide +kernel
theorem dL_drifted_5 : decode cL_drifted 5 = .ok (.invokestatic 55, 3) := by decide +kernel
theorem dL_drifted_8 : decode cL_drifted 8 = .ok (.ifCond .lt 14, 3) := by decide +kernel
theorem dL_drifted_11 : decode cL_drifted 11 = .ok (.iconst 4, 1) := by decide +kernel
theorem dL_drifted_12 : decode cL_drifted 12 = .ok (.aload_n 2, 1) := by decide +kernel
theorem dL_drifted_13 : decode cL_drifted 13 = .ok (.iload_n 0, 1) := by decide +kernel
theorem dL_drifted_14 : decode cL_drifted 14 = .ok (.iaload, 1) := by decide +kernel
theorem dL_drifted_15 : decode cL_drifted 15 = .ok (.imul, 1) := by decide +kernel
theorem dL_drifted_16 : decode cL_drifted 16 = .ok (.bipush 10, 2) := by decide +kernel
theorem dL_drifted_18 : decode cL_drifted 18 = .ok (.idiv, 1) := by decide +kernel
theorem dL_drifted_19 : decode cL_drifted 19 = .ok (.goto 4, 3) := by decide +kernel
theorem dL_drifted_22 : decode cL_drifted 22 = .ok (.iconst 0, 1) := by decide +kernel
theorem dL_drifted_23 : decode cL_drifted 23 = .ok (.isub, 1) := by decide +kernel
theorem dL_drifted_24 : decode cL_drifted 24 = .ok (.istore_n 3, 1) := by decide +kernel
theorem dL_drifted_25 : decode cL_drifted 25 = .ok (.iconst 1, 1) := by decide +kernel
theorem dL_drifted_26 : decode cL_drifted 26 = .ok (.istore 4, 2) := by decide +kernel
theorem dL_drifted_28 : decode cL_drifted 28 = .ok (.iload 4, 2) := by decide +kernel
theorem dL_drifted_30 : decode cL_drifted 30 = .ok (.iconst 5, 1) := by decide +kernel
theorem dL_drifted_31 : decode cL_drifted 31 = .ok (.if_icmp .ge 68, 3) := by decide +kernel
theorem dL_drifted_34 : decode cL_drifted 34 = .ok (.iload_n 0, 1) := by decide +kernel
theorem dL_drifted_35 : decode cL_drifted 35 = .ok (.iload 4, 2) := by decide +kernel
theorem dL_drifted_37 : decode cL_drifted 37 = .ok (.aload_n 1, 1) := by decide +kernel
theorem dL_drifted_38 : decode cL_drifted 38 = .ok (.invokestatic 51, 3) := by decide +kernel
theorem dL_drifted_41 : decode cL_drifted 41 = .ok (.istore 5, 2) := by decide +kernel
theorem dL_drifted_43 : decode cL_drifted 43 = .ok (.iload_n 3, 1) := by decide +kernel
theorem dL_drifted_44 : decode cL_drifted 44 = .ok (.iload 5, 2) := by decide +kernel
theorem dL_drifted_46 : decode cL_drifted 46 = .ok (.ifCond .ge 7, 3) := by decide +kernel
theorem dL_drifted_49 : decode cL_drifted 49 = .ok (.iconst 0, 1) := by decide +kernel
theorem dL_drifted_50 : decode cL_drifted 50 = .ok (.goto 41, 3) := by decide +kernel
theorem dL_drifted_53 : decode cL_drifted 53 = .ok (.aload_n 2, 1) := by decide +kernel
theorem dL_drifted_54 : decode cL_drifted 54 = .ok (.iload 5, 2) := by decide +kernel
theorem dL_drifted_56 : decode cL_drifted 56 = .ok (.iaload, 1) := by decide +kernel
theorem dL_drifted_57 : decode cL_drifted 57 = .ok (.bipush 10, 2) := by decide +kernel
theorem dL_drifted_59 : decode cL_drifted 59 = .ok (.idiv, 1) := by decide +kernel
theorem dL_drifted_60 : decode cL_drifted 60 = .ok (.aload_n 2, 1) := by decide +kernel
theorem dL_drifted_61 : decode cL_drifted 61 = .ok (.iload_n 0, 1) := by decide +kernel
theorem dL_drifted_62 : decode cL_drifted 62 = .ok (.iaload, 1) := by decide +kernel
theorem dL_drifted_63 : decode cL_drifted 63 = .ok (.bipush 10, 2) := by decide +kernel
theorem dL_drifted_65 : decode cL_drifted 65 = .ok (.idiv, 1) := by decide +kernel
theorem dL_drifted_66 : decode cL_drifted 66 = .ok (.isub, 1) := by decide +kernel
theorem dL_drifted_67 : decode cL_drifted 67 = .ok (.iload 5, 2) := by decide +kernel
theorem dL_drifted_69 : decode cL_drifted 69 = .ok (.aload_n 1, 1) := by decide +kernel
theorem dL_drifted_70 : decode cL_drifted 70 = .ok (.invokestatic 55, 3) := by decide +kernel
theorem dL_drifted_73 : decode cL_drifted 73 = .ok (.iload_n 0, 1) := by decide +kernel
theorem dL_drifted_74 : decode cL_drifted 74 = .ok (.if_icmp .ne 15, 3) := by decide +kernel
theorem dL_drifted_77 : decode cL_drifted 77 = .ok (.iconst 4, 1) := by decide +kernel
theorem dL_drifted_78 : decode cL_drifted 78 = .ok (.aload_n 2, 1) := by decide +kernel
theorem dL_drifted_79 : decode cL_drifted 79 = .ok (.iload 5, 2) := by decide +kernel
theorem dL_drifted_81 : decode cL_drifted 81 = .ok (.iaload, 1) := by decide +kernel
theorem dL_drifted_82 : decode cL_drifted 82 = .ok (.imul, 1) := by decide +kernel
theorem dL_drifted_83 : decode cL_drifted 83 = .ok (.bipush 10, 2) := by decide +kernel
theorem dL_drifted_85 : decode cL_drifted 85 = .ok (.idiv, 1) := by decide +kernel
theorem dL_drifted_86 : decode cL_drifted 86 = .ok (.goto 4, 3) := by decide +kernel
theorem dL_drifted_89 : decode cL_drifted 89 = .ok (.iconst 0, 1) := by decide +kernel
theorem dL_drifted_90 : decode cL_drifted 90 = .ok (.iadd, 1) := by decide +kernel
theorem dL_drifted_91 : decode cL_drifted 91 = .ok (.iadd, 1) := by decide +kernel
theorem dL_drifted_92 : decode cL_drifted 92 = .ok (.istore_n 3, 1) := by decide +kernel
theorem dL_drifted_93 : decode cL_drifted 93 = .ok (.iinc 4 1, 3) := by decide +kernel
theorem dL_drifted_96 : decode cL_drifted 96 = .ok (.goto (-68), 3) := by decide +kernel
theorem dL_drifted_99 : decode cL_drifted 99 = .ok (.iload_n 3, 1) := by decide +kernel
theorem dL_drifted_100 : decode cL_drifted 100 = .ok (.ireturn, 1) := by decide +kernel
theorem dL_isStorm_0 : decode cL_isStorm 0 = .ok (.iconst 0, 1) := by decide +kernel
theorem dL_isStorm_1 : decode cL_isStorm 1 = .ok (.istore_n 3, 1) := by decide +kernel
theorem dL_isStorm_2 : decode cL_isStorm 2 = .ok (.iconst 0, 1) := by decide +kernel
theorem dL_isStorm_3 : decode cL_isStorm 3 = .ok (.istore 4, 2) := by decide +kernel
theorem dL_isStorm_5 : decode cL_isStorm 5 = .ok (.iload 4, 2) := by decide +kernel
theorem dL_isStorm_7 : decode cL_isStorm 7 = .ok (.aload_n 2, 1) := by decide +kernel
theorem dL_isStorm_8 : decode cL_isStorm 8 = .ok (.iconst 4, 1) := by decide +kernel
theorem dL_isStorm_9 : decode cL_isStorm 9 = .ok (.iaload, 1) := by decide +kernel
theorem dL_isStorm_10 : decode cL_isStorm 10 = .ok (.if_icmp .ge 41, 3) := by decide +kernel
theorem dL_isStorm_13 : decode cL_isStorm 13 = .ok (.iload_n 3, 1) := by decide +kernel
theorem dL_isStorm_14 : decode cL_isStorm 14 = .ok (.ifCond .ne 25, 3) := by decide +kernel
theorem dL_isStorm_17 : decode cL_isStorm 17 = .ok (.aload_n 1, 1) := by decide +kernel
theorem dL_isStorm_18 : decode cL_isStorm 18 = .ok (.iconst 2, 1) := by decide +kernel
theorem dL_isStorm_19 : decode cL_isStorm 19 = .ok (.iload 4, 2) := by decide +kernel
theorem dL_isStorm_21 : decode cL_isStorm 21 = .ok (.imul, 1) := by decide +kernel
theorem dL_isStorm_22 : decode cL_isStorm 22 = .ok (.iaload, 1) := by decide +kernel
theorem dL_isStorm_23 : decode cL_isStorm 23 = .ok (.iload_n 0, 1) := by decide +kernel
theorem dL_isStorm_24 : decode cL_isStorm 24 = .ok (.if_icmp .gt 19, 3) := by decide +kernel
theorem dL_isStorm_27 : decode cL_isStorm 27 = .ok (.iload_n 0, 1) := by decide +kernel
theorem dL_isStorm_28 : decode cL_isStorm 28 = .ok (.aload_n 1, 1) := by decide +kernel
theorem dL_isStorm_29 : decode cL_isStorm 29 = .ok (.iconst 2, 1) := by decide +kernel
theorem dL_isStorm_30 : decode cL_isStorm 30 = .ok (.iload 4, 2) := by decide +kernel
theorem dL_isStorm_32 : decode cL_isStorm 32 = .ok (.imul, 1) := by decide +kernel
theorem dL_isStorm_33 : decode cL_isStorm 33 = .ok (.iconst 1, 1) := by decide +kernel
theorem dL_isStorm_34 : decode cL_isStorm 34 = .ok (.iadd, 1) := by decide +kernel
theorem dL_isStorm_35 : decode cL_isStorm 35 = .ok (.iaload, 1) := by decide +kernel
theorem dL_isStorm_36 : decode cL_isStorm 36 = .ok (.if_icmp .gt 7, 3) := by decide +kernel
theorem dL_isStorm_39 : decode cL_isStorm 39 = .ok (.iconst 1, 1) := by decide +kernel
theorem dL_isStorm_40 : decode cL_isStorm 40 = .ok (.goto 4, 3) := by decide +kernel
theorem dL_isStorm_43 : decode cL_isStorm 43 = .ok (.iconst 0, 1) := by decide +kernel
theorem dL_isStorm_44 : decode cL_isStorm 44 = .ok (.istore_n 3, 1) := by decide +kernel
theorem dL_isStorm_45 : decode cL_isStorm 45 = .ok (.iinc 4 1, 3) := by decide +kernel
theorem dL_isStorm_48 : decode cL_isStorm 48 = .ok (.goto (-43), 3) := by decide +kernel
theorem dL_isStorm_51 : decode cL_isStorm 51 = .ok (.iload_n 3, 1) := by decide +kernel
theorem dL_isStorm_52 : decode cL_isStorm 52 = .ok (.ireturn, 1) := by decide +kernel
theorem dL_reads_0 : decode cL_reads 0 = .ok (.aload_n 3, 1) := by decide +kernel
theorem dL_reads_1 : decode cL_reads 1 = .ok (.aload 6, 2) := by decide +kernel
theorem dL_reads_3 : decode cL_reads 3 = .ok (.iconst 5, 1) := by decide +kernel
theorem dL_reads_4 : decode cL_reads 4 = .ok (.iaload, 1) := by decide +kernel
theorem dL_reads_5 : decode cL_reads 5 = .ok (.bipush 64, 2) := by decide +kernel
theorem dL_reads_7 : decode cL_reads 7 = .ok (.aload 6, 2) := by decide +kernel
theorem dL_reads_9 : decode cL_reads 9 = .ok (.iconst 0, 1) := by decide +kernel
theorem dL_reads_10 : decode cL_reads 10 = .ok (.iaload, 1) := by decide +kernel
theorem dL_reads_11 : decode cL_reads 11 = .ok (.imul, 1) := by decide +kernel
theorem dL_reads_12 : decode cL_reads 12 = .ok (.iload_n 0, 1) := by decide +kernel
theorem dL_reads_13 : decode cL_reads 13 = .ok (.iadd, 1) := by decide +kernel
theorem dL_reads_14 : decode cL_reads 14 = .ok (.iastore, 1) := by decide +kernel
theorem dL_reads_15 : decode cL_reads 15 = .ok (.aload 4, 2) := by decide +kernel
theorem dL_reads_17 : decode cL_reads 17 = .ok (.aload 6, 2) := by decide +kernel
theorem dL_reads_19 : decode cL_reads 19 = .ok (.iconst 5, 1) := by decide +kernel
theorem dL_reads_20 : decode cL_reads 20 = .ok (.iaload, 1) := by decide +kernel
theorem dL_reads_21 : decode cL_reads 21 = .ok (.iload_n 2, 1) := by decide +kernel
theorem dL_reads_22 : decode cL_reads 22 = .ok (.iastore, 1) := by decide +kernel
theorem dL_reads_23 : decode cL_reads 23 = .ok (.aload 5, 2) := by decide +kernel
theorem dL_reads_25 : decode cL_reads 25 = .ok (.aload 6, 2) := by decide +kernel
theorem dL_reads_27 : decode cL_reads 27 = .ok (.iconst 5, 1) := by decide +kernel
theorem dL_reads_28 : decode cL_reads 28 = .ok (.iaload, 1) := by decide +kernel
theorem dL_reads_29 : decode cL_reads 29 = .ok (.iload_n 1, 1) := by decide +kernel
theorem dL_reads_30 : decode cL_reads 30 = .ok (.iastore, 1) := by decide +kernel
theorem dL_reads_31 : decode cL_reads 31 = .ok (.aload 6, 2) := by decide +kernel
theorem dL_reads_33 : decode cL_reads 33 = .ok (.iconst 5, 1) := by decide +kernel
theorem dL_reads_34 : decode cL_reads 34 = .ok (.dup2, 1) := by decide +kernel
theorem dL_reads_35 : decode cL_reads 35 = .ok (.iaload, 1) := by decide +kernel
theorem dL_reads_36 : decode cL_reads 36 = .ok (.iconst 1, 1) := by decide +kernel
theorem dL_reads_37 : decode cL_reads 37 = .ok (.iadd, 1) := by decide +kernel
theorem dL_reads_38 : decode cL_reads 38 = .ok (.iastore, 1) := by decide +kernel
theorem dL_reads_39 : decode cL_reads 39 = .ok (.return_, 1) := by decide +kernel
theorem dL_copies_0 : decode cL_copies 0 = .ok (.iconst 0, 1) := by decide +kernel
theorem dL_copies_1 : decode cL_copies 1 = .ok (.istore_n 2, 1) := by decide +kernel
theorem dL_copies_2 : decode cL_copies 2 = .ok (.iload_n 2, 1) := by decide +kernel
theorem dL_copies_3 : decode cL_copies 3 = .ok (.bipush 60, 2) := by decide +kernel
theorem dL_copies_5 : decode cL_copies 5 = .ok (.if_icmp .ge 15, 3) := by decide +kernel
theorem dL_copies_8 : decode cL_copies 8 = .ok (.aload_n 1, 1) := by decide +kernel
theorem dL_copies_9 : decode cL_copies 9 = .ok (.iload_n 2, 1) := by decide +kernel
theorem dL_copies_10 : decode cL_copies 10 = .ok (.aload_n 0, 1) := by decide +kernel
theorem dL_copies_11 : decode cL_copies 11 = .ok (.iload_n 2, 1) := by decide +kernel
theorem dL_copies_12 : decode cL_copies 12 = .ok (.iaload, 1) := by decide +kernel
theorem dL_copies_13 : decode cL_copies 13 = .ok (.iastore, 1) := by decide +kernel
theorem dL_copies_14 : decode cL_copies 14 = .ok (.iinc 2 1, 3) := by decide +kernel
theorem dL_copies_17 : decode cL_copies 17 = .ok (.goto (-15), 3) := by decide +kernel
theorem dL_copies_20 : decode cL_copies 20 = .ok (.return_, 1) := by decide +kernel
theorem dL_passes_0 : decode cL_passes 0 = .ok (.aload 15, 2) := by decide +kernel
theorem dL_passes_2 : decode cL_passes 2 = .ok (.iconst 0, 1) := by decide +kernel
theorem dL_passes_3 : decode cL_passes 3 = .ok (.dup2, 1) := by decide +kernel
theorem dL_passes_4 : decode cL_passes 4 = .ok (.iaload, 1) := by decide +kernel
theorem dL_passes_5 : decode cL_passes 5 = .ok (.iconst 1, 1) := by decide +kernel
theorem dL_passes_6 : decode cL_passes 6 = .ok (.iadd, 1) := by decide +kernel
theorem dL_passes_7 : decode cL_passes 7 = .ok (.iastore, 1) := by decide +kernel
theorem dL_passes_8 : decode cL_passes 8 = .ok (.iconst 0, 1) := by decide +kernel
theorem dL_passes_9 : decode cL_passes 9 = .ok (.istore 16, 2) := by decide +kernel
theorem dL_passes_11 : decode cL_passes 11 = .ok (.iload 16, 2) := by decide +kernel
theorem dL_passes_13 : decode cL_passes 13 = .ok (.bipush 60, 2) := by decide +kernel
theorem dL_passes_15 : decode cL_passes 15 = .ok (.if_icmp .ge 59, 3) := by decide +kernel
theorem dL_passes_18 : decode cL_passes 18 = .ok (.aload 13, 2) := by decide +kernel
theorem dL_passes_20 : decode cL_passes 20 = .ok (.iload 16, 2) := by decide +kernel
theorem dL_passes_22 : decode cL_passes 22 = .ok (.aload_n 0, 1) := by decide +kernel
theorem dL_passes_23 : decode cL_passes 23 = .ok (.iload 16, 2) := by decide +kernel
theorem dL_passes_25 : decode cL_passes 25 = .ok (.iaload, 1) := by decide +kernel
theorem dL_passes_26 : decode cL_passes 26 = .ok (.bipush 8, 2) := by decide +kernel
theorem dL_passes_28 : decode cL_passes 28 = .ok (.if_icmp .ge 13, 3) := by decide +kernel
theorem dL_passes_31 : decode cL_passes 31 = .ok (.iload 16, 2) := by decide +kernel
theorem dL_passes_33 : decode cL_passes 33 = .ok (.aload_n 0, 1) := by decide +kernel
theorem dL_passes_34 : decode cL_passes 34 = .ok (.aload_n 1, 1) := by decide +kernel
theorem dL_passes_35 : decode cL_passes 35 = .ok (.invokestatic 59, 3) := by decide +kernel
theorem dL_passes_38 : decode cL_passes 38 = .ok (.goto 4, 3) := by decide +kernel
theorem dL_passes_41 : decode cL_passes 41 = .ok (.iconst 0, 1) := by decide +kernel
theorem dL_passes_42 : decode cL_passes 42 = .ok (.iastore, 1) := by decide +kernel
theorem dL_passes_43 : decode cL_passes 43 = .ok (.aload 14, 2) := by decide +kernel
theorem dL_passes_45 : decode cL_passes 45 = .ok (.iload 16, 2) := by decide +kernel
theorem dL_passes_47 : decode cL_passes 47 = .ok (.aload_n 0, 1) := by decide +kernel
theorem dL_passes_48 : decode cL_passes 48 = .ok (.iload 16, 2) := by decide +kernel
theorem dL_passes_50 : decode cL_passes 50 = .ok (.iaload, 1) := by decide +kernel
theorem dL_passes_51 : decode cL_passes 51 = .ok (.bipush 8, 2) := by decide +kernel
theorem dL_passes_53 : decode cL_passes 53 = .ok (.if_icmp .ge 13, 3) := by decide +kernel
theorem dL_passes_56 : decode cL_passes 56 = .ok (.iload 16, 2) := by decide +kernel
theorem dL_passes_58 : decode cL_passes 58 = .ok (.aload_n 0, 1) := by decide +kernel
theorem dL_passes_59 : decode cL_passes 59 = .ok (.aload_n 3, 1) := by decide +kernel
theorem dL_passes_60 : decode cL_passes 60 = .ok (.invokestatic 59, 3) := by decide +kernel
theorem dL_passes_63 : decode cL_passes 63 = .ok (.goto 4, 3) := by decide +kernel
theorem dL_passes_66 : decode cL_passes 66 = .ok (.iconst 0, 1) := by decide +kernel
theorem dL_passes_67 : decode cL_passes 67 = .ok (.iastore, 1) := by decide +kernel
theorem dL_passes_68 : decode cL_passes 68 = .ok (.iinc 16 1, 3) := by decide +kernel
theorem dL_passes_71 : decode cL_passes 71 = .ok (.goto (-60), 3) := by decide +kernel
theorem dL_passes_74 : decode cL_passes 74 = .ok (.aload 14, 2) := by decide +kernel
theorem dL_passes_76 : decode cL_passes 76 = .ok (.aload_n 3, 1) := by decide +kernel
theorem dL_passes_77 : decode cL_passes 77 = .ok (.invokestatic 63, 3) := by decide +kernel
theorem dL_passes_80 : decode cL_passes 80 = .ok (.iconst 0, 1) := by decide +kernel
theorem dL_passes_81 : decode cL_passes 81 = .ok (.istore 16, 2) := by decide +kernel
theorem dL_passes_83 : decode cL_passes 83 = .ok (.iload 16, 2) := by decide +kernel
theorem dL_passes_85 : decode cL_passes 85 = .ok (.bipush 60, 2) := by decide +kernel
theorem dL_passes_87 : decode cL_passes 87 = .ok (.if_icmp .ge 166, 3) := by decide +kernel
theorem dL_passes_90 : decode cL_passes 90 = .ok (.aload 13, 2) := by decide +kernel
theorem dL_passes_92 : decode cL_passes 92 = .ok (.iload 16, 2) := by decide +kernel
theorem dL_passes_94 : decode cL_passes 94 = .ok (.iaload, 1) := by decide +kernel
theorem dL_passes_95 : decode cL_passes 95 = .ok (.aload 15, 2) := by decide +kernel
theorem dL_passes_97 : decode cL_passes 97 = .ok (.bipush 8, 2) := by decide +kernel
theorem dL_passes_99 : decode cL_passes 99 = .ok (.iload 16, 2) := by decide +kernel
theorem dL_passes_101 : decode cL_passes 101 = .ok (.bipush 10, 2) := by decide +kernel
theorem dL_passes_103 : decode cL_passes 103 = .ok (.idiv, 1) := by decide +kernel
theorem dL_passes_104 : decode cL_passes 104 = .ok (.iadd, 1) := by decide +kernel
theorem dL_passes_105 : decode cL_passes 105 = .ok (.iaload, 1) := by decide +kernel
theorem dL_passes_106 : decode cL_passes 106 = .ok (.iadd, 1) := by decide +kernel
theorem dL_passes_107 : decode cL_passes 107 = .ok (.istore 17, 2) := by decide +kernel
theorem dL_passes_109 : decode cL_passes 109 = .ok (.aload_n 0, 1) := by decide +kernel
theorem dL_passes_110 : decode cL_passes 110 = .ok (.iload 16, 2) := by decide +kernel
theorem dL_passes_112 : decode cL_passes 112 = .ok (.iaload, 1) := by decide +kernel
theorem dL_passes_113 : decode cL_passes 113 = .ok (.bipush 7, 2) := by decide +kernel
theorem dL_passes_115 : decode cL_passes 115 = .ok (.if_icmp .gt 8, 3) := by decide +kernel
theorem dL_passes_118 : decode cL_passes 118 = .ok (.iload 17, 2) := by decide +kernel
theorem dL_passes_120 : decode cL_passes 120 = .ok (.ifCond .ge 7, 3) := by decide +kernel
theorem dL_passes_123 : decode cL_passes 123 = .ok (.iconst 0, 1) := by decide +kernel
theorem dL_passes_124 : decode cL_passes 124 = .ok (.goto 5, 3) := by decide +kernel
theorem dL_passes_127 : decode cL_passes 127 = .ok (.iload 17, 2) := by decide +kernel
theorem dL_passes_129 : decode cL_passes 129 = .ok (.istore 17, 2) := by decide +kernel
theorem dL_passes_131 : decode cL_passes 131 = .ok (.aload 15, 2) := by decide +kernel
theorem dL_passes_133 : decode cL_passes 133 = .ok (.iconst 1, 1) := by decide +kernel
theorem dL_passes_134 : decode cL_passes 134 = .ok (.dup2, 1) := by decide +kernel
theorem dL_passes_135 : decode cL_passes 135 = .ok (.iaload, 1) := by decide +kernel
theorem dL_passes_136 : decode cL_passes 136 = .ok (.iload 17, 2) := by decide +kernel
theorem dL_passes_138 : decode cL_passes 138 = .ok (.aload 13, 2) := by decide +kernel
theorem dL_passes_140 : decode cL_passes 140 = .ok (.iload 16, 2) := by decide +kernel
theorem dL_passes_142 : decode cL_passes 142 = .ok (.iaload, 1) := by decide +kernel
theorem dL_passes_143 : decode cL_passes 143 = .ok (.isub, 1) := by decide +kernel
theorem dL_passes_144 : decode cL_passes 144 = .ok (.iadd, 1) := by decide +kernel
theorem dL_passes_145 : decode cL_passes 145 = .ok (.iastore, 1) := by decide +kernel
theorem dL_passes_146 : decode cL_passes 146 = .ok (.aload_n 1, 1) := by decide +kernel
theorem dL_passes_147 : decode cL_passes 147 = .ok (.iload 16, 2) := by decide +kernel
theorem dL_passes_149 : decode cL_passes 149 = .ok (.iload 17, 2) := by decide +kernel
theorem dL_passes_151 : decode cL_passes 151 = .ok (.iastore, 1) := by decide +kernel
theorem dL_passes_152 : decode cL_passes 152 = .ok (.aload_n 0, 1) := by decide +kernel
theorem dL_passes_153 : decode cL_passes 153 = .ok (.iload 16, 2) := by decide +kernel
theorem dL_passes_155 : decode cL_passes 155 = .ok (.iaload, 1) := by decide +kernel
theorem dL_passes_156 : decode cL_passes 156 = .ok (.bipush 8, 2) := by decide +kernel
theorem dL_passes_158 : decode cL_passes 158 = .ok (.if_icmp .ge 89, 3) := by decide +kernel
theorem dL_passes_161 : decode cL_passes 161 = .ok (.aload_n 1, 1) := by decide +kernel
theorem dL_passes_162 : decode cL_passes 162 = .ok (.iload 16, 2) := by decide +kernel
theorem dL_passes_164 : decode cL_passes 164 = .ok (.iaload, 1) := by decide +kernel
theorem dL_passes_165 : decode cL_passes 165 = .ok (.aload_n 2, 1) := by decide +kernel
theorem dL_passes_166 : decode cL_passes 166 = .ok (.iload 16, 2) := by decide +kernel
theorem dL_passes_168 : decode cL_passes 168 = .ok (.iaload, 1) := by decide +kernel
theorem dL_passes_169 : decode cL_passes 169 = .ok (.isub, 1) := by decide +kernel
theorem dL_passes_170 : decode cL_passes 170 = .ok (.iconst 5, 1) := by decide +kernel
theorem dL_passes_171 : decode cL_passes 171 = .ok (.aload_n 3, 1) := by decide +kernel
theorem dL_passes_172 : decode cL_passes 172 = .ok (.iload 16, 2) := by decide +kernel
theorem dL_passes_174 : decode cL_passes 174 = .ok (.iaload, 1) := by decide +kernel
theorem dL_passes_175 : decode cL_passes 175 = .ok (.aload 4, 2) := by decide +kernel
theorem dL_passes_177 : decode cL_passes 177 = .ok (.iload 16, 2) := by decide +kernel
theorem dL_passes_179 : decode cL_passes 179 = .ok (.iaload, 1) := by decide +kernel
theorem dL_passes_180 : decode cL_passes 180 = .ok (.isub, 1) := by decide +kernel
theorem dL_passes_181 : decode cL_passes 181 = .ok (.imul, 1) := by decide +kernel
theorem dL_passes_182 : decode cL_passes 182 = .ok (.if_icmp .ge 65, 3) := by decide +kernel
theorem dL_passes_185 : decode cL_passes 185 = .ok (.aload_n 1, 1) := by decide +kernel
theorem dL_passes_186 : decode cL_passes 186 = .ok (.iload 16, 2) := by decide +kernel
theorem dL_passes_188 : decode cL_passes 188 = .ok (.iaload, 1) := by decide +kernel
theorem dL_passes_189 : decode cL_passes 189 = .ok (.aload_n 2, 1) := by decide +kernel
theorem dL_passes_190 : decode cL_passes 190 = .ok (.iload 16, 2) := by decide +kernel
theorem dL_passes_192 : decode cL_passes 192 = .ok (.iaload, 1) := by decide +kernel
theorem dL_passes_193 : decode cL_passes 193 = .ok (.iadd, 1) := by decide +kernel
theorem dL_passes_194 : decode cL_passes 194 = .ok (.istore 18, 2) := by decide +kernel
theorem dL_passes_196 : decode cL_passes 196 = .ok (.aload_n 3, 1) := by decide +kernel
theorem dL_passes_197 : decode cL_passes 197 = .ok (.iload 16, 2) := by decide +kernel
theorem dL_passes_199 : decode cL_passes 199 = .ok (.iaload, 1) := by decide +kernel
theorem dL_passes_200 : decode cL_passes 200 = .ok (.aload 4, 2) := by decide +kernel
theorem dL_passes_202 : decode cL_passes 202 = .ok (.iload 16, 2) := by decide +kernel
theorem dL_passes_204 : decode cL_passes 204 = .ok (.iaload, 1) := by decide +kernel
theorem dL_passes_205 : decode cL_passes 205 = .ok (.iadd, 1) := by decide +kernel
theorem dL_passes_206 : decode cL_passes 206 = .ok (.istore 19, 2) := by decide +kernel
theorem dL_passes_208 : decode cL_passes 208 = .ok (.aload_n 1, 1) := by decide +kernel
theorem dL_passes_209 : decode cL_passes 209 = .ok (.iload 16, 2) := by decide +kernel
theorem dL_passes_211 : decode cL_passes 211 = .ok (.iload 18, 2) := by decide +kernel
theorem dL_passes_213 : decode cL_passes 213 = .ok (.iconst 2, 1) := by decide +kernel
theorem dL_passes_214 : decode cL_passes 214 = .ok (.idiv, 1) := by decide +kernel
theorem dL_passes_215 : decode cL_passes 215 = .ok (.iastore, 1) := by decide +kernel
theorem dL_passes_216 : decode cL_passes 216 = .ok (.aload_n 3, 1) := by decide +kernel
theorem dL_passes_217 : decode cL_passes 217 = .ok (.iload 16, 2) := by decide +kernel
theorem dL_passes_219 : decode cL_passes 219 = .ok (.iload 19, 2) := by decide +kernel
theorem dL_passes_221 : decode cL_passes 221 = .ok (.iconst 2, 1) := by decide +kernel
theorem dL_passes_222 : decode cL_passes 222 = .ok (.idiv, 1) := by decide +kernel
theorem dL_passes_223 : decode cL_passes 223 = .ok (.iastore, 1) := by decide +kernel
theorem dL_passes_224 : decode cL_passes 224 = .ok (.aload_n 2, 1) := by decide +kernel
theorem dL_passes_225 : decode cL_passes 225 = .ok (.iload 16, 2) := by decide +kernel
theorem dL_passes_227 : decode cL_passes 227 = .ok (.iload 18, 2) := by decide +kernel
theorem dL_passes_229 : decode cL_passes 229 = .ok (.aload_n 1, 1) := by decide +kernel
theorem dL_passes_230 : decode cL_passes 230 = .ok (.iload 16, 2) := by decide +kernel
theorem dL_passes_232 : decode cL_passes 232 = .ok (.iaload, 1) := by decide +kernel
theorem dL_passes_233 : decode cL_passes 233 = .ok (.isub, 1) := by decide +kernel
theorem dL_passes_234 : decode cL_passes 234 = .ok (.iastore, 1) := by decide +kernel
theorem dL_passes_235 : decode cL_passes 235 = .ok (.aload 4, 2) := by decide +kernel
theorem dL_passes_237 : decode cL_passes 237 = .ok (.iload 16, 2) := by decide +kernel
theorem dL_passes_239 : decode cL_passes 239 = .ok (.iload 19, 2) := by decide +kernel
theorem dL_passes_241 : decode cL_passes 241 = .ok (.aload_n 3, 1) := by decide +kernel
theorem dL_passes_242 : decode cL_passes 242 = .ok (.iload 16, 2) := by decide +kernel
theorem dL_passes_244 : decode cL_passes 244 = .ok (.iaload, 1) := by decide +kernel
theorem dL_passes_245 : decode cL_passes 245 = .ok (.isub, 1) := by decide +kernel
theorem dL_passes_246 : decode cL_passes 246 = .ok (.iastore, 1) := by decide +kernel
theorem dL_passes_247 : decode cL_passes 247 = .ok (.iinc 16 1, 3) := by decide +kernel
theorem dL_passes_250 : decode cL_passes 250 = .ok (.goto (-167), 3) := by decide +kernel
theorem dL_passes_253 : decode cL_passes 253 = .ok (.iconst 0, 1) := by decide +kernel
theorem dL_passes_254 : decode cL_passes 254 = .ok (.istore 16, 2) := by decide +kernel
theorem dL_passes_256 : decode cL_passes 256 = .ok (.iload 16, 2) := by decide +kernel
theorem dL_passes_258 : decode cL_passes 258 = .ok (.aload 15, 2) := by decide +kernel
theorem dL_passes_260 : decode cL_passes 260 = .ok (.iconst 2, 1) := by decide +kernel
theorem dL_passes_261 : decode cL_passes 261 = .ok (.iaload, 1) := by decide +kernel
theorem dL_passes_262 : decode cL_passes 262 = .ok (.if_icmp .ge 201, 3) := by decide +kernel
theorem dL_passes_265 : decode cL_passes 265 = .ok (.aload 5, 2) := by decide +kernel
theorem dL_passes_267 : decode cL_passes 267 = .ok (.bipush 8, 2) := by decide +kernel
theorem dL_passes_269 : decode cL_passes 269 = .ok (.iload 16, 2) := by decide +kernel
theorem dL_passes_271 : decode cL_passes 271 = .ok (.imul, 1) := by decide +kernel
theorem dL_passes_272 : decode cL_passes 272 = .ok (.iconst 2, 1) := by decide +kernel
theorem dL_passes_273 : decode cL_passes 273 = .ok (.iadd, 1) := by decide +kernel
theorem dL_passes_274 : decode cL_passes 274 = .ok (.dup2, 1) := by decide +kernel
theorem dL_passes_275 : decode cL_passes 275 = .ok (.iaload, 1) := by decide +kernel
theorem dL_passes_276 : decode cL_passes 276 = .ok (.aload 5, 2) := by decide +kernel
theorem dL_passes_278 : decode cL_passes 278 = .ok (.bipush 8, 2) := by decide +kernel
theorem dL_passes_280 : decode cL_passes 280 = .ok (.iload 16, 2) := by decide +kernel
theorem dL_passes_282 : decode cL_passes 282 = .ok (.imul, 1) := by decide +kernel
theorem dL_passes_283 : decode cL_passes 283 = .ok (.iconst 3, 1) := by decide +kernel
theorem dL_passes_284 : decode cL_passes 284 = .ok (.iadd, 1) := by decide +kernel
theorem dL_passes_285 : decode cL_passes 285 = .ok (.iaload, 1) := by decide +kernel
theorem dL_passes_286 : decode cL_passes 286 = .ok (.ifCond .le 7, 3) := by decide +kernel
theorem dL_passes_289 : decode cL_passes 289 = .ok (.iconst 1, 1) := by decide +kernel
theorem dL_passes_290 : decode cL_passes 290 = .ok (.goto 4, 3) := by decide +kernel
theorem dL_passes_293 : decode cL_passes 293 = .ok (.iconst 0, 1) := by decide +kernel
theorem dL_passes_294 : decode cL_passes 294 = .ok (.isub, 1) := by decide +kernel
theorem dL_passes_295 : decode cL_passes 295 = .ok (.iastore, 1) := by decide +kernel
theorem dL_passes_296 : decode cL_passes 296 = .ok (.aload 5, 2) := by decide +kernel
theorem dL_passes_298 : decode cL_passes 298 = .ok (.bipush 8, 2) := by decide +kernel
theorem dL_passes_300 : decode cL_passes 300 = .ok (.iload 16, 2) := by decide +kernel
theorem dL_passes_302 : decode cL_passes 302 = .ok (.imul, 1) := by decide +kernel
theorem dL_passes_303 : decode cL_passes 303 = .ok (.iconst 3, 1) := by decide +kernel
theorem dL_passes_304 : decode cL_passes 304 = .ok (.iadd, 1) := by decide +kernel
theorem dL_passes_305 : decode cL_passes 305 = .ok (.iaload, 1) := by decide +kernel
theorem dL_passes_306 : decode cL_passes 306 = .ok (.ifCond .le 151, 3) := by decide +kernel
theorem dL_passes_309 : decode cL_passes 309 = .ok (.aload 5, 2) := by decide +kernel
theorem dL_passes_311 : decode cL_passes 311 = .ok (.bipush 8, 2) := by decide +kernel
theorem dL_passes_313 : decode cL_passes 313 = .ok (.iload 16, 2) := by decide +kernel
theorem dL_passes_315 : decode cL_passes 315 = .ok (.imul, 1) := by decide +kernel
theorem dL_passes_316 : decode cL_passes 316 = .ok (.iconst 2, 1) := by decide +kernel
theorem dL_passes_317 : decode cL_passes 317 = .ok (.iadd, 1) := by decide +kernel
theorem dL_passes_318 : decode cL_passes 318 = .ok (.iaload, 1) := by decide +kernel
theorem dL_passes_319 : decode cL_passes 319 = .ok (.ifCond .ne 138, 3) := by decide +kernel
theorem dL_passes_322 : decode cL_passes 322 = .ok (.aload 5, 2) := by decide +kernel
theorem dL_passes_324 : decode cL_passes 324 = .ok (.bipush 8, 2) := by decide +kernel
theorem dL_passes_326 : decode cL_passes 326 = .ok (.iload 16, 2) := by decide +kernel
theorem dL_passes_328 : decode cL_passes 328 = .ok (.imul, 1) := by decide +kernel
theorem dL_passes_329 : decode cL_passes 329 = .ok (.iaload, 1) := by decide +kernel
theorem dL_passes_330 : decode cL_passes 330 = .ok (.aload_n 0, 1) := by decide +kernel
theorem dL_passes_331 : decode cL_passes 331 = .ok (.invokestatic 55, 3) := by decide +kernel
theorem dL_passes_334 : decode cL_passes 334 = .ok (.istore 17, 2) := by decide +kernel
theorem dL_passes_336 : decode cL_passes 336 = .ok (.aload 5, 2) := by decide +kernel
theorem dL_passes_338 : decode cL_passes 338 = .ok (.bipush 8, 2) := by decide +kernel
theorem dL_passes_340 : decode cL_passes 340 = .ok (.iload 16, 2) := by decide +kernel
theorem dL_passes_342 : decode cL_passes 342 = .ok (.imul, 1) := by decide +kernel
theorem dL_passes_343 : decode cL_passes 343 = .ok (.iload 17, 2) := by decide +kernel
theorem dL_passes_345 : decode cL_passes 345 = .ok (.ifCond .ge 14, 3) := by decide +kernel
theorem dL_passes_348 : decode cL_passes 348 = .ok (.aload 5, 2) := by decide +kernel
theorem dL_passes_350 : decode cL_passes 350 = .ok (.bipush 8, 2) := by decide +kernel
theorem dL_passes_352 : decode cL_passes 352 = .ok (.iload 16, 2) := by decide +kernel
theorem dL_passes_354 : decode cL_passes 354 = .ok (.imul, 1) := by decide +kernel
theorem dL_passes_355 : decode cL_passes 355 = .ok (.iaload, 1) := by decide +kernel
theorem dL_passes_356 : decode cL_passes 356 = .ok (.goto 5, 3) := by decide +kernel
theorem dL_passes_359 : decode cL_passes 359 = .ok (.iload 17, 2) := by decide +kernel
theorem dL_passes_361 : decode cL_passes 361 = .ok (.iastore, 1) := by decide +kernel
theorem dL_passes_362 : decode cL_passes 362 = .ok (.aload 5, 2) := by decide +kernel
theorem dL_passes_364 : decode cL_passes 364 = .ok (.bipush 8, 2) := by decide +kernel
theorem dL_passes_366 : decode cL_passes 366 = .ok (.iload 16, 2) := by decide +kernel
theorem dL_passes_368 : decode cL_passes 368 = .ok (.imul, 1) := by decide +kernel
theorem dL_passes_369 : decode cL_passes 369 = .ok (.iaload, 1) := by decide +kernel
theorem dL_passes_370 : decode cL_passes 370 = .ok (.iload 16, 2) := by decide +kernel
theorem dL_passes_372 : decode cL_passes 372 = .ok (.iconst 1, 1) := by decide +kernel
theorem dL_passes_373 : decode cL_passes 373 = .ok (.iadd, 1) := by decide +kernel
theorem dL_passes_374 : decode cL_passes 374 = .ok (.aload_n 1, 1) := by decide +kernel
theorem dL_passes_375 : decode cL_passes 375 = .ok (.aload 5, 2) := by decide +kernel
theorem dL_passes_377 : decode cL_passes 377 = .ok (.bipush 8, 2) := by decide +kernel
theorem dL_passes_379 : decode cL_passes 379 = .ok (.iload 16, 2) := by decide +kernel
theorem dL_passes_381 : decode cL_passes 381 = .ok (.imul, 1) := by decide +kernel
theorem dL_passes_382 : decode cL_passes 382 = .ok (.iaload, 1) := by decide +kernel
theorem dL_passes_383 : decode cL_passes 383 = .ok (.iaload, 1) := by decide +kernel
theorem dL_passes_384 : decode cL_passes 384 = .ok (.aload 5, 2) := by decide +kernel
theorem dL_passes_386 : decode cL_passes 386 = .ok (.bipush 8, 2) := by decide +kernel
theorem dL_passes_388 : decode cL_passes 388 = .ok (.iload 16, 2) := by decide +kernel
theorem dL_passes_390 : decode cL_passes 390 = .ok (.imul, 1) := by decide +kernel
theorem dL_passes_391 : decode cL_passes 391 = .ok (.iconst 4, 1) := by decide +kernel
theorem dL_passes_392 : decode cL_passes 392 = .ok (.iadd, 1) := by decide +kernel
theorem dL_passes_393 : decode cL_passes 393 = .ok (.iaload, 1) := by decide +kernel
theorem dL_passes_394 : decode cL_passes 394 = .ok (.iadd, 1) := by decide +kernel
theorem dL_passes_395 : decode cL_passes 395 = .ok (.aload 8, 2) := by decide +kernel
theorem dL_passes_397 : decode cL_passes 397 = .ok (.aload 9, 2) := by decide +kernel
theorem dL_passes_399 : decode cL_passes 399 = .ok (.aload 10, 2) := by decide +kernel
theorem dL_passes_401 : decode cL_passes 401 = .ok (.aload 15, 2) := by decide +kernel
theorem dL_passes_403 : decode cL_passes 403 = .ok (.invokestatic 67, 3) := by decide +kernel
theorem dL_passes_406 : decode cL_passes 406 = .ok (.aload 5, 2) := by decide +kernel
theorem dL_passes_408 : decode cL_passes 408 = .ok (.bipush 8, 2) := by decide +kernel
theorem dL_passes_410 : decode cL_passes 410 = .ok (.iload 16, 2) := by decide +kernel
theorem dL_passes_412 : decode cL_passes 412 = .ok (.imul, 1) := by decide +kernel
theorem dL_passes_413 : decode cL_passes 413 = .ok (.iconst 3, 1) := by decide +kernel
theorem dL_passes_414 : decode cL_passes 414 = .ok (.iadd, 1) := by decide +kernel
theorem dL_passes_415 : decode cL_passes 415 = .ok (.dup2, 1) := by decide +kernel
theorem dL_passes_416 : decode cL_passes 416 = .ok (.iaload, 1) := by decide +kernel
theorem dL_passes_417 : decode cL_passes 417 = .ok (.iconst 1, 1) := by decide +kernel
theorem dL_passes_418 : decode cL_passes 418 = .ok (.isub, 1) := by decide +kernel
theorem dL_passes_419 : decode cL_passes 419 = .ok (.iastore, 1) := by decide +kernel
theorem dL_passes_420 : decode cL_passes 420 = .ok (.aload 5, 2) := by decide +kernel
theorem dL_passes_422 : decode cL_passes 422 = .ok (.bipush 8, 2) := by decide +kernel
theorem dL_passes_424 : decode cL_passes 424 = .ok (.iload 16, 2) := by decide +kernel
theorem dL_passes_426 : decode cL_passes 426 = .ok (.imul, 1) := by decide +kernel
theorem dL_passes_427 : decode cL_passes 427 = .ok (.iconst 2, 1) := by decide +kernel
theorem dL_passes_428 : decode cL_passes 428 = .ok (.iadd, 1) := by decide +kernel
theorem dL_passes_429 : decode cL_passes 429 = .ok (.aload 5, 2) := by decide +kernel
theorem dL_passes_431 : decode cL_passes 431 = .ok (.bipush 8, 2) := by decide +kernel
theorem dL_passes_433 : decode cL_passes 433 = .ok (.iload 16, 2) := by decide +kernel
theorem dL_passes_435 : decode cL_passes 435 = .ok (.imul, 1) := by decide +kernel
theorem dL_passes_436 : decode cL_passes 436 = .ok (.iconst 3, 1) := by decide +kernel
theorem dL_passes_437 : decode cL_passes 437 = .ok (.iadd, 1) := by decide +kernel
theorem dL_passes_438 : decode cL_passes 438 = .ok (.iaload, 1) := by decide +kernel
theorem dL_passes_439 : decode cL_passes 439 = .ok (.ifCond .le 16, 3) := by decide +kernel
theorem dL_passes_442 : decode cL_passes 442 = .ok (.aload 5, 2) := by decide +kernel
theorem dL_passes_444 : decode cL_passes 444 = .ok (.bipush 8, 2) := by decide +kernel
theorem dL_passes_446 : decode cL_passes 446 = .ok (.iload 16, 2) := by decide +kernel
theorem dL_passes_448 : decode cL_passes 448 = .ok (.imul, 1) := by decide +kernel
theorem dL_passes_449 : decode cL_passes 449 = .ok (.iconst 1, 1) := by decide +kernel
theorem dL_passes_450 : decode cL_passes 450 = .ok (.iadd, 1) := by decide +kernel
theorem dL_passes_451 : decode cL_passes 451 = .ok (.iaload, 1) := by decide +kernel
theorem dL_passes_452 : decode cL_passes 452 = .ok (.goto 4, 3) := by decide +kernel
theorem dL_passes_455 : decode cL_passes 455 = .ok (.iconst 0, 1) := by decide +kernel
theorem dL_passes_456 : decode cL_passes 456 = .ok (.iastore, 1) := by decide +kernel
theorem dL_passes_457 : decode cL_passes 457 = .ok (.iinc 16 1, 3) := by decide +kernel
theorem dL_passes_460 : decode cL_passes 460 = .ok (.goto (-204), 3) := by decide +kernel
theorem dL_passes_463 : decode cL_passes 463 = .ok (.iconst 0, 1) := by decide +kernel
theorem dL_passes_464 : decode cL_passes 464 = .ok (.istore 16, 2) := by decide +kernel
theorem dL_passes_466 : decode cL_passes 466 = .ok (.iload 16, 2) := by decide +kernel
theorem dL_passes_468 : decode cL_passes 468 = .ok (.bipush 60, 2) := by decide +kernel
theorem dL_passes_470 : decode cL_passes 470 = .ok (.if_icmp .ge 61, 3) := by decide +kernel
theorem dL_passes_473 : decode cL_passes 473 = .ok (.aload 13, 2) := by decide +kernel
theorem dL_passes_475 : decode cL_passes 475 = .ok (.iload 16, 2) := by decide +kernel
theorem dL_passes_477 : decode cL_passes 477 = .ok (.aload_n 0, 1) := by decide +kernel
theorem dL_passes_478 : decode cL_passes 478 = .ok (.iload 16, 2) := by decide +kernel
theorem dL_passes_480 : decode cL_passes 480 = .ok (.iaload, 1) := by decide +kernel
theorem dL_passes_481 : decode cL_passes 481 = .ok (.bipush 7, 2) := by decide +kernel
theorem dL_passes_483 : decode cL_passes 483 = .ok (.if_icmp .le 7, 3) := by decide +kernel
theorem dL_passes_486 : decode cL_passes 486 = .ok (.iconst 0, 1) := by decide +kernel
theorem dL_passes_487 : decode cL_passes 487 = .ok (.goto 11, 3) := by decide +kernel
theorem dL_passes_490 : decode cL_passes 490 = .ok (.iload 16, 2) := by decide +kernel
theorem dL_passes_492 : decode cL_passes 492 = .ok (.aload_n 0, 1) := by decide +kernel
theorem dL_passes_493 : decode cL_passes 493 = .ok (.aload 11, 2) := by decide +kernel
theorem dL_passes_495 : decode cL_passes 495 = .ok (.invokestatic 71, 3) := by decide +kernel
theorem dL_passes_498 : decode cL_passes 498 = .ok (.iastore, 1) := by decide +kernel
theorem dL_passes_499 : decode cL_passes 499 = .ok (.aload 14, 2) := by decide +kernel
theorem dL_passes_501 : decode cL_passes 501 = .ok (.iload 16, 2) := by decide +kernel
theorem dL_passes_503 : decode cL_passes 503 = .ok (.aload_n 0, 1) := by decide +kernel
theorem dL_passes_504 : decode cL_passes 504 = .ok (.iload 16, 2) := by decide +kernel
theorem dL_passes_506 : decode cL_passes 506 = .ok (.iaload, 1) := by decide +kernel
theorem dL_passes_507 : decode cL_passes 507 = .ok (.bipush 7, 2) := by decide +kernel
theorem dL_passes_509 : decode cL_passes 509 = .ok (.if_icmp .le 7, 3) := by decide +kernel
theorem dL_passes_512 : decode cL_passes 512 = .ok (.iconst 0, 1) := by decide +kernel
theorem dL_passes_513 : decode cL_passes 513 = .ok (.goto 11, 3) := by decide +kernel
theorem dL_passes_516 : decode cL_passes 516 = .ok (.iload 16, 2) := by decide +kernel
theorem dL_passes_518 : decode cL_passes 518 = .ok (.aload_n 0, 1) := by decide +kernel
theorem dL_passes_519 : decode cL_passes 519 = .ok (.aload 12, 2) := by decide +kernel
theorem dL_passes_521 : decode cL_passes 521 = .ok (.invokestatic 71, 3) := by decide +kernel
theorem dL_passes_524 : decode cL_passes 524 = .ok (.iastore, 1) := by decide +kernel
theorem dL_passes_525 : decode cL_passes 525 = .ok (.iinc 16 1, 3) := by decide +kernel
theorem dL_passes_528 : decode cL_passes 528 = .ok (.goto (-62), 3) := by decide +kernel
theorem dL_passes_531 : decode cL_passes 531 = .ok (.aload 13, 2) := by decide +kernel
theorem dL_passes_533 : decode cL_passes 533 = .ok (.aload 11, 2) := by decide +kernel
theorem dL_passes_535 : decode cL_passes 535 = .ok (.invokestatic 63, 3) := by decide +kernel
theorem dL_passes_538 : decode cL_passes 538 = .ok (.aload 14, 2) := by decide +kernel
theorem dL_passes_540 : decode cL_passes 540 = .ok (.aload 12, 2) := by decide +kernel
theorem dL_passes_542 : decode cL_passes 542 = .ok (.invokestatic 63, 3) := by decide +kernel
theorem dL_passes_545 : decode cL_passes 545 = .ok (.iconst 0, 1) := by decide +kernel
theorem dL_passes_546 : decode cL_passes 546 = .ok (.istore 16, 2) := by decide +kernel
theorem dL_passes_548 : decode cL_passes 548 = .ok (.iload 16, 2) := by decide +kernel
theorem dL_passes_550 : decode cL_passes 550 = .ok (.bipush 60, 2) := by decide +kernel
theorem dL_passes_552 : decode cL_passes 552 = .ok (.if_icmp .ge 143, 3) := by decide +kernel
theorem dL_passes_555 : decode cL_passes 555 = .ok (.iconst 0, 1) := by decide +kernel
theorem dL_passes_556 : decode cL_passes 556 = .ok (.istore 17, 2) := by decide +kernel
theorem dL_passes_558 : decode cL_passes 558 = .ok (.iconst 0, 1) := by decide +kernel
theorem dL_passes_559 : decode cL_passes 559 = .ok (.istore 18, 2) := by decide +kernel
theorem dL_passes_561 : decode cL_passes 561 = .ok (.iconst 0, 1) := by decide +kernel
theorem dL_passes_562 : decode cL_passes 562 = .ok (.istore 19, 2) := by decide +kernel
theorem dL_passes_564 : decode cL_passes 564 = .ok (.iload 19, 2) := by decide +kernel
theorem dL_passes_566 : decode cL_passes 566 = .ok (.aload 15, 2) := by decide +kernel
theorem dL_passes_568 : decode cL_passes 568 = .ok (.iconst 3, 1) := by decide +kernel
theorem dL_passes_569 : decode cL_passes 569 = .ok (.iaload, 1) := by decide +kernel
theorem dL_passes_570 : decode cL_passes 570 = .ok (.if_icmp .ge 76, 3) := by decide +kernel
theorem dL_passes_573 : decode cL_passes 573 = .ok (.aload 6, 2) := by decide +kernel
theorem dL_passes_575 : decode cL_passes 575 = .ok (.iload 19, 2) := by decide +kernel
theorem dL_passes_577 : decode cL_passes 577 = .ok (.iaload, 1) := by decide +kernel
theorem dL_passes_578 : decode cL_passes 578 = .ok (.bipush 64, 2) := by decide +kernel
theorem dL_passes_580 : decode cL_passes 580 = .ok (.aload 15, 2) := by decide +kernel
theorem dL_passes_582 : decode cL_passes 582 = .ok (.iconst 0, 1) := by decide +kernel
theorem dL_passes_583 : decode cL_passes 583 = .ok (.iaload, 1) := by decide +kernel
theorem dL_passes_584 : decode cL_passes 584 = .ok (.imul, 1) := by decide +kernel
theorem dL_passes_585 : decode cL_passes 585 = .ok (.iload 16, 2) := by decide +kernel
theorem dL_passes_587 : decode cL_passes 587 = .ok (.iadd, 1) := by decide +kernel
theorem dL_passes_588 : decode cL_passes 588 = .ok (.if_icmp .ne 7, 3) := by decide +kernel
theorem dL_passes_591 : decode cL_passes 591 = .ok (.iconst 1, 1) := by decide +kernel
theorem dL_passes_592 : decode cL_passes 592 = .ok (.goto 4, 3) := by decide +kernel
theorem dL_passes_595 : decode cL_passes 595 = .ok (.iconst 0, 1) := by decide +kernel
theorem dL_passes_596 : decode cL_passes 596 = .ok (.istore 20, 2) := by decide +kernel
theorem dL_passes_598 : decode cL_passes 598 = .ok (.iload 18, 2) := by decide +kernel
theorem dL_passes_600 : decode cL_passes 600 = .ok (.ifCond .ne 8, 3) := by decide +kernel
theorem dL_passes_603 : decode cL_passes 603 = .ok (.iload 20, 2) := by decide +kernel
theorem dL_passes_605 : decode cL_passes 605 = .ok (.ifCond .eq 7, 3) := by decide +kernel
theorem dL_passes_608 : decode cL_passes 608 = .ok (.iconst 1, 1) := by decide +kernel
theorem dL_passes_609 : decode cL_passes 609 = .ok (.goto 4, 3) := by decide +kernel
theorem dL_passes_612 : decode cL_passes 612 = .ok (.iconst 0, 1) := by decide +kernel
theorem dL_passes_613 : decode cL_passes 613 = .ok (.istore 18, 2) := by decide +kernel
theorem dL_passes_615 : decode cL_passes 615 = .ok (.aload 6, 2) := by decide +kernel
theorem dL_passes_617 : decode cL_passes 617 = .ok (.iload 17, 2) := by decide +kernel
theorem dL_passes_619 : decode cL_passes 619 = .ok (.aload 6, 2) := by decide +kernel
theorem dL_passes_621 : decode cL_passes 621 = .ok (.iload 19, 2) := by decide +kernel
theorem dL_passes_623 : decode cL_passes 623 = .ok (.iaload, 1) := by decide +kernel
theorem dL_passes_624 : decode cL_passes 624 = .ok (.iastore, 1) := by decide +kernel
theorem dL_passes_625 : decode cL_passes 625 = .ok (.iload 17, 2) := by decide +kernel
theorem dL_passes_627 : decode cL_passes 627 = .ok (.iload 20, 2) := by decide +kernel
theorem dL_passes_629 : decode cL_passes 629 = .ok (.ifCond .eq 7, 3) := by decide +kernel
theorem dL_passes_632 : decode cL_passes 632 = .ok (.iconst 0, 1) := by decide +kernel
theorem dL_passes_633 : decode cL_passes 633 = .ok (.goto 4, 3) := by decide +kernel
theorem dL_passes_636 : decode cL_passes 636 = .ok (.iconst 1, 1) := by decide +kernel
theorem dL_passes_637 : decode cL_passes 637 = .ok (.iadd, 1) := by decide +kernel
theorem dL_passes_638 : decode cL_passes 638 = .ok (.istore 17, 2) := by decide +kernel
theorem dL_passes_640 : decode cL_passes 640 = .ok (.iinc 19 1, 3) := by decide +kernel
theorem dL_passes_643 : decode cL_passes 643 = .ok (.goto (-79), 3) := by decide +kernel
theorem dL_passes_646 : decode cL_passes 646 = .ok (.aload 15, 2) := by decide +kernel
theorem dL_passes_648 : decode cL_passes 648 = .ok (.iconst 3, 1) := by decide +kernel
theorem dL_passes_649 : decode cL_passes 649 = .ok (.iload 17, 2) := by decide +kernel
theorem dL_passes_651 : decode cL_passes 651 = .ok (.iastore, 1) := by decide +kernel
theorem dL_passes_652 : decode cL_passes 652 = .ok (.iload 18, 2) := by decide +kernel
theorem dL_passes_654 : decode cL_passes 654 = .ok (.ifCond .eq 35, 3) := by decide +kernel
theorem dL_passes_657 : decode cL_passes 657 = .ok (.aload 15, 2) := by decide +kernel
theorem dL_passes_659 : decode cL_passes 659 = .ok (.iconst 0, 1) := by decide +kernel
theorem dL_passes_660 : decode cL_passes 660 = .ok (.iaload, 1) := by decide +kernel
theorem dL_passes_661 : decode cL_passes 661 = .ok (.aload 7, 2) := by decide +kernel
theorem dL_passes_663 : decode cL_passes 663 = .ok (.aload 15, 2) := by decide +kernel
theorem dL_passes_665 : decode cL_passes 665 = .ok (.invokestatic 74, 3) := by decide +kernel
theorem dL_passes_668 : decode cL_passes 668 = .ok (.ifCond .ne 21, 3) := by decide +kernel
theorem dL_passes_671 : decode cL_passes 671 = .ok (.iload 16, 2) := by decide +kernel
theorem dL_passes_673 : decode cL_passes 673 = .ok (.iconst 0, 1) := by decide +kernel
theorem dL_passes_674 : decode cL_passes 674 = .ok (.aload_n 1, 1) := by decide +kernel
theorem dL_passes_675 : decode cL_passes 675 = .ok (.iload 16, 2) := by decide +kernel
theorem dL_passes_677 : decode cL_passes 677 = .ok (.iaload, 1) := by decide +kernel
theorem dL_passes_678 : decode cL_passes 678 = .ok (.aload 8, 2) := by decide +kernel
theorem dL_passes_680 : decode cL_passes 680 = .ok (.aload 9, 2) := by decide +kernel
theorem dL_passes_682 : decode cL_passes 682 = .ok (.aload 10, 2) := by decide +kernel
theorem dL_passes_684 : decode cL_passes 684 = .ok (.aload 15, 2) := by decide +kernel
theorem dL_passes_686 : decode cL_passes 686 = .ok (.invokestatic 67, 3) := by decide +kernel
theorem dL_passes_689 : decode cL_passes 689 = .ok (.iinc 16 1, 3) := by decide +kernel
theorem dL_passes_692 : decode cL_passes 692 = .ok (.goto (-144), 3) := by decide +kernel
theorem dL_passes_695 : decode cL_passes 695 = .ok (.return_, 1) := by decide +kernel
theorem dL_apart_0 : decode cL_apart 0 = .ok (.iload_n 0, 1) := by decide +kernel
theorem dL_apart_1 : decode cL_apart 1 = .ok (.iload_n 1, 1) := by decide +kernel
theorem dL_apart_2 : decode cL_apart 2 = .ok (.if_icmp .le 9, 3) := by decide +kernel
theorem dL_apart_5 : decode cL_apart 5 = .ok (.iload_n 0, 1) := by decide +kernel
theorem dL_apart_6 : decode cL_apart 6 = .ok (.iload_n 1, 1) := by decide +kernel
theorem dL_apart_7 : decode cL_apart 7 = .ok (.isub, 1) := by decide +kernel
theorem dL_apart_8 : decode cL_apart 8 = .ok (.goto 6, 3) := by decide +kernel
theorem dL_apart_11 : decode cL_apart 11 = .ok (.iload_n 1, 1) := by decide +kernel
theorem dL_apart_12 : decode cL_apart 12 = .ok (.iload_n 0, 1) := by decide +kernel
theorem dL_apart_13 : decode cL_apart 13 = .ok (.isub, 1) := by decide +kernel
theorem dL_apart_14 : decode cL_apart 14 = .ok (.ireturn, 1) := by decide +kernel
theorem dL_corrected_0 : decode cL_corrected 0 = .ok (.aload_n 1, 1) := by decide +kernel
theorem dL_corrected_1 : decode cL_corrected 1 = .ok (.iload_n 0, 1) := by decide +kernel
theorem dL_corrected_2 : decode cL_corrected 2 = .ok (.iaload, 1) := by decide +kernel
theorem dL_corrected_3 : decode cL_corrected 3 = .ok (.aload_n 2, 1) := by decide +kernel
theorem dL_corrected_4 : decode cL_corrected 4 = .ok (.iload_n 0, 1) := by decide +kernel
theorem dL_corrected_5 : decode cL_corrected 5 = .ok (.iaload, 1) := by decide +kernel
theorem dL_corrected_6 : decode cL_corrected 6 = .ok (.bipush 16, 2) := by decide +kernel
theorem dL_corrected_8 : decode cL_corrected 8 = .ok (.irem, 1) := by decide +kernel
theorem dL_corrected_9 : decode cL_corrected 9 = .ok (.ifCond .le 21, 3) := by decide +kernel
theorem dL_corrected_12 : decode cL_corrected 12 = .ok (.aload_n 3, 1) := by decide +kernel
theorem dL_corrected_13 : decode cL_corrected 13 = .ok (.bipush 8, 2) := by decide +kernel
theorem dL_corrected_15 : decode cL_corrected 15 = .ok (.aload_n 2, 1) := by decide +kernel
theorem dL_corrected_16 : decode cL_corrected 16 = .ok (.iload_n 0, 1) := by decide +kernel
theorem dL_corrected_17 : decode cL_corrected 17 = .ok (.iaload, 1) := by decide +kernel
theorem dL_corrected_18 : decode cL_corrected 18 = .ok (.bipush 16, 2) := by decide +kernel
theorem dL_corrected_20 : decode cL_corrected 20 = .ok (.irem, 1) := by decide +kernel
theorem dL_corrected_21 : decode cL_corrected 21 = .ok (.iconst 1, 1) := by decide +kernel
theorem dL_corrected_22 : decode cL_corrected 22 = .ok (.isub, 1) := by decide +kernel
theorem dL_corrected_23 : decode cL_corrected 23 = .ok (.imul, 1) := by decide +kernel
theorem dL_corrected_24 : decode cL_corrected 24 = .ok (.iconst 5, 1) := by decide +kernel
theorem dL_corrected_25 : decode cL_corrected 25 = .ok (.iadd, 1) := by decide +kernel
theorem dL_corrected_26 : decode cL_corrected 26 = .ok (.iaload, 1) := by decide +kernel
theorem dL_corrected_27 : decode cL_corrected 27 = .ok (.goto 4, 3) := by decide +kernel
theorem dL_corrected_30 : decode cL_corrected 30 = .ok (.iconst 0, 1) := by decide +kernel
theorem dL_corrected_31 : decode cL_corrected 31 = .ok (.isub, 1) := by decide +kernel
theorem dL_corrected_32 : decode cL_corrected 32 = .ok (.ireturn, 1) := by decide +kernel
theorem dL_flag_0 : decode cL_flag 0 = .ok (.aload_n 2, 1) := by decide +kernel
theorem dL_flag_1 : decode cL_flag 1 = .ok (.iload_n 0, 1) := by decide +kernel
theorem dL_flag_2 : decode cL_flag 2 = .ok (.iaload, 1) := by decide +kernel
theorem dL_flag_3 : decode cL_flag 3 = .ok (.bipush 16, 2) := by decide +kernel
theorem dL_flag_5 : decode cL_flag 5 = .ok (.idiv, 1) := by decide +kernel
theorem dL_flag_6 : decode cL_flag 6 = .ok (.ifCond .gt 12, 3) := by decide +kernel
theorem dL_flag_9 : decode cL_flag 9 = .ok (.aload_n 2, 1) := by decide +kernel
theorem dL_flag_10 : decode cL_flag 10 = .ok (.iload_n 0, 1) := by decide +kernel
theorem dL_flag_11 : decode cL_flag 11 = .ok (.iaload, 1) := by decide +kernel
theorem dL_flag_12 : decode cL_flag 12 = .ok (.bipush 16, 2) := by decide +kernel
theorem dL_flag_14 : decode cL_flag 14 = .ok (.irem, 1) := by decide +kernel
theorem dL_flag_15 : decode cL_flag 15 = .ok (.ifCond .ne 25, 3) := by decide +kernel
theorem dL_flag_18 : decode cL_flag 18 = .ok (.aload_n 2, 1) := by decide +kernel
theorem dL_flag_19 : decode cL_flag 19 = .ok (.iload_n 0, 1) := by decide +kernel
theorem dL_flag_20 : decode cL_flag 20 = .ok (.iaload, 1) := by decide +kernel
theorem dL_flag_21 : decode cL_flag 21 = .ok (.bipush 16, 2) := by decide +kernel
theorem dL_flag_23 : decode cL_flag 23 = .ok (.idiv, 1) := by decide +kernel
theorem dL_flag_24 : decode cL_flag 24 = .ok (.ifCond .le 14, 3) := by decide +kernel
theorem dL_flag_27 : decode cL_flag 27 = .ok (.aload_n 2, 1) := by decide +kernel
theorem dL_flag_28 : decode cL_flag 28 = .ok (.iload_n 0, 1) := by decide +kernel
theorem dL_flag_29 : decode cL_flag 29 = .ok (.iaload, 1) := by decide +kernel
theorem dL_flag_30 : decode cL_flag 30 = .ok (.bipush 16, 2) := by decide +kernel
theorem dL_flag_32 : decode cL_flag 32 = .ok (.idiv, 1) := by decide +kernel
theorem dL_flag_33 : decode cL_flag 33 = .ok (.iconst 1, 1) := by decide +kernel
theorem dL_flag_34 : decode cL_flag 34 = .ok (.isub, 1) := by decide +kernel
theorem dL_flag_35 : decode cL_flag 35 = .ok (.goto 4, 3) := by decide +kernel
theorem dL_flag_38 : decode cL_flag 38 = .ok (.iconst 0, 1) := by decide +kernel
theorem dL_flag_39 : decode cL_flag 39 = .ok (.ireturn, 1) := by decide +kernel
theorem dL_flag_40 : decode cL_flag 40 = .ok (.iload_n 0, 1) := by decide +kernel
theorem dL_flag_41 : decode cL_flag 41 = .ok (.iconst 1, 1) := by decide +kernel
theorem dL_flag_42 : decode cL_flag 42 = .ok (.isub, 1) := by decide +kernel
theorem dL_flag_43 : decode cL_flag 43 = .ok (.istore 4, 2) := by decide +kernel
theorem dL_flag_45 : decode cL_flag 45 = .ok (.iload_n 0, 1) := by decide +kernel
theorem dL_flag_46 : decode cL_flag 46 = .ok (.iconst 1, 1) := by decide +kernel
theorem dL_flag_47 : decode cL_flag 47 = .ok (.iadd, 1) := by decide +kernel
theorem dL_flag_48 : decode cL_flag 48 = .ok (.istore 5, 2) := by decide +kernel
theorem dL_flag_50 : decode cL_flag 50 = .ok (.iload 4, 2) := by decide +kernel
theorem dL_flag_52 : decode cL_flag 52 = .ok (.ifCond .lt 25, 3) := by decide +kernel
theorem dL_flag_55 : decode cL_flag 55 = .ok (.aload_n 2, 1) := by decide +kernel
theorem dL_flag_56 : decode cL_flag 56 = .ok (.iload 4, 2) := by decide +kernel
theorem dL_flag_58 : decode cL_flag 58 = .ok (.iaload, 1) := by decide +kernel
theorem dL_flag_59 : decode cL_flag 59 = .ok (.bipush 16, 2) := by decide +kernel
theorem dL_flag_61 : decode cL_flag 61 = .ok (.irem, 1) := by decide +kernel
theorem dL_flag_62 : decode cL_flag 62 = .ok (.aload_n 2, 1) := by decide +kernel
theorem dL_flag_63 : decode cL_flag 63 = .ok (.iload_n 0, 1) := by decide +kernel
theorem dL_flag_64 : decode cL_flag 64 = .ok (.iaload, 1) := by decide +kernel
theorem dL_flag_65 : decode cL_flag 65 = .ok (.bipush 16, 2) := by decide +kernel
theorem dL_flag_67 : decode cL_flag 67 = .ok (.irem, 1) := by decide +kernel
theorem dL_flag_68 : decode cL_flag 68 = .ok (.if_icmp .eq 9, 3) := by decide +kernel
theorem dL_flag_71 : decode cL_flag 71 = .ok (.iinc 4 (-1), 3) := by decide +kernel
theorem dL_flag_74 : decode cL_flag 74 = .ok (.goto (-24), 3) := by decide +kernel
theorem dL_flag_77 : decode cL_flag 77 = .ok (.iload 5, 2) := by decide +kernel
theorem dL_flag_79 : decode cL_flag 79 = .ok (.aload_n 3, 1) := by decide +kernel
theorem dL_flag_80 : decode cL_flag 80 = .ok (.iconst 5, 1) := by decide +kernel
theorem dL_flag_81 : decode cL_flag 81 = .ok (.iaload, 1) := by decide +kernel
theorem dL_flag_82 : decode cL_flag 82 = .ok (.if_icmp .ge 25, 3) := by decide +kernel
theorem dL_flag_85 : decode cL_flag 85 = .ok (.aload_n 2, 1) := by decide +kernel
theorem dL_flag_86 : decode cL_flag 86 = .ok (.iload 5, 2) := by decide +kernel
theorem dL_flag_88 : decode cL_flag 88 = .ok (.iaload, 1) := by decide +kernel
theorem dL_flag_89 : decode cL_flag 89 = .ok (.bipush 16, 2) := by decide +kernel
theorem dL_flag_91 : decode cL_flag 91 = .ok (.irem, 1) := by decide +kernel
theorem dL_flag_92 : decode cL_flag 92 = .ok (.aload_n 2, 1) := by decide +kernel
theorem dL_flag_93 : decode cL_flag 93 = .ok (.iload_n 0, 1) := by decide +kernel
theorem dL_flag_94 : decode cL_flag 94 = .ok (.iaload, 1) := by decide +kernel
theorem dL_flag_95 : decode cL_flag 95 = .ok (.bipush 16, 2) := by decide +kernel
theorem dL_flag_97 : decode cL_flag 97 = .ok (.irem, 1) := by decide +kernel
theorem dL_flag_98 : decode cL_flag 98 = .ok (.if_icmp .eq 9, 3) := by decide +kernel
theorem dL_flag_101 : decode cL_flag 101 = .ok (.iinc 5 1, 3) := by decide +kernel
theorem dL_flag_104 : decode cL_flag 104 = .ok (.goto (-27), 3) := by decide +kernel
theorem dL_flag_107 : decode cL_flag 107 = .ok (.iload 4, 2) := by decide +kernel
theorem dL_flag_109 : decode cL_flag 109 = .ok (.ifCond .lt 11, 3) := by decide +kernel
theorem dL_flag_112 : decode cL_flag 112 = .ok (.iload 5, 2) := by decide +kernel
theorem dL_flag_114 : decode cL_flag 114 = .ok (.aload_n 3, 1) := by decide +kernel
theorem dL_flag_115 : decode cL_flag 115 = .ok (.iconst 5, 1) := by decide +kernel
theorem dL_flag_116 : decode cL_flag 116 = .ok (.iaload, 1) := by decide +kernel
theorem dL_flag_117 : decode cL_flag 117 = .ok (.if_icmp .ne 5, 3) := by decide +kernel
theorem dL_flag_120 : decode cL_flag 120 = .ok (.iconst 0, 1) := by decide +kernel
theorem dL_flag_121 : decode cL_flag 121 = .ok (.ireturn, 1) := by decide +kernel
theorem dL_flag_122 : decode cL_flag 122 = .ok (.aload_n 1, 1) := by decide +kernel
theorem dL_flag_123 : decode cL_flag 123 = .ok (.iload 4, 2) := by decide +kernel
theorem dL_flag_125 : decode cL_flag 125 = .ok (.iaload, 1) := by decide +kernel
theorem dL_flag_126 : decode cL_flag 126 = .ok (.aload_n 1, 1) := by decide +kernel
theorem dL_flag_127 : decode cL_flag 127 = .ok (.iload 5, 2) := by decide +kernel
theorem dL_flag_129 : decode cL_flag 129 = .ok (.iaload, 1) := by decide +kernel
theorem dL_flag_130 : decode cL_flag 130 = .ok (.if_icmp .le 10, 3) := by decide +kernel
theorem dL_flag_133 : decode cL_flag 133 = .ok (.aload_n 1, 1) := by decide +kernel
theorem dL_flag_134 : decode cL_flag 134 = .ok (.iload 4, 2) := by decide +kernel
theorem dL_flag_136 : decode cL_flag 136 = .ok (.iaload, 1) := by decide +kernel
theorem dL_flag_137 : decode cL_flag 137 = .ok (.goto 7, 3) := by decide +kernel
theorem dL_flag_140 : decode cL_flag 140 = .ok (.aload_n 1, 1) := by decide +kernel
theorem dL_flag_141 : decode cL_flag 141 = .ok (.iload 5, 2) := by decide +kernel
theorem dL_flag_143 : decode cL_flag 143 = .ok (.iaload, 1) := by decide +kernel
theorem dL_flag_144 : decode cL_flag 144 = .ok (.istore 6, 2) := by decide +kernel
theorem dL_flag_146 : decode cL_flag 146 = .ok (.aload_n 1, 1) := by decide +kernel
theorem dL_flag_147 : decode cL_flag 147 = .ok (.iload 4, 2) := by decide +kernel
theorem dL_flag_149 : decode cL_flag 149 = .ok (.iaload, 1) := by decide +kernel
theorem dL_flag_150 : decode cL_flag 150 = .ok (.aload_n 1, 1) := by decide +kernel
theorem dL_flag_151 : decode cL_flag 151 = .ok (.iload 5, 2) := by decide +kernel
theorem dL_flag_153 : decode cL_flag 153 = .ok (.iaload, 1) := by decide +kernel
theorem dL_flag_154 : decode cL_flag 154 = .ok (.if_icmp .ge 10, 3) := by decide +kernel
theorem dL_flag_157 : decode cL_flag 157 = .ok (.aload_n 1, 1) := by decide +kernel
theorem dL_flag_158 : decode cL_flag 158 = .ok (.iload 4, 2) := by decide +kernel
theorem dL_flag_160 : decode cL_flag 160 = .ok (.iaload, 1) := by decide +kernel
theorem dL_flag_161 : decode cL_flag 161 = .ok (.goto 7, 3) := by decide +kernel
theorem dL_flag_164 : decode cL_flag 164 = .ok (.aload_n 1, 1) := by decide +kernel
theorem dL_flag_165 : decode cL_flag 165 = .ok (.iload 5, 2) := by decide +kernel
theorem dL_flag_167 : decode cL_flag 167 = .ok (.iaload, 1) := by decide +kernel
theorem dL_flag_168 : decode cL_flag 168 = .ok (.istore 7, 2) := by decide +kernel
theorem dL_flag_170 : decode cL_flag 170 = .ok (.aload_n 1, 1) := by decide +kernel
theorem dL_flag_171 : decode cL_flag 171 = .ok (.iload_n 0, 1) := by decide +kernel
theorem dL_flag_172 : decode cL_flag 172 = .ok (.iaload, 1) := by decide +kernel
theorem dL_flag_173 : decode cL_flag 173 = .ok (.iload 6, 2) := by decide +kernel
theorem dL_flag_175 : decode cL_flag 175 = .ok (.isub, 1) := by decide +kernel
theorem dL_flag_176 : decode cL_flag 176 = .ok (.aload_n 3, 1) := by decide +kernel
theorem dL_flag_177 : decode cL_flag 177 = .ok (.bipush 7, 2) := by decide +kernel
theorem dL_flag_179 : decode cL_flag 179 = .ok (.iaload, 1) := by decide +kernel
theorem dL_flag_180 : decode cL_flag 180 = .ok (.if_icmp .gt 16, 3) := by decide +kernel
theorem dL_flag_183 : decode cL_flag 183 = .ok (.iload 7, 2) := by decide +kernel
theorem dL_flag_185 : decode cL_flag 185 = .ok (.aload_n 1, 1) := by decide +kernel
theorem dL_flag_186 : decode cL_flag 186 = .ok (.iload_n 0, 1) := by decide +kernel
theorem dL_flag_187 : decode cL_flag 187 = .ok (.iaload, 1) := by decide +kernel
theorem dL_flag_188 : decode cL_flag 188 = .ok (.isub, 1) := by decide +kernel
theorem dL_flag_189 : decode cL_flag 189 = .ok (.aload_n 3, 1) := by decide +kernel
theorem dL_flag_190 : decode cL_flag 190 = .ok (.bipush 7, 2) := by decide +kernel
theorem dL_flag_192 : decode cL_flag 192 = .ok (.iaload, 1) := by decide +kernel
theorem dL_flag_193 : decode cL_flag 193 = .ok (.if_icmp .le 7, 3) := by decide +kernel
theorem dL_flag_196 : decode cL_flag 196 = .ok (.iconst 1, 1) := by decide +kernel
theorem dL_flag_197 : decode cL_flag 197 = .ok (.goto 4, 3) := by decide +kernel
theorem dL_flag_200 : decode cL_flag 200 = .ok (.iconst 0, 1) := by decide +kernel
theorem dL_flag_201 : decode cL_flag 201 = .ok (.ireturn, 1) := by decide +kernel
theorem dL_map_0 : decode cL_map 0 = .ok (.aload 8, 2) := by decide +kernel
theorem dL_map_2 : decode cL_map 2 = .ok (.iconst 0, 1) := by decide +kernel
theorem dL_map_3 : decode cL_map 3 = .ok (.iconst 0, 1) := by decide +kernel
theorem dL_map_4 : decode cL_map 4 = .ok (.iastore, 1) := by decide +kernel
theorem dL_map_5 : decode cL_map 5 = .ok (.aload 8, 2) := by decide +kernel
theorem dL_map_7 : decode cL_map 7 = .ok (.iconst 1, 1) := by decide +kernel
theorem dL_map_8 : decode cL_map 8 = .ok (.iconst 0, 1) := by decide +kernel
theorem dL_map_9 : decode cL_map 9 = .ok (.iastore, 1) := by decide +kernel
theorem dL_map_10 : decode cL_map 10 = .ok (.iconst 0, 1) := by decide +kernel
theorem dL_map_11 : decode cL_map 11 = .ok (.istore 10, 2) := by decide +kernel
theorem dL_map_13 : decode cL_map 13 = .ok (.iload 10, 2) := by decide +kernel
theorem dL_map_15 : decode cL_map 15 = .ok (.aload 9, 2) := by decide +kernel
theorem dL_map_17 : decode cL_map 17 = .ok (.iconst 5, 1) := by decide +kernel
theorem dL_map_18 : decode cL_map 18 = .ok (.iaload, 1) := by decide +kernel
theorem dL_map_19 : decode cL_map 19 = .ok (.if_icmp .ge 122, 3) := by decide +kernel
theorem dL_map_22 : decode cL_map 22 = .ok (.bipush 8, 2) := by decide +kernel
theorem dL_map_24 : decode cL_map 24 = .ok (.aload 4, 2) := by decide +kernel
theorem dL_map_26 : decode cL_map 26 = .ok (.iload 10, 2) := by decide +kernel
theorem dL_map_28 : decode cL_map 28 = .ok (.iaload, 1) := by decide +kernel
theorem dL_map_29 : decode cL_map 29 = .ok (.bipush 64, 2) := by decide +kernel
theorem dL_map_31 : decode cL_map 31 = .ok (.irem, 1) := by decide +kernel
theorem dL_map_32 : decode cL_map 32 = .ok (.bipush 10, 2) := by decide +kernel
theorem dL_map_34 : decode cL_map 34 = .ok (.irem, 1) := by decide +kernel
theorem dL_map_35 : decode cL_map 35 = .ok (.iload_n 0, 1) := by decide +kernel
theorem dL_map_36 : decode cL_map 36 = .ok (.bipush 10, 2) := by decide +kernel
theorem dL_map_38 : decode cL_map 38 = .ok (.irem, 1) := by decide +kernel
theorem dL_map_39 : decode cL_map 39 = .ok (.invokestatic 78, 3) := by decide +kernel
theorem dL_map_42 : decode cL_map 42 = .ok (.isub, 1) := by decide +kernel
theorem dL_map_43 : decode cL_map 43 = .ok (.aload 4, 2) := by decide +kernel
theorem dL_map_45 : decode cL_map 45 = .ok (.iload 10, 2) := by decide +kernel
theorem dL_map_47 : decode cL_map 47 = .ok (.iaload, 1) := by decide +kernel
theorem dL_map_48 : decode cL_map 48 = .ok (.bipush 64, 2) := by decide +kernel
theorem dL_map_50 : decode cL_map 50 = .ok (.irem, 1) := by decide +kernel
theorem dL_map_51 : decode cL_map 51 = .ok (.bipush 10, 2) := by decide +kernel
theorem dL_map_53 : decode cL_map 53 = .ok (.idiv, 1) := by decide +kernel
theorem dL_map_54 : decode cL_map 54 = .ok (.iload_n 0, 1) := by decide +kernel
theorem dL_map_55 : decode cL_map 55 = .ok (.bipush 10, 2) := by decide +kernel
theorem dL_map_57 : decode cL_map 57 = .ok (.idiv, 1) := by decide +kernel
theorem dL_map_58 : decode cL_map 58 = .ok (.invokestatic 78, 3) := by decide +kernel
theorem dL_map_61 : decode cL_map 61 = .ok (.isub, 1) := by decide +kernel
theorem dL_map_62 : decode cL_map 62 = .ok (.istore 11, 2) := by decide +kernel
theorem dL_map_64 : decode cL_map 64 = .ok (.iload 10, 2) := by decide +kernel
theorem dL_map_66 : decode cL_map 66 = .ok (.iload_n 3, 1) := by decide +kernel
theorem dL_map_67 : decode cL_map 67 = .ok (.if_icmp .eq 68, 3) := by decide +kernel
theorem dL_map_70 : decode cL_map 70 = .ok (.iload 11, 2) := by decide +kernel
theorem dL_map_72 : decode cL_map 72 = .ok (.ifCond .le 63, 3) := by decide +kernel
theorem dL_map_75 : decode cL_map 75 = .ok (.aload 4, 2) := by decide +kernel
theorem dL_map_77 : decode cL_map 77 = .ok (.iload 10, 2) := by decide +kernel
theorem dL_map_79 : decode cL_map 79 = .ok (.iaload, 1) := by decide +kernel
theorem dL_map_80 : decode cL_map 80 = .ok (.bipush 64, 2) := by decide +kernel
theorem dL_map_82 : decode cL_map 82 = .ok (.idiv, 1) := by decide +kernel
theorem dL_map_83 : decode cL_map 83 = .ok (.iload_n 1, 1) := by decide +kernel
theorem dL_map_84 : decode cL_map 84 = .ok (.invokestatic 78, 3) := by decide +kernel
theorem dL_map_87 : decode cL_map 87 = .ok (.iload_n 2, 1) := by decide +kernel
theorem dL_map_88 : decode cL_map 88 = .ok (.if_icmp .gt 47, 3) := by decide +kernel
theorem dL_map_91 : decode cL_map 91 = .ok (.iload 10, 2) := by decide +kernel
theorem dL_map_93 : decode cL_map 93 = .ok (.aload 5, 2) := by decide +kernel
theorem dL_map_95 : decode cL_map 95 = .ok (.aload 6, 2) := by decide +kernel
theorem dL_map_97 : decode cL_map 97 = .ok (.aload 9, 2) := by decide +kernel
theorem dL_map_99 : decode cL_map 99 = .ok (.invokestatic 81, 3) := by decide +kernel
theorem dL_map_102 : decode cL_map 102 = .ok (.ifCond .ne 33, 3) := by decide +kernel
theorem dL_map_105 : decode cL_map 105 = .ok (.aload 8, 2) := by decide +kernel
theorem dL_map_107 : decode cL_map 107 = .ok (.iconst 0, 1) := by decide +kernel
theorem dL_map_108 : decode cL_map 108 = .ok (.dup2, 1) := by decide +kernel
theorem dL_map_109 : decode cL_map 109 = .ok (.iaload, 1) := by decide +kernel
theorem dL_map_110 : decode cL_map 110 = .ok (.iload 11, 2) := by decide +kernel
theorem dL_map_112 : decode cL_map 112 = .ok (.iload 10, 2) := by decide +kernel
theorem dL_map_114 : decode cL_map 114 = .ok (.aload 5, 2) := by decide +kernel
theorem dL_map_116 : decode cL_map 116 = .ok (.aload 6, 2) := by decide +kernel
theorem dL_map_118 : decode cL_map 118 = .ok (.aload 7, 2) := by decide +kernel
theorem dL_map_120 : decode cL_map 120 = .ok (.invokestatic 85, 3) := by decide +kernel
theorem dL_map_123 : decode cL_map 123 = .ok (.imul, 1) := by decide +kernel
theorem dL_map_124 : decode cL_map 124 = .ok (.iadd, 1) := by decide +kernel
theorem dL_map_125 : decode cL_map 125 = .ok (.iastore, 1) := by decide +kernel
theorem dL_map_126 : decode cL_map 126 = .ok (.aload 8, 2) := by decide +kernel
theorem dL_map_128 : decode cL_map 128 = .ok (.iconst 1, 1) := by decide +kernel
theorem dL_map_129 : decode cL_map 129 = .ok (.dup2, 1) := by decide +kernel
theorem dL_map_130 : decode cL_map 130 = .ok (.iaload, 1) := by decide +kernel
theorem dL_map_131 : decode cL_map 131 = .ok (.iload 11, 2) := by decide +kernel
theorem dL_map_133 : decode cL_map 133 = .ok (.iadd, 1) := by decide +kernel
theorem dL_map_134 : decode cL_map 134 = .ok (.iastore, 1) := by decide +kernel
theorem dL_map_135 : decode cL_map 135 = .ok (.iinc 10 1, 3) := by decide +kernel
theorem dL_map_138 : decode cL_map 138 = .ok (.goto (-125), 3) := by decide +kernel
theorem dL_map_141 : decode cL_map 141 = .ok (.return_, 1) := by decide +kernel
theorem dL_calibrated_0 : decode cL_calibrated 0 = .ok (.aload 4, 2) := by decide +kernel
theorem dL_calibrated_2 : decode cL_calibrated 2 = .ok (.iconst 5, 1) := by decide +kernel
theorem dL_calibrated_3 : decode cL_calibrated 3 = .ok (.iaload, 1) := by decide +kernel
theorem dL_calibrated_4 : decode cL_calibrated 4 = .ok (.iconst 1, 1) := by decide +kernel
theorem dL_calibrated_5 : decode cL_calibrated 5 = .ok (.isub, 1) := by decide +kernel
theorem dL_calibrated_6 : decode cL_calibrated 6 = .ok (.istore 5, 2) := by decide +kernel
theorem dL_calibrated_8 : decode cL_calibrated 8 = .ok (.iload 5, 2) := by decide +kernel
theorem dL_calibrated_10 : decode cL_calibrated 10 = .ok (.ifCond .lt 114, 3) := by decide +kernel
theorem dL_calibrated_13 : decode cL_calibrated 13 = .ok (.iconst 0, 1) := by decide +kernel
theorem dL_calibrated_14 : decode cL_calibrated 14 = .ok (.istore 6, 2) := by decide +kernel
theorem dL_calibrated_16 : decode cL_calibrated 16 = .ok (.iload 6, 2) := by decide +kernel
theorem dL_calibrated_18 : decode cL_calibrated 18 = .ok (.iconst 3, 1) := by decide +kernel
theorem dL_calibrated_19 : decode cL_calibrated 19 = .ok (.if_icmp .ge 99, 3) := by decide +kernel
theorem dL_calibrated_22 : decode cL_calibrated 22 = .ok (.aload_n 3, 1) := by decide +kernel
theorem dL_calibrated_23 : decode cL_calibrated 23 = .ok (.iload 5, 2) := by decide +kernel
theorem dL_calibrated_25 : decode cL_calibrated 25 = .ok (.iaload, 1) := by decide +kernel
theorem dL_calibrated_26 : decode cL_calibrated 26 = .ok (.bipush 16, 2) := by decide +kernel
theorem dL_calibrated_28 : decode cL_calibrated 28 = .ok (.irem, 1) := by decide +kernel
theorem dL_calibrated_29 : decode cL_calibrated 29 = .ok (.iload_n 0, 1) := by decide +kernel
theorem dL_calibrated_30 : decode cL_calibrated 30 = .ok (.iconst 1, 1) := by decide +kernel
theorem dL_calibrated_31 : decode cL_calibrated 31 = .ok (.iadd, 1) := by decide +kernel
theorem dL_calibrated_32 : decode cL_calibrated 32 = .ok (.if_icmp .ne 86, 3) := by decide +kernel
theorem dL_calibrated_35 : decode cL_calibrated 35 = .ok (.iconst 0, 1) := by decide +kernel
theorem dL_calibrated_36 : decode cL_calibrated 36 = .ok (.istore 7, 2) := by decide +kernel
theorem dL_calibrated_38 : decode cL_calibrated 38 = .ok (.iload 7, 2) := by decide +kernel
theorem dL_calibrated_40 : decode cL_calibrated 40 = .ok (.aload 4, 2) := by decide +kernel
theorem dL_calibrated_42 : decode cL_calibrated 42 = .ok (.iconst 5, 1) := by decide +kernel
theorem dL_calibrated_43 : decode cL_calibrated 43 = .ok (.iaload, 1) := by decide +kernel
theorem dL_calibrated_44 : decode cL_calibrated 44 = .ok (.if_icmp .ge 68, 3) := by decide +kernel
theorem dL_calibrated_47 : decode cL_calibrated 47 = .ok (.aload_n 3, 1) := by decide +kernel
theorem dL_calibrated_48 : decode cL_calibrated 48 = .ok (.iload 7, 2) := by decide +kernel
theorem dL_calibrated_50 : decode cL_calibrated 50 = .ok (.iaload, 1) := by decide +kernel
theorem dL_calibrated_51 : decode cL_calibrated 51 = .ok (.bipush 16, 2) := by decide +kernel
theorem dL_calibrated_53 : decode cL_calibrated 53 = .ok (.irem, 1) := by decide +kernel
theorem dL_calibrated_54 : decode cL_calibrated 54 = .ok (.ifCond .ne 52, 3) := by decide +kernel
theorem dL_calibrated_57 : decode cL_calibrated 57 = .ok (.aload_n 1, 1) := by decide +kernel
theorem dL_calibrated_58 : decode cL_calibrated 58 = .ok (.iload 7, 2) := by decide +kernel
theorem dL_calibrated_60 : decode cL_calibrated 60 = .ok (.iaload, 1) := by decide +kernel
theorem dL_calibrated_61 : decode cL_calibrated 61 = .ok (.bipush 64, 2) := by decide +kernel
theorem dL_calibrated_63 : decode cL_calibrated 63 = .ok (.irem, 1) := by decide +kernel
theorem dL_calibrated_64 : decode cL_calibrated 64 = .ok (.aload_n 1, 1) := by decide +kernel
theorem dL_calibrated_65 : decode cL_calibrated 65 = .ok (.iload 5, 2) := by decide +kernel
theorem dL_calibrated_67 : decode cL_calibrated 67 = .ok (.iaload, 1) := by decide +kernel
theorem dL_calibrated_68 : decode cL_calibrated 68 = .ok (.bipush 64, 2) := by decide +kernel
theorem dL_calibrated_70 : decode cL_calibrated 70 = .ok (.irem, 1) := by decide +kernel
theorem dL_calibrated_71 : decode cL_calibrated 71 = .ok (.if_icmp .ne 35, 3) := by decide +kernel
theorem dL_calibrated_74 : decode cL_calibrated 74 = .ok (.aload_n 1, 1) := by decide +kernel
theorem dL_calibrated_75 : decode cL_calibrated 75 = .ok (.iload 7, 2) := by decide +kernel
theorem dL_calibrated_77 : decode cL_calibrated 77 = .ok (.iaload, 1) := by decide +kernel
theorem dL_calibrated_78 : decode cL_calibrated 78 = .ok (.bipush 64, 2) := by decide +kernel
theorem dL_calibrated_80 : decode cL_calibrated 80 = .ok (.idiv, 1) := by decide +kernel
theorem dL_calibrated_81 : decode cL_calibrated 81 = .ok (.aload_n 1, 1) := by decide +kernel
theorem dL_calibrated_82 : decode cL_calibrated 82 = .ok (.iload 5, 2) := by decide +kernel
theorem dL_calibrated_84 : decode cL_calibrated 84 = .ok (.iaload, 1) := by decide +kernel
theorem dL_calibrated_85 : decode cL_calibrated 85 = .ok (.bipush 64, 2) := by decide +kernel
theorem dL_calibrated_87 : decode cL_calibrated 87 = .ok (.idiv, 1) := by decide +kernel
theorem dL_calibrated_88 : decode cL_calibrated 88 = .ok (.invokestatic 78, 3) := by decide +kernel
theorem dL_calibrated_91 : decode cL_calibrated 91 = .ok (.iload 6, 2) := by decide +kernel
theorem dL_calibrated_93 : decode cL_calibrated 93 = .ok (.if_icmp .ne 13, 3) := by decide +kernel
theorem dL_calibrated_96 : decode cL_calibrated 96 = .ok (.aload_n 2, 1) := by decide +kernel
theorem dL_calibrated_97 : decode cL_calibrated 97 = .ok (.iload 5, 2) := by decide +kernel
theorem dL_calibrated_99 : decode cL_calibrated 99 = .ok (.iaload, 1) := by decide +kernel
theorem dL_calibrated_100 : decode cL_calibrated 100 = .ok (.aload_n 2, 1) := by decide +kernel
theorem dL_calibrated_101 : decode cL_calibrated 101 = .ok (.iload 7, 2) := by decide +kernel
theorem dL_calibrated_103 : decode cL_calibrated 103 = .ok (.iaload, 1) := by decide +kernel
theorem dL_calibrated_104 : decode cL_calibrated 104 = .ok (.isub, 1) := by decide +kernel
theorem dL_calibrated_105 : decode cL_calibrated 105 = .ok (.ireturn, 1) := by decide +kernel
theorem dL_calibrated_106 : decode cL_calibrated 106 = .ok (.iinc 7 1, 3) := by decide +kernel
theorem dL_calibrated_109 : decode cL_calibrated 109 = .ok (.goto (-71), 3) := by decide +kernel
theorem dL_calibrated_112 : decode cL_calibrated 112 = .ok (.iinc 6 1, 3) := by decide +kernel
theorem dL_calibrated_115 : decode cL_calibrated 115 = .ok (.goto (-99), 3) := by decide +kernel
theorem dL_calibrated_118 : decode cL_calibrated 118 = .ok (.iinc 5 (-1), 3) := by decide +kernel
theorem dL_calibrated_121 : decode cL_calibrated 121 = .ok (.goto (-113), 3) := by decide +kernel
theorem dL_calibrated_124 : decode cL_calibrated 124 = .ok (.ldc 50, 2) := by decide +kernel
theorem dL_calibrated_126 : decode cL_calibrated 126 = .ok (.ireturn, 1) := by decide +kernel
theorem dL_best_0 : decode cL_best 0 = .ok (.iconst 0, 1) := by decide +kernel
theorem dL_best_1 : decode cL_best 1 = .ok (.istore_n 1, 1) := by decide +kernel
theorem dL_best_2 : decode cL_best 2 = .ok (.iconst 0, 1) := by decide +kernel
theorem dL_best_3 : decode cL_best 3 = .ok (.istore_n 2, 1) := by decide +kernel
theorem dL_best_4 : decode cL_best 4 = .ok (.iload_n 2, 1) := by decide +kernel
theorem dL_best_5 : decode cL_best 5 = .ok (.bipush 60, 2) := by decide +kernel
theorem dL_best_7 : decode cL_best 7 = .ok (.if_icmp .ge 24, 3) := by decide +kernel
theorem dL_best_10 : decode cL_best 10 = .ok (.aload_n 0, 1) := by decide +kernel
theorem dL_best_11 : decode cL_best 11 = .ok (.iload_n 2, 1) := by decide +kernel
theorem dL_best_12 : decode cL_best 12 = .ok (.iaload, 1) := by decide +kernel
theorem dL_best_13 : decode cL_best 13 = .ok (.iload_n 1, 1) := by decide +kernel
theorem dL_best_14 : decode cL_best 14 = .ok (.if_icmp .le 9, 3) := by decide +kernel
theorem dL_best_17 : decode cL_best 17 = .ok (.aload_n 0, 1) := by decide +kernel
theorem dL_best_18 : decode cL_best 18 = .ok (.iload_n 2, 1) := by decide +kernel
theorem dL_best_19 : decode cL_best 19 = .ok (.iaload, 1) := by decide +kernel
theorem dL_best_20 : decode cL_best 20 = .ok (.goto 4, 3) := by decide +kernel
theorem dL_best_23 : decode cL_best 23 = .ok (.iload_n 1, 1) := by decide +kernel
theorem dL_best_24 : decode cL_best 24 = .ok (.istore_n 1, 1) := by decide +kernel
theorem dL_best_25 : decode cL_best 25 = .ok (.iinc 2 1, 3) := by decide +kernel
theorem dL_best_28 : decode cL_best 28 = .ok (.goto (-24), 3) := by decide +kernel
theorem dL_best_31 : decode cL_best 31 = .ok (.iconst 0, 1) := by decide +kernel
theorem dL_best_32 : decode cL_best 32 = .ok (.istore_n 2, 1) := by decide +kernel
theorem dL_best_33 : decode cL_best 33 = .ok (.aload_n 0, 1) := by decide +kernel
theorem dL_best_34 : decode cL_best 34 = .ok (.iload_n 2, 1) := by decide +kernel
theorem dL_best_35 : decode cL_best 35 = .ok (.iaload, 1) := by decide +kernel
theorem dL_best_36 : decode cL_best 36 = .ok (.iload_n 1, 1) := by decide +kernel
theorem dL_best_37 : decode cL_best 37 = .ok (.if_icmp .ge 9, 3) := by decide +kernel
theorem dL_best_40 : decode cL_best 40 = .ok (.iinc 2 1, 3) := by decide +kernel
theorem dL_best_43 : decode cL_best 43 = .ok (.goto (-10), 3) := by decide +kernel
theorem dL_best_46 : decode cL_best 46 = .ok (.iload_n 2, 1) := by decide +kernel
theorem dL_best_47 : decode cL_best 47 = .ok (.ireturn, 1) := by decide +kernel
theorem dL_searches_0 : decode cL_searches 0 = .ok (.iconst 1, 1) := by decide +kernel
theorem dL_searches_1 : decode cL_searches 1 = .ok (.iload_n 2, 1) := by decide +kernel
theorem dL_searches_2 : decode cL_searches 2 = .ok (.bipush 20, 2) := by decide +kernel
theorem dL_searches_4 : decode cL_searches 4 = .ok (.invokestatic 29, 3) := by decide +kernel
theorem dL_searches_7 : decode cL_searches 7 = .ok (.iadd, 1) := by decide +kernel
theorem dL_searches_8 : decode cL_searches 8 = .ok (.istore 5, 2) := by decide +kernel
theorem dL_searches_10 : decode cL_searches 10 = .ok (.iconst 1, 1) := by decide +kernel
theorem dL_searches_11 : decode cL_searches 11 = .ok (.iload_n 2, 1) := by decide +kernel
theorem dL_searches_12 : decode cL_searches 12 = .ok (.iconst 4, 1) := by decide +kernel
theorem dL_searches_13 : decode cL_searches 13 = .ok (.ishr, 1) := by decide +kernel
theorem dL_searches_14 : decode cL_searches 14 = .ok (.bipush 100, 2) := by decide +kernel
theorem dL_searches_16 : decode cL_searches 16 = .ok (.invokestatic 29, 3) := by decide +kernel
theorem dL_searches_19 : decode cL_searches 19 = .ok (.iadd, 1) := by decide +kernel
theorem dL_searches_20 : decode cL_searches 20 = .ok (.istore 6, 2) := by decide +kernel
theorem dL_searches_22 : decode cL_searches 22 = .ok (.iconst 0, 1) := by decide +kernel
theorem dL_searches_23 : decode cL_searches 23 = .ok (.istore 7, 2) := by decide +kernel
theorem dL_searches_25 : decode cL_searches 25 = .ok (.aload_n 3, 1) := by decide +kernel
theorem dL_searches_26 : decode cL_searches 26 = .ok (.aload 4, 2) := by decide +kernel
theorem dL_searches_28 : decode cL_searches 28 = .ok (.invokestatic 63, 3) := by decide +kernel
theorem dL_searches_31 : decode cL_searches 31 = .ok (.iconst 0, 1) := by decide +kernel
theorem dL_searches_32 : decode cL_searches 32 = .ok (.istore 8, 2) := by decide +kernel
theorem dL_searches_34 : decode cL_searches 34 = .ok (.iload 8, 2) := by decide +kernel
theorem dL_searches_36 : decode cL_searches 36 = .ok (.iload 5, 2) := by decide +kernel
theorem dL_searches_38 : decode cL_searches 38 = .ok (.if_icmp .ge 46, 3) := by decide +kernel
theorem dL_searches_41 : decode cL_searches 41 = .ok (.aload 4, 2) := by decide +kernel
theorem dL_searches_43 : decode cL_searches 43 = .ok (.invokestatic 88, 3) := by decide +kernel
theorem dL_searches_46 : decode cL_searches 46 = .ok (.istore 9, 2) := by decide +kernel
end
section
theorem dL_searches_48 : decode cL_searches 48 = .ok (.aload 4, 2) := by decide +kernel
theorem dL_searches_50 : decode cL_searches 50 = .ok (.iload 9, 2) := by decide +kernel
theorem dL_searches_52 : decode cL_searches 52 = .ok (.iaload, 1) := by decide +kernel
theorem dL_searches_53 : decode cL_searches 53 = .ok (.iload 6, 2) := by decide +kernel
theorem dL_searches_55 : decode cL_searches 55 = .ok (.imul, 1) := by decide +kernel
theorem dL_searches_56 : decode cL_searches 56 = .ok (.bipush 100, 2) := by decide +kernel
theorem dL_searches_58 : decode cL_searches 58 = .ok (.idiv, 1) := by decide +kernel
theorem dL_searches_59 : decode cL_searches 59 = .ok (.istore 10, 2) := by decide +kernel
theorem dL_searches_61 : decode cL_searches 61 = .ok (.aload 4, 2) := by decide +kernel
theorem dL_searches_63 : decode cL_searches 63 = .ok (.iload 9, 2) := by decide +kernel
theorem dL_searches_65 : decode cL_searches 65 = .ok (.dup2, 1) := by decide +kernel
theorem dL_searches_66 : decode cL_searches 66 = .ok (.iaload, 1) := by decide +kernel
theorem dL_searches_67 : decode cL_searches 67 = .ok (.iload 10, 2) := by decide +kernel
theorem dL_searches_69 : decode cL_searches 69 = .ok (.isub, 1) := by decide +kernel
theorem dL_searches_70 : decode cL_searches 70 = .ok (.iastore, 1) := by decide +kernel
theorem dL_searches_71 : decode cL_searches 71 = .ok (.iload 7, 2) := by decide +kernel
theorem dL_searches_73 : decode cL_searches 73 = .ok (.iload 10, 2) := by decide +kernel
theorem dL_searches_75 : decode cL_searches 75 = .ok (.iadd, 1) := by decide +kernel
theorem dL_searches_76 : decode cL_searches 76 = .ok (.istore 7, 2) := by decide +kernel
theorem dL_searches_78 : decode cL_searches 78 = .ok (.iinc 8 1, 3) := by decide +kernel
theorem dL_searches_81 : decode cL_searches 81 = .ok (.goto (-47), 3) := by decide +kernel
theorem dL_searches_84 : decode cL_searches 84 = .ok (.aload_n 0, 1) := by decide +kernel
theorem dL_searches_85 : decode cL_searches 85 = .ok (.iload_n 1, 1) := by decide +kernel
theorem dL_searches_86 : decode cL_searches 86 = .ok (.invokevirtual 92, 3) := by decide +kernel
theorem dL_searches_89 : decode cL_searches 89 = .ok (.aload_n 3, 1) := by decide +kernel
theorem dL_searches_90 : decode cL_searches 90 = .ok (.invokestatic 88, 3) := by decide +kernel
theorem dL_searches_93 : decode cL_searches 93 = .ok (.if_icmp .ne 21, 3) := by decide +kernel
theorem dL_searches_96 : decode cL_searches 96 = .ok (.aload_n 0, 1) := by decide +kernel
theorem dL_searches_97 : decode cL_searches 97 = .ok (.iload_n 1, 1) := by decide +kernel
theorem dL_searches_98 : decode cL_searches 98 = .ok (.iload 5, 2) := by decide +kernel
theorem dL_searches_100 : decode cL_searches 100 = .ok (.iload 6, 2) := by decide +kernel
theorem dL_searches_102 : decode cL_searches 102 = .ok (.invokevirtual 94, 3) := by decide +kernel
theorem dL_searches_105 : decode cL_searches 105 = .ok (.iload 7, 2) := by decide +kernel
theorem dL_searches_107 : decode cL_searches 107 = .ok (.if_icmp .ne 7, 3) := by decide +kernel
theorem dL_searches_110 : decode cL_searches 110 = .ok (.iconst 1, 1) := by decide +kernel
theorem dL_searches_111 : decode cL_searches 111 = .ok (.goto 4, 3) := by decide +kernel
theorem dL_searches_114 : decode cL_searches 114 = .ok (.iconst 0, 1) := by decide +kernel
theorem dL_searches_115 : decode cL_searches 115 = .ok (.istore 8, 2) := by decide +kernel
theorem dL_searches_117 : decode cL_searches 117 = .ok (.iconst 0, 1) := by decide +kernel
theorem dL_searches_118 : decode cL_searches 118 = .ok (.istore 9, 2) := by decide +kernel
theorem dL_searches_120 : decode cL_searches 120 = .ok (.iload 9, 2) := by decide +kernel
theorem dL_searches_122 : decode cL_searches 122 = .ok (.bipush 12, 2) := by decide +kernel
theorem dL_searches_124 : decode cL_searches 124 = .ok (.if_icmp .ge 49, 3) := by decide +kernel
theorem dL_searches_127 : decode cL_searches 127 = .ok (.iload_n 2, 1) := by decide +kernel
theorem dL_searches_128 : decode cL_searches 128 = .ok (.bipush 7, 2) := by decide +kernel
theorem dL_searches_130 : decode cL_searches 130 = .ok (.iload 9, 2) := by decide +kernel
theorem dL_searches_132 : decode cL_searches 132 = .ok (.imul, 1) := by decide +kernel
theorem dL_searches_133 : decode cL_searches 133 = .ok (.iadd, 1) := by decide +kernel
theorem dL_searches_134 : decode cL_searches 134 = .ok (.bipush 60, 2) := by decide +kernel
theorem dL_searches_136 : decode cL_searches 136 = .ok (.invokestatic 29, 3) := by decide +kernel
theorem dL_searches_139 : decode cL_searches 139 = .ok (.istore 10, 2) := by decide +kernel
theorem dL_searches_141 : decode cL_searches 141 = .ok (.iload 8, 2) := by decide +kernel
theorem dL_searches_143 : decode cL_searches 143 = .ok (.ifCond .eq 21, 3) := by decide +kernel
theorem dL_searches_146 : decode cL_searches 146 = .ok (.aload_n 0, 1) := by decide +kernel
theorem dL_searches_147 : decode cL_searches 147 = .ok (.iload_n 1, 1) := by decide +kernel
theorem dL_searches_148 : decode cL_searches 148 = .ok (.iload 10, 2) := by decide +kernel
theorem dL_searches_150 : decode cL_searches 150 = .ok (.invokevirtual 97, 3) := by decide +kernel
theorem dL_searches_153 : decode cL_searches 153 = .ok (.aload_n 3, 1) := by decide +kernel
theorem dL_searches_154 : decode cL_searches 154 = .ok (.iload 10, 2) := by decide +kernel
theorem dL_searches_156 : decode cL_searches 156 = .ok (.iaload, 1) := by decide +kernel
theorem dL_searches_157 : decode cL_searches 157 = .ok (.if_icmp .ne 7, 3) := by decide +kernel
theorem dL_searches_160 : decode cL_searches 160 = .ok (.iconst 1, 1) := by decide +kernel
theorem dL_searches_161 : decode cL_searches 161 = .ok (.goto 4, 3) := by decide +kernel
theorem dL_searches_164 : decode cL_searches 164 = .ok (.iconst 0, 1) := by decide +kernel
theorem dL_searches_165 : decode cL_searches 165 = .ok (.istore 8, 2) := by decide +kernel
theorem dL_searches_167 : decode cL_searches 167 = .ok (.iinc 9 1, 3) := by decide +kernel
theorem dL_searches_170 : decode cL_searches 170 = .ok (.goto (-50), 3) := by decide +kernel
theorem dL_searches_173 : decode cL_searches 173 = .ok (.iload 8, 2) := by decide +kernel
theorem dL_searches_175 : decode cL_searches 175 = .ok (.ireturn, 1) := by decide +kernel
theorem dL_same_0 : decode cL_same 0 = .ok (.iconst 0, 1) := by decide +kernel
theorem dL_same_1 : decode cL_same 1 = .ok (.istore 16, 2) := by decide +kernel
theorem dL_same_3 : decode cL_same 3 = .ok (.iconst 0, 1) := by decide +kernel
theorem dL_same_4 : decode cL_same 4 = .ok (.istore 17, 2) := by decide +kernel
theorem dL_same_6 : decode cL_same 6 = .ok (.iconst 0, 1) := by decide +kernel
theorem dL_same_7 : decode cL_same 7 = .ok (.istore 18, 2) := by decide +kernel
theorem dL_same_9 : decode cL_same 9 = .ok (.iload 18, 2) := by decide +kernel
theorem dL_same_11 : decode cL_same 11 = .ok (.bipush 60, 2) := by decide +kernel
theorem dL_same_13 : decode cL_same 13 = .ok (.if_icmp .ge 40, 3) := by decide +kernel
theorem dL_same_16 : decode cL_same 16 = .ok (.iload 16, 2) := by decide +kernel
theorem dL_same_18 : decode cL_same 18 = .ok (.aload_n 3, 1) := by decide +kernel
theorem dL_same_19 : decode cL_same 19 = .ok (.iload 18, 2) := by decide +kernel
theorem dL_same_21 : decode cL_same 21 = .ok (.iaload, 1) := by decide +kernel
theorem dL_same_22 : decode cL_same 22 = .ok (.aload 4, 2) := by decide +kernel
theorem dL_same_24 : decode cL_same 24 = .ok (.iload 18, 2) := by decide +kernel
theorem dL_same_26 : decode cL_same 26 = .ok (.iaload, 1) := by decide +kernel
theorem dL_same_27 : decode cL_same 27 = .ok (.iadd, 1) := by decide +kernel
theorem dL_same_28 : decode cL_same 28 = .ok (.iadd, 1) := by decide +kernel
theorem dL_same_29 : decode cL_same 29 = .ok (.istore 16, 2) := by decide +kernel
theorem dL_same_31 : decode cL_same 31 = .ok (.iload 17, 2) := by decide +kernel
theorem dL_same_33 : decode cL_same 33 = .ok (.aload 5, 2) := by decide +kernel
theorem dL_same_35 : decode cL_same 35 = .ok (.iload 18, 2) := by decide +kernel
theorem dL_same_37 : decode cL_same 37 = .ok (.iaload, 1) := by decide +kernel
theorem dL_same_38 : decode cL_same 38 = .ok (.aload 6, 2) := by decide +kernel
theorem dL_same_40 : decode cL_same 40 = .ok (.iload 18, 2) := by decide +kernel
theorem dL_same_42 : decode cL_same 42 = .ok (.iaload, 1) := by decide +kernel
theorem dL_same_43 : decode cL_same 43 = .ok (.iadd, 1) := by decide +kernel
theorem dL_same_44 : decode cL_same 44 = .ok (.iadd, 1) := by decide +kernel
theorem dL_same_45 : decode cL_same 45 = .ok (.istore 17, 2) := by decide +kernel
theorem dL_same_47 : decode cL_same 47 = .ok (.iinc 18 1, 3) := by decide +kernel
theorem dL_same_50 : decode cL_same 50 = .ok (.goto (-41), 3) := by decide +kernel
theorem dL_same_53 : decode cL_same 53 = .ok (.aload_n 0, 1) := by decide +kernel
theorem dL_same_54 : decode cL_same 54 = .ok (.invokevirtual 100, 3) := by decide +kernel
theorem dL_same_57 : decode cL_same 57 = .ok (.aload 15, 2) := by decide +kernel
theorem dL_same_59 : decode cL_same 59 = .ok (.iconst 0, 1) := by decide +kernel
theorem dL_same_60 : decode cL_same 60 = .ok (.iaload, 1) := by decide +kernel
theorem dL_same_61 : decode cL_same 61 = .ok (.if_icmp .ne 61, 3) := by decide +kernel
theorem dL_same_64 : decode cL_same 64 = .ok (.aload_n 0, 1) := by decide +kernel
theorem dL_same_65 : decode cL_same 65 = .ok (.iconst 0, 1) := by decide +kernel
theorem dL_same_66 : decode cL_same 66 = .ok (.invokevirtual 104, 3) := by decide +kernel
theorem dL_same_69 : decode cL_same 69 = .ok (.iload 16, 2) := by decide +kernel
theorem dL_same_71 : decode cL_same 71 = .ok (.if_icmp .ne 51, 3) := by decide +kernel
theorem dL_same_74 : decode cL_same 74 = .ok (.aload_n 0, 1) := by decide +kernel
theorem dL_same_75 : decode cL_same 75 = .ok (.iconst 1, 1) := by decide +kernel
theorem dL_same_76 : decode cL_same 76 = .ok (.invokevirtual 104, 3) := by decide +kernel
theorem dL_same_79 : decode cL_same 79 = .ok (.iload 17, 2) := by decide +kernel
theorem dL_same_81 : decode cL_same 81 = .ok (.if_icmp .ne 41, 3) := by decide +kernel
theorem dL_same_84 : decode cL_same 84 = .ok (.aload_n 0, 1) := by decide +kernel
theorem dL_same_85 : decode cL_same 85 = .ok (.iconst 2, 1) := by decide +kernel
theorem dL_same_86 : decode cL_same 86 = .ok (.invokevirtual 104, 3) := by decide +kernel
theorem dL_same_89 : decode cL_same 89 = .ok (.aload 15, 2) := by decide +kernel
theorem dL_same_91 : decode cL_same 91 = .ok (.iconst 1, 1) := by decide +kernel
theorem dL_same_92 : decode cL_same 92 = .ok (.iaload, 1) := by decide +kernel
theorem dL_same_93 : decode cL_same 93 = .ok (.if_icmp .ne 29, 3) := by decide +kernel
theorem dL_same_96 : decode cL_same 96 = .ok (.aload_n 0, 1) := by decide +kernel
theorem dL_same_97 : decode cL_same 97 = .ok (.invokevirtual 107, 3) := by decide +kernel
theorem dL_same_100 : decode cL_same 100 = .ok (.aload 15, 2) := by decide +kernel
theorem dL_same_102 : decode cL_same 102 = .ok (.iconst 3, 1) := by decide +kernel
theorem dL_same_103 : decode cL_same 103 = .ok (.iaload, 1) := by decide +kernel
theorem dL_same_104 : decode cL_same 104 = .ok (.if_icmp .ne 18, 3) := by decide +kernel
theorem dL_same_107 : decode cL_same 107 = .ok (.aload_n 0, 1) := by decide +kernel
theorem dL_same_108 : decode cL_same 108 = .ok (.invokevirtual 110, 3) := by decide +kernel
theorem dL_same_111 : decode cL_same 111 = .ok (.aload 15, 2) := by decide +kernel
theorem dL_same_113 : decode cL_same 113 = .ok (.iconst 5, 1) := by decide +kernel
theorem dL_same_114 : decode cL_same 114 = .ok (.iaload, 1) := by decide +kernel
theorem dL_same_115 : decode cL_same 115 = .ok (.if_icmp .ne 7, 3) := by decide +kernel
theorem dL_same_118 : decode cL_same 118 = .ok (.iconst 1, 1) := by decide +kernel
theorem dL_same_119 : decode cL_same 119 = .ok (.goto 4, 3) := by decide +kernel
theorem dL_same_122 : decode cL_same 122 = .ok (.iconst 0, 1) := by decide +kernel
theorem dL_same_123 : decode cL_same 123 = .ok (.istore 18, 2) := by decide +kernel
theorem dL_same_125 : decode cL_same 125 = .ok (.iconst 0, 1) := by decide +kernel
theorem dL_same_126 : decode cL_same 126 = .ok (.istore 19, 2) := by decide +kernel
theorem dL_same_128 : decode cL_same 128 = .ok (.iload 19, 2) := by decide +kernel
theorem dL_same_130 : decode cL_same 130 = .ok (.bipush 10, 2) := by decide +kernel
theorem dL_same_132 : decode cL_same 132 = .ok (.if_icmp .ge 130, 3) := by decide +kernel
theorem dL_same_135 : decode cL_same 135 = .ok (.iload 18, 2) := by decide +kernel
theorem dL_same_137 : decode cL_same 137 = .ok (.ifCond .eq 125, 3) := by decide +kernel
theorem dL_same_140 : decode cL_same 140 = .ok (.iload_n 1, 1) := by decide +kernel
theorem dL_same_141 : decode cL_same 141 = .ok (.bipush 13, 2) := by decide +kernel
theorem dL_same_143 : decode cL_same 143 = .ok (.iload 19, 2) := by decide +kernel
theorem dL_same_145 : decode cL_same 145 = .ok (.imul, 1) := by decide +kernel
theorem dL_same_146 : decode cL_same 146 = .ok (.iadd, 1) := by decide +kernel
theorem dL_same_147 : decode cL_same 147 = .ok (.bipush 60, 2) := by decide +kernel
theorem dL_same_149 : decode cL_same 149 = .ok (.invokestatic 29, 3) := by decide +kernel
theorem dL_same_152 : decode cL_same 152 = .ok (.istore 20, 2) := by decide +kernel
theorem dL_same_154 : decode cL_same 154 = .ok (.iload_n 1, 1) := by decide +kernel
theorem dL_same_155 : decode cL_same 155 = .ok (.iconst 3, 1) := by decide +kernel
theorem dL_same_156 : decode cL_same 156 = .ok (.ishr, 1) := by decide +kernel
theorem dL_same_157 : decode cL_same 157 = .ok (.iconst 2, 1) := by decide +kernel
theorem dL_same_158 : decode cL_same 158 = .ok (.invokestatic 29, 3) := by decide +kernel
theorem dL_same_161 : decode cL_same 161 = .ok (.istore 21, 2) := by decide +kernel
theorem dL_same_163 : decode cL_same 163 = .ok (.iload 21, 2) := by decide +kernel
theorem dL_same_165 : decode cL_same 165 = .ok (.ifCond .ne 10, 3) := by decide +kernel
theorem dL_same_168 : decode cL_same 168 = .ok (.aload_n 3, 1) := by decide +kernel
theorem dL_same_169 : decode cL_same 169 = .ok (.iload 20, 2) := by decide +kernel
theorem dL_same_171 : decode cL_same 171 = .ok (.iaload, 1) := by decide +kernel
theorem dL_same_172 : decode cL_same 172 = .ok (.goto 8, 3) := by decide +kernel
theorem dL_same_175 : decode cL_same 175 = .ok (.aload 4, 2) := by decide +kernel
theorem dL_same_177 : decode cL_same 177 = .ok (.iload 20, 2) := by decide +kernel
theorem dL_same_179 : decode cL_same 179 = .ok (.iaload, 1) := by decide +kernel
theorem dL_same_180 : decode cL_same 180 = .ok (.istore 22, 2) := by decide +kernel
theorem dL_same_182 : decode cL_same 182 = .ok (.iload 21, 2) := by decide +kernel
theorem dL_same_184 : decode cL_same 184 = .ok (.ifCond .ne 11, 3) := by decide +kernel
theorem dL_same_187 : decode cL_same 187 = .ok (.aload 5, 2) := by decide +kernel
theorem dL_same_189 : decode cL_same 189 = .ok (.iload 20, 2) := by decide +kernel
theorem dL_same_191 : decode cL_same 191 = .ok (.iaload, 1) := by decide +kernel
theorem dL_same_192 : decode cL_same 192 = .ok (.goto 8, 3) := by decide +kernel
theorem dL_same_195 : decode cL_same 195 = .ok (.aload 6, 2) := by decide +kernel
theorem dL_same_197 : decode cL_same 197 = .ok (.iload 20, 2) := by decide +kernel
theorem dL_same_199 : decode cL_same 199 = .ok (.iaload, 1) := by decide +kernel
theorem dL_same_200 : decode cL_same 200 = .ok (.istore 23, 2) := by decide +kernel
theorem dL_same_202 : decode cL_same 202 = .ok (.aload_n 0, 1) := by decide +kernel
theorem dL_same_203 : decode cL_same 203 = .ok (.iload 20, 2) := by decide +kernel
theorem dL_same_205 : decode cL_same 205 = .ok (.iload 21, 2) := by decide +kernel
theorem dL_same_207 : decode cL_same 207 = .ok (.iconst 0, 1) := by decide +kernel
theorem dL_same_208 : decode cL_same 208 = .ok (.invokevirtual 113, 3) := by decide +kernel
theorem dL_same_211 : decode cL_same 211 = .ok (.iload 22, 2) := by decide +kernel
theorem dL_same_213 : decode cL_same 213 = .ok (.if_icmp .ne 40, 3) := by decide +kernel
theorem dL_same_216 : decode cL_same 216 = .ok (.aload_n 0, 1) := by decide +kernel
theorem dL_same_217 : decode cL_same 217 = .ok (.iload 20, 2) := by decide +kernel
theorem dL_same_219 : decode cL_same 219 = .ok (.iload 21, 2) := by decide +kernel
theorem dL_same_221 : decode cL_same 221 = .ok (.iconst 1, 1) := by decide +kernel
theorem dL_same_222 : decode cL_same 222 = .ok (.invokevirtual 113, 3) := by decide +kernel
theorem dL_same_225 : decode cL_same 225 = .ok (.iload 23, 2) := by decide +kernel
theorem dL_same_227 : decode cL_same 227 = .ok (.if_icmp .ne 26, 3) := by decide +kernel
theorem dL_same_230 : decode cL_same 230 = .ok (.aload_n 0, 1) := by decide +kernel
theorem dL_same_231 : decode cL_same 231 = .ok (.iload 20, 2) := by decide +kernel
theorem dL_same_233 : decode cL_same 233 = .ok (.iload 21, 2) := by decide +kernel
theorem dL_same_235 : decode cL_same 235 = .ok (.iconst 2, 1) := by decide +kernel
theorem dL_same_236 : decode cL_same 236 = .ok (.invokevirtual 113, 3) := by decide +kernel
theorem dL_same_239 : decode cL_same 239 = .ok (.iconst 5, 1) := by decide +kernel
theorem dL_same_240 : decode cL_same 240 = .ok (.iload 23, 2) := by decide +kernel
theorem dL_same_242 : decode cL_same 242 = .ok (.imul, 1) := by decide +kernel
theorem dL_same_243 : decode cL_same 243 = .ok (.iload 22, 2) := by decide +kernel
theorem dL_same_245 : decode cL_same 245 = .ok (.isub, 1) := by decide +kernel
theorem dL_same_246 : decode cL_same 246 = .ok (.if_icmp .ne 7, 3) := by decide +kernel
theorem dL_same_249 : decode cL_same 249 = .ok (.iconst 1, 1) := by decide +kernel
theorem dL_same_250 : decode cL_same 250 = .ok (.goto 4, 3) := by decide +kernel
theorem dL_same_253 : decode cL_same 253 = .ok (.iconst 0, 1) := by decide +kernel
theorem dL_same_254 : decode cL_same 254 = .ok (.istore 18, 2) := by decide +kernel
theorem dL_same_256 : decode cL_same 256 = .ok (.iinc 19 1, 3) := by decide +kernel
theorem dL_same_259 : decode cL_same 259 = .ok (.goto (-131), 3) := by decide +kernel
theorem dL_same_262 : decode cL_same 262 = .ok (.iconst 0, 1) := by decide +kernel
theorem dL_same_263 : decode cL_same 263 = .ok (.istore 19, 2) := by decide +kernel
theorem dL_same_265 : decode cL_same 265 = .ok (.iload 19, 2) := by decide +kernel
theorem dL_same_267 : decode cL_same 267 = .ok (.aload 15, 2) := by decide +kernel
theorem dL_same_269 : decode cL_same 269 = .ok (.iconst 2, 1) := by decide +kernel
theorem dL_same_270 : decode cL_same 270 = .ok (.iaload, 1) := by decide +kernel
theorem dL_same_271 : decode cL_same 271 = .ok (.if_icmp .ge 99, 3) := by decide +kernel
theorem dL_same_274 : decode cL_same 274 = .ok (.iload 18, 2) := by decide +kernel
theorem dL_same_276 : decode cL_same 276 = .ok (.ifCond .eq 94, 3) := by decide +kernel
theorem dL_same_279 : decode cL_same 279 = .ok (.aload_n 0, 1) := by decide +kernel
theorem dL_same_280 : decode cL_same 280 = .ok (.iload 19, 2) := by decide +kernel
theorem dL_same_282 : decode cL_same 282 = .ok (.iconst 0, 1) := by decide +kernel
theorem dL_same_283 : decode cL_same 283 = .ok (.invokevirtual 116, 3) := by decide +kernel
theorem dL_same_286 : decode cL_same 286 = .ok (.aload 7, 2) := by decide +kernel
theorem dL_same_288 : decode cL_same 288 = .ok (.bipush 8, 2) := by decide +kernel
theorem dL_same_290 : decode cL_same 290 = .ok (.iload 19, 2) := by decide +kernel
theorem dL_same_292 : decode cL_same 292 = .ok (.imul, 1) := by decide +kernel
theorem dL_same_293 : decode cL_same 293 = .ok (.iaload, 1) := by decide +kernel
theorem dL_same_294 : decode cL_same 294 = .ok (.if_icmp .ne 67, 3) := by decide +kernel
theorem dL_same_297 : decode cL_same 297 = .ok (.aload_n 0, 1) := by decide +kernel
theorem dL_same_298 : decode cL_same 298 = .ok (.iload 19, 2) := by decide +kernel
theorem dL_same_300 : decode cL_same 300 = .ok (.iconst 1, 1) := by decide +kernel
theorem dL_same_301 : decode cL_same 301 = .ok (.invokevirtual 116, 3) := by decide +kernel
theorem dL_same_304 : decode cL_same 304 = .ok (.aload 7, 2) := by decide +kernel
theorem dL_same_306 : decode cL_same 306 = .ok (.bipush 8, 2) := by decide +kernel
theorem dL_same_308 : decode cL_same 308 = .ok (.iload 19, 2) := by decide +kernel
theorem dL_same_310 : decode cL_same 310 = .ok (.imul, 1) := by decide +kernel
theorem dL_same_311 : decode cL_same 311 = .ok (.iconst 2, 1) := by decide +kernel
theorem dL_same_312 : decode cL_same 312 = .ok (.iadd, 1) := by decide +kernel
theorem dL_same_313 : decode cL_same 313 = .ok (.iaload, 1) := by decide +kernel
theorem dL_same_314 : decode cL_same 314 = .ok (.if_icmp .ne 47, 3) := by decide +kernel
theorem dL_same_317 : decode cL_same 317 = .ok (.aload_n 0, 1) := by decide +kernel
theorem dL_same_318 : decode cL_same 318 = .ok (.iload 19, 2) := by decide +kernel
theorem dL_same_320 : decode cL_same 320 = .ok (.iconst 2, 1) := by decide +kernel
theorem dL_same_321 : decode cL_same 321 = .ok (.invokevirtual 116, 3) := by decide +kernel
theorem dL_same_324 : decode cL_same 324 = .ok (.aload 7, 2) := by decide +kernel
theorem dL_same_326 : decode cL_same 326 = .ok (.bipush 8, 2) := by decide +kernel
theorem dL_same_328 : decode cL_same 328 = .ok (.iload 19, 2) := by decide +kernel
theorem dL_same_330 : decode cL_same 330 = .ok (.imul, 1) := by decide +kernel
theorem dL_same_331 : decode cL_same 331 = .ok (.iconst 3, 1) := by decide +kernel
theorem dL_same_332 : decode cL_same 332 = .ok (.iadd, 1) := by decide +kernel
theorem dL_same_333 : decode cL_same 333 = .ok (.iaload, 1) := by decide +kernel
theorem dL_same_334 : decode cL_same 334 = .ok (.if_icmp .ne 27, 3) := by decide +kernel
theorem dL_same_337 : decode cL_same 337 = .ok (.aload_n 0, 1) := by decide +kernel
theorem dL_same_338 : decode cL_same 338 = .ok (.iload 19, 2) := by decide +kernel
theorem dL_same_340 : decode cL_same 340 = .ok (.iconst 3, 1) := by decide +kernel
theorem dL_same_341 : decode cL_same 341 = .ok (.invokevirtual 116, 3) := by decide +kernel
theorem dL_same_344 : decode cL_same 344 = .ok (.aload 7, 2) := by decide +kernel
theorem dL_same_346 : decode cL_same 346 = .ok (.bipush 8, 2) := by decide +kernel
theorem dL_same_348 : decode cL_same 348 = .ok (.iload 19, 2) := by decide +kernel
theorem dL_same_350 : decode cL_same 350 = .ok (.imul, 1) := by decide +kernel
theorem dL_same_351 : decode cL_same 351 = .ok (.iconst 5, 1) := by decide +kernel
theorem dL_same_352 : decode cL_same 352 = .ok (.iadd, 1) := by decide +kernel
theorem dL_same_353 : decode cL_same 353 = .ok (.iaload, 1) := by decide +kernel
theorem dL_same_354 : decode cL_same 354 = .ok (.if_icmp .ne 7, 3) := by decide +kernel
theorem dL_same_357 : decode cL_same 357 = .ok (.iconst 1, 1) := by decide +kernel
theorem dL_same_358 : decode cL_same 358 = .ok (.goto 4, 3) := by decide +kernel
theorem dL_same_361 : decode cL_same 361 = .ok (.iconst 0, 1) := by decide +kernel
theorem dL_same_362 : decode cL_same 362 = .ok (.istore 18, 2) := by decide +kernel
theorem dL_same_364 : decode cL_same 364 = .ok (.iinc 19 1, 3) := by decide +kernel
theorem dL_same_367 : decode cL_same 367 = .ok (.goto (-102), 3) := by decide +kernel
theorem dL_same_370 : decode cL_same 370 = .ok (.aload 15, 2) := by decide +kernel
theorem dL_same_372 : decode cL_same 372 = .ok (.bipush 6, 2) := by decide +kernel
theorem dL_same_374 : decode cL_same 374 = .ok (.iaload, 1) := by decide +kernel
theorem dL_same_375 : decode cL_same 375 = .ok (.ifCond .le 52, 3) := by decide +kernel
theorem dL_same_378 : decode cL_same 378 = .ok (.iload 18, 2) := by decide +kernel
theorem dL_same_380 : decode cL_same 380 = .ok (.ifCond .eq 47, 3) := by decide +kernel
theorem dL_same_383 : decode cL_same 383 = .ok (.aload_n 0, 1) := by decide +kernel
theorem dL_same_384 : decode cL_same 384 = .ok (.iconst 0, 1) := by decide +kernel
theorem dL_same_385 : decode cL_same 385 = .ok (.iload_n 1, 1) := by decide +kernel
theorem dL_same_386 : decode cL_same 386 = .ok (.aload 11, 2) := by decide +kernel
theorem dL_same_388 : decode cL_same 388 = .ok (.aload 13, 2) := by decide +kernel
theorem dL_same_390 : decode cL_same 390 = .ok (.invokestatic 119, 3) := by decide +kernel
theorem dL_same_393 : decode cL_same 393 = .ok (.ifCond .eq 31, 3) := by decide +kernel
theorem dL_same_396 : decode cL_same 396 = .ok (.aload 15, 2) := by decide +kernel
theorem dL_same_398 : decode cL_same 398 = .ok (.bipush 6, 2) := by decide +kernel
theorem dL_same_400 : decode cL_same 400 = .ok (.iaload, 1) := by decide +kernel
theorem dL_same_401 : decode cL_same 401 = .ok (.iconst 1, 1) := by decide +kernel
theorem dL_same_402 : decode cL_same 402 = .ok (.if_icmp .eq 18, 3) := by decide +kernel
theorem dL_same_405 : decode cL_same 405 = .ok (.aload_n 0, 1) := by decide +kernel
theorem dL_same_406 : decode cL_same 406 = .ok (.iconst 1, 1) := by decide +kernel
theorem dL_same_407 : decode cL_same 407 = .ok (.iload_n 1, 1) := by decide +kernel
theorem dL_same_408 : decode cL_same 408 = .ok (.iconst 2, 1) := by decide +kernel
theorem dL_same_409 : decode cL_same 409 = .ok (.ishr, 1) := by decide +kernel
theorem dL_same_410 : decode cL_same 410 = .ok (.aload 12, 2) := by decide +kernel
theorem dL_same_412 : decode cL_same 412 = .ok (.aload 13, 2) := by decide +kernel
theorem dL_same_414 : decode cL_same 414 = .ok (.invokestatic 119, 3) := by decide +kernel
theorem dL_same_417 : decode cL_same 417 = .ok (.ifCond .eq 7, 3) := by decide +kernel
theorem dL_same_420 : decode cL_same 420 = .ok (.iconst 1, 1) := by decide +kernel
theorem dL_same_421 : decode cL_same 421 = .ok (.goto 4, 3) := by decide +kernel
theorem dL_same_424 : decode cL_same 424 = .ok (.iconst 0, 1) := by decide +kernel
theorem dL_same_425 : decode cL_same 425 = .ok (.istore 18, 2) := by decide +kernel
theorem dL_same_427 : decode cL_same 427 = .ok (.iconst 0, 1) := by decide +kernel
theorem dL_same_428 : decode cL_same 428 = .ok (.istore 19, 2) := by decide +kernel
theorem dL_same_430 : decode cL_same 430 = .ok (.iload 19, 2) := by decide +kernel
theorem dL_same_432 : decode cL_same 432 = .ok (.aload 15, 2) := by decide +kernel
theorem dL_same_434 : decode cL_same 434 = .ok (.iconst 5, 1) := by decide +kernel
theorem dL_same_435 : decode cL_same 435 = .ok (.iaload, 1) := by decide +kernel
theorem dL_same_436 : decode cL_same 436 = .ok (.if_icmp .ge 144, 3) := by decide +kernel
theorem dL_same_439 : decode cL_same 439 = .ok (.iload 18, 2) := by decide +kernel
theorem dL_same_441 : decode cL_same 441 = .ok (.ifCond .eq 139, 3) := by decide +kernel
theorem dL_same_444 : decode cL_same 444 = .ok (.iload 19, 2) := by decide +kernel
theorem dL_same_446 : decode cL_same 446 = .ok (.iconst 4, 1) := by decide +kernel
theorem dL_same_447 : decode cL_same 447 = .ok (.irem, 1) := by decide +kernel
theorem dL_same_448 : decode cL_same 448 = .ok (.iload_n 1, 1) := by decide +kernel
theorem dL_same_449 : decode cL_same 449 = .ok (.iconst 4, 1) := by decide +kernel
theorem dL_same_450 : decode cL_same 450 = .ok (.irem, 1) := by decide +kernel
theorem dL_same_451 : decode cL_same 451 = .ok (.if_icmp .ne 95, 3) := by decide +kernel
theorem dL_same_454 : decode cL_same 454 = .ok (.aload_n 0, 1) := by decide +kernel
theorem dL_same_455 : decode cL_same 455 = .ok (.iload 19, 2) := by decide +kernel
theorem dL_same_457 : decode cL_same 457 = .ok (.iconst 0, 1) := by decide +kernel
theorem dL_same_458 : decode cL_same 458 = .ok (.invokevirtual 123, 3) := by decide +kernel
theorem dL_same_461 : decode cL_same 461 = .ok (.aload 8, 2) := by decide +kernel
theorem dL_same_463 : decode cL_same 463 = .ok (.iload 19, 2) := by decide +kernel
theorem dL_same_465 : decode cL_same 465 = .ok (.iaload, 1) := by decide +kernel
theorem dL_same_466 : decode cL_same 466 = .ok (.bipush 64, 2) := by decide +kernel
theorem dL_same_468 : decode cL_same 468 = .ok (.idiv, 1) := by decide +kernel
theorem dL_same_469 : decode cL_same 469 = .ok (.if_icmp .ne 102, 3) := by decide +kernel
theorem dL_same_472 : decode cL_same 472 = .ok (.aload_n 0, 1) := by decide +kernel
theorem dL_same_473 : decode cL_same 473 = .ok (.iload 19, 2) := by decide +kernel
theorem dL_same_475 : decode cL_same 475 = .ok (.iconst 1, 1) := by decide +kernel
theorem dL_same_476 : decode cL_same 476 = .ok (.invokevirtual 123, 3) := by decide +kernel
theorem dL_same_479 : decode cL_same 479 = .ok (.aload 8, 2) := by decide +kernel
theorem dL_same_481 : decode cL_same 481 = .ok (.iload 19, 2) := by decide +kernel
theorem dL_same_483 : decode cL_same 483 = .ok (.iaload, 1) := by decide +kernel
theorem dL_same_484 : decode cL_same 484 = .ok (.bipush 64, 2) := by decide +kernel
theorem dL_same_486 : decode cL_same 486 = .ok (.irem, 1) := by decide +kernel
theorem dL_same_487 : decode cL_same 487 = .ok (.if_icmp .ne 84, 3) := by decide +kernel
theorem dL_same_490 : decode cL_same 490 = .ok (.aload_n 0, 1) := by decide +kernel
theorem dL_same_491 : decode cL_same 491 = .ok (.iload 19, 2) := by decide +kernel
theorem dL_same_493 : decode cL_same 493 = .ok (.iconst 2, 1) := by decide +kernel
theorem dL_same_494 : decode cL_same 494 = .ok (.invokevirtual 123, 3) := by decide +kernel
theorem dL_same_497 : decode cL_same 497 = .ok (.aload 9, 2) := by decide +kernel
theorem dL_same_499 : decode cL_same 499 = .ok (.iload 19, 2) := by decide +kernel
theorem dL_same_501 : decode cL_same 501 = .ok (.iaload, 1) := by decide +kernel
theorem dL_same_502 : decode cL_same 502 = .ok (.if_icmp .ne 69, 3) := by decide +kernel
theorem dL_same_505 : decode cL_same 505 = .ok (.aload_n 0, 1) := by decide +kernel
theorem dL_same_506 : decode cL_same 506 = .ok (.iload 19, 2) := by decide +kernel
theorem dL_same_508 : decode cL_same 508 = .ok (.iconst 3, 1) := by decide +kernel
theorem dL_same_509 : decode cL_same 509 = .ok (.invokevirtual 123, 3) := by decide +kernel
theorem dL_same_512 : decode cL_same 512 = .ok (.iload 19, 2) := by decide +kernel
theorem dL_same_514 : decode cL_same 514 = .ok (.aload 9, 2) := by decide +kernel
theorem dL_same_516 : decode cL_same 516 = .ok (.aload 10, 2) := by decide +kernel
theorem dL_same_518 : decode cL_same 518 = .ok (.aload 7, 2) := by decide +kernel
theorem dL_same_520 : decode cL_same 520 = .ok (.invokestatic 85, 3) := by decide +kernel
theorem dL_same_523 : decode cL_same 523 = .ok (.if_icmp .ne 48, 3) := by decide +kernel
theorem dL_same_526 : decode cL_same 526 = .ok (.aload_n 0, 1) := by decide +kernel
theorem dL_same_527 : decode cL_same 527 = .ok (.iload 19, 2) := by decide +kernel
theorem dL_same_529 : decode cL_same 529 = .ok (.iconst 5, 1) := by decide +kernel
theorem dL_same_530 : decode cL_same 530 = .ok (.invokevirtual 123, 3) := by decide +kernel
theorem dL_same_533 : decode cL_same 533 = .ok (.aload 10, 2) := by decide +kernel
theorem dL_same_535 : decode cL_same 535 = .ok (.iload 19, 2) := by decide +kernel
theorem dL_same_537 : decode cL_same 537 = .ok (.iaload, 1) := by decide +kernel
theorem dL_same_538 : decode cL_same 538 = .ok (.bipush 16, 2) := by decide +kernel
theorem dL_same_540 : decode cL_same 540 = .ok (.irem, 1) := by decide +kernel
theorem dL_same_541 : decode cL_same 541 = .ok (.iconst 1, 1) := by decide +kernel
theorem dL_same_542 : decode cL_same 542 = .ok (.isub, 1) := by decide +kernel
theorem dL_same_543 : decode cL_same 543 = .ok (.if_icmp .ne 28, 3) := by decide +kernel
theorem dL_same_546 : decode cL_same 546 = .ok (.aload_n 0, 1) := by decide +kernel
theorem dL_same_547 : decode cL_same 547 = .ok (.iload 19, 2) := by decide +kernel
theorem dL_same_549 : decode cL_same 549 = .ok (.iconst 4, 1) := by decide +kernel
theorem dL_same_550 : decode cL_same 550 = .ok (.invokevirtual 123, 3) := by decide +kernel
theorem dL_same_553 : decode cL_same 553 = .ok (.iload 19, 2) := by decide +kernel
theorem dL_same_555 : decode cL_same 555 = .ok (.aload 9, 2) := by decide +kernel
theorem dL_same_557 : decode cL_same 557 = .ok (.aload 10, 2) := by decide +kernel
theorem dL_same_559 : decode cL_same 559 = .ok (.aload 15, 2) := by decide +kernel
theorem dL_same_561 : decode cL_same 561 = .ok (.invokestatic 81, 3) := by decide +kernel
theorem dL_same_564 : decode cL_same 564 = .ok (.if_icmp .ne 7, 3) := by decide +kernel
theorem dL_same_567 : decode cL_same 567 = .ok (.iconst 1, 1) := by decide +kernel
theorem dL_same_568 : decode cL_same 568 = .ok (.goto 4, 3) := by decide +kernel
theorem dL_same_571 : decode cL_same 571 = .ok (.iconst 0, 1) := by decide +kernel
theorem dL_same_572 : decode cL_same 572 = .ok (.istore 18, 2) := by decide +kernel
theorem dL_same_574 : decode cL_same 574 = .ok (.iinc 19 1, 3) := by decide +kernel
theorem dL_same_577 : decode cL_same 577 = .ok (.goto (-147), 3) := by decide +kernel
theorem dL_same_580 : decode cL_same 580 = .ok (.iload_n 1, 1) := by decide +kernel
theorem dL_same_581 : decode cL_same 581 = .ok (.iconst 4, 1) := by decide +kernel
theorem dL_same_582 : decode cL_same 582 = .ok (.ishr, 1) := by decide +kernel
theorem dL_same_583 : decode cL_same 583 = .ok (.bipush 60, 2) := by decide +kernel
theorem dL_same_585 : decode cL_same 585 = .ok (.invokestatic 29, 3) := by decide +kernel
theorem dL_same_588 : decode cL_same 588 = .ok (.istore 19, 2) := by decide +kernel
theorem dL_same_590 : decode cL_same 590 = .ok (.iload_n 1, 1) := by decide +kernel
theorem dL_same_591 : decode cL_same 591 = .ok (.iconst 2, 1) := by decide +kernel
theorem dL_same_592 : decode cL_same 592 = .ok (.ishr, 1) := by decide +kernel
theorem dL_same_593 : decode cL_same 593 = .ok (.aload 15, 2) := by decide +kernel
theorem dL_same_595 : decode cL_same 595 = .ok (.iconst 0, 1) := by decide +kernel
theorem dL_same_596 : decode cL_same 596 = .ok (.iaload, 1) := by decide +kernel
theorem dL_same_597 : decode cL_same 597 = .ok (.iconst 3, 1) := by decide +kernel
theorem dL_same_598 : decode cL_same 598 = .ok (.iadd, 1) := by decide +kernel
theorem dL_same_599 : decode cL_same 599 = .ok (.invokestatic 29, 3) := by decide +kernel
theorem dL_same_602 : decode cL_same 602 = .ok (.istore 20, 2) := by decide +kernel
theorem dL_same_604 : decode cL_same 604 = .ok (.iload_n 1, 1) := by decide +kernel
theorem dL_same_605 : decode cL_same 605 = .ok (.iconst 5, 1) := by decide +kernel
theorem dL_same_606 : decode cL_same 606 = .ok (.ishr, 1) := by decide +kernel
theorem dL_same_607 : decode cL_same 607 = .ok (.bipush 12, 2) := by decide +kernel
theorem dL_same_609 : decode cL_same 609 = .ok (.invokestatic 29, 3) := by decide +kernel
theorem dL_same_612 : decode cL_same 612 = .ok (.istore 21, 2) := by decide +kernel
theorem dL_same_614 : decode cL_same 614 = .ok (.iload 19, 2) := by decide +kernel
theorem dL_same_616 : decode cL_same 616 = .ok (.iload 20, 2) := by decide +kernel
theorem dL_same_618 : decode cL_same 618 = .ok (.iload 21, 2) := by decide +kernel
theorem dL_same_620 : decode cL_same 620 = .ok (.iconst (-1), 1) := by decide +kernel
theorem dL_same_621 : decode cL_same 621 = .ok (.aload 8, 2) := by decide +kernel
theorem dL_same_623 : decode cL_same 623 = .ok (.aload 9, 2) := by decide +kernel
theorem dL_same_625 : decode cL_same 625 = .ok (.aload 10, 2) := by decide +kernel
theorem dL_same_627 : decode cL_same 627 = .ok (.aload 7, 2) := by decide +kernel
theorem dL_same_629 : decode cL_same 629 = .ok (.aload 14, 2) := by decide +kernel
theorem dL_same_631 : decode cL_same 631 = .ok (.aload 15, 2) := by decide +kernel
theorem dL_same_633 : decode cL_same 633 = .ok (.invokestatic 126, 3) := by decide +kernel
theorem dL_same_636 : decode cL_same 636 = .ok (.iload 18, 2) := by decide +kernel
theorem dL_same_638 : decode cL_same 638 = .ok (.ifCond .eq 91, 3) := by decide +kernel
theorem dL_same_641 : decode cL_same 641 = .ok (.aload_n 0, 1) := by decide +kernel
theorem dL_same_642 : decode cL_same 642 = .ok (.bipush 6, 2) := by decide +kernel
theorem dL_same_644 : decode cL_same 644 = .ok (.iload 19, 2) := by decide +kernel
theorem dL_same_646 : decode cL_same 646 = .ok (.iload 20, 2) := by decide +kernel
theorem dL_same_648 : decode cL_same 648 = .ok (.iload 21, 2) := by decide +kernel
theorem dL_same_650 : decode cL_same 650 = .ok (.invokestatic 130, 3) := by decide +kernel
theorem dL_same_653 : decode cL_same 653 = .ok (.aload_n 2, 1) := by decide +kernel
theorem dL_same_654 : decode cL_same 654 = .ok (.iload 19, 2) := by decide +kernel
theorem dL_same_656 : decode cL_same 656 = .ok (.iaload, 1) := by decide +kernel
theorem dL_same_657 : decode cL_same 657 = .ok (.bipush 7, 2) := by decide +kernel
theorem dL_same_659 : decode cL_same 659 = .ok (.if_icmp .gt 10, 3) := by decide +kernel
theorem dL_same_662 : decode cL_same 662 = .ok (.aload 14, 2) := by decide +kernel
theorem dL_same_664 : decode cL_same 664 = .ok (.iconst 1, 1) := by decide +kernel
theorem dL_same_665 : decode cL_same 665 = .ok (.iaload, 1) := by decide +kernel
theorem dL_same_666 : decode cL_same 666 = .ok (.ifCond .ne 8, 3) := by decide +kernel
theorem dL_same_669 : decode cL_same 669 = .ok (.ldc 50, 2) := by decide +kernel
theorem dL_same_671 : decode cL_same 671 = .ok (.goto 12, 3) := by decide +kernel
theorem dL_same_674 : decode cL_same 674 = .ok (.aload 14, 2) := by decide +kernel
theorem dL_same_676 : decode cL_same 676 = .ok (.iconst 0, 1) := by decide +kernel
theorem dL_same_677 : decode cL_same 677 = .ok (.iaload, 1) := by decide +kernel
theorem dL_same_678 : decode cL_same 678 = .ok (.aload 14, 2) := by decide +kernel
theorem dL_same_680 : decode cL_same 680 = .ok (.iconst 1, 1) := by decide +kernel
theorem dL_same_681 : decode cL_same 681 = .ok (.iaload, 1) := by decide +kernel
theorem dL_same_682 : decode cL_same 682 = .ok (.idiv, 1) := by decide +kernel
theorem dL_same_683 : decode cL_same 683 = .ok (.if_icmp .ne 46, 3) := by decide +kernel
theorem dL_same_686 : decode cL_same 686 = .ok (.aload_n 0, 1) := by decide +kernel
theorem dL_same_687 : decode cL_same 687 = .ok (.bipush 7, 2) := by decide +kernel
theorem dL_same_689 : decode cL_same 689 = .ok (.iload 19, 2) := by decide +kernel
theorem dL_same_691 : decode cL_same 691 = .ok (.iload 20, 2) := by decide +kernel
theorem dL_same_693 : decode cL_same 693 = .ok (.iload 21, 2) := by decide +kernel
theorem dL_same_695 : decode cL_same 695 = .ok (.invokestatic 130, 3) := by decide +kernel
theorem dL_same_698 : decode cL_same 698 = .ok (.aload_n 2, 1) := by decide +kernel
theorem dL_same_699 : decode cL_same 699 = .ok (.iload 19, 2) := by decide +kernel
theorem dL_same_701 : decode cL_same 701 = .ok (.iaload, 1) := by decide +kernel
theorem dL_same_702 : decode cL_same 702 = .ok (.bipush 7, 2) := by decide +kernel
theorem dL_same_704 : decode cL_same 704 = .ok (.if_icmp .le 8, 3) := by decide +kernel
theorem dL_same_707 : decode cL_same 707 = .ok (.ldc 50, 2) := by decide +kernel
theorem dL_same_709 : decode cL_same 709 = .ok (.goto 13, 3) := by decide +kernel
theorem dL_same_712 : decode cL_same 712 = .ok (.sipush 1000, 3) := by decide +kernel
theorem dL_same_715 : decode cL_same 715 = .ok (.iconst 1, 1) := by decide +kernel
theorem dL_same_716 : decode cL_same 716 = .ok (.aload 14, 2) := by decide +kernel
theorem dL_same_718 : decode cL_same 718 = .ok (.iconst 1, 1) := by decide +kernel
theorem dL_same_719 : decode cL_same 719 = .ok (.iaload, 1) := by decide +kernel
theorem dL_same_720 : decode cL_same 720 = .ok (.iadd, 1) := by decide +kernel
theorem dL_same_721 : decode cL_same 721 = .ok (.idiv, 1) := by decide +kernel
theorem dL_same_722 : decode cL_same 722 = .ok (.if_icmp .ne 7, 3) := by decide +kernel
theorem dL_same_725 : decode cL_same 725 = .ok (.iconst 1, 1) := by decide +kernel
theorem dL_same_726 : decode cL_same 726 = .ok (.goto 4, 3) := by decide +kernel
theorem dL_same_729 : decode cL_same 729 = .ok (.iconst 0, 1) := by decide +kernel
theorem dL_same_730 : decode cL_same 730 = .ok (.istore 18, 2) := by decide +kernel
theorem dL_same_732 : decode cL_same 732 = .ok (.aload 15, 2) := by decide +kernel
theorem dL_same_734 : decode cL_same 734 = .ok (.iconst 5, 1) := by decide +kernel
theorem dL_same_735 : decode cL_same 735 = .ok (.iaload, 1) := by decide +kernel
theorem dL_same_736 : decode cL_same 736 = .ok (.ifCond .eq 8, 3) := by decide +kernel
theorem dL_same_739 : decode cL_same 739 = .ok (.iload 18, 2) := by decide +kernel
theorem dL_same_741 : decode cL_same 741 = .ok (.ifCond .ne 6, 3) := by decide +kernel
theorem dL_same_744 : decode cL_same 744 = .ok (.iload 18, 2) := by decide +kernel
theorem dL_same_746 : decode cL_same 746 = .ok (.ireturn, 1) := by decide +kernel
theorem dL_same_747 : decode cL_same 747 = .ok (.iload_n 1, 1) := by decide +kernel
theorem dL_same_748 : decode cL_same 748 = .ok (.iconst 1, 1) := by decide +kernel
theorem dL_same_749 : decode cL_same 749 = .ok (.ishr, 1) := by decide +kernel
theorem dL_same_750 : decode cL_same 750 = .ok (.aload 15, 2) := by decide +kernel
theorem dL_same_752 : decode cL_same 752 = .ok (.iconst 5, 1) := by decide +kernel
theorem dL_same_753 : decode cL_same 753 = .ok (.iaload, 1) := by decide +kernel
theorem dL_same_754 : decode cL_same 754 = .ok (.invokestatic 29, 3) := by decide +kernel
theorem dL_same_757 : decode cL_same 757 = .ok (.istore 22, 2) := by decide +kernel
theorem dL_same_759 : decode cL_same 759 = .ok (.aload 8, 2) := by decide +kernel
theorem dL_same_761 : decode cL_same 761 = .ok (.iload 22, 2) := by decide +kernel
theorem dL_same_763 : decode cL_same 763 = .ok (.iaload, 1) := by decide +kernel
theorem dL_same_764 : decode cL_same 764 = .ok (.bipush 64, 2) := by decide +kernel
theorem dL_same_766 : decode cL_same 766 = .ok (.irem, 1) := by decide +kernel
theorem dL_same_767 : decode cL_same 767 = .ok (.aload 8, 2) := by decide +kernel
theorem dL_same_769 : decode cL_same 769 = .ok (.iload 22, 2) := by decide +kernel
theorem dL_same_771 : decode cL_same 771 = .ok (.iaload, 1) := by decide +kernel
theorem dL_same_772 : decode cL_same 772 = .ok (.bipush 64, 2) := by decide +kernel
theorem dL_same_774 : decode cL_same 774 = .ok (.idiv, 1) := by decide +kernel
theorem dL_same_775 : decode cL_same 775 = .ok (.iload 21, 2) := by decide +kernel
theorem dL_same_777 : decode cL_same 777 = .ok (.iload 22, 2) := by decide +kernel
theorem dL_same_779 : decode cL_same 779 = .ok (.aload 8, 2) := by decide +kernel
theorem dL_same_781 : decode cL_same 781 = .ok (.aload 9, 2) := by decide +kernel
theorem dL_same_783 : decode cL_same 783 = .ok (.aload 10, 2) := by decide +kernel
theorem dL_same_785 : decode cL_same 785 = .ok (.aload 7, 2) := by decide +kernel
theorem dL_same_787 : decode cL_same 787 = .ok (.aload 14, 2) := by decide +kernel
theorem dL_same_789 : decode cL_same 789 = .ok (.aload 15, 2) := by decide +kernel
theorem dL_same_791 : decode cL_same 791 = .ok (.invokestatic 126, 3) := by decide +kernel
theorem dL_same_794 : decode cL_same 794 = .ok (.aload_n 0, 1) := by decide +kernel
theorem dL_same_795 : decode cL_same 795 = .ok (.bipush 8, 2) := by decide +kernel
theorem dL_same_797 : decode cL_same 797 = .ok (.iload 22, 2) := by decide +kernel
theorem dL_same_799 : decode cL_same 799 = .ok (.iload 21, 2) := by decide +kernel
theorem dL_same_801 : decode cL_same 801 = .ok (.iconst 0, 1) := by decide +kernel
theorem dL_same_802 : decode cL_same 802 = .ok (.invokestatic 130, 3) := by decide +kernel
theorem dL_same_805 : decode cL_same 805 = .ok (.aload 14, 2) := by decide +kernel
theorem dL_same_807 : decode cL_same 807 = .ok (.iconst 1, 1) := by decide +kernel
theorem dL_same_808 : decode cL_same 808 = .ok (.iaload, 1) := by decide +kernel
theorem dL_same_809 : decode cL_same 809 = .ok (.ifCond .ne 8, 3) := by decide +kernel
theorem dL_same_812 : decode cL_same 812 = .ok (.ldc 50, 2) := by decide +kernel
theorem dL_same_814 : decode cL_same 814 = .ok (.goto 24, 3) := by decide +kernel
theorem dL_same_817 : decode cL_same 817 = .ok (.iload 22, 2) := by decide +kernel
theorem dL_same_819 : decode cL_same 819 = .ok (.aload 9, 2) := by decide +kernel
theorem dL_same_821 : decode cL_same 821 = .ok (.aload 10, 2) := by decide +kernel
theorem dL_same_823 : decode cL_same 823 = .ok (.aload 7, 2) := by decide +kernel
theorem dL_same_825 : decode cL_same 825 = .ok (.invokestatic 85, 3) := by decide +kernel
theorem dL_same_828 : decode cL_same 828 = .ok (.aload 14, 2) := by decide +kernel
theorem dL_same_830 : decode cL_same 830 = .ok (.iconst 0, 1) := by decide +kernel
theorem dL_same_831 : decode cL_same 831 = .ok (.iaload, 1) := by decide +kernel
theorem dL_same_832 : decode cL_same 832 = .ok (.aload 14, 2) := by decide +kernel
theorem dL_same_834 : decode cL_same 834 = .ok (.iconst 1, 1) := by decide +kernel
theorem dL_same_835 : decode cL_same 835 = .ok (.iaload, 1) := by decide +kernel
theorem dL_same_836 : decode cL_same 836 = .ok (.idiv, 1) := by decide +kernel
theorem dL_same_837 : decode cL_same 837 = .ok (.isub, 1) := by decide +kernel
theorem dL_same_838 : decode cL_same 838 = .ok (.if_icmp .ne 7, 3) := by decide +kernel
theorem dL_same_841 : decode cL_same 841 = .ok (.iconst 1, 1) := by decide +kernel
theorem dL_same_842 : decode cL_same 842 = .ok (.goto 4, 3) := by decide +kernel
theorem dL_same_845 : decode cL_same 845 = .ok (.iconst 0, 1) := by decide +kernel
theorem dL_same_846 : decode cL_same 846 = .ok (.ireturn, 1) := by decide +kernel
theorem dL_tells_0 : decode cL_tells 0 = .ok (.iload_n 2, 1) := by decide +kernel
theorem dL_tells_1 : decode cL_tells 1 = .ok (.bipush 60, 2) := by decide +kernel
theorem dL_tells_3 : decode cL_tells 3 = .ok (.invokestatic 29, 3) := by decide +kernel
theorem dL_tells_6 : decode cL_tells 6 = .ok (.istore 17, 2) := by decide +kernel
theorem dL_tells_8 : decode cL_tells 8 = .ok (.iload_n 1, 1) := by decide +kernel
theorem dL_tells_9 : decode cL_tells 9 = .ok (.ifCond .ne 269, 3) := by decide +kernel
theorem dL_tells_12 : decode cL_tells 12 = .ok (.aload_n 3, 1) := by decide +kernel
theorem dL_tells_13 : decode cL_tells 13 = .ok (.iload 17, 2) := by decide +kernel
theorem dL_tells_15 : decode cL_tells 15 = .ok (.iaload, 1) := by decide +kernel
theorem dL_tells_16 : decode cL_tells 16 = .ok (.bipush 8, 2) := by decide +kernel
theorem dL_tells_18 : decode cL_tells 18 = .ok (.if_icmp .ge 14, 3) := by decide +kernel
theorem dL_tells_21 : decode cL_tells 21 = .ok (.aload 16, 2) := by decide +kernel
theorem dL_tells_23 : decode cL_tells 23 = .ok (.iconst 0, 1) := by decide +kernel
theorem dL_tells_24 : decode cL_tells 24 = .ok (.iaload, 1) := by decide +kernel
theorem dL_tells_25 : decode cL_tells 25 = .ok (.ifCond .ne 7, 3) := by decide +kernel
theorem dL_tells_28 : decode cL_tells 28 = .ok (.iconst 1, 1) := by decide +kernel
theorem dL_tells_29 : decode cL_tells 29 = .ok (.goto 4, 3) := by decide +kernel
theorem dL_tells_32 : decode cL_tells 32 = .ok (.iconst 0, 1) := by decide +kernel
theorem dL_tells_33 : decode cL_tells 33 = .ok (.istore 18, 2) := by decide +kernel
theorem dL_tells_35 : decode cL_tells 35 = .ok (.iconst 0, 1) := by decide +kernel
theorem dL_tells_36 : decode cL_tells 36 = .ok (.istore 19, 2) := by decide +kernel
theorem dL_tells_38 : decode cL_tells 38 = .ok (.iload 19, 2) := by decide +kernel
theorem dL_tells_40 : decode cL_tells 40 = .ok (.aload 16, 2) := by decide +kernel
theorem dL_tells_42 : decode cL_tells 42 = .ok (.iconst 2, 1) := by decide +kernel
theorem dL_tells_43 : decode cL_tells 43 = .ok (.iaload, 1) := by decide +kernel
theorem dL_tells_44 : decode cL_tells 44 = .ok (.if_icmp .ge 34, 3) := by decide +kernel
theorem dL_tells_47 : decode cL_tells 47 = .ok (.iload 18, 2) := by decide +kernel
theorem dL_tells_49 : decode cL_tells 49 = .ok (.ifCond .eq 20, 3) := by decide +kernel
theorem dL_tells_52 : decode cL_tells 52 = .ok (.aload 8, 2) := by decide +kernel
theorem dL_tells_54 : decode cL_tells 54 = .ok (.bipush 8, 2) := by decide +kernel
theorem dL_tells_56 : decode cL_tells 56 = .ok (.iload 19, 2) := by decide +kernel
theorem dL_tells_58 : decode cL_tells 58 = .ok (.imul, 1) := by decide +kernel
theorem dL_tells_59 : decode cL_tells 59 = .ok (.iaload, 1) := by decide +kernel
theorem dL_tells_60 : decode cL_tells 60 = .ok (.iload 17, 2) := by decide +kernel
theorem dL_tells_62 : decode cL_tells 62 = .ok (.if_icmp .eq 7, 3) := by decide +kernel
theorem dL_tells_65 : decode cL_tells 65 = .ok (.iconst 1, 1) := by decide +kernel
theorem dL_tells_66 : decode cL_tells 66 = .ok (.goto 4, 3) := by decide +kernel
theorem dL_tells_69 : decode cL_tells 69 = .ok (.iconst 0, 1) := by decide +kernel
theorem dL_tells_70 : decode cL_tells 70 = .ok (.istore 18, 2) := by decide +kernel
theorem dL_tells_72 : decode cL_tells 72 = .ok (.iinc 19 1, 3) := by decide +kernel
theorem dL_tells_75 : decode cL_tells 75 = .ok (.goto (-37), 3) := by decide +kernel
theorem dL_tells_78 : decode cL_tells 78 = .ok (.iconst 0, 1) := by decide +kernel
theorem dL_tells_79 : decode cL_tells 79 = .ok (.istore 19, 2) := by decide +kernel
theorem dL_tells_81 : decode cL_tells 81 = .ok (.iload 19, 2) := by decide +kernel
theorem dL_tells_83 : decode cL_tells 83 = .ok (.aload 16, 2) := by decide +kernel
theorem dL_tells_85 : decode cL_tells 85 = .ok (.iconst 3, 1) := by decide +kernel
theorem dL_tells_86 : decode cL_tells 86 = .ok (.iaload, 1) := by decide +kernel
theorem dL_tells_87 : decode cL_tells 87 = .ok (.if_icmp .ge 34, 3) := by decide +kernel
theorem dL_tells_90 : decode cL_tells 90 = .ok (.iload 18, 2) := by decide +kernel
theorem dL_tells_92 : decode cL_tells 92 = .ok (.ifCond .eq 20, 3) := by decide +kernel
theorem dL_tells_95 : decode cL_tells 95 = .ok (.aload 9, 2) := by decide +kernel
theorem dL_tells_97 : decode cL_tells 97 = .ok (.iload 19, 2) := by decide +kernel
theorem dL_tells_99 : decode cL_tells 99 = .ok (.iaload, 1) := by decide +kernel
theorem dL_tells_100 : decode cL_tells 100 = .ok (.bipush 64, 2) := by decide +kernel
theorem dL_tells_102 : decode cL_tells 102 = .ok (.irem, 1) := by decide +kernel
theorem dL_tells_103 : decode cL_tells 103 = .ok (.iload 17, 2) := by decide +kernel
theorem dL_tells_105 : decode cL_tells 105 = .ok (.if_icmp .eq 7, 3) := by decide +kernel
theorem dL_tells_108 : decode cL_tells 108 = .ok (.iconst 1, 1) := by decide +kernel
theorem dL_tells_109 : decode cL_tells 109 = .ok (.goto 4, 3) := by decide +kernel
theorem dL_tells_112 : decode cL_tells 112 = .ok (.iconst 0, 1) := by decide +kernel
theorem dL_tells_113 : decode cL_tells 113 = .ok (.istore 18, 2) := by decide +kernel
theorem dL_tells_115 : decode cL_tells 115 = .ok (.iinc 19 1, 3) := by decide +kernel
theorem dL_tells_118 : decode cL_tells 118 = .ok (.goto (-37), 3) := by decide +kernel
theorem dL_tells_121 : decode cL_tells 121 = .ok (.iconst 0, 1) := by decide +kernel
theorem dL_tells_122 : decode cL_tells 122 = .ok (.istore 19, 2) := by decide +kernel
theorem dL_tells_124 : decode cL_tells 124 = .ok (.iload 19, 2) := by decide +kernel
theorem dL_tells_126 : decode cL_tells 126 = .ok (.aload 16, 2) := by decide +kernel
theorem dL_tells_128 : decode cL_tells 128 = .ok (.bipush 6, 2) := by decide +kernel
theorem dL_tells_130 : decode cL_tells 130 = .ok (.iaload, 1) := by decide +kernel
theorem dL_tells_131 : decode cL_tells 131 = .ok (.if_icmp .ge 34, 3) := by decide +kernel
theorem dL_tells_134 : decode cL_tells 134 = .ok (.iload 18, 2) := by decide +kernel
theorem dL_tells_136 : decode cL_tells 136 = .ok (.ifCond .eq 20, 3) := by decide +kernel
theorem dL_tells_139 : decode cL_tells 139 = .ok (.aload 16, 2) := by decide +kernel
theorem dL_tells_141 : decode cL_tells 141 = .ok (.bipush 14, 2) := by decide +kernel
theorem dL_tells_143 : decode cL_tells 143 = .ok (.iload 19, 2) := by decide +kernel
theorem dL_tells_145 : decode cL_tells 145 = .ok (.iadd, 1) := by decide +kernel
theorem dL_tells_146 : decode cL_tells 146 = .ok (.iaload, 1) := by decide +kernel
theorem dL_tells_147 : decode cL_tells 147 = .ok (.iload 17, 2) := by decide +kernel
theorem dL_tells_149 : decode cL_tells 149 = .ok (.if_icmp .eq 7, 3) := by decide +kernel
theorem dL_tells_152 : decode cL_tells 152 = .ok (.iconst 1, 1) := by decide +kernel
theorem dL_tells_153 : decode cL_tells 153 = .ok (.goto 4, 3) := by decide +kernel
theorem dL_tells_156 : decode cL_tells 156 = .ok (.iconst 0, 1) := by decide +kernel
theorem dL_tells_157 : decode cL_tells 157 = .ok (.istore 18, 2) := by decide +kernel
theorem dL_tells_159 : decode cL_tells 159 = .ok (.iinc 19 1, 3) := by decide +kernel
theorem dL_tells_162 : decode cL_tells 162 = .ok (.goto (-38), 3) := by decide +kernel
theorem dL_tells_165 : decode cL_tells 165 = .ok (.iconst 0, 1) := by decide +kernel
theorem dL_tells_166 : decode cL_tells 166 = .ok (.istore 19, 2) := by decide +kernel
theorem dL_tells_168 : decode cL_tells 168 = .ok (.iconst 0, 1) := by decide +kernel
theorem dL_tells_169 : decode cL_tells 169 = .ok (.istore 20, 2) := by decide +kernel
theorem dL_tells_171 : decode cL_tells 171 = .ok (.iload 20, 2) := by decide +kernel
theorem dL_tells_173 : decode cL_tells 173 = .ok (.bipush 60, 2) := by decide +kernel
theorem dL_tells_175 : decode cL_tells 175 = .ok (.if_icmp .ge 35, 3) := by decide +kernel
theorem dL_tells_178 : decode cL_tells 178 = .ok (.iload 19, 2) := by decide +kernel
theorem dL_tells_180 : decode cL_tells 180 = .ok (.aload_n 3, 1) := by decide +kernel
theorem dL_tells_181 : decode cL_tells 181 = .ok (.iload 20, 2) := by decide +kernel
theorem dL_tells_183 : decode cL_tells 183 = .ok (.iaload, 1) := by decide +kernel
theorem dL_tells_184 : decode cL_tells 184 = .ok (.bipush 7, 2) := by decide +kernel
theorem dL_tells_186 : decode cL_tells 186 = .ok (.if_icmp .gt 10, 3) := by decide +kernel
theorem dL_tells_189 : decode cL_tells 189 = .ok (.iload 20, 2) := by decide +kernel
theorem dL_tells_191 : decode cL_tells 191 = .ok (.iload 17, 2) := by decide +kernel
theorem dL_tells_193 : decode cL_tells 193 = .ok (.if_icmp .ne 7, 3) := by decide +kernel
theorem dL_tells_196 : decode cL_tells 196 = .ok (.iconst 1, 1) := by decide +kernel
theorem dL_tells_197 : decode cL_tells 197 = .ok (.goto 4, 3) := by decide +kernel
theorem dL_tells_200 : decode cL_tells 200 = .ok (.iconst 0, 1) := by decide +kernel
theorem dL_tells_201 : decode cL_tells 201 = .ok (.iadd, 1) := by decide +kernel
theorem dL_tells_202 : decode cL_tells 202 = .ok (.istore 19, 2) := by decide +kernel
theorem dL_tells_204 : decode cL_tells 204 = .ok (.iinc 20 1, 3) := by decide +kernel
theorem dL_tells_207 : decode cL_tells 207 = .ok (.goto (-36), 3) := by decide +kernel
theorem dL_tells_210 : decode cL_tells 210 = .ok (.iload 18, 2) := by decide +kernel
theorem dL_tells_212 : decode cL_tells 212 = .ok (.ifCond .eq 36, 3) := by decide +kernel
theorem dL_tells_215 : decode cL_tells 215 = .ok (.aload_n 3, 1) := by decide +kernel
theorem dL_tells_216 : decode cL_tells 216 = .ok (.iload 17, 2) := by decide +kernel
theorem dL_tells_218 : decode cL_tells 218 = .ok (.dup2, 1) := by decide +kernel
theorem dL_tells_219 : decode cL_tells 219 = .ok (.iaload, 1) := by decide +kernel
theorem dL_tells_220 : decode cL_tells 220 = .ok (.bipush 8, 2) := by decide +kernel
theorem dL_tells_222 : decode cL_tells 222 = .ok (.iadd, 1) := by decide +kernel
theorem dL_tells_223 : decode cL_tells 223 = .ok (.iastore, 1) := by decide +kernel
theorem dL_tells_224 : decode cL_tells 224 = .ok (.aload 4, 2) := by decide +kernel
theorem dL_tells_226 : decode cL_tells 226 = .ok (.iload 17, 2) := by decide +kernel
theorem dL_tells_228 : decode cL_tells 228 = .ok (.iconst 0, 1) := by decide +kernel
theorem dL_tells_229 : decode cL_tells 229 = .ok (.iastore, 1) := by decide +kernel
theorem dL_tells_230 : decode cL_tells 230 = .ok (.aload 5, 2) := by decide +kernel
theorem dL_tells_232 : decode cL_tells 232 = .ok (.iload 17, 2) := by decide +kernel
theorem dL_tells_234 : decode cL_tells 234 = .ok (.iconst 0, 1) := by decide +kernel
theorem dL_tells_235 : decode cL_tells 235 = .ok (.iastore, 1) := by decide +kernel
theorem dL_tells_236 : decode cL_tells 236 = .ok (.aload 6, 2) := by decide +kernel
theorem dL_tells_238 : decode cL_tells 238 = .ok (.iload 17, 2) := by decide +kernel
theorem dL_tells_240 : decode cL_tells 240 = .ok (.iconst 0, 1) := by decide +kernel
theorem dL_tells_241 : decode cL_tells 241 = .ok (.iastore, 1) := by decide +kernel
theorem dL_tells_242 : decode cL_tells 242 = .ok (.aload 7, 2) := by decide +kernel
theorem dL_tells_244 : decode cL_tells 244 = .ok (.iload 17, 2) := by decide +kernel
theorem dL_tells_246 : decode cL_tells 246 = .ok (.iconst 0, 1) := by decide +kernel
theorem dL_tells_247 : decode cL_tells 247 = .ok (.iastore, 1) := by decide +kernel
theorem dL_tells_248 : decode cL_tells 248 = .ok (.aload_n 0, 1) := by decide +kernel
theorem dL_tells_249 : decode cL_tells 249 = .ok (.iconst 0, 1) := by decide +kernel
theorem dL_tells_250 : decode cL_tells 250 = .ok (.iload 17, 2) := by decide +kernel
theorem dL_tells_252 : decode cL_tells 252 = .ok (.iconst 0, 1) := by decide +kernel
theorem dL_tells_253 : decode cL_tells 253 = .ok (.iconst 0, 1) := by decide +kernel
theorem dL_tells_254 : decode cL_tells 254 = .ok (.invokestatic 130, 3) := by decide +kernel
theorem dL_tells_257 : decode cL_tells 257 = .ok (.iload 18, 2) := by decide +kernel
theorem dL_tells_259 : decode cL_tells 259 = .ok (.ifCond .eq 8, 3) := by decide +kernel
theorem dL_tells_262 : decode cL_tells 262 = .ok (.iload 19, 2) := by decide +kernel
theorem dL_tells_264 : decode cL_tells 264 = .ok (.goto 5, 3) := by decide +kernel
theorem dL_tells_267 : decode cL_tells 267 = .ok (.ldc 50, 2) := by decide +kernel
theorem dL_tells_269 : decode cL_tells 269 = .ok (.if_icmp .ne 7, 3) := by decide +kernel
theorem dL_tells_272 : decode cL_tells 272 = .ok (.iconst 1, 1) := by decide +kernel
theorem dL_tells_273 : decode cL_tells 273 = .ok (.goto 4, 3) := by decide +kernel
theorem dL_tells_276 : decode cL_tells 276 = .ok (.iconst 0, 1) := by decide +kernel
theorem dL_tells_277 : decode cL_tells 277 = .ok (.ireturn, 1) := by decide +kernel
theorem dL_tells_278 : decode cL_tells 278 = .ok (.iload_n 1, 1) := by decide +kernel
theorem dL_tells_279 : decode cL_tells 279 = .ok (.iconst 1, 1) := by decide +kernel
theorem dL_tells_280 : decode cL_tells 280 = .ok (.if_icmp .ne 52, 3) := by decide +kernel
theorem dL_tells_283 : decode cL_tells 283 = .ok (.aload_n 3, 1) := by decide +kernel
theorem dL_tells_284 : decode cL_tells 284 = .ok (.iload 17, 2) := by decide +kernel
theorem dL_tells_286 : decode cL_tells 286 = .ok (.iaload, 1) := by decide +kernel
theorem dL_tells_287 : decode cL_tells 287 = .ok (.bipush 8, 2) := by decide +kernel
theorem dL_tells_289 : decode cL_tells 289 = .ok (.irem, 1) := by decide +kernel
theorem dL_tells_290 : decode cL_tells 290 = .ok (.istore 18, 2) := by decide +kernel
theorem dL_tells_292 : decode cL_tells 292 = .ok (.iload_n 2, 1) := by decide +kernel
theorem dL_tells_293 : decode cL_tells 293 = .ok (.iconst 4, 1) := by decide +kernel
theorem dL_tells_294 : decode cL_tells 294 = .ok (.ishr, 1) := by decide +kernel
theorem dL_tells_295 : decode cL_tells 295 = .ok (.iconst 5, 1) := by decide +kernel
theorem dL_tells_296 : decode cL_tells 296 = .ok (.invokestatic 29, 3) := by decide +kernel
theorem dL_tells_299 : decode cL_tells 299 = .ok (.istore 19, 2) := by decide +kernel
theorem dL_tells_301 : decode cL_tells 301 = .ok (.aload_n 3, 1) := by decide +kernel
theorem dL_tells_302 : decode cL_tells 302 = .ok (.iload 17, 2) := by decide +kernel
theorem dL_tells_304 : decode cL_tells 304 = .ok (.dup2, 1) := by decide +kernel
theorem dL_tells_305 : decode cL_tells 305 = .ok (.iaload, 1) := by decide +kernel
theorem dL_tells_306 : decode cL_tells 306 = .ok (.iload 19, 2) := by decide +kernel
theorem dL_tells_308 : decode cL_tells 308 = .ok (.iload 18, 2) := by decide +kernel
theorem dL_tells_310 : decode cL_tells 310 = .ok (.isub, 1) := by decide +kernel
theorem dL_tells_311 : decode cL_tells 311 = .ok (.iadd, 1) := by decide +kernel
theorem dL_tells_312 : decode cL_tells 312 = .ok (.iastore, 1) := by decide +kernel
theorem dL_tells_313 : decode cL_tells 313 = .ok (.aload_n 0, 1) := by decide +kernel
theorem dL_tells_314 : decode cL_tells 314 = .ok (.iload 17, 2) := by decide +kernel
theorem dL_tells_316 : decode cL_tells 316 = .ok (.iload 19, 2) := by decide +kernel
theorem dL_tells_318 : decode cL_tells 318 = .ok (.invokevirtual 134, 3) := by decide +kernel
theorem dL_tells_321 : decode cL_tells 321 = .ok (.iload 18, 2) := by decide +kernel
theorem dL_tells_323 : decode cL_tells 323 = .ok (.if_icmp .ne 7, 3) := by decide +kernel
theorem dL_tells_326 : decode cL_tells 326 = .ok (.iconst 1, 1) := by decide +kernel
theorem dL_tells_327 : decode cL_tells 327 = .ok (.goto 4, 3) := by decide +kernel
theorem dL_tells_330 : decode cL_tells 330 = .ok (.iconst 0, 1) := by decide +kernel
theorem dL_tells_331 : decode cL_tells 331 = .ok (.ireturn, 1) := by decide +kernel
theorem dL_tells_332 : decode cL_tells 332 = .ok (.iload_n 1, 1) := by decide +kernel
theorem dL_tells_333 : decode cL_tells 333 = .ok (.iconst 2, 1) := by decide +kernel
theorem dL_tells_334 : decode cL_tells 334 = .ok (.if_icmp .ne 64, 3) := by decide +kernel
theorem dL_tells_337 : decode cL_tells 337 = .ok (.iload 17, 2) := by decide +kernel
theorem dL_tells_339 : decode cL_tells 339 = .ok (.bipush 6, 2) := by decide +kernel
theorem dL_tells_341 : decode cL_tells 341 = .ok (.irem, 1) := by decide +kernel
theorem dL_tells_342 : decode cL_tells 342 = .ok (.istore 18, 2) := by decide +kernel
theorem dL_tells_344 : decode cL_tells 344 = .ok (.aload 16, 2) := by decide +kernel
theorem dL_tells_346 : decode cL_tells 346 = .ok (.bipush 8, 2) := by decide +kernel
theorem dL_tells_348 : decode cL_tells 348 = .ok (.iload 18, 2) := by decide +kernel
theorem dL_tells_350 : decode cL_tells 350 = .ok (.iadd, 1) := by decide +kernel
theorem dL_tells_351 : decode cL_tells 351 = .ok (.iaload, 1) := by decide +kernel
theorem dL_tells_352 : decode cL_tells 352 = .ok (.istore 19, 2) := by decide +kernel
theorem dL_tells_354 : decode cL_tells 354 = .ok (.aload 16, 2) := by decide +kernel
theorem dL_tells_356 : decode cL_tells 356 = .ok (.bipush 8, 2) := by decide +kernel
theorem dL_tells_358 : decode cL_tells 358 = .ok (.iload 18, 2) := by decide +kernel
theorem dL_tells_360 : decode cL_tells 360 = .ok (.iadd, 1) := by decide +kernel
theorem dL_tells_361 : decode cL_tells 361 = .ok (.iload_n 2, 1) := by decide +kernel
theorem dL_tells_362 : decode cL_tells 362 = .ok (.iconst 4, 1) := by decide +kernel
theorem dL_tells_363 : decode cL_tells 363 = .ok (.ishr, 1) := by decide +kernel
theorem dL_tells_364 : decode cL_tells 364 = .ok (.bipush 101, 2) := by decide +kernel
theorem dL_tells_366 : decode cL_tells 366 = .ok (.invokestatic 29, 3) := by decide +kernel
theorem dL_tells_369 : decode cL_tells 369 = .ok (.bipush 50, 2) := by decide +kernel
theorem dL_tells_371 : decode cL_tells 371 = .ok (.isub, 1) := by decide +kernel
theorem dL_tells_372 : decode cL_tells 372 = .ok (.iastore, 1) := by decide +kernel
theorem dL_tells_373 : decode cL_tells 373 = .ok (.aload_n 0, 1) := by decide +kernel
theorem dL_tells_374 : decode cL_tells 374 = .ok (.iload 18, 2) := by decide +kernel
theorem dL_tells_376 : decode cL_tells 376 = .ok (.aload 16, 2) := by decide +kernel
theorem dL_tells_378 : decode cL_tells 378 = .ok (.bipush 8, 2) := by decide +kernel
theorem dL_tells_380 : decode cL_tells 380 = .ok (.iload 18, 2) := by decide +kernel
theorem dL_tells_382 : decode cL_tells 382 = .ok (.iadd, 1) := by decide +kernel
theorem dL_tells_383 : decode cL_tells 383 = .ok (.iaload, 1) := by decide +kernel
theorem dL_tells_384 : decode cL_tells 384 = .ok (.invokevirtual 137, 3) := by decide +kernel
theorem dL_tells_387 : decode cL_tells 387 = .ok (.iload 19, 2) := by decide +kernel
theorem dL_tells_389 : decode cL_tells 389 = .ok (.if_icmp .ne 7, 3) := by decide +kernel
theorem dL_tells_392 : decode cL_tells 392 = .ok (.iconst 1, 1) := by decide +kernel
theorem dL_tells_393 : decode cL_tells 393 = .ok (.goto 4, 3) := by decide +kernel
theorem dL_tells_396 : decode cL_tells 396 = .ok (.iconst 0, 1) := by decide +kernel
theorem dL_tells_397 : decode cL_tells 397 = .ok (.ireturn, 1) := by decide +kernel
theorem dL_tells_398 : decode cL_tells 398 = .ok (.iload_n 1, 1) := by decide +kernel
theorem dL_tells_399 : decode cL_tells 399 = .ok (.iconst 3, 1) := by decide +kernel
theorem dL_tells_400 : decode cL_tells 400 = .ok (.if_icmp .ne 171, 3) := by decide +kernel
theorem dL_tells_403 : decode cL_tells 403 = .ok (.iconst 1, 1) := by decide +kernel
theorem dL_tells_404 : decode cL_tells 404 = .ok (.iload_n 2, 1) := by decide +kernel
theorem dL_tells_405 : decode cL_tells 405 = .ok (.iconst 4, 1) := by decide +kernel
theorem dL_tells_406 : decode cL_tells 406 = .ok (.ishr, 1) := by decide +kernel
theorem dL_tells_407 : decode cL_tells 407 = .ok (.iconst 4, 1) := by decide +kernel
theorem dL_tells_408 : decode cL_tells 408 = .ok (.invokestatic 29, 3) := by decide +kernel
theorem dL_tells_411 : decode cL_tells 411 = .ok (.iadd, 1) := by decide +kernel
theorem dL_tells_412 : decode cL_tells 412 = .ok (.istore 18, 2) := by decide +kernel
theorem dL_tells_414 : decode cL_tells 414 = .ok (.iconst 1, 1) := by decide +kernel
theorem dL_tells_415 : decode cL_tells 415 = .ok (.iload_n 2, 1) := by decide +kernel
theorem dL_tells_416 : decode cL_tells 416 = .ok (.bipush 6, 2) := by decide +kernel
theorem dL_tells_418 : decode cL_tells 418 = .ok (.ishr, 1) := by decide +kernel
theorem dL_tells_419 : decode cL_tells 419 = .ok (.iconst 3, 1) := by decide +kernel
theorem dL_tells_420 : decode cL_tells 420 = .ok (.invokestatic 29, 3) := by decide +kernel
theorem dL_tells_423 : decode cL_tells 423 = .ok (.iadd, 1) := by decide +kernel
theorem dL_tells_424 : decode cL_tells 424 = .ok (.istore 19, 2) := by decide +kernel
theorem dL_tells_426 : decode cL_tells 426 = .ok (.aload_n 3, 1) := by decide +kernel
theorem dL_tells_427 : decode cL_tells 427 = .ok (.iload 17, 2) := by decide +kernel
theorem dL_tells_429 : decode cL_tells 429 = .ok (.iaload, 1) := by decide +kernel
theorem dL_tells_430 : decode cL_tells 430 = .ok (.bipush 8, 2) := by decide +kernel
theorem dL_tells_432 : decode cL_tells 432 = .ok (.if_icmp .ge 16, 3) := by decide +kernel
theorem dL_tells_435 : decode cL_tells 435 = .ok (.aload 16, 2) := by decide +kernel
theorem dL_tells_437 : decode cL_tells 437 = .ok (.iconst 2, 1) := by decide +kernel
theorem dL_tells_438 : decode cL_tells 438 = .ok (.iaload, 1) := by decide +kernel
theorem dL_tells_439 : decode cL_tells 439 = .ok (.bipush 8, 2) := by decide +kernel
theorem dL_tells_441 : decode cL_tells 441 = .ok (.if_icmp .ge 7, 3) := by decide +kernel
theorem dL_tells_444 : decode cL_tells 444 = .ok (.iconst 1, 1) := by decide +kernel
theorem dL_tells_445 : decode cL_tells 445 = .ok (.goto 4, 3) := by decide +kernel
theorem dL_tells_448 : decode cL_tells 448 = .ok (.iconst 0, 1) := by decide +kernel
theorem dL_tells_449 : decode cL_tells 449 = .ok (.istore 20, 2) := by decide +kernel
theorem dL_tells_451 : decode cL_tells 451 = .ok (.iload 20, 2) := by decide +kernel
theorem dL_tells_453 : decode cL_tells 453 = .ok (.ifCond .eq 82, 3) := by decide +kernel
theorem dL_tells_456 : decode cL_tells 456 = .ok (.bipush 8, 2) := by decide +kernel
theorem dL_tells_458 : decode cL_tells 458 = .ok (.aload 16, 2) := by decide +kernel
theorem dL_tells_460 : decode cL_tells 460 = .ok (.iconst 2, 1) := by decide +kernel
theorem dL_tells_461 : decode cL_tells 461 = .ok (.iaload, 1) := by decide +kernel
theorem dL_tells_462 : decode cL_tells 462 = .ok (.imul, 1) := by decide +kernel
theorem dL_tells_463 : decode cL_tells 463 = .ok (.istore 21, 2) := by decide +kernel
theorem dL_tells_465 : decode cL_tells 465 = .ok (.aload 8, 2) := by decide +kernel
theorem dL_tells_467 : decode cL_tells 467 = .ok (.iload 21, 2) := by decide +kernel
theorem dL_tells_469 : decode cL_tells 469 = .ok (.iload 17, 2) := by decide +kernel
theorem dL_tells_471 : decode cL_tells 471 = .ok (.iastore, 1) := by decide +kernel
theorem dL_tells_472 : decode cL_tells 472 = .ok (.aload 8, 2) := by decide +kernel
theorem dL_tells_474 : decode cL_tells 474 = .ok (.iload 21, 2) := by decide +kernel
theorem dL_tells_476 : decode cL_tells 476 = .ok (.iconst 1, 1) := by decide +kernel
theorem dL_tells_477 : decode cL_tells 477 = .ok (.iadd, 1) := by decide +kernel
theorem dL_tells_478 : decode cL_tells 478 = .ok (.iload 18, 2) := by decide +kernel
theorem dL_tells_480 : decode cL_tells 480 = .ok (.iastore, 1) := by decide +kernel
theorem dL_tells_481 : decode cL_tells 481 = .ok (.aload 8, 2) := by decide +kernel
theorem dL_tells_483 : decode cL_tells 483 = .ok (.iload 21, 2) := by decide +kernel
theorem dL_tells_485 : decode cL_tells 485 = .ok (.iconst 2, 1) := by decide +kernel
theorem dL_tells_486 : decode cL_tells 486 = .ok (.iadd, 1) := by decide +kernel
theorem dL_tells_487 : decode cL_tells 487 = .ok (.iload 18, 2) := by decide +kernel
theorem dL_tells_489 : decode cL_tells 489 = .ok (.iastore, 1) := by decide +kernel
theorem dL_tells_490 : decode cL_tells 490 = .ok (.aload 8, 2) := by decide +kernel
theorem dL_tells_492 : decode cL_tells 492 = .ok (.iload 21, 2) := by decide +kernel
theorem dL_tells_494 : decode cL_tells 494 = .ok (.iconst 3, 1) := by decide +kernel
theorem dL_tells_495 : decode cL_tells 495 = .ok (.iadd, 1) := by decide +kernel
theorem dL_tells_496 : decode cL_tells 496 = .ok (.iload 19, 2) := by decide +kernel
theorem dL_tells_498 : decode cL_tells 498 = .ok (.iastore, 1) := by decide +kernel
theorem dL_tells_499 : decode cL_tells 499 = .ok (.aload 8, 2) := by decide +kernel
theorem dL_tells_501 : decode cL_tells 501 = .ok (.iload 21, 2) := by decide +kernel
theorem dL_tells_503 : decode cL_tells 503 = .ok (.iconst 4, 1) := by decide +kernel
theorem dL_tells_504 : decode cL_tells 504 = .ok (.iadd, 1) := by decide +kernel
theorem dL_tells_505 : decode cL_tells 505 = .ok (.iload 17, 2) := by decide +kernel
theorem dL_tells_507 : decode cL_tells 507 = .ok (.bipush 7, 2) := by decide +kernel
theorem dL_tells_509 : decode cL_tells 509 = .ok (.imul, 1) := by decide +kernel
theorem dL_tells_510 : decode cL_tells 510 = .ok (.iload 18, 2) := by decide +kernel
theorem dL_tells_512 : decode cL_tells 512 = .ok (.iconst 3, 1) := by decide +kernel
theorem dL_tells_513 : decode cL_tells 513 = .ok (.imul, 1) := by decide +kernel
theorem dL_tells_514 : decode cL_tells 514 = .ok (.iadd, 1) := by decide +kernel
theorem dL_tells_515 : decode cL_tells 515 = .ok (.iload 19, 2) := by decide +kernel
theorem dL_tells_517 : decode cL_tells 517 = .ok (.iadd, 1) := by decide +kernel
theorem dL_tells_518 : decode cL_tells 518 = .ok (.bipush 101, 2) := by decide +kernel
theorem dL_tells_520 : decode cL_tells 520 = .ok (.invokestatic 29, 3) := by decide +kernel
theorem dL_tells_523 : decode cL_tells 523 = .ok (.bipush 50, 2) := by decide +kernel
theorem dL_tells_525 : decode cL_tells 525 = .ok (.isub, 1) := by decide +kernel
theorem dL_tells_526 : decode cL_tells 526 = .ok (.iastore, 1) := by decide +kernel
theorem dL_tells_527 : decode cL_tells 527 = .ok (.aload 16, 2) := by decide +kernel
theorem dL_tells_529 : decode cL_tells 529 = .ok (.iconst 2, 1) := by decide +kernel
theorem dL_tells_530 : decode cL_tells 530 = .ok (.dup2, 1) := by decide +kernel
theorem dL_tells_531 : decode cL_tells 531 = .ok (.iaload, 1) := by decide +kernel
theorem dL_tells_532 : decode cL_tells 532 = .ok (.iconst 1, 1) := by decide +kernel
theorem dL_tells_533 : decode cL_tells 533 = .ok (.iadd, 1) := by decide +kernel
theorem dL_tells_534 : decode cL_tells 534 = .ok (.iastore, 1) := by decide +kernel
theorem dL_tells_535 : decode cL_tells 535 = .ok (.aload_n 0, 1) := by decide +kernel
theorem dL_tells_536 : decode cL_tells 536 = .ok (.iconst 5, 1) := by decide +kernel
theorem dL_tells_537 : decode cL_tells 537 = .ok (.iload 17, 2) := by decide +kernel
theorem dL_tells_539 : decode cL_tells 539 = .ok (.iload 18, 2) := by decide +kernel
theorem dL_tells_541 : decode cL_tells 541 = .ok (.iload 19, 2) := by decide +kernel
theorem dL_tells_543 : decode cL_tells 543 = .ok (.invokestatic 130, 3) := by decide +kernel
theorem dL_tells_546 : decode cL_tells 546 = .ok (.iload 20, 2) := by decide +kernel
theorem dL_tells_548 : decode cL_tells 548 = .ok (.ifCond .eq 12, 3) := by decide +kernel
theorem dL_tells_551 : decode cL_tells 551 = .ok (.aload 16, 2) := by decide +kernel
theorem dL_tells_553 : decode cL_tells 553 = .ok (.iconst 2, 1) := by decide +kernel
theorem dL_tells_554 : decode cL_tells 554 = .ok (.iaload, 1) := by decide +kernel
theorem dL_tells_555 : decode cL_tells 555 = .ok (.iconst 1, 1) := by decide +kernel
theorem dL_tells_556 : decode cL_tells 556 = .ok (.isub, 1) := by decide +kernel
theorem dL_tells_557 : decode cL_tells 557 = .ok (.goto 5, 3) := by decide +kernel
theorem dL_tells_560 : decode cL_tells 560 = .ok (.ldc 50, 2) := by decide +kernel
theorem dL_tells_562 : decode cL_tells 562 = .ok (.if_icmp .ne 7, 3) := by decide +kernel
theorem dL_tells_565 : decode cL_tells 565 = .ok (.iconst 1, 1) := by decide +kernel
theorem dL_tells_566 : decode cL_tells 566 = .ok (.goto 4, 3) := by decide +kernel
theorem dL_tells_569 : decode cL_tells 569 = .ok (.iconst 0, 1) := by decide +kernel
theorem dL_tells_570 : decode cL_tells 570 = .ok (.ireturn, 1) := by decide +kernel
theorem dL_tells_571 : decode cL_tells 571 = .ok (.iload_n 1, 1) := by decide +kernel
theorem dL_tells_572 : decode cL_tells 572 = .ok (.iconst 4, 1) := by decide +kernel
theorem dL_tells_573 : decode cL_tells 573 = .ok (.if_icmp .ne 192, 3) := by decide +kernel
theorem dL_tells_576 : decode cL_tells 576 = .ok (.aload 16, 2) := by decide +kernel
theorem dL_tells_578 : decode cL_tells 578 = .ok (.iconst 2, 1) := by decide +kernel
theorem dL_tells_579 : decode cL_tells 579 = .ok (.iaload, 1) := by decide +kernel
theorem dL_tells_580 : decode cL_tells 580 = .ok (.ifCond .le 32, 3) := by decide +kernel
theorem dL_tells_583 : decode cL_tells 583 = .ok (.iload_n 2, 1) := by decide +kernel
theorem dL_tells_584 : decode cL_tells 584 = .ok (.iconst 3, 1) := by decide +kernel
theorem dL_tells_585 : decode cL_tells 585 = .ok (.ishr, 1) := by decide +kernel
theorem dL_tells_586 : decode cL_tells 586 = .ok (.iconst 4, 1) := by decide +kernel
theorem dL_tells_587 : decode cL_tells 587 = .ok (.invokestatic 29, 3) := by decide +kernel
theorem dL_tells_590 : decode cL_tells 590 = .ok (.ifCond .le 22, 3) := by decide +kernel
theorem dL_tells_593 : decode cL_tells 593 = .ok (.aload 8, 2) := by decide +kernel
theorem dL_tells_595 : decode cL_tells 595 = .ok (.bipush 8, 2) := by decide +kernel
theorem dL_tells_597 : decode cL_tells 597 = .ok (.iload_n 2, 1) := by decide +kernel
theorem dL_tells_598 : decode cL_tells 598 = .ok (.iconst 4, 1) := by decide +kernel
theorem dL_tells_599 : decode cL_tells 599 = .ok (.ishr, 1) := by decide +kernel
theorem dL_tells_600 : decode cL_tells 600 = .ok (.aload 16, 2) := by decide +kernel
theorem dL_tells_602 : decode cL_tells 602 = .ok (.iconst 2, 1) := by decide +kernel
theorem dL_tells_603 : decode cL_tells 603 = .ok (.iaload, 1) := by decide +kernel
theorem dL_tells_604 : decode cL_tells 604 = .ok (.invokestatic 29, 3) := by decide +kernel
theorem dL_tells_607 : decode cL_tells 607 = .ok (.imul, 1) := by decide +kernel
theorem dL_tells_608 : decode cL_tells 608 = .ok (.iaload, 1) := by decide +kernel
theorem dL_tells_609 : decode cL_tells 609 = .ok (.goto 5, 3) := by decide +kernel
theorem dL_tells_612 : decode cL_tells 612 = .ok (.iload 17, 2) := by decide +kernel
theorem dL_tells_614 : decode cL_tells 614 = .ok (.istore 17, 2) := by decide +kernel
theorem dL_tells_616 : decode cL_tells 616 = .ok (.aload 16, 2) := by decide +kernel
theorem dL_tells_618 : decode cL_tells 618 = .ok (.iconst 0, 1) := by decide +kernel
theorem dL_tells_619 : decode cL_tells 619 = .ok (.iaload, 1) := by decide +kernel
theorem dL_tells_620 : decode cL_tells 620 = .ok (.iconst 1, 1) := by decide +kernel
theorem dL_tells_621 : decode cL_tells 621 = .ok (.iadd, 1) := by decide +kernel
theorem dL_tells_622 : decode cL_tells 622 = .ok (.iload_n 2, 1) := by decide +kernel
theorem dL_tells_623 : decode cL_tells 623 = .ok (.iconst 5, 1) := by decide +kernel
theorem dL_tells_624 : decode cL_tells 624 = .ok (.ishr, 1) := by decide +kernel
theorem dL_tells_625 : decode cL_tells 625 = .ok (.bipush 6, 2) := by decide +kernel
theorem dL_tells_627 : decode cL_tells 627 = .ok (.invokestatic 29, 3) := by decide +kernel
theorem dL_tells_630 : decode cL_tells 630 = .ok (.iadd, 1) := by decide +kernel
theorem dL_tells_631 : decode cL_tells 631 = .ok (.istore 18, 2) := by decide +kernel
theorem dL_tells_633 : decode cL_tells 633 = .ok (.aload_n 3, 1) := by decide +kernel
theorem dL_tells_634 : decode cL_tells 634 = .ok (.iload 17, 2) := by decide +kernel
theorem dL_tells_636 : decode cL_tells 636 = .ok (.iaload, 1) := by decide +kernel
theorem dL_tells_637 : decode cL_tells 637 = .ok (.bipush 8, 2) := by decide +kernel
theorem dL_tells_639 : decode cL_tells 639 = .ok (.if_icmp .ge 16, 3) := by decide +kernel
theorem dL_tells_642 : decode cL_tells 642 = .ok (.aload 16, 2) := by decide +kernel
theorem dL_tells_644 : decode cL_tells 644 = .ok (.iconst 3, 1) := by decide +kernel
theorem dL_tells_645 : decode cL_tells 645 = .ok (.iaload, 1) := by decide +kernel
theorem dL_tells_646 : decode cL_tells 646 = .ok (.bipush 30, 2) := by decide +kernel
theorem dL_tells_648 : decode cL_tells 648 = .ok (.if_icmp .ge 7, 3) := by decide +kernel
theorem dL_tells_651 : decode cL_tells 651 = .ok (.iconst 1, 1) := by decide +kernel
theorem dL_tells_652 : decode cL_tells 652 = .ok (.goto 4, 3) := by decide +kernel
theorem dL_tells_655 : decode cL_tells 655 = .ok (.iconst 0, 1) := by decide +kernel
theorem dL_tells_656 : decode cL_tells 656 = .ok (.istore 19, 2) := by decide +kernel
theorem dL_tells_658 : decode cL_tells 658 = .ok (.iconst 0, 1) := by decide +kernel
theorem dL_tells_659 : decode cL_tells 659 = .ok (.istore 20, 2) := by decide +kernel
theorem dL_tells_661 : decode cL_tells 661 = .ok (.iload 20, 2) := by decide +kernel
theorem dL_tells_663 : decode cL_tells 663 = .ok (.aload 16, 2) := by decide +kernel
theorem dL_tells_665 : decode cL_tells 665 = .ok (.iconst 3, 1) := by decide +kernel
theorem dL_tells_666 : decode cL_tells 666 = .ok (.iaload, 1) := by decide +kernel
theorem dL_tells_667 : decode cL_tells 667 = .ok (.if_icmp .ge 37, 3) := by decide +kernel
theorem dL_tells_670 : decode cL_tells 670 = .ok (.iload 19, 2) := by decide +kernel
theorem dL_tells_672 : decode cL_tells 672 = .ok (.ifCond .eq 23, 3) := by decide +kernel
theorem dL_tells_675 : decode cL_tells 675 = .ok (.aload 9, 2) := by decide +kernel
theorem dL_tells_677 : decode cL_tells 677 = .ok (.iload 20, 2) := by decide +kernel
theorem dL_tells_679 : decode cL_tells 679 = .ok (.iaload, 1) := by decide +kernel
theorem dL_tells_680 : decode cL_tells 680 = .ok (.bipush 64, 2) := by decide +kernel
theorem dL_tells_682 : decode cL_tells 682 = .ok (.iload 18, 2) := by decide +kernel
theorem dL_tells_684 : decode cL_tells 684 = .ok (.imul, 1) := by decide +kernel
theorem dL_tells_685 : decode cL_tells 685 = .ok (.iload 17, 2) := by decide +kernel
theorem dL_tells_687 : decode cL_tells 687 = .ok (.iadd, 1) := by decide +kernel
theorem dL_tells_688 : decode cL_tells 688 = .ok (.if_icmp .eq 7, 3) := by decide +kernel
theorem dL_tells_691 : decode cL_tells 691 = .ok (.iconst 1, 1) := by decide +kernel
theorem dL_tells_692 : decode cL_tells 692 = .ok (.goto 4, 3) := by decide +kernel
theorem dL_tells_695 : decode cL_tells 695 = .ok (.iconst 0, 1) := by decide +kernel
theorem dL_tells_696 : decode cL_tells 696 = .ok (.istore 19, 2) := by decide +kernel
theorem dL_tells_698 : decode cL_tells 698 = .ok (.iinc 20 1, 3) := by decide +kernel
theorem dL_tells_701 : decode cL_tells 701 = .ok (.goto (-40), 3) := by decide +kernel
theorem dL_tells_704 : decode cL_tells 704 = .ok (.iload 19, 2) := by decide +kernel
theorem dL_tells_706 : decode cL_tells 706 = .ok (.ifCond .eq 26, 3) := by decide +kernel
theorem dL_tells_709 : decode cL_tells 709 = .ok (.aload 9, 2) := by decide +kernel
theorem dL_tells_711 : decode cL_tells 711 = .ok (.aload 16, 2) := by decide +kernel
theorem dL_tells_713 : decode cL_tells 713 = .ok (.iconst 3, 1) := by decide +kernel
theorem dL_tells_714 : decode cL_tells 714 = .ok (.iaload, 1) := by decide +kernel
theorem dL_tells_715 : decode cL_tells 715 = .ok (.bipush 64, 2) := by decide +kernel
theorem dL_tells_717 : decode cL_tells 717 = .ok (.iload 18, 2) := by decide +kernel
theorem dL_tells_719 : decode cL_tells 719 = .ok (.imul, 1) := by decide +kernel
theorem dL_tells_720 : decode cL_tells 720 = .ok (.iload 17, 2) := by decide +kernel
theorem dL_tells_722 : decode cL_tells 722 = .ok (.iadd, 1) := by decide +kernel
theorem dL_tells_723 : decode cL_tells 723 = .ok (.iastore, 1) := by decide +kernel
theorem dL_tells_724 : decode cL_tells 724 = .ok (.aload 16, 2) := by decide +kernel
theorem dL_tells_726 : decode cL_tells 726 = .ok (.iconst 3, 1) := by decide +kernel
theorem dL_tells_727 : decode cL_tells 727 = .ok (.dup2, 1) := by decide +kernel
theorem dL_tells_728 : decode cL_tells 728 = .ok (.iaload, 1) := by decide +kernel
theorem dL_tells_729 : decode cL_tells 729 = .ok (.iconst 1, 1) := by decide +kernel
theorem dL_tells_730 : decode cL_tells 730 = .ok (.iadd, 1) := by decide +kernel
theorem dL_tells_731 : decode cL_tells 731 = .ok (.iastore, 1) := by decide +kernel
theorem dL_tells_732 : decode cL_tells 732 = .ok (.aload_n 0, 1) := by decide +kernel
theorem dL_tells_733 : decode cL_tells 733 = .ok (.iconst 1, 1) := by decide +kernel
theorem dL_tells_734 : decode cL_tells 734 = .ok (.iload 18, 2) := by decide +kernel
theorem dL_tells_736 : decode cL_tells 736 = .ok (.iload 17, 2) := by decide +kernel
theorem dL_tells_738 : decode cL_tells 738 = .ok (.iconst 0, 1) := by decide +kernel
theorem dL_tells_739 : decode cL_tells 739 = .ok (.invokestatic 130, 3) := by decide +kernel
theorem dL_tells_742 : decode cL_tells 742 = .ok (.iload 19, 2) := by decide +kernel
theorem dL_tells_744 : decode cL_tells 744 = .ok (.ifCond .eq 10, 3) := by decide +kernel
theorem dL_tells_747 : decode cL_tells 747 = .ok (.aload 16, 2) := by decide +kernel
theorem dL_tells_749 : decode cL_tells 749 = .ok (.iconst 3, 1) := by decide +kernel
theorem dL_tells_750 : decode cL_tells 750 = .ok (.iaload, 1) := by decide +kernel
theorem dL_tells_751 : decode cL_tells 751 = .ok (.goto 5, 3) := by decide +kernel
theorem dL_tells_754 : decode cL_tells 754 = .ok (.ldc 50, 2) := by decide +kernel
theorem dL_tells_756 : decode cL_tells 756 = .ok (.if_icmp .ne 7, 3) := by decide +kernel
theorem dL_tells_759 : decode cL_tells 759 = .ok (.iconst 1, 1) := by decide +kernel
theorem dL_tells_760 : decode cL_tells 760 = .ok (.goto 4, 3) := by decide +kernel
theorem dL_tells_763 : decode cL_tells 763 = .ok (.iconst 0, 1) := by decide +kernel
theorem dL_tells_764 : decode cL_tells 764 = .ok (.ireturn, 1) := by decide +kernel
theorem dL_tells_765 : decode cL_tells 765 = .ok (.iload_n 1, 1) := by decide +kernel
theorem dL_tells_766 : decode cL_tells 766 = .ok (.iconst 5, 1) := by decide +kernel
theorem dL_tells_767 : decode cL_tells 767 = .ok (.if_icmp .ne 188, 3) := by decide +kernel
theorem dL_tells_770 : decode cL_tells 770 = .ok (.aload 16, 2) := by decide +kernel
theorem dL_tells_772 : decode cL_tells 772 = .ok (.iconst 0, 1) := by decide +kernel
theorem dL_tells_773 : decode cL_tells 773 = .ok (.iaload, 1) := by decide +kernel
theorem dL_tells_774 : decode cL_tells 774 = .ok (.iconst 1, 1) := by decide +kernel
theorem dL_tells_775 : decode cL_tells 775 = .ok (.iadd, 1) := by decide +kernel
theorem dL_tells_776 : decode cL_tells 776 = .ok (.iload_n 2, 1) := by decide +kernel
theorem dL_tells_777 : decode cL_tells 777 = .ok (.iconst 2, 1) := by decide +kernel
theorem dL_tells_778 : decode cL_tells 778 = .ok (.ishr, 1) := by decide +kernel
theorem dL_tells_779 : decode cL_tells 779 = .ok (.bipush 8, 2) := by decide +kernel
theorem dL_tells_781 : decode cL_tells 781 = .ok (.invokestatic 29, 3) := by decide +kernel
theorem dL_tells_784 : decode cL_tells 784 = .ok (.iadd, 1) := by decide +kernel
theorem dL_tells_785 : decode cL_tells 785 = .ok (.istore 18, 2) := by decide +kernel
theorem dL_tells_787 : decode cL_tells 787 = .ok (.iload 18, 2) := by decide +kernel
theorem dL_tells_789 : decode cL_tells 789 = .ok (.iload_n 2, 1) := by decide +kernel
theorem dL_tells_790 : decode cL_tells 790 = .ok (.iconst 5, 1) := by decide +kernel
theorem dL_tells_791 : decode cL_tells 791 = .ok (.ishr, 1) := by decide +kernel
theorem dL_tells_792 : decode cL_tells 792 = .ok (.iconst 4, 1) := by decide +kernel
theorem dL_tells_793 : decode cL_tells 793 = .ok (.invokestatic 29, 3) := by decide +kernel
theorem dL_tells_796 : decode cL_tells 796 = .ok (.iadd, 1) := by decide +kernel
theorem dL_tells_797 : decode cL_tells 797 = .ok (.istore 19, 2) := by decide +kernel
theorem dL_tells_799 : decode cL_tells 799 = .ok (.iconst 0, 1) := by decide +kernel
theorem dL_tells_800 : decode cL_tells 800 = .ok (.istore 20, 2) := by decide +kernel
theorem dL_tells_802 : decode cL_tells 802 = .ok (.iconst 0, 1) := by decide +kernel
theorem dL_tells_803 : decode cL_tells 803 = .ok (.istore 21, 2) := by decide +kernel
theorem dL_tells_805 : decode cL_tells 805 = .ok (.iload 21, 2) := by decide +kernel
theorem dL_tells_807 : decode cL_tells 807 = .ok (.aload 16, 2) := by decide +kernel
theorem dL_tells_809 : decode cL_tells 809 = .ok (.iconst 3, 1) := by decide +kernel
theorem dL_tells_810 : decode cL_tells 810 = .ok (.iaload, 1) := by decide +kernel
theorem dL_tells_811 : decode cL_tells 811 = .ok (.if_icmp .ge 63, 3) := by decide +kernel
theorem dL_tells_814 : decode cL_tells 814 = .ok (.iload 20, 2) := by decide +kernel
theorem dL_tells_816 : decode cL_tells 816 = .ok (.aload 9, 2) := by decide +kernel
theorem dL_tells_818 : decode cL_tells 818 = .ok (.iload 21, 2) := by decide +kernel
theorem dL_tells_820 : decode cL_tells 820 = .ok (.iaload, 1) := by decide +kernel
theorem dL_tells_821 : decode cL_tells 821 = .ok (.bipush 64, 2) := by decide +kernel
theorem dL_tells_823 : decode cL_tells 823 = .ok (.idiv, 1) := by decide +kernel
theorem dL_tells_824 : decode cL_tells 824 = .ok (.iload 18, 2) := by decide +kernel
theorem dL_tells_826 : decode cL_tells 826 = .ok (.if_icmp .lt 38, 3) := by decide +kernel
theorem dL_tells_829 : decode cL_tells 829 = .ok (.aload 9, 2) := by decide +kernel
theorem dL_tells_831 : decode cL_tells 831 = .ok (.iload 21, 2) := by decide +kernel
theorem dL_tells_833 : decode cL_tells 833 = .ok (.iaload, 1) := by decide +kernel
theorem dL_tells_834 : decode cL_tells 834 = .ok (.bipush 64, 2) := by decide +kernel
theorem dL_tells_836 : decode cL_tells 836 = .ok (.idiv, 1) := by decide +kernel
theorem dL_tells_837 : decode cL_tells 837 = .ok (.iload 19, 2) := by decide +kernel
theorem dL_tells_839 : decode cL_tells 839 = .ok (.if_icmp .gt 25, 3) := by decide +kernel
theorem dL_tells_842 : decode cL_tells 842 = .ok (.aload 9, 2) := by decide +kernel
theorem dL_tells_844 : decode cL_tells 844 = .ok (.iload 21, 2) := by decide +kernel
theorem dL_tells_846 : decode cL_tells 846 = .ok (.iaload, 1) := by decide +kernel
theorem dL_tells_847 : decode cL_tells 847 = .ok (.bipush 64, 2) := by decide +kernel
theorem dL_tells_849 : decode cL_tells 849 = .ok (.idiv, 1) := by decide +kernel
theorem dL_tells_850 : decode cL_tells 850 = .ok (.aload 10, 2) := by decide +kernel
theorem dL_tells_852 : decode cL_tells 852 = .ok (.aload 16, 2) := by decide +kernel
theorem dL_tells_854 : decode cL_tells 854 = .ok (.invokestatic 74, 3) := by decide +kernel
theorem dL_tells_857 : decode cL_tells 857 = .ok (.ifCond .ne 7, 3) := by decide +kernel
theorem dL_tells_860 : decode cL_tells 860 = .ok (.iconst 1, 1) := by decide +kernel
theorem dL_tells_861 : decode cL_tells 861 = .ok (.goto 4, 3) := by decide +kernel
theorem dL_tells_864 : decode cL_tells 864 = .ok (.iconst 0, 1) := by decide +kernel
theorem dL_tells_865 : decode cL_tells 865 = .ok (.iadd, 1) := by decide +kernel
theorem dL_tells_866 : decode cL_tells 866 = .ok (.istore 20, 2) := by decide +kernel
theorem dL_tells_868 : decode cL_tells 868 = .ok (.iinc 21 1, 3) := by decide +kernel
theorem dL_tells_871 : decode cL_tells 871 = .ok (.goto (-66), 3) := by decide +kernel
theorem dL_tells_874 : decode cL_tells 874 = .ok (.aload 16, 2) := by decide +kernel
theorem dL_tells_876 : decode cL_tells 876 = .ok (.iconst 4, 1) := by decide +kernel
theorem dL_tells_877 : decode cL_tells 877 = .ok (.iaload, 1) := by decide +kernel
theorem dL_tells_878 : decode cL_tells 878 = .ok (.bipush 20, 2) := by decide +kernel
theorem dL_tells_880 : decode cL_tells 880 = .ok (.if_icmp .ge 54, 3) := by decide +kernel
theorem dL_tells_883 : decode cL_tells 883 = .ok (.aload 10, 2) := by decide +kernel
theorem dL_tells_885 : decode cL_tells 885 = .ok (.iconst 2, 1) := by decide +kernel
theorem dL_tells_886 : decode cL_tells 886 = .ok (.aload 16, 2) := by decide +kernel
theorem dL_tells_888 : decode cL_tells 888 = .ok (.iconst 4, 1) := by decide +kernel
theorem dL_tells_889 : decode cL_tells 889 = .ok (.iaload, 1) := by decide +kernel
theorem dL_tells_890 : decode cL_tells 890 = .ok (.imul, 1) := by decide +kernel
theorem dL_tells_891 : decode cL_tells 891 = .ok (.iload 18, 2) := by decide +kernel
theorem dL_tells_893 : decode cL_tells 893 = .ok (.iastore, 1) := by decide +kernel
theorem dL_tells_894 : decode cL_tells 894 = .ok (.aload 10, 2) := by decide +kernel
theorem dL_tells_896 : decode cL_tells 896 = .ok (.iconst 2, 1) := by decide +kernel
theorem dL_tells_897 : decode cL_tells 897 = .ok (.aload 16, 2) := by decide +kernel
theorem dL_tells_899 : decode cL_tells 899 = .ok (.iconst 4, 1) := by decide +kernel
theorem dL_tells_900 : decode cL_tells 900 = .ok (.iaload, 1) := by decide +kernel
theorem dL_tells_901 : decode cL_tells 901 = .ok (.imul, 1) := by decide +kernel
theorem dL_tells_902 : decode cL_tells 902 = .ok (.iconst 1, 1) := by decide +kernel
theorem dL_tells_903 : decode cL_tells 903 = .ok (.iadd, 1) := by decide +kernel
theorem dL_tells_904 : decode cL_tells 904 = .ok (.iload 19, 2) := by decide +kernel
theorem dL_tells_906 : decode cL_tells 906 = .ok (.iastore, 1) := by decide +kernel
theorem dL_tells_907 : decode cL_tells 907 = .ok (.aload 16, 2) := by decide +kernel
theorem dL_tells_909 : decode cL_tells 909 = .ok (.iconst 4, 1) := by decide +kernel
theorem dL_tells_910 : decode cL_tells 910 = .ok (.dup2, 1) := by decide +kernel
theorem dL_tells_911 : decode cL_tells 911 = .ok (.iaload, 1) := by decide +kernel
theorem dL_tells_912 : decode cL_tells 912 = .ok (.iconst 1, 1) := by decide +kernel
theorem dL_tells_913 : decode cL_tells 913 = .ok (.iadd, 1) := by decide +kernel
theorem dL_tells_914 : decode cL_tells 914 = .ok (.iastore, 1) := by decide +kernel
theorem dL_tells_915 : decode cL_tells 915 = .ok (.aload_n 0, 1) := by decide +kernel
theorem dL_tells_916 : decode cL_tells 916 = .ok (.iload 18, 2) := by decide +kernel
theorem dL_tells_918 : decode cL_tells 918 = .ok (.iload 19, 2) := by decide +kernel
theorem dL_tells_920 : decode cL_tells 920 = .ok (.invokevirtual 20, 3) := by decide +kernel
theorem dL_tells_923 : decode cL_tells 923 = .ok (.iload 20, 2) := by decide +kernel
theorem dL_tells_925 : decode cL_tells 925 = .ok (.if_icmp .ne 7, 3) := by decide +kernel
theorem dL_tells_928 : decode cL_tells 928 = .ok (.iconst 1, 1) := by decide +kernel
theorem dL_tells_929 : decode cL_tells 929 = .ok (.goto 4, 3) := by decide +kernel
theorem dL_tells_932 : decode cL_tells 932 = .ok (.iconst 0, 1) := by decide +kernel
theorem dL_tells_933 : decode cL_tells 933 = .ok (.ireturn, 1) := by decide +kernel
theorem dL_tells_934 : decode cL_tells 934 = .ok (.aload_n 0, 1) := by decide +kernel
theorem dL_tells_935 : decode cL_tells 935 = .ok (.iconst 2, 1) := by decide +kernel
theorem dL_tells_936 : decode cL_tells 936 = .ok (.iload 18, 2) := by decide +kernel
theorem dL_tells_938 : decode cL_tells 938 = .ok (.iload 19, 2) := by decide +kernel
theorem dL_tells_940 : decode cL_tells 940 = .ok (.iconst 0, 1) := by decide +kernel
theorem dL_tells_941 : decode cL_tells 941 = .ok (.invokestatic 130, 3) := by decide +kernel
theorem dL_tells_944 : decode cL_tells 944 = .ok (.ldc 50, 2) := by decide +kernel
theorem dL_tells_946 : decode cL_tells 946 = .ok (.if_icmp .ne 7, 3) := by decide +kernel
theorem dL_tells_949 : decode cL_tells 949 = .ok (.iconst 1, 1) := by decide +kernel
theorem dL_tells_950 : decode cL_tells 950 = .ok (.goto 4, 3) := by decide +kernel
theorem dL_tells_953 : decode cL_tells 953 = .ok (.iconst 0, 1) := by decide +kernel
theorem dL_tells_954 : decode cL_tells 954 = .ok (.ireturn, 1) := by decide +kernel
theorem dL_tells_955 : decode cL_tells 955 = .ok (.iload_n 1, 1) := by decide +kernel
theorem dL_tells_956 : decode cL_tells 956 = .ok (.bipush 6, 2) := by decide +kernel
theorem dL_tells_958 : decode cL_tells 958 = .ok (.if_icmp .ne 168, 3) := by decide +kernel
theorem dL_tells_961 : decode cL_tells 961 = .ok (.aload 16, 2) := by decide +kernel
theorem dL_tells_963 : decode cL_tells 963 = .ok (.bipush 6, 2) := by decide +kernel
theorem dL_tells_965 : decode cL_tells 965 = .ok (.iaload, 1) := by decide +kernel
theorem dL_tells_966 : decode cL_tells 966 = .ok (.iconst 2, 1) := by decide +kernel
theorem dL_tells_967 : decode cL_tells 967 = .ok (.if_icmp .ne 32, 3) := by decide +kernel
theorem dL_tells_970 : decode cL_tells 970 = .ok (.aload_n 3, 1) := by decide +kernel
theorem dL_tells_971 : decode cL_tells 971 = .ok (.iload 17, 2) := by decide +kernel
theorem dL_tells_973 : decode cL_tells 973 = .ok (.iaload, 1) := by decide +kernel
theorem dL_tells_974 : decode cL_tells 974 = .ok (.bipush 8, 2) := by decide +kernel
theorem dL_tells_976 : decode cL_tells 976 = .ok (.if_icmp .lt 17, 3) := by decide +kernel
theorem dL_tells_979 : decode cL_tells 979 = .ok (.aload_n 0, 1) := by decide +kernel
theorem dL_tells_980 : decode cL_tells 980 = .ok (.iconst 4, 1) := by decide +kernel
theorem dL_tells_981 : decode cL_tells 981 = .ok (.iload 17, 2) := by decide +kernel
theorem dL_tells_983 : decode cL_tells 983 = .ok (.iconst 0, 1) := by decide +kernel
theorem dL_tells_984 : decode cL_tells 984 = .ok (.iconst 0, 1) := by decide +kernel
theorem dL_tells_985 : decode cL_tells 985 = .ok (.invokestatic 130, 3) := by decide +kernel
theorem dL_tells_988 : decode cL_tells 988 = .ok (.ldc 50, 2) := by decide +kernel
theorem dL_tells_990 : decode cL_tells 990 = .ok (.if_icmp .ne 7, 3) := by decide +kernel
theorem dL_tells_993 : decode cL_tells 993 = .ok (.iconst 1, 1) := by decide +kernel
theorem dL_tells_994 : decode cL_tells 994 = .ok (.goto 4, 3) := by decide +kernel
theorem dL_tells_997 : decode cL_tells 997 = .ok (.iconst 0, 1) := by decide +kernel
theorem dL_tells_998 : decode cL_tells 998 = .ok (.ireturn, 1) := by decide +kernel
theorem dL_tells_999 : decode cL_tells 999 = .ok (.aload_n 3, 1) := by decide +kernel
theorem dL_tells_1000 : decode cL_tells 1000 = .ok (.iload 17, 2) := by decide +kernel
theorem dL_tells_1002 : decode cL_tells 1002 = .ok (.iaload, 1) := by decide +kernel
theorem dL_tells_1003 : decode cL_tells 1003 = .ok (.bipush 8, 2) := by decide +kernel
theorem dL_tells_1005 : decode cL_tells 1005 = .ok (.if_icmp .ge 7, 3) := by decide +kernel
theorem dL_tells_1008 : decode cL_tells 1008 = .ok (.iconst 1, 1) := by decide +kernel
theorem dL_tells_1009 : decode cL_tells 1009 = .ok (.goto 4, 3) := by decide +kernel
theorem dL_tells_1012 : decode cL_tells 1012 = .ok (.iconst 0, 1) := by decide +kernel
theorem dL_tells_1013 : decode cL_tells 1013 = .ok (.istore 18, 2) := by decide +kernel
theorem dL_tells_1015 : decode cL_tells 1015 = .ok (.iload 18, 2) := by decide +kernel
theorem dL_tells_1017 : decode cL_tells 1017 = .ok (.ifCond .eq 74, 3) := by decide +kernel
theorem dL_tells_1020 : decode cL_tells 1020 = .ok (.aload 16, 2) := by decide +kernel
theorem dL_tells_1022 : decode cL_tells 1022 = .ok (.bipush 14, 2) := by decide +kernel
theorem dL_tells_1024 : decode cL_tells 1024 = .ok (.aload 16, 2) := by decide +kernel
theorem dL_tells_1026 : decode cL_tells 1026 = .ok (.bipush 6, 2) := by decide +kernel
theorem dL_tells_1028 : decode cL_tells 1028 = .ok (.iaload, 1) := by decide +kernel
theorem dL_tells_1029 : decode cL_tells 1029 = .ok (.iadd, 1) := by decide +kernel
theorem dL_tells_1030 : decode cL_tells 1030 = .ok (.iload 17, 2) := by decide +kernel
theorem dL_tells_1032 : decode cL_tells 1032 = .ok (.iastore, 1) := by decide +kernel
theorem dL_tells_1033 : decode cL_tells 1033 = .ok (.aload 14, 2) := by decide +kernel
theorem dL_tells_1035 : decode cL_tells 1035 = .ok (.iload 17, 2) := by decide +kernel
theorem dL_tells_1037 : decode cL_tells 1037 = .ok (.aload 16, 2) := by decide +kernel
theorem dL_tells_1039 : decode cL_tells 1039 = .ok (.bipush 6, 2) := by decide +kernel
theorem dL_tells_1041 : decode cL_tells 1041 = .ok (.iaload, 1) := by decide +kernel
theorem dL_tells_1042 : decode cL_tells 1042 = .ok (.ifCond .ne 9, 3) := by decide +kernel
theorem dL_tells_1045 : decode cL_tells 1045 = .ok (.sipush 10000, 3) := by decide +kernel
theorem dL_tells_1048 : decode cL_tells 1048 = .ok (.goto 8, 3) := by decide +kernel
theorem dL_tells_1051 : decode cL_tells 1051 = .ok (.aload 14, 2) := by decide +kernel
theorem dL_tells_1053 : decode cL_tells 1053 = .ok (.iload 17, 2) := by decide +kernel
theorem dL_tells_1055 : decode cL_tells 1055 = .ok (.iaload, 1) := by decide +kernel
theorem dL_tells_1056 : decode cL_tells 1056 = .ok (.iastore, 1) := by decide +kernel
theorem dL_tells_1057 : decode cL_tells 1057 = .ok (.aload 15, 2) := by decide +kernel
theorem dL_tells_1059 : decode cL_tells 1059 = .ok (.iload 17, 2) := by decide +kernel
theorem dL_tells_1061 : decode cL_tells 1061 = .ok (.aload 16, 2) := by decide +kernel
theorem dL_tells_1063 : decode cL_tells 1063 = .ok (.bipush 6, 2) := by decide +kernel
theorem dL_tells_1065 : decode cL_tells 1065 = .ok (.iaload, 1) := by decide +kernel
theorem dL_tells_1066 : decode cL_tells 1066 = .ok (.iconst 1, 1) := by decide +kernel
theorem dL_tells_1067 : decode cL_tells 1067 = .ok (.if_icmp .ne 9, 3) := by decide +kernel
theorem dL_tells_1070 : decode cL_tells 1070 = .ok (.sipush 10000, 3) := by decide +kernel
theorem dL_tells_1073 : decode cL_tells 1073 = .ok (.goto 8, 3) := by decide +kernel
theorem dL_tells_1076 : decode cL_tells 1076 = .ok (.aload 15, 2) := by decide +kernel
theorem dL_tells_1078 : decode cL_tells 1078 = .ok (.iload 17, 2) := by decide +kernel
theorem dL_tells_1080 : decode cL_tells 1080 = .ok (.iaload, 1) := by decide +kernel
theorem dL_tells_1081 : decode cL_tells 1081 = .ok (.iastore, 1) := by decide +kernel
theorem dL_tells_1082 : decode cL_tells 1082 = .ok (.aload 16, 2) := by decide +kernel
theorem dL_tells_1084 : decode cL_tells 1084 = .ok (.bipush 6, 2) := by decide +kernel
theorem dL_tells_1086 : decode cL_tells 1086 = .ok (.dup2, 1) := by decide +kernel
theorem dL_tells_1087 : decode cL_tells 1087 = .ok (.iaload, 1) := by decide +kernel
theorem dL_tells_1088 : decode cL_tells 1088 = .ok (.iconst 1, 1) := by decide +kernel
theorem dL_tells_1089 : decode cL_tells 1089 = .ok (.iadd, 1) := by decide +kernel
theorem dL_tells_1090 : decode cL_tells 1090 = .ok (.iastore, 1) := by decide +kernel
theorem dL_tells_1091 : decode cL_tells 1091 = .ok (.aload_n 0, 1) := by decide +kernel
theorem dL_tells_1092 : decode cL_tells 1092 = .ok (.iconst 4, 1) := by decide +kernel
theorem dL_tells_1093 : decode cL_tells 1093 = .ok (.iload 17, 2) := by decide +kernel
theorem dL_tells_1095 : decode cL_tells 1095 = .ok (.iconst 0, 1) := by decide +kernel
theorem dL_tells_1096 : decode cL_tells 1096 = .ok (.iconst 0, 1) := by decide +kernel
theorem dL_tells_1097 : decode cL_tells 1097 = .ok (.invokestatic 130, 3) := by decide +kernel
theorem dL_tells_1100 : decode cL_tells 1100 = .ok (.iload 18, 2) := by decide +kernel
theorem dL_tells_1102 : decode cL_tells 1102 = .ok (.ifCond .eq 13, 3) := by decide +kernel
theorem dL_tells_1105 : decode cL_tells 1105 = .ok (.aload 16, 2) := by decide +kernel
theorem dL_tells_1107 : decode cL_tells 1107 = .ok (.bipush 6, 2) := by decide +kernel
theorem dL_tells_1109 : decode cL_tells 1109 = .ok (.iaload, 1) := by decide +kernel
theorem dL_tells_1110 : decode cL_tells 1110 = .ok (.iconst 1, 1) := by decide +kernel
theorem dL_tells_1111 : decode cL_tells 1111 = .ok (.isub, 1) := by decide +kernel
theorem dL_tells_1112 : decode cL_tells 1112 = .ok (.goto 5, 3) := by decide +kernel
theorem dL_tells_1115 : decode cL_tells 1115 = .ok (.ldc 50, 2) := by decide +kernel
theorem dL_tells_1117 : decode cL_tells 1117 = .ok (.if_icmp .ne 7, 3) := by decide +kernel
theorem dL_tells_1120 : decode cL_tells 1120 = .ok (.iconst 1, 1) := by decide +kernel
theorem dL_tells_1121 : decode cL_tells 1121 = .ok (.goto 4, 3) := by decide +kernel
theorem dL_tells_1124 : decode cL_tells 1124 = .ok (.iconst 0, 1) := by decide +kernel
theorem dL_tells_1125 : decode cL_tells 1125 = .ok (.ireturn, 1) := by decide +kernel
theorem dL_tells_1126 : decode cL_tells 1126 = .ok (.iload_n 1, 1) := by decide +kernel
theorem dL_tells_1127 : decode cL_tells 1127 = .ok (.bipush 7, 2) := by decide +kernel
theorem dL_tells_1129 : decode cL_tells 1129 = .ok (.if_icmp .ne 90, 3) := by decide +kernel
theorem dL_tells_1132 : decode cL_tells 1132 = .ok (.aload 16, 2) := by decide +kernel
theorem dL_tells_1134 : decode cL_tells 1134 = .ok (.bipush 6, 2) := by decide +kernel
theorem dL_tells_1136 : decode cL_tells 1136 = .ok (.iaload, 1) := by decide +kernel
theorem dL_tells_1137 : decode cL_tells 1137 = .ok (.ifCond .ne 5, 3) := by decide +kernel
theorem dL_tells_1140 : decode cL_tells 1140 = .ok (.iconst 1, 1) := by decide +kernel
theorem dL_tells_1141 : decode cL_tells 1141 = .ok (.ireturn, 1) := by decide +kernel
theorem dL_tells_1142 : decode cL_tells 1142 = .ok (.iconst 1, 1) := by decide +kernel
theorem dL_tells_1143 : decode cL_tells 1143 = .ok (.iload_n 2, 1) := by decide +kernel
theorem dL_tells_1144 : decode cL_tells 1144 = .ok (.iconst 5, 1) := by decide +kernel
theorem dL_tells_1145 : decode cL_tells 1145 = .ok (.ishr, 1) := by decide +kernel
theorem dL_tells_1146 : decode cL_tells 1146 = .ok (.bipush 100, 2) := by decide +kernel
theorem dL_tells_1148 : decode cL_tells 1148 = .ok (.invokestatic 29, 3) := by decide +kernel
theorem dL_tells_1151 : decode cL_tells 1151 = .ok (.iadd, 1) := by decide +kernel
theorem dL_tells_1152 : decode cL_tells 1152 = .ok (.istore 18, 2) := by decide +kernel
theorem dL_tells_1154 : decode cL_tells 1154 = .ok (.iload_n 2, 1) := by decide +kernel
theorem dL_tells_1155 : decode cL_tells 1155 = .ok (.iconst 3, 1) := by decide +kernel
theorem dL_tells_1156 : decode cL_tells 1156 = .ok (.ishr, 1) := by decide +kernel
theorem dL_tells_1157 : decode cL_tells 1157 = .ok (.iconst 3, 1) := by decide +kernel
theorem dL_tells_1158 : decode cL_tells 1158 = .ok (.invokestatic 29, 3) := by decide +kernel
theorem dL_tells_1161 : decode cL_tells 1161 = .ok (.ifCond .le 11, 3) := by decide +kernel
theorem dL_tells_1164 : decode cL_tells 1164 = .ok (.aload 14, 2) := by decide +kernel
theorem dL_tells_1166 : decode cL_tells 1166 = .ok (.invokestatic 88, 3) := by decide +kernel
theorem dL_tells_1169 : decode cL_tells 1169 = .ok (.goto 5, 3) := by decide +kernel
theorem dL_tells_1172 : decode cL_tells 1172 = .ok (.iload 17, 2) := by decide +kernel
theorem dL_tells_1174 : decode cL_tells 1174 = .ok (.istore 17, 2) := by decide +kernel
theorem dL_tells_1176 : decode cL_tells 1176 = .ok (.aload 14, 2) := by decide +kernel
theorem dL_tells_1178 : decode cL_tells 1178 = .ok (.iload 17, 2) := by decide +kernel
theorem dL_tells_1180 : decode cL_tells 1180 = .ok (.iaload, 1) := by decide +kernel
theorem dL_tells_1181 : decode cL_tells 1181 = .ok (.iload 18, 2) := by decide +kernel
theorem dL_tells_1183 : decode cL_tells 1183 = .ok (.imul, 1) := by decide +kernel
theorem dL_tells_1184 : decode cL_tells 1184 = .ok (.bipush 100, 2) := by decide +kernel
theorem dL_tells_1186 : decode cL_tells 1186 = .ok (.idiv, 1) := by decide +kernel
theorem dL_tells_1187 : decode cL_tells 1187 = .ok (.istore 19, 2) := by decide +kernel
theorem dL_tells_1189 : decode cL_tells 1189 = .ok (.aload 14, 2) := by decide +kernel
theorem dL_tells_1191 : decode cL_tells 1191 = .ok (.iload 17, 2) := by decide +kernel
theorem dL_tells_1193 : decode cL_tells 1193 = .ok (.dup2, 1) := by decide +kernel
theorem dL_tells_1194 : decode cL_tells 1194 = .ok (.iaload, 1) := by decide +kernel
theorem dL_tells_1195 : decode cL_tells 1195 = .ok (.iload 19, 2) := by decide +kernel
theorem dL_tells_1197 : decode cL_tells 1197 = .ok (.isub, 1) := by decide +kernel
theorem dL_tells_1198 : decode cL_tells 1198 = .ok (.iastore, 1) := by decide +kernel
theorem dL_tells_1199 : decode cL_tells 1199 = .ok (.aload_n 0, 1) := by decide +kernel
theorem dL_tells_1200 : decode cL_tells 1200 = .ok (.iconst 0, 1) := by decide +kernel
theorem dL_tells_1201 : decode cL_tells 1201 = .ok (.iload 17, 2) := by decide +kernel
theorem dL_tells_1203 : decode cL_tells 1203 = .ok (.iload 18, 2) := by decide +kernel
theorem dL_tells_1205 : decode cL_tells 1205 = .ok (.invokevirtual 140, 3) := by decide +kernel
theorem dL_tells_1208 : decode cL_tells 1208 = .ok (.iload 19, 2) := by decide +kernel
theorem dL_tells_1210 : decode cL_tells 1210 = .ok (.if_icmp .ne 7, 3) := by decide +kernel
theorem dL_tells_1213 : decode cL_tells 1213 = .ok (.iconst 1, 1) := by decide +kernel
theorem dL_tells_1214 : decode cL_tells 1214 = .ok (.goto 4, 3) := by decide +kernel
theorem dL_tells_1217 : decode cL_tells 1217 = .ok (.iconst 0, 1) := by decide +kernel
theorem dL_tells_1218 : decode cL_tells 1218 = .ok (.ireturn, 1) := by decide +kernel
theorem dL_tells_1219 : decode cL_tells 1219 = .ok (.iload_n 1, 1) := by decide +kernel
theorem dL_tells_1220 : decode cL_tells 1220 = .ok (.bipush 8, 2) := by decide +kernel
theorem dL_tells_1222 : decode cL_tells 1222 = .ok (.if_icmp .ne 59, 3) := by decide +kernel
theorem dL_tells_1225 : decode cL_tells 1225 = .ok (.aload 16, 2) := by decide +kernel
theorem dL_tells_1227 : decode cL_tells 1227 = .ok (.bipush 7, 2) := by decide +kernel
theorem dL_tells_1229 : decode cL_tells 1229 = .ok (.iaload, 1) := by decide +kernel
theorem dL_tells_1230 : decode cL_tells 1230 = .ok (.istore 18, 2) := by decide +kernel
theorem dL_tells_1232 : decode cL_tells 1232 = .ok (.aload 16, 2) := by decide +kernel
theorem dL_tells_1234 : decode cL_tells 1234 = .ok (.bipush 7, 2) := by decide +kernel
theorem dL_tells_1236 : decode cL_tells 1236 = .ok (.iload_n 2, 1) := by decide +kernel
theorem dL_tells_1237 : decode cL_tells 1237 = .ok (.iconst 3, 1) := by decide +kernel
theorem dL_tells_1238 : decode cL_tells 1238 = .ok (.ishr, 1) := by decide +kernel
theorem dL_tells_1239 : decode cL_tells 1239 = .ok (.iload_n 2, 1) := by decide +kernel
theorem dL_tells_1240 : decode cL_tells 1240 = .ok (.iconst 5, 1) := by decide +kernel
theorem dL_tells_1241 : decode cL_tells 1241 = .ok (.ishr, 1) := by decide +kernel
theorem dL_tells_1242 : decode cL_tells 1242 = .ok (.iconst 3, 1) := by decide +kernel
theorem dL_tells_1243 : decode cL_tells 1243 = .ok (.invokestatic 29, 3) := by decide +kernel
theorem dL_tells_1246 : decode cL_tells 1246 = .ok (.ifCond .ne 9, 3) := by decide +kernel
theorem dL_tells_1249 : decode cL_tells 1249 = .ok (.sipush 1001, 3) := by decide +kernel
theorem dL_tells_1252 : decode cL_tells 1252 = .ok (.goto 5, 3) := by decide +kernel
theorem dL_tells_1255 : decode cL_tells 1255 = .ok (.bipush 120, 2) := by decide +kernel
theorem dL_tells_1257 : decode cL_tells 1257 = .ok (.invokestatic 29, 3) := by decide +kernel
theorem dL_tells_1260 : decode cL_tells 1260 = .ok (.iastore, 1) := by decide +kernel
theorem dL_tells_1261 : decode cL_tells 1261 = .ok (.aload_n 0, 1) := by decide +kernel
theorem dL_tells_1262 : decode cL_tells 1262 = .ok (.aload 16, 2) := by decide +kernel
theorem dL_tells_1264 : decode cL_tells 1264 = .ok (.bipush 7, 2) := by decide +kernel
theorem dL_tells_1266 : decode cL_tells 1266 = .ok (.iaload, 1) := by decide +kernel
theorem dL_tells_1267 : decode cL_tells 1267 = .ok (.invokevirtual 143, 3) := by decide +kernel
theorem dL_tells_1270 : decode cL_tells 1270 = .ok (.iload 18, 2) := by decide +kernel
theorem dL_tells_1272 : decode cL_tells 1272 = .ok (.if_icmp .ne 7, 3) := by decide +kernel
theorem dL_tells_1275 : decode cL_tells 1275 = .ok (.iconst 1, 1) := by decide +kernel
theorem dL_tells_1276 : decode cL_tells 1276 = .ok (.goto 4, 3) := by decide +kernel
theorem dL_tells_1279 : decode cL_tells 1279 = .ok (.iconst 0, 1) := by decide +kernel
theorem dL_tells_1280 : decode cL_tells 1280 = .ok (.ireturn, 1) := by decide +kernel
theorem dL_tells_1281 : decode cL_tells 1281 = .ok (.iload_n 1, 1) := by decide +kernel
theorem dL_tells_1282 : decode cL_tells 1282 = .ok (.bipush 9, 2) := by decide +kernel
theorem dL_tells_1284 : decode cL_tells 1284 = .ok (.if_icmp .ne 91, 3) := by decide +kernel
theorem dL_tells_1287 : decode cL_tells 1287 = .ok (.aload 16, 2) := by decide +kernel
theorem dL_tells_1289 : decode cL_tells 1289 = .ok (.iconst 2, 1) := by decide +kernel
theorem dL_tells_1290 : decode cL_tells 1290 = .ok (.iaload, 1) := by decide +kernel
theorem dL_tells_1291 : decode cL_tells 1291 = .ok (.ifCond .ne 5, 3) := by decide +kernel
theorem dL_tells_1294 : decode cL_tells 1294 = .ok (.iconst 1, 1) := by decide +kernel
theorem dL_tells_1295 : decode cL_tells 1295 = .ok (.ireturn, 1) := by decide +kernel
theorem dL_tells_1296 : decode cL_tells 1296 = .ok (.iload_n 2, 1) := by decide +kernel
theorem dL_tells_1297 : decode cL_tells 1297 = .ok (.iconst 3, 1) := by decide +kernel
theorem dL_tells_1298 : decode cL_tells 1298 = .ok (.ishr, 1) := by decide +kernel
theorem dL_tells_1299 : decode cL_tells 1299 = .ok (.aload 16, 2) := by decide +kernel
theorem dL_tells_1301 : decode cL_tells 1301 = .ok (.iconst 2, 1) := by decide +kernel
theorem dL_tells_1302 : decode cL_tells 1302 = .ok (.iaload, 1) := by decide +kernel
theorem dL_tells_1303 : decode cL_tells 1303 = .ok (.invokestatic 29, 3) := by decide +kernel
theorem dL_tells_1306 : decode cL_tells 1306 = .ok (.istore 18, 2) := by decide +kernel
theorem dL_tells_1308 : decode cL_tells 1308 = .ok (.iload 18, 2) := by decide +kernel
theorem dL_tells_1310 : decode cL_tells 1310 = .ok (.aload 11, 2) := by decide +kernel
theorem dL_tells_1312 : decode cL_tells 1312 = .ok (.aload 12, 2) := by decide +kernel
theorem dL_tells_1314 : decode cL_tells 1314 = .ok (.aload 13, 2) := by decide +kernel
theorem dL_tells_1316 : decode cL_tells 1316 = .ok (.aload 16, 2) := by decide +kernel
theorem dL_tells_1318 : decode cL_tells 1318 = .ok (.invokestatic 146, 3) := by decide +kernel
theorem dL_tells_1321 : decode cL_tells 1321 = .ok (.istore 19, 2) := by decide +kernel
theorem dL_tells_1323 : decode cL_tells 1323 = .ok (.aload 8, 2) := by decide +kernel
theorem dL_tells_1325 : decode cL_tells 1325 = .ok (.bipush 8, 2) := by decide +kernel
theorem dL_tells_1327 : decode cL_tells 1327 = .ok (.iload 18, 2) := by decide +kernel
theorem dL_tells_1329 : decode cL_tells 1329 = .ok (.imul, 1) := by decide +kernel
theorem dL_tells_1330 : decode cL_tells 1330 = .ok (.iconst 5, 1) := by decide +kernel
theorem dL_tells_1331 : decode cL_tells 1331 = .ok (.iadd, 1) := by decide +kernel
theorem dL_tells_1332 : decode cL_tells 1332 = .ok (.iload 19, 2) := by decide +kernel
theorem dL_tells_1334 : decode cL_tells 1334 = .ok (.ldc 50, 2) := by decide +kernel
theorem dL_tells_1336 : decode cL_tells 1336 = .ok (.if_icmp .ne 16, 3) := by decide +kernel
theorem dL_tells_1339 : decode cL_tells 1339 = .ok (.aload 8, 2) := by decide +kernel
theorem dL_tells_1341 : decode cL_tells 1341 = .ok (.bipush 8, 2) := by decide +kernel
theorem dL_tells_1343 : decode cL_tells 1343 = .ok (.iload 18, 2) := by decide +kernel
theorem dL_tells_1345 : decode cL_tells 1345 = .ok (.imul, 1) := by decide +kernel
theorem dL_tells_1346 : decode cL_tells 1346 = .ok (.iconst 5, 1) := by decide +kernel
theorem dL_tells_1347 : decode cL_tells 1347 = .ok (.iadd, 1) := by decide +kernel
theorem dL_tells_1348 : decode cL_tells 1348 = .ok (.iaload, 1) := by decide +kernel
theorem dL_tells_1349 : decode cL_tells 1349 = .ok (.goto 5, 3) := by decide +kernel
theorem dL_tells_1352 : decode cL_tells 1352 = .ok (.iload 19, 2) := by decide +kernel
theorem dL_tells_1354 : decode cL_tells 1354 = .ok (.iastore, 1) := by decide +kernel
theorem dL_tells_1355 : decode cL_tells 1355 = .ok (.aload_n 0, 1) := by decide +kernel
theorem dL_tells_1356 : decode cL_tells 1356 = .ok (.iconst 3, 1) := by decide +kernel
theorem dL_tells_1357 : decode cL_tells 1357 = .ok (.iload 18, 2) := by decide +kernel
theorem dL_tells_1359 : decode cL_tells 1359 = .ok (.iconst 0, 1) := by decide +kernel
theorem dL_tells_1360 : decode cL_tells 1360 = .ok (.iconst 0, 1) := by decide +kernel
theorem dL_tells_1361 : decode cL_tells 1361 = .ok (.invokestatic 130, 3) := by decide +kernel
theorem dL_tells_1364 : decode cL_tells 1364 = .ok (.iload 19, 2) := by decide +kernel
theorem dL_tells_1366 : decode cL_tells 1366 = .ok (.if_icmp .ne 7, 3) := by decide +kernel
theorem dL_tells_1369 : decode cL_tells 1369 = .ok (.iconst 1, 1) := by decide +kernel
theorem dL_tells_1370 : decode cL_tells 1370 = .ok (.goto 4, 3) := by decide +kernel
theorem dL_tells_1373 : decode cL_tells 1373 = .ok (.iconst 0, 1) := by decide +kernel
theorem dL_tells_1374 : decode cL_tells 1374 = .ok (.ireturn, 1) := by decide +kernel
theorem dL_tells_1375 : decode cL_tells 1375 = .ok (.aload 16, 2) := by decide +kernel
theorem dL_tells_1377 : decode cL_tells 1377 = .ok (.iconst 5, 1) := by decide +kernel
theorem dL_tells_1378 : decode cL_tells 1378 = .ok (.iaload, 1) := by decide +kernel
theorem dL_tells_1379 : decode cL_tells 1379 = .ok (.ifCond .ne 5, 3) := by decide +kernel
theorem dL_tells_1382 : decode cL_tells 1382 = .ok (.iconst 1, 1) := by decide +kernel
theorem dL_tells_1383 : decode cL_tells 1383 = .ok (.ireturn, 1) := by decide +kernel
theorem dL_tells_1384 : decode cL_tells 1384 = .ok (.iload_n 2, 1) := by decide +kernel
theorem dL_tells_1385 : decode cL_tells 1385 = .ok (.iconst 2, 1) := by decide +kernel
theorem dL_tells_1386 : decode cL_tells 1386 = .ok (.ishr, 1) := by decide +kernel
theorem dL_tells_1387 : decode cL_tells 1387 = .ok (.aload 16, 2) := by decide +kernel
theorem dL_tells_1389 : decode cL_tells 1389 = .ok (.iconst 5, 1) := by decide +kernel
theorem dL_tells_1390 : decode cL_tells 1390 = .ok (.iaload, 1) := by decide +kernel
theorem dL_tells_1391 : decode cL_tells 1391 = .ok (.invokestatic 29, 3) := by decide +kernel
theorem dL_tells_1394 : decode cL_tells 1394 = .ok (.istore 18, 2) := by decide +kernel
theorem dL_tells_1396 : decode cL_tells 1396 = .ok (.iload 18, 2) := by decide +kernel
theorem dL_tells_1398 : decode cL_tells 1398 = .ok (.aload 12, 2) := by decide +kernel
theorem dL_tells_1400 : decode cL_tells 1400 = .ok (.aload 13, 2) := by decide +kernel
theorem dL_tells_1402 : decode cL_tells 1402 = .ok (.aload 16, 2) := by decide +kernel
theorem dL_tells_1404 : decode cL_tells 1404 = .ok (.invokestatic 81, 3) := by decide +kernel
theorem dL_tells_1407 : decode cL_tells 1407 = .ok (.istore 19, 2) := by decide +kernel
theorem dL_tells_1409 : decode cL_tells 1409 = .ok (.iload_n 2, 1) := by decide +kernel
theorem dL_tells_1410 : decode cL_tells 1410 = .ok (.bipush 6, 2) := by decide +kernel
theorem dL_tells_1412 : decode cL_tells 1412 = .ok (.ishr, 1) := by decide +kernel
theorem dL_tells_1413 : decode cL_tells 1413 = .ok (.iconst 4, 1) := by decide +kernel
theorem dL_tells_1414 : decode cL_tells 1414 = .ok (.invokestatic 29, 3) := by decide +kernel
theorem dL_tells_1417 : decode cL_tells 1417 = .ok (.iconst 1, 1) := by decide +kernel
theorem dL_tells_1418 : decode cL_tells 1418 = .ok (.isub, 1) := by decide +kernel
theorem dL_tells_1419 : decode cL_tells 1419 = .ok (.istore 20, 2) := by decide +kernel
theorem dL_tells_1421 : decode cL_tells 1421 = .ok (.aload 13, 2) := by decide +kernel
theorem dL_tells_1423 : decode cL_tells 1423 = .ok (.iload 18, 2) := by decide +kernel
theorem dL_tells_1425 : decode cL_tells 1425 = .ok (.aload 13, 2) := by decide +kernel
theorem dL_tells_1427 : decode cL_tells 1427 = .ok (.iload 18, 2) := by decide +kernel
theorem dL_tells_1429 : decode cL_tells 1429 = .ok (.iaload, 1) := by decide +kernel
theorem dL_tells_1430 : decode cL_tells 1430 = .ok (.bipush 16, 2) := by decide +kernel
theorem dL_tells_1432 : decode cL_tells 1432 = .ok (.irem, 1) := by decide +kernel
theorem dL_tells_1433 : decode cL_tells 1433 = .ok (.bipush 16, 2) := by decide +kernel
theorem dL_tells_1435 : decode cL_tells 1435 = .ok (.iload 20, 2) := by decide +kernel
theorem dL_tells_1437 : decode cL_tells 1437 = .ok (.iconst 1, 1) := by decide +kernel
theorem dL_tells_1438 : decode cL_tells 1438 = .ok (.iadd, 1) := by decide +kernel
theorem dL_tells_1439 : decode cL_tells 1439 = .ok (.imul, 1) := by decide +kernel
theorem dL_tells_1440 : decode cL_tells 1440 = .ok (.iadd, 1) := by decide +kernel
theorem dL_tells_1441 : decode cL_tells 1441 = .ok (.iastore, 1) := by decide +kernel
theorem dL_tells_1442 : decode cL_tells 1442 = .ok (.aload_n 0, 1) := by decide +kernel
theorem dL_tells_1443 : decode cL_tells 1443 = .ok (.iload 18, 2) := by decide +kernel
theorem dL_tells_1445 : decode cL_tells 1445 = .ok (.iload 20, 2) := by decide +kernel
theorem dL_tells_1447 : decode cL_tells 1447 = .ok (.invokevirtual 150, 3) := by decide +kernel
theorem dL_tells_1450 : decode cL_tells 1450 = .ok (.iload 19, 2) := by decide +kernel
theorem dL_tells_1452 : decode cL_tells 1452 = .ok (.if_icmp .ne 7, 3) := by decide +kernel
theorem dL_tells_1455 : decode cL_tells 1455 = .ok (.iconst 1, 1) := by decide +kernel
theorem dL_tells_1456 : decode cL_tells 1456 = .ok (.goto 4, 3) := by decide +kernel
theorem dL_tells_1459 : decode cL_tells 1459 = .ok (.iconst 0, 1) := by decide +kernel
theorem dL_tells_1460 : decode cL_tells 1460 = .ok (.ireturn, 1) := by decide +kernel
theorem dL_law_0 : decode cL_law 0 = .ok (.new 11, 3) := by decide +kernel
theorem dL_law_3 : decode cL_law 3 = .ok (.dup, 1) := by decide +kernel
theorem dL_law_4 : decode cL_law 4 = .ok (.invokespecial 152, 3) := by decide +kernel
theorem dL_law_7 : decode cL_law 7 = .ok (.astore_n 1, 1) := by decide +kernel
theorem dL_law_8 : decode cL_law 8 = .ok (.bipush 60, 2) := by decide +kernel
theorem dL_law_10 : decode cL_law 10 = .ok (.newarray .int, 2) := by decide +kernel
theorem dL_law_12 : decode cL_law 12 = .ok (.astore_n 2, 1) := by decide +kernel
theorem dL_law_13 : decode cL_law 13 = .ok (.bipush 60, 2) := by decide +kernel
theorem dL_law_15 : decode cL_law 15 = .ok (.newarray .int, 2) := by decide +kernel
theorem dL_law_17 : decode cL_law 17 = .ok (.astore_n 3, 1) := by decide +kernel
theorem dL_law_18 : decode cL_law 18 = .ok (.bipush 60, 2) := by decide +kernel
theorem dL_law_20 : decode cL_law 20 = .ok (.newarray .int, 2) := by decide +kernel
theorem dL_law_22 : decode cL_law 22 = .ok (.astore 4, 2) := by decide +kernel
theorem dL_law_24 : decode cL_law 24 = .ok (.bipush 60, 2) := by decide +kernel
theorem dL_law_26 : decode cL_law 26 = .ok (.newarray .int, 2) := by decide +kernel
theorem dL_law_28 : decode cL_law 28 = .ok (.astore 5, 2) := by decide +kernel
theorem dL_law_30 : decode cL_law 30 = .ok (.bipush 60, 2) := by decide +kernel
theorem dL_law_32 : decode cL_law 32 = .ok (.newarray .int, 2) := by decide +kernel
theorem dL_law_34 : decode cL_law 34 = .ok (.astore 6, 2) := by decide +kernel
theorem dL_law_36 : decode cL_law 36 = .ok (.bipush 64, 2) := by decide +kernel
theorem dL_law_38 : decode cL_law 38 = .ok (.newarray .int, 2) := by decide +kernel
theorem dL_law_40 : decode cL_law 40 = .ok (.astore 7, 2) := by decide +kernel
theorem dL_law_42 : decode cL_law 42 = .ok (.bipush 30, 2) := by decide +kernel
theorem dL_law_44 : decode cL_law 44 = .ok (.newarray .int, 2) := by decide +kernel
theorem dL_law_46 : decode cL_law 46 = .ok (.astore 8, 2) := by decide +kernel
theorem dL_law_48 : decode cL_law 48 = .ok (.bipush 40, 2) := by decide +kernel
theorem dL_law_50 : decode cL_law 50 = .ok (.newarray .int, 2) := by decide +kernel
theorem dL_law_52 : decode cL_law 52 = .ok (.astore 9, 2) := by decide +kernel
theorem dL_law_54 : decode cL_law 54 = .ok (.bipush 64, 2) := by decide +kernel
theorem dL_law_56 : decode cL_law 56 = .ok (.newarray .int, 2) := by decide +kernel
theorem dL_law_58 : decode cL_law 58 = .ok (.astore 10, 2) := by decide +kernel
theorem dL_law_60 : decode cL_law 60 = .ok (.bipush 64, 2) := by decide +kernel
theorem dL_law_62 : decode cL_law 62 = .ok (.newarray .int, 2) := by decide +kernel
theorem dL_law_64 : decode cL_law 64 = .ok (.astore 11, 2) := by decide +kernel
theorem dL_law_66 : decode cL_law 66 = .ok (.bipush 64, 2) := by decide +kernel
theorem dL_law_68 : decode cL_law 68 = .ok (.newarray .int, 2) := by decide +kernel
theorem dL_law_70 : decode cL_law 70 = .ok (.astore 12, 2) := by decide +kernel
theorem dL_law_72 : decode cL_law 72 = .ok (.bipush 60, 2) := by decide +kernel
theorem dL_law_74 : decode cL_law 74 = .ok (.newarray .int, 2) := by decide +kernel
theorem dL_law_76 : decode cL_law 76 = .ok (.astore 13, 2) := by decide +kernel
theorem dL_law_78 : decode cL_law 78 = .ok (.bipush 60, 2) := by decide +kernel
theorem dL_law_80 : decode cL_law 80 = .ok (.newarray .int, 2) := by decide +kernel
theorem dL_law_82 : decode cL_law 82 = .ok (.astore 14, 2) := by decide +kernel
theorem dL_law_84 : decode cL_law 84 = .ok (.bipush 60, 2) := by decide +kernel
theorem dL_law_86 : decode cL_law 86 = .ok (.newarray .int, 2) := by decide +kernel
theorem dL_law_88 : decode cL_law 88 = .ok (.astore 15, 2) := by decide +kernel
theorem dL_law_90 : decode cL_law 90 = .ok (.bipush 60, 2) := by decide +kernel
theorem dL_law_92 : decode cL_law 92 = .ok (.newarray .int, 2) := by decide +kernel
theorem dL_law_94 : decode cL_law 94 = .ok (.astore 16, 2) := by decide +kernel
theorem dL_law_96 : decode cL_law 96 = .ok (.bipush 16, 2) := by decide +kernel
theorem dL_law_98 : decode cL_law 98 = .ok (.newarray .int, 2) := by decide +kernel
theorem dL_law_100 : decode cL_law 100 = .ok (.astore 17, 2) := by decide +kernel
theorem dL_law_102 : decode cL_law 102 = .ok (.iconst 0, 1) := by decide +kernel
theorem dL_law_103 : decode cL_law 103 = .ok (.istore 18, 2) := by decide +kernel
theorem dL_law_105 : decode cL_law 105 = .ok (.iload 18, 2) := by decide +kernel
theorem dL_law_107 : decode cL_law 107 = .ok (.bipush 60, 2) := by decide +kernel
theorem dL_law_109 : decode cL_law 109 = .ok (.if_icmp .ge 40, 3) := by decide +kernel
theorem dL_law_112 : decode cL_law 112 = .ok (.aload_n 3, 1) := by decide +kernel
theorem dL_law_113 : decode cL_law 113 = .ok (.iload 18, 2) := by decide +kernel
theorem dL_law_115 : decode cL_law 115 = .ok (.sipush 1000, 3) := by decide +kernel
theorem dL_law_118 : decode cL_law 118 = .ok (.iastore, 1) := by decide +kernel
theorem dL_law_119 : decode cL_law 119 = .ok (.aload 4, 2) := by decide +kernel
theorem dL_law_121 : decode cL_law 121 = .ok (.iload 18, 2) := by decide +kernel
theorem dL_law_123 : decode cL_law 123 = .ok (.sipush 400, 3) := by decide +kernel
theorem dL_law_126 : decode cL_law 126 = .ok (.iastore, 1) := by decide +kernel
theorem dL_law_127 : decode cL_law 127 = .ok (.aload 5, 2) := by decide +kernel
theorem dL_law_129 : decode cL_law 129 = .ok (.iload 18, 2) := by decide +kernel
theorem dL_law_131 : decode cL_law 131 = .ok (.sipush 350, 3) := by decide +kernel
theorem dL_law_134 : decode cL_law 134 = .ok (.iastore, 1) := by decide +kernel
theorem dL_law_135 : decode cL_law 135 = .ok (.aload 6, 2) := by decide +kernel
theorem dL_law_137 : decode cL_law 137 = .ok (.iload 18, 2) := by decide +kernel
theorem dL_law_139 : decode cL_law 139 = .ok (.sipush 360, 3) := by decide +kernel
theorem dL_law_142 : decode cL_law 142 = .ok (.iastore, 1) := by decide +kernel
theorem dL_law_143 : decode cL_law 143 = .ok (.iinc 18 1, 3) := by decide +kernel
theorem dL_law_146 : decode cL_law 146 = .ok (.goto (-41), 3) := by decide +kernel
theorem dL_law_149 : decode cL_law 149 = .ok (.aload 17, 2) := by decide +kernel
theorem dL_law_151 : decode cL_law 151 = .ok (.bipush 7, 2) := by decide +kernel
theorem dL_law_153 : decode cL_law 153 = .ok (.bipush 100, 2) := by decide +kernel
theorem dL_law_155 : decode cL_law 155 = .ok (.iastore, 1) := by decide +kernel
theorem dL_law_156 : decode cL_law 156 = .ok (.iconst 1, 1) := by decide +kernel
theorem dL_law_157 : decode cL_law 157 = .ok (.istore 18, 2) := by decide +kernel
theorem dL_law_159 : decode cL_law 159 = .ok (.iconst 0, 1) := by decide +kernel
theorem dL_law_160 : decode cL_law 160 = .ok (.istore 19, 2) := by decide +kernel
theorem dL_law_162 : decode cL_law 162 = .ok (.iload 19, 2) := by decide +kernel
theorem dL_law_164 : decode cL_law 164 = .ok (.bipush 70, 2) := by decide +kernel
theorem dL_law_166 : decode cL_law 166 = .ok (.if_icmp .ge 356, 3) := by decide +kernel
theorem dL_law_169 : decode cL_law 169 = .ok (.iload 18, 2) := by decide +kernel
theorem dL_law_171 : decode cL_law 171 = .ok (.ifCond .eq 351, 3) := by decide +kernel
theorem dL_law_174 : decode cL_law 174 = .ok (.aload_n 0, 1) := by decide +kernel
theorem dL_law_175 : decode cL_law 175 = .ok (.iload 19, 2) := by decide +kernel
theorem dL_law_177 : decode cL_law 177 = .ok (.invokestatic 153, 3) := by decide +kernel
theorem dL_law_180 : decode cL_law 180 = .ok (.istore 20, 2) := by decide +kernel
theorem dL_law_182 : decode cL_law 182 = .ok (.iload 19, 2) := by decide +kernel
theorem dL_law_184 : decode cL_law 184 = .ok (.iconst 5, 1) := by decide +kernel
theorem dL_law_185 : decode cL_law 185 = .ok (.if_icmp .ge 13, 3) := by decide +kernel
theorem dL_law_188 : decode cL_law 188 = .ok (.iload 20, 2) := by decide +kernel
theorem dL_law_190 : decode cL_law 190 = .ok (.bipush 9, 2) := by decide +kernel
theorem dL_law_192 : decode cL_law 192 = .ok (.invokestatic 29, 3) := by decide +kernel
theorem dL_law_195 : decode cL_law 195 = .ok (.goto 10, 3) := by decide +kernel
theorem dL_law_198 : decode cL_law 198 = .ok (.iload 20, 2) := by decide +kernel
theorem dL_law_200 : decode cL_law 200 = .ok (.bipush 30, 2) := by decide +kernel
theorem dL_law_202 : decode cL_law 202 = .ok (.invokestatic 29, 3) := by decide +kernel
theorem dL_law_205 : decode cL_law 205 = .ok (.istore 21, 2) := by decide +kernel
theorem dL_law_207 : decode cL_law 207 = .ok (.iload 20, 2) := by decide +kernel
theorem dL_law_209 : decode cL_law 209 = .ok (.iconst 4, 1) := by decide +kernel
theorem dL_law_210 : decode cL_law 210 = .ok (.ishr, 1) := by decide +kernel
theorem dL_law_211 : decode cL_law 211 = .ok (.istore 22, 2) := by decide +kernel
theorem dL_law_213 : decode cL_law 213 = .ok (.iload 21, 2) := by decide +kernel
theorem dL_law_215 : decode cL_law 215 = .ok (.bipush 21, 2) := by decide +kernel
theorem dL_law_217 : decode cL_law 217 = .ok (.if_icmp .ge 155, 3) := by decide +kernel
theorem dL_law_220 : decode cL_law 220 = .ok (.aload_n 1, 1) := by decide +kernel
theorem dL_law_221 : decode cL_law 221 = .ok (.iload 21, 2) := by decide +kernel
theorem dL_law_223 : decode cL_law 223 = .ok (.iconst 2, 1) := by decide +kernel
theorem dL_law_224 : decode cL_law 224 = .ok (.if_icmp .ge 7, 3) := by decide +kernel
theorem dL_law_227 : decode cL_law 227 = .ok (.iconst 0, 1) := by decide +kernel
theorem dL_law_228 : decode cL_law 228 = .ok (.goto 108, 3) := by decide +kernel
theorem dL_law_231 : decode cL_law 231 = .ok (.iload 21, 2) := by decide +kernel
theorem dL_law_233 : decode cL_law 233 = .ok (.bipush 7, 2) := by decide +kernel
theorem dL_law_235 : decode cL_law 235 = .ok (.if_icmp .ge 7, 3) := by decide +kernel
theorem dL_law_238 : decode cL_law 238 = .ok (.iconst 1, 1) := by decide +kernel
theorem dL_law_239 : decode cL_law 239 = .ok (.goto 97, 3) := by decide +kernel
theorem dL_law_242 : decode cL_law 242 = .ok (.iload 21, 2) := by decide +kernel
theorem dL_law_244 : decode cL_law 244 = .ok (.bipush 8, 2) := by decide +kernel
theorem dL_law_246 : decode cL_law 246 = .ok (.if_icmp .ge 7, 3) := by decide +kernel
theorem dL_law_249 : decode cL_law 249 = .ok (.iconst 2, 1) := by decide +kernel
theorem dL_law_250 : decode cL_law 250 = .ok (.goto 86, 3) := by decide +kernel
theorem dL_law_253 : decode cL_law 253 = .ok (.iload 21, 2) := by decide +kernel
theorem dL_law_255 : decode cL_law 255 = .ok (.bipush 10, 2) := by decide +kernel
theorem dL_law_257 : decode cL_law 257 = .ok (.if_icmp .ge 7, 3) := by decide +kernel
theorem dL_law_260 : decode cL_law 260 = .ok (.iconst 3, 1) := by decide +kernel
theorem dL_law_261 : decode cL_law 261 = .ok (.goto 75, 3) := by decide +kernel
theorem dL_law_264 : decode cL_law 264 = .ok (.iload 21, 2) := by decide +kernel
theorem dL_law_266 : decode cL_law 266 = .ok (.bipush 13, 2) := by decide +kernel
theorem dL_law_268 : decode cL_law 268 = .ok (.if_icmp .ge 7, 3) := by decide +kernel
theorem dL_law_271 : decode cL_law 271 = .ok (.iconst 4, 1) := by decide +kernel
theorem dL_law_272 : decode cL_law 272 = .ok (.goto 64, 3) := by decide +kernel
theorem dL_law_275 : decode cL_law 275 = .ok (.iload 21, 2) := by decide +kernel
theorem dL_law_277 : decode cL_law 277 = .ok (.bipush 14, 2) := by decide +kernel
theorem dL_law_279 : decode cL_law 279 = .ok (.if_icmp .ge 7, 3) := by decide +kernel
theorem dL_law_282 : decode cL_law 282 = .ok (.iconst 5, 1) := by decide +kernel
theorem dL_law_283 : decode cL_law 283 = .ok (.goto 53, 3) := by decide +kernel
theorem dL_law_286 : decode cL_law 286 = .ok (.iload 21, 2) := by decide +kernel
theorem dL_law_288 : decode cL_law 288 = .ok (.bipush 15, 2) := by decide +kernel
theorem dL_law_290 : decode cL_law 290 = .ok (.if_icmp .ge 8, 3) := by decide +kernel
theorem dL_law_293 : decode cL_law 293 = .ok (.bipush 6, 2) := by decide +kernel
theorem dL_law_295 : decode cL_law 295 = .ok (.goto 41, 3) := by decide +kernel
theorem dL_law_298 : decode cL_law 298 = .ok (.iload 21, 2) := by decide +kernel
theorem dL_law_300 : decode cL_law 300 = .ok (.bipush 17, 2) := by decide +kernel
theorem dL_law_302 : decode cL_law 302 = .ok (.if_icmp .ge 8, 3) := by decide +kernel
theorem dL_law_305 : decode cL_law 305 = .ok (.bipush 7, 2) := by decide +kernel
theorem dL_law_307 : decode cL_law 307 = .ok (.goto 29, 3) := by decide +kernel
theorem dL_law_310 : decode cL_law 310 = .ok (.iload 21, 2) := by decide +kernel
theorem dL_law_312 : decode cL_law 312 = .ok (.bipush 18, 2) := by decide +kernel
theorem dL_law_314 : decode cL_law 314 = .ok (.if_icmp .ge 8, 3) := by decide +kernel
theorem dL_law_317 : decode cL_law 317 = .ok (.bipush 8, 2) := by decide +kernel
theorem dL_law_319 : decode cL_law 319 = .ok (.goto 17, 3) := by decide +kernel
theorem dL_law_322 : decode cL_law 322 = .ok (.iload 21, 2) := by decide +kernel
theorem dL_law_324 : decode cL_law 324 = .ok (.bipush 20, 2) := by decide +kernel
theorem dL_law_326 : decode cL_law 326 = .ok (.if_icmp .ge 8, 3) := by decide +kernel
theorem dL_law_329 : decode cL_law 329 = .ok (.bipush 9, 2) := by decide +kernel
theorem dL_law_331 : decode cL_law 331 = .ok (.goto 5, 3) := by decide +kernel
theorem dL_law_334 : decode cL_law 334 = .ok (.bipush 10, 2) := by decide +kernel
theorem dL_law_336 : decode cL_law 336 = .ok (.iload 22, 2) := by decide +kernel
theorem dL_law_338 : decode cL_law 338 = .ok (.aload_n 2, 1) := by decide +kernel
theorem dL_law_339 : decode cL_law 339 = .ok (.aload_n 3, 1) := by decide +kernel
theorem dL_law_340 : decode cL_law 340 = .ok (.aload 4, 2) := by decide +kernel
theorem dL_law_342 : decode cL_law 342 = .ok (.aload 5, 2) := by decide +kernel
theorem dL_law_344 : decode cL_law 344 = .ok (.aload 6, 2) := by decide +kernel
theorem dL_law_346 : decode cL_law 346 = .ok (.aload 7, 2) := by decide +kernel
theorem dL_law_348 : decode cL_law 348 = .ok (.aload 8, 2) := by decide +kernel
theorem dL_law_350 : decode cL_law 350 = .ok (.aload 9, 2) := by decide +kernel
theorem dL_law_352 : decode cL_law 352 = .ok (.aload 10, 2) := by decide +kernel
theorem dL_law_354 : decode cL_law 354 = .ok (.aload 11, 2) := by decide +kernel
theorem dL_law_356 : decode cL_law 356 = .ok (.aload 12, 2) := by decide +kernel
theorem dL_law_358 : decode cL_law 358 = .ok (.aload 13, 2) := by decide +kernel
theorem dL_law_360 : decode cL_law 360 = .ok (.aload 14, 2) := by decide +kernel
theorem dL_law_362 : decode cL_law 362 = .ok (.aload 17, 2) := by decide +kernel
theorem dL_law_364 : decode cL_law 364 = .ok (.invokestatic 157, 3) := by decide +kernel
theorem dL_law_367 : decode cL_law 367 = .ok (.istore 18, 2) := by decide +kernel
theorem dL_law_369 : decode cL_law 369 = .ok (.goto 95, 3) := by decide +kernel
theorem dL_law_372 : decode cL_law 372 = .ok (.iconst 1, 1) := by decide +kernel
theorem dL_law_373 : decode cL_law 373 = .ok (.iload 22, 2) := by decide +kernel
theorem dL_law_375 : decode cL_law 375 = .ok (.iconst 5, 1) := by decide +kernel
theorem dL_law_376 : decode cL_law 376 = .ok (.invokestatic 29, 3) := by decide +kernel
theorem dL_law_379 : decode cL_law 379 = .ok (.iadd, 1) := by decide +kernel
theorem dL_law_380 : decode cL_law 380 = .ok (.istore 23, 2) := by decide +kernel
theorem dL_law_382 : decode cL_law 382 = .ok (.iconst 0, 1) := by decide +kernel
theorem dL_law_383 : decode cL_law 383 = .ok (.istore 24, 2) := by decide +kernel
theorem dL_law_385 : decode cL_law 385 = .ok (.iload 24, 2) := by decide +kernel
theorem dL_law_387 : decode cL_law 387 = .ok (.iload 23, 2) := by decide +kernel
theorem dL_law_389 : decode cL_law 389 = .ok (.if_icmp .ge 75, 3) := by decide +kernel
theorem dL_law_392 : decode cL_law 392 = .ok (.iload 18, 2) := by decide +kernel
theorem dL_law_394 : decode cL_law 394 = .ok (.ifCond .eq 70, 3) := by decide +kernel
theorem dL_law_397 : decode cL_law 397 = .ok (.aload 17, 2) := by decide +kernel
theorem dL_law_399 : decode cL_law 399 = .ok (.iconst 5, 1) := by decide +kernel
theorem dL_law_400 : decode cL_law 400 = .ok (.iaload, 1) := by decide +kernel
theorem dL_law_401 : decode cL_law 401 = .ok (.bipush 26, 2) := by decide +kernel
theorem dL_law_403 : decode cL_law 403 = .ok (.if_icmp .ge 55, 3) := by decide +kernel
theorem dL_law_406 : decode cL_law 406 = .ok (.aload_n 2, 1) := by decide +kernel
theorem dL_law_407 : decode cL_law 407 = .ok (.aload_n 3, 1) := by decide +kernel
theorem dL_law_408 : decode cL_law 408 = .ok (.aload 4, 2) := by decide +kernel
theorem dL_law_410 : decode cL_law 410 = .ok (.aload 5, 2) := by decide +kernel
theorem dL_law_412 : decode cL_law 412 = .ok (.aload 6, 2) := by decide +kernel
theorem dL_law_414 : decode cL_law 414 = .ok (.aload 7, 2) := by decide +kernel
theorem dL_law_416 : decode cL_law 416 = .ok (.aload 8, 2) := by decide +kernel
theorem dL_law_418 : decode cL_law 418 = .ok (.aload 9, 2) := by decide +kernel
theorem dL_law_420 : decode cL_law 420 = .ok (.aload 10, 2) := by decide +kernel
theorem dL_law_422 : decode cL_law 422 = .ok (.aload 11, 2) := by decide +kernel
theorem dL_law_424 : decode cL_law 424 = .ok (.aload 12, 2) := by decide +kernel
theorem dL_law_426 : decode cL_law 426 = .ok (.aload 13, 2) := by decide +kernel
theorem dL_law_428 : decode cL_law 428 = .ok (.aload 14, 2) := by decide +kernel
theorem dL_law_430 : decode cL_law 430 = .ok (.aload 15, 2) := by decide +kernel
theorem dL_law_432 : decode cL_law 432 = .ok (.aload 16, 2) := by decide +kernel
theorem dL_law_434 : decode cL_law 434 = .ok (.aload 17, 2) := by decide +kernel
theorem dL_law_436 : decode cL_law 436 = .ok (.invokestatic 161, 3) := by decide +kernel
theorem dL_law_439 : decode cL_law 439 = .ok (.aload_n 1, 1) := by decide +kernel
theorem dL_law_440 : decode cL_law 440 = .ok (.iconst 1, 1) := by decide +kernel
theorem dL_law_441 : decode cL_law 441 = .ok (.invokevirtual 165, 3) := by decide +kernel
theorem dL_law_444 : decode cL_law 444 = .ok (.aload 17, 2) := by decide +kernel
theorem dL_law_446 : decode cL_law 446 = .ok (.iconst 0, 1) := by decide +kernel
theorem dL_law_447 : decode cL_law 447 = .ok (.iaload, 1) := by decide +kernel
theorem dL_law_448 : decode cL_law 448 = .ok (.if_icmp .ne 7, 3) := by decide +kernel
theorem dL_law_451 : decode cL_law 451 = .ok (.iconst 1, 1) := by decide +kernel
theorem dL_law_452 : decode cL_law 452 = .ok (.goto 4, 3) := by decide +kernel
theorem dL_law_455 : decode cL_law 455 = .ok (.iconst 0, 1) := by decide +kernel
theorem dL_law_456 : decode cL_law 456 = .ok (.istore 18, 2) := by decide +kernel
theorem dL_law_458 : decode cL_law 458 = .ok (.iinc 24 1, 3) := by decide +kernel
theorem dL_law_461 : decode cL_law 461 = .ok (.goto (-76), 3) := by decide +kernel
theorem dL_law_464 : decode cL_law 464 = .ok (.iload 18, 2) := by decide +kernel
theorem dL_law_466 : decode cL_law 466 = .ok (.ifCond .eq 47, 3) := by decide +kernel
theorem dL_law_469 : decode cL_law 469 = .ok (.aload_n 1, 1) := by decide +kernel
theorem dL_law_470 : decode cL_law 470 = .ok (.iload 22, 2) := by decide +kernel
theorem dL_law_472 : decode cL_law 472 = .ok (.iconst 1, 1) := by decide +kernel
theorem dL_law_473 : decode cL_law 473 = .ok (.ishr, 1) := by decide +kernel
theorem dL_law_474 : decode cL_law 474 = .ok (.ldc 168, 2) := by decide +kernel
theorem dL_law_476 : decode cL_law 476 = .ok (.iand, 1) := by decide +kernel
theorem dL_law_477 : decode cL_law 477 = .ok (.aload_n 2, 1) := by decide +kernel
theorem dL_law_478 : decode cL_law 478 = .ok (.aload_n 3, 1) := by decide +kernel
theorem dL_law_479 : decode cL_law 479 = .ok (.aload 4, 2) := by decide +kernel
theorem dL_law_481 : decode cL_law 481 = .ok (.aload 5, 2) := by decide +kernel
theorem dL_law_483 : decode cL_law 483 = .ok (.aload 6, 2) := by decide +kernel
theorem dL_law_485 : decode cL_law 485 = .ok (.aload 7, 2) := by decide +kernel
theorem dL_law_487 : decode cL_law 487 = .ok (.aload 10, 2) := by decide +kernel
theorem dL_law_489 : decode cL_law 489 = .ok (.aload 11, 2) := by decide +kernel
theorem dL_law_491 : decode cL_law 491 = .ok (.aload 12, 2) := by decide +kernel
theorem dL_law_493 : decode cL_law 493 = .ok (.aload 13, 2) := by decide +kernel
theorem dL_law_495 : decode cL_law 495 = .ok (.aload 14, 2) := by decide +kernel
theorem dL_law_497 : decode cL_law 497 = .ok (.aload 15, 2) := by decide +kernel
theorem dL_law_499 : decode cL_law 499 = .ok (.aload 16, 2) := by decide +kernel
theorem dL_law_501 : decode cL_law 501 = .ok (.aload 17, 2) := by decide +kernel
theorem dL_law_503 : decode cL_law 503 = .ok (.invokestatic 169, 3) := by decide +kernel
theorem dL_law_506 : decode cL_law 506 = .ok (.ifCond .eq 7, 3) := by decide +kernel
theorem dL_law_509 : decode cL_law 509 = .ok (.iconst 1, 1) := by decide +kernel
theorem dL_law_510 : decode cL_law 510 = .ok (.goto 4, 3) := by decide +kernel
theorem dL_law_513 : decode cL_law 513 = .ok (.iconst 0, 1) := by decide +kernel
theorem dL_law_514 : decode cL_law 514 = .ok (.istore 18, 2) := by decide +kernel
theorem dL_law_516 : decode cL_law 516 = .ok (.iinc 19 1, 3) := by decide +kernel
theorem dL_law_519 : decode cL_law 519 = .ok (.goto (-357), 3) := by decide +kernel
theorem dL_law_522 : decode cL_law 522 = .ok (.iload 18, 2) := by decide +kernel
theorem dL_law_524 : decode cL_law 524 = .ok (.ireturn, 1) := by decide +kernel
end
section
/-! THE CLAIM OUT OF ONE WALK OF THE LAW'S BODY. Your part is whole_start (and what it stands on); all else here is the same for every law, but numbers. -/
def R_law : String := "GyreWatchLaw"
def lw_P (b : Addr) (xs : List Int32) (args : Array Value) (s : State) : Prop := args = #[.ref b] ∧ s.IntsAt b xs ∧ xs.length ≤ 260 ∧ (Jvm.Cond.and given_1 narrow_1).before args s = true
def lw_Q (_ : Array Value) (s : State) (o : Outcome) (t : State) : Prop := o = .returned (some (.int 1)) ∧ Framed s o t [] 601788 7296259
def lw_Z (below : List Frame) (a : Array Value) (s : State) : State → Prop := fun t => ∃ o, t.status = .running ∧ Ended t below o ∧ lw_Q a s o t
/-- the law's own end, with 1 on the stack, nothing written that was there before, its room as the claim has it -/
theorem lw_ret {p : Program} {l : Launch} {e : Env} {s : State} {m : MethodId} {below : List Frame} {meth : Method} {c : Code} {b : Nat} (hx : p.tables.exec = Jvm.exec) (hb : c.code = code) (hr : meth.sig.returnType = ret) (hlocks : meth.locks = false) {pc : Nat} {H : Heap} {ls : Array Slot} (hdg : decode code pc = .ok (.ireturn, 1)) : W p l e room_1 s m #[Value.ref b] below meth c H [] 601788 7296259 (lw_Z below #[Value.ref b] s) (F0 m pc ls [.int 1]) := by
  intro T hT X
  obtain ⟨fs, hret, hrun, hended, hW, hframe⟩ := X.leave (v := some (.int 1)) (hlocks := hlocks) (fun h => by rw [hr] at h; cases h)
  have hmeth' : T.vm.method? m = some meth := X.method'
  refine ⟨T.setFrames fs, ?_, .returned (some (.int 1)), hrun, hended, rfl, ⟨_, rfl⟩, hW, hframe⟩
  jvm_step X.here [X.here.top, hx, hb, hdg, hmeth', hr, ret, narrow_b1]
  (try refine ⟨rfl, ?_⟩); (try refine ⟨rfl, ?_⟩)
  first | (intro acts; rw [hret _ acts rfl rfl rfl]) | rw [hret _ _ rfl rfl rfl]
  exact Steps.refl _
/-- what holds at the law's entry: the machine, the code, the tables' words (any of lw_tbl by 'hts w (by decide +kernel)'), the script of L ints xs at the cell b, what the Statement gives of the start (any of its parts by flat_of_before) -/
def lw_At (p : Program) (s : State) (m : MethodId) (meth : Method) (c : Code) (b L : Nat) (xs : Nat → Int32) : Prop :=
  p.tables.exec = Jvm.exec ∧ c.code = code ∧ meth.sig.returnType = ret ∧ c.maxLocals = 25 ∧ s.vm.findClass R_law = some m.cls ∧ (∀ w ∈ lw_tbl, w.before #[Value.ref b] s = true) ∧ va_X b L xs s s.heap ∧ b < s.heap.size ∧ meth.locks = false ∧ (Jvm.Cond.and given_1 narrow_1).before #[Value.ref b] s = true
end
section
/-! small machine: values, heap, worlds -/
abbrev MV : Type := Int32 ⊕ (Option Nat ⊕ Int64)
abbrev vI (x : Int32) : MV := Sum.inl x
abbrev vR (r : Option Nat) : MV := Sum.inr (Sum.inl r)
abbrev vL (x : Int64) : MV := Sum.inr (Sum.inr x)
def cv (ad : Nat → Nat) (v : MV) : Value := match v with
  | .inl x => .int x
  | .inr (.inl r) => va_rf (r.map ad)
  | .inr (.inr x) => .long x
def cvl (ad : Nat → Nat) (q : Nat × MV) : Nat × Value := (q.1, cv ad q.2)
def okv (n : Nat) (v : MV) : Prop := ∀ a : Nat, v = vR (some a) → a ≤ n
theorem okv_I {n : Nat} {x : Int32} : okv n (vI x) := fun a h => by cases h
theorem okv_L {n : Nat} {x : Int64} : okv n (vL x) := fun a h => by cases h
theorem okv_N {n : Nat} : okv n (vR none) := fun a h => by cases h
theorem okv_mono {n m : Nat} {v : MV} (h : okv n v) (hm : n ≤ m) : okv m v := fun a e => Nat.le_trans (h a e) hm
theorem cv_congr {n : Nat} {v : MV} {ad ad' : Nat → Nat} (h : okv n v) (e : ∀ z, z < n + 1 → ad' z = ad z) : cv ad' v = cv ad v := by
  rcases v with x | r | x
  · rfl
  · cases r with
    | none => rfl
    | some a =>
      show va_rf (some (ad' a)) = va_rf (some (ad a))
      rw [e a (by have := h a rfl; omega)]
  · rfl
theorem map_cv_congr {n : Nat} {st : List MV} {ad ad' : Nat → Nat} (h : ∀ v ∈ st, okv n v) (e : ∀ z, z < n + 1 → ad' z = ad z) : st.map (cv ad') = st.map (cv ad) :=
  List.map_congr_left fun v hv => cv_congr (h v hv) e
theorem map_cvl_congr {n : Nat} {L : List (Nat × MV)} {ad ad' : Nat → Nat} (h : ∀ q ∈ L, okv n q.2) (e : ∀ z, z < n + 1 → ad' z = ad z) : L.map (cvl ad') = L.map (cvl ad) :=
  List.map_congr_left fun q hq => by unfold cvl; rw [cv_congr (h q hq) e]
abbrev MH : Type := (Nat → Nat) × (Nat → Nat) × (Nat → Nat → Int32) × (Nat → Nat → Option Nat) × (Nat → Nat → Int64) × Nat × Nat × Nat
def hk (h : MH) : Nat → Nat := h.1
def hl (h : MH) : Nat → Nat := h.2.1
def hi (h : MH) : Nat → Nat → Int32 := h.2.2.1
def hr (h : MH) : Nat → Nat → Option Nat := h.2.2.2.1
def hq (h : MH) : Nat → Nat → Int64 := h.2.2.2.2.1
def hn (h : MH) : Nat := h.2.2.2.2.2.1
def hc (h : MH) : Nat := h.2.2.2.2.2.2.1
def hs (h : MH) : Nat := h.2.2.2.2.2.2.2
def up2 {α : Type} (f : Nat → Nat → α) (a j : Nat) (v : α) : Nat → Nat → α := fun b k => if b = a ∧ k = j then v else f b k
def upr {α : Type} (f : Nat → Nat → α) (a : Nat) (g : Nat → α) : Nat → Nat → α := fun b k => if b = a then g k else f b k
def up1 {α : Type} (f : Nat → α) (a : Nat) (v : α) : Nat → α := fun b => if b = a then v else f b
def sI (h : MH) (a j : Nat) (v : Int32) : MH := (hk h, hl h, up2 (hi h) a j v, hr h, hq h, hn h, hc h, hs h)
def sR (h : MH) (a j : Nat) (v : Option Nat) : MH := (hk h, hl h, hi h, up2 (hr h) a j v, hq h, hn h, hc h, hs h)
def sQ (h : MH) (a j : Nat) (v : Int64) : MH := (hk h, hl h, hi h, hr h, up2 (hq h) a j v, hn h, hc h, hs h)
def sIr (h : MH) (a : Nat) (f : Nat → Int32) : MH := (hk h, hl h, upr (hi h) a f, hr h, hq h, hn h, hc h, hs h)
def alc (h : MH) (k n : Nat) : MH := (up1 (hk h) (hn h + 1) k, up1 (hl h) (hn h + 1) n, upr (hi h) (hn h + 1) (fun _ => 0), upr (hr h) (hn h + 1) (fun _ => none), upr (hq h) (hn h + 1) (fun _ => 0), hn h + 1, hc h + 1, hs h + n)
def exc (h : MH) : MH := (hk h, hl h, hi h, hr h, hq h, hn h, hc h + 1, hs h + 6)
def Hle (h h' : MH) : Prop := hn h ≤ hn h' ∧ hc h ≤ hc h' ∧ hs h ≤ hs h'
theorem Hle.rf {h : MH} : Hle h h := ⟨Nat.le_refl _, Nat.le_refl _, Nat.le_refl _⟩
theorem Hle.tr {a b c : MH} (h1 : Hle a b) (h2 : Hle b c) : Hle a c := ⟨Nat.le_trans h1.1 h2.1, Nat.le_trans h1.2.1 h2.2.1, Nat.le_trans h1.2.2 h2.2.2⟩
/-! tables of the classes -/
def CL : List vw_C := [(RX0, TX0, 9), (RX1, TX1, 2), (RX2, TX2, 3), (RX0, TX0, 9), (RX4, TX4, 7), (RX5, TX5, 8), (RX6, TX6, 3), (RX7, TX7, 5), (RX8, TX8, 10)]
def nF (k : Nat) : Nat := [9, 2, 3, 9, 7, 8, 3, 5, 10, 0].getD k 0
def RN (k : Nat) : String := [RX0, RX1, RX2, RX0, RX4, RX5, RX6, RX7, RX8, RX3].getD k ""
def TN (k : Nat) : u_T := [TX0, TX1, TX2, TX0, TX4, TX5, TX6, TX7, TX8, TX3].getD k TX0
def tyN (k : Nat) : Nat → FieldType := [tyX0, tyX1, tyX2, tyX0, tyX4, tyX5, tyX6, tyX7, tyX8, tyX3].getD k tyX0
def isRt (t : FieldType) : Bool := match t with
  | .object _ => true
  | .array _ => true
  | _ => false
def isR (k j : Nat) : Bool := isRt (tyN k j)
def AK : List Nat := [20, 21, 22, 23, 24, 25]
def tyK (k : Nat) : FieldType := match k with
  | 20 => .int
  | 21 => .boolean
  | 22 => .object RX0
  | 23 => .object RX3
  | 24 => .object RX4
  | 25 => .object RX6
  | _ => .long
def coK (k : Nat) : Nat := match k with
  | 22 => 0
  | 23 => 9
  | 24 => 4
  | _ => 6
def TYL (cy : Nat → ClassId) : List (ClassId × FieldType) := AK.map fun k => (cy k, tyK k)
def clO (cy : Nat → ClassId) (ad : Nat → Nat) (h : MH) (a : Nat) : va_E :=
  if hk h a < 20 then .inr (hk h a, (List.range (nF (hk h a))).map fun j => if isR (hk h a) j = true then va_rf ((hr h a j).map ad) else .int (hi h a j))
  else if hk h a < 22 then .inl (cy (hk h a), hl h a, .inl (hi h a))
  else if hk h a < 30 then .inl (cy (hk h a), hl h a, .inr (.inr (.inr (.inr fun j => (hr h a j).map ad))))
  else .inl (cy (hk h a), hl h a, .inr (.inl (hq h a)))
def wsO (cy : Nat → ClassId) (ad : Nat → Nat) (h : MH) : va_W := (List.range (hn h)).map fun k => (ad (k + 1), clO cy ad h (k + 1))
abbrev bA (base : Nat) : Nat → Prop := fun q => base ≤ q
def Wld (D : va_G) (cy : Nat → ClassId) (base : Nat) (ad : Nat → Nat) (h : MH) (H : Heap) : Prop :=
  va_P D CL (wsO cy ad h) H ∧ va_D (bA base) (wsO cy ad h) ∧ (∀ a, (a = 0 ∨ hn h < a) → 40 ≤ hk h a) ∧ ∀ a j r, hr h a j = some r → r ≤ hn h
theorem wsO_len {cy : Nat → ClassId} {ad : Nat → Nat} {h : MH} : (wsO cy ad h).length = hn h := by simp [wsO]
theorem wsO_at {cy : Nat → ClassId} {ad : Nat → Nat} {h : MH} {k : Nat} (hk : k < hn h) : (wsO cy ad h)[k]? = some (ad (k + 1), clO cy ad h (k + 1)) := by
  simp [wsO, hk]
theorem Wld.inb {D : va_G} {cy : Nat → ClassId} {base : Nat} {ad : Nat → Nat} {h : MH} {H : Heap} (w : Wld D cy base ad h H) {a : Nat} (ha : hk h a < 40) : ∃ q, q < hn h ∧ a = q + 1 := by
  have h1 : ¬ (a = 0 ∨ hn h < a) := fun q => absurd (w.2.2.1 a q) (by omega)
  exact ⟨a - 1, by omega, by omega⟩
theorem clO_obj {cy : Nat → ClassId} {ad : Nat → Nat} {h : MH} {a ci : Nat} (hka : hk h a = ci) (hci : ci < 20) : clO cy ad h a = .inr (ci, (List.range (nF ci)).map fun j => if isR ci j = true then va_rf ((hr h a j).map ad) else .int (hi h a j)) := by
  unfold clO; rw [hka, if_pos hci]
theorem clO_int {cy : Nat → ClassId} {ad : Nat → Nat} {h : MH} {a k : Nat} (hka : hk h a = k) (h1 : ¬ k < 20) (h2 : k < 22) : clO cy ad h a = .inl (cy k, hl h a, .inl (hi h a)) := by
  unfold clO; rw [hka, if_neg h1, if_pos h2]
theorem clO_ref {cy : Nat → ClassId} {ad : Nat → Nat} {h : MH} {a k : Nat} (hka : hk h a = k) (h1 : ¬ k < 22) (h2 : k < 30) : clO cy ad h a = .inl (cy k, hl h a, .inr (.inr (.inr (.inr fun j => (hr h a j).map ad)))) := by
  unfold clO; rw [hka, if_neg (by omega), if_neg h1, if_pos h2]
theorem clO_lng {cy : Nat → ClassId} {ad : Nat → Nat} {h : MH} {a : Nat} (hka : hk h a = 30) : clO cy ad h a = .inl (cy 30, hl h a, .inr (.inl (hq h a))) := by
  unfold clO; rw [hka, if_neg (by omega), if_neg (by omega), if_neg (by omega)]
theorem TYL_at {cy : Nat → ClassId} {k : Nat} (hk : k ∈ AK) : ∃ t0 : Nat, (TYL cy)[t0]? = some (cy k, tyK k) := by
  obtain ⟨t0, ht⟩ := List.getElem?_of_mem hk
  exact ⟨t0, by simp [TYL, ht]⟩
theorem clO_arr {cy : Nat → ClassId} {ad : Nat → Nat} {h : MH} {a k : Nat} (hka : hk h a = k) (h1 : ¬ k < 20) : ∃ x : vp_A, clO cy ad h a = .inl (cy k, x) ∧ x.1 = hl h a := by
  unfold clO
  rw [hka, if_neg h1]
  by_cases h2 : k < 22
  · rw [if_pos h2]; exact ⟨_, rfl, rfl⟩
  · rw [if_neg h2]
    by_cases h3 : k < 30
    · rw [if_pos h3]; exact ⟨_, rfl, rfl⟩
    · rw [if_neg h3]; exact ⟨_, rfl, rfl⟩
theorem CL_at {ci : Nat} (h : ci < 9) : CL[ci]? = some (RN ci, TN ci, nF ci) := by
  match ci, h with
  | 0, _ => rfl
  | 1, _ => rfl
  | 2, _ => rfl
  | 3, _ => rfl
  | 4, _ => rfl
  | 5, _ => rfl
  | 6, _ => rfl
  | 7, _ => rfl
  | 8, _ => rfl
  | n + 9, h => exact absurd h (by omega)
theorem tyN_ok {ci : Nat} (h : ci < 9) : ∀ k, k < nF ci → parseFieldDescriptor ((TN ci) k).2.2.1 = some (tyN ci k) := by
  match ci, h with
  | 0, _ => exact tyX0_ok
  | 1, _ => exact tyX1_ok
  | 2, _ => exact tyX2_ok
  | 3, _ => exact tyX0_ok
  | 4, _ => exact tyX4_ok
  | 5, _ => exact tyX5_ok
  | 6, _ => exact tyX6_ok
  | 7, _ => exact tyX7_ok
  | 8, _ => exact tyX8_ok
  | n + 9, h => exact absurd h (by omega)
theorem nmN {ci : Nat} (h : ci < 9) : ∀ a, a < nF ci → ∀ b, b < nF ci → a ≠ b → ((TN ci) a).2.1 ≠ ((TN ci) b).2.1 := by
  match ci, h with
  | 0, _ => exact nmX0
  | 1, _ => exact nmX1
  | 2, _ => exact nmX2
  | 3, _ => exact nmX0
  | 4, _ => exact nmX4
  | 5, _ => exact nmX5
  | 6, _ => exact nmX6
  | 7, _ => exact nmX7
  | 8, _ => exact nmX8
  | n + 9, h => exact absurd h (by omega)
def GW : List Cond := lw_tbl.filter goodWord
theorem GW_of {w : Cond} (h : w ∈ lw_tbl) (g : goodWord w = true) : w ∈ GW := List.mem_filter.mpr ⟨h, g⟩
theorem GW_t {w : Cond} (h : w ∈ GW) : w ∈ lw_tbl := (List.mem_filter.mp h).1
theorem GW_g {w : Cond} (h : w ∈ GW) : goodWord w = true := (List.mem_filter.mp h).2
theorem uws_g (C : String) (T : u_T) (N : Nat) : ∀ w ∈ u_ws C T N, goodWord w = true := by
  intro w hw
  obtain ⟨k, -, rfl⟩ := List.mem_map.mp hw
  unfold u_lay
  split <;> rfl
theorem inN0 : ∀ w ∈ wsX00, w ∈ lw_tbl := by decide +kernel
theorem inN1 : ∀ w ∈ wsX10, w ∈ lw_tbl := by decide +kernel
theorem inN2 : ∀ w ∈ wsX20, w ∈ lw_tbl := by decide +kernel
theorem inN4 : ∀ w ∈ wsX40, w ∈ lw_tbl := by decide +kernel
theorem inN5 : ∀ w ∈ wsX50, w ∈ lw_tbl := by decide +kernel
theorem inN6 : ∀ w ∈ wsX60, w ∈ lw_tbl := by decide +kernel
theorem inN7 : ∀ w ∈ wsX70, w ∈ lw_tbl := by decide +kernel
theorem inN8 : ∀ w ∈ wsX80, w ∈ lw_tbl := by decide +kernel
theorem inN {ci : Nat} (h : ci < 9) : ∀ w ∈ u_ws (RN ci) (TN ci) (nF ci), w ∈ GW := by
  intro w hw
  refine GW_of ?_ (uws_g _ _ _ w hw)
  match ci, h with
  | 0, _ => exact inN0 w hw
  | 1, _ => exact inN1 w hw
  | 2, _ => exact inN2 w hw
  | 3, _ => exact inN0 w hw
  | 4, _ => exact inN4 w hw
  | 5, _ => exact inN5 w hw
  | 6, _ => exact inN6 w hw
  | 7, _ => exact inN7 w hw
  | 8, _ => exact inN8 w hw
  | n + 9, h => exact absurd h (by omega)
/-! worlds change -/
theorem map_set_eq {α : Type} {n k : Nat} {f g : Nat → α} (hk : k < n) (h : ∀ j, j < n → j ≠ k → g j = f j) : ((List.range n).map f).set k (g k) = (List.range n).map g := by
  apply List.ext_getElem?
  intro i
  by_cases hi : i < n
  · by_cases e : i = k
    · subst e
      rw [List.getElem?_set_self (by simp [hk])]
      simp [hk]
    · rw [List.getElem?_set_ne (Ne.symm e)]
      simp [hi, h i hi e]
  · have h1 : ((List.range n).map g)[i]? = none := by simp; omega
    rw [h1]
    rw [List.getElem?_eq_none_iff]
    simp; omega
theorem wsO_set {cy : Nat → ClassId} {ad : Nat → Nat} {h h2 : MH} {q : Nat} {e : va_E} (hq : q < hn h) (hn2 : hn h2 = hn h) (he : e = clO cy ad h2 (q + 1)) (ho : ∀ b, b ≠ q + 1 → clO cy ad h2 b = clO cy ad h b) : (wsO cy ad h).set q (ad (q + 1), e) = wsO cy ad h2 := by
  subst he
  unfold wsO
  rw [hn2]
  exact map_set_eq (f := fun k => (ad (k + 1), clO cy ad h (k + 1))) (g := fun k => (ad (k + 1), clO cy ad h2 (k + 1))) hq (fun j _ hj => by show (_, _) = (_, _); rw [ho (j + 1) (by omega)])
theorem up2_s {α : Type} {f : Nat → Nat → α} {a j : Nat} {v : α} : up2 f a j v a j = v := by simp [up2]
theorem up2_o {α : Type} {f : Nat → Nat → α} {a j b k : Nat} {v : α} (h : ¬ (b = a ∧ k = j)) : up2 f a j v b k = f b k := by simp [up2, h]
theorem up2_row {f : Nat → Nat → Int32} {a j : Nat} {v : Int32} : up2 f a j v a = upd (f a) j v := by
  funext k; simp [up2, upd]
theorem up2_oth {α : Type} {f : Nat → Nat → α} {a j b : Nat} {v : α} (h : b ≠ a) : up2 f a j v b = f b := by
  funext k; simp [up2, h]
theorem upr_s {α : Type} {f : Nat → Nat → α} {a : Nat} {g : Nat → α} : upr f a g a = g := by funext k; simp [upr]
theorem upr_o {α : Type} {f : Nat → Nat → α} {a b : Nat} {g : Nat → α} (h : b ≠ a) : upr f a g b = f b := by funext k; simp [upr, h]
theorem clO_same {cy : Nat → ClassId} {ad ad' : Nat → Nat} {h h2 : MH} {b : Nat} (e1 : hk h2 b = hk h b) (e2 : hl h2 b = hl h b) (e3 : hi h2 b = hi h b) (e4 : hr h2 b = hr h b) (e5 : hq h2 b = hq h b) (ea : ∀ j, (hr h b j).map ad' = (hr h b j).map ad) : clO cy ad' h2 b = clO cy ad h b := by
  unfold clO
  rw [e1, e2, e3, e4, e5]
  simp only [ea]
end
section
/-! results, contexts, the judgement V -/
abbrev MR : Type := Option MV ⊕ Nat
abbrev Res : Type := Option (MR × MH)
def exN (x : Nat) : String := match x with
  | 1 => "java/lang/IndexOutOfBoundsException"
  | 2 => "java/lang/IllegalArgumentException"
  | _ => "java/lang/IllegalStateException"
def NML : List (String × Nat × MethodName × String) := [("GyreWatch", 11, ⟨"GyreWatch$Sea", "<init>", "()V"⟩, "GyreWatch"), ("GyreWatch", 24, ⟨"GyreWatch$Log", "<init>", "()V"⟩, "GyreWatch"), ("GyreWatch", 31, ⟨"GyreWatch$Ships", "<init>", "()V"⟩, "GyreWatch"), ("GyreWatch$Layer", 24, ⟨"GyreWatch", "isCell", "(I)Z"⟩, "GyreWatch"), ("GyreWatch$Log", 24, ⟨"GyreWatch", "isIndex", "(II)Z"⟩, "GyreWatch"), ("GyreWatch$Sea", 37, ⟨"GyreWatch", "isCell", "(I)Z"⟩, "GyreWatch"), ("GyreWatch$Sea", 52, ⟨"GyreWatch", "isIndex", "(II)Z"⟩, "GyreWatch"), ("GyreWatch$Search", 22, ⟨"GyreWatch", "isCell", "(I)Z"⟩, "GyreWatch"), ("GyreWatch$Search", 54, ⟨"GyreWatch", "isIndex", "(II)Z"⟩, "GyreWatch"), ("GyreWatch$Ships", 21, ⟨"GyreWatch", "isIndex", "(II)Z"⟩, "GyreWatch")]
def SRL : List (String × Nat × String) := [("GyreWatch", 109, "no station can be told there"), ("GyreWatch", 118, "20 storms were told"), ("GyreWatch", 150, "no reading of a ship is near"), ("GyreWatch", 168, "no search can begin there"), ("GyreWatch", 281, "there is no such cell"), ("GyreWatch", 286, "an argument is out of its range"), ("GyreWatch", 289, "the cell is LAND"), ("GyreWatch", 291, "there is no such float"), ("GyreWatch", 297, "there is no such reading"), ("GyreWatch", 299, "there is no such search"), ("GyreWatch", 307, "no reading has a weight"), ("GyreWatch", 65, "the cell can't be made LAND"), ("GyreWatch", 85, "the day would be above 1000"), ("GyreWatch", 97, "no float can be laid out there")]
def NDL : List MethodName := [⟨"java/lang/Exception", "<init>", "()V"⟩, ⟨"java/lang/Exception", "<init>", "(Ljava/lang/String;)V"⟩, ⟨"java/lang/RuntimeException", "<init>", "()V"⟩, ⟨"java/lang/RuntimeException", "<init>", "(Ljava/lang/String;)V"⟩, ⟨"java/lang/Throwable", "<init>", "()V"⟩, ⟨"java/lang/Throwable", "<init>", "(Ljava/lang/String;)V"⟩]
def NCL : List (String × String) := [(exN 1, exN 2), (exN 1, exN 3), (exN 2, exN 1), (exN 2, exN 3), (exN 3, exN 1), (exN 3, exN 2)]
def AOL : List String := [RX0, RX3, RX4, RX6]
def EnvO (D : va_G) (cy : Nat → ClassId) (base : Nat) (U : State) : Prop :=
  va_K D CL (TYL cy) U ∧ (∀ q ∈ NML, va_Nw (.methodLinkNest q.1 q.2.1 q.2.2.1 q.2.2.2) U) ∧ ((∀ x, va_Nw (.castable (exN x) (exN x)) U) ∧ ∀ y ∈ NDL, va_Nw (.declares y) U) ∧ (∀ C ∈ AOL, va_AO C U) ∧ (∀ q ∈ NCL, va_Nc q.1 q.2 U) ∧
  (∀ q ∈ SRL, ∃ a : Nat, vk_R q.1 q.2.1 q.2.2 a U) ∧ vx_Zq Bundle.tN "UNASSIGNED_STACK" Bundle.steD (bA base) U U.heap ∧ vx_Zq Bundle.tN "SUPPRESSED_SENTINEL" Bundle.listD (bA base) U U.heap ∧ base ≤ U.heap.size
theorem EnvO.go {D : va_G} {cy : Nat → ClassId} {base : Nat} {s U : State} {locs : List Loc} (h : EnvO D cy base s) (hW : s.WarmedH U.vm) (hS : va_S (bA base) s.heap U.heap locs) : EnvO D cy base U := by
  obtain ⟨h1, h2, h3, h4, h5, h6, h7, h8, h9⟩ := h
  refine ⟨va_K.moved hW.alike h1, fun q hq => va_Nw.warmM hW (h2 q hq), ⟨fun x => va_Nw.warmC hW (h3.1 x), fun y hy => va_Nw.warmD hW (h3.2 y hy)⟩, fun C hC => va_AO.moved hW.alike (h4 C hC), fun q hq => va_Nc.moved hW.alike (h5 q hq), fun q hq => ?_, vx_Zq.moved hW.alike (h7.kept hS.2.1), vx_Zq.moved hW.alike (h8.kept hS.2.1), Nat.le_trans h9 hS.1⟩
  obtain ⟨a, ha⟩ := h6 q hq
  exact ⟨a, vk_R.warm hW ha⟩
theorem EnvO.calling {D : va_G} {cy : Nat → ClassId} {base : Nat} {U : State} (h : EnvO D cy base U) (g : JFrame) (mk : MethodId) (a : Array Value) : EnvO D cy base (U.calling g mk a) :=
  h.go (s := U) (U := U.calling g mk a) (locs := []) (State.WarmedH.refl U) va_S.rf
def PcF (D : va_G) (cy : Nat → ClassId) (base : Nat) (ad0 : Nat → Nat) (vs : List MV) (h : MH) : Array Value → State → Prop := fun a U =>
  a = (vs.map (cv ad0)).toArray ∧ EnvO D cy base U ∧ Wld D cy base ad0 h U.heap ∧ ∀ v ∈ vs, okv (hn h) v
theorem PcF.blind {D : va_G} {cy : Nat → ClassId} {base : Nat} {ad0 : Nat → Nat} {vs : List MV} {h : MH} : FrameBlind (PcF D cy base ad0 vs h) :=
  fun a _ g mk q => ⟨q.1, q.2.1.calling g mk a, q.2.2.1, q.2.2.2⟩
def QcF (D : va_G) (cy : Nat → ClassId) (base : Nat) (ad0 : Nat → Nat) (n0 : Nat) (r : MR) (h' : MH) : Array Value → State → Outcome → State → Prop := fun _ st o t =>
  ∃ v : Option MV, r = .inl v ∧ (∃ ad' : Nat → Nat, (∀ z, z < n0 → ad' z = ad0 z) ∧ o = .returned (v.map (cv ad')) ∧ (∀ w, v = some w → okv (hn h') w) ∧ Wld D cy base ad' h' t.heap) ∧ va_F (bA base) st t
def XcF (D : va_G) (cy : Nat → ClassId) (base : Nat) (ad0 : Nat → Nat) (n0 : Nat) (r : MR) (h' : MH) : String → State → State → Prop := fun E st t =>
  ∃ x : Nat, r = .inr x ∧ E = exN x ∧ (∃ ad' : Nat → Nat, (∀ z, z < n0 → ad' z = ad0 z) ∧ Wld D cy base ad' h' t.heap) ∧ va_F (bA base) st t
abbrev CT0 : Type := Program × Launch × Env × Room × State × MethodId × Array Value × List Frame × Method × Code × va_G × (Nat → ClassId) × Nat × (Nat → Nat) × Nat × Nat × Nat
/-- a method's walk: what its end is owed, its locals, its name, and where it stands on a machine (or nowhere: the bare sums) -/
abbrev CT : Type := Nat × Nat × String × Option CT0
/-- what the end of a method is owed: 0 returns only, 1 returns or throws, else the law -/
def QFd (md : Nat) (K : CT0) (r : MR) (h' : MH) : State → Prop := match K with
  | (_, _, _, _, s, _, args, below, _, _, D, cy, base, ad0, n0, mc, ms) =>
    match md with
    | 0 => MQ below (QcF D cy base ad0 n0 r h') args s mc ms (bA base)
    | 1 => vx_MQ below (QcF D cy base ad0 n0 r h') (XcF D cy base ad0 n0 r h') args s mc ms (bA base)
    | _ => lw_Z below args s
def V (K : CT) (pc : Nat) (L : List (Nat × MV)) (st : List MV) (h : MH) (res : Res) : Prop :=
  ∀ (r : MR) (h' : MH), res = some (r, h') → (Hle h h' ∧ (K.1 = 0 → ∃ v : Option MV, r = Sum.inl v)) ∧
    match K.2.2.2 with
    | none => True
    | some (p, l, e, R, s, m, args, below, meth, c, D, cy, base, ad0, n0, mc, ms) =>
      ∀ (ad : Nat → Nat) (H : Heap) (locs : List Loc) (cells slots : Nat) (ls : Array Slot),
        Wld D cy base ad h H → va_S (bA base) s.heap H locs → ((∀ z, z < n0 → ad z = ad0 z) ∧ n0 ≤ hn h + 1) → lv_has ls K.2.1 (L.map (cvl ad)) →
        (∀ v ∈ st, okv (hn h) v) → (∀ q ∈ L, okv (hn h) q.2) →
        (cells + (hc h' - hc h) ≤ mc ∧ slots + (hs h' - hs h) ≤ ms) →
        W p l e R s m args below meth c H locs cells slots (QFd K.1 (p, l, e, R, s, m, args, below, meth, c, D, cy, base, ad0, n0, mc, ms) r h') (F0 m pc ls (st.map (cv ad)))
def Fr (K : CT) (cc : ByteArray) (own : String) (ret : Option FieldType) (hh : List (Nat × Nat × Nat × Nat)) (lvl md : Nat) : Prop := K.1 = md ∧ match K.2.2.2 with
  | none => True
  | some (p, l, _, R, s, m, args, _, meth, c, D, cy, base, _, _, mc, ms) =>
    p.tables.exec = Jvm.exec ∧ c.code = cc ∧ c.maxLocals = K.2.1 ∧ s.vm.findClass own = some m.cls ∧ (∀ w ∈ GW, w.before args s = true) ∧ meth.locks = false ∧ EnvO D cy base s ∧ mc ≤ R.cells ∧ ms ≤ R.slots ∧
    l.stackTraces = false ∧ meth.sig.returnType = ret ∧ (md = 1 → c.exceptionTable.toList = tableOf hh) ∧ lvl ≤ R.frames ∧ 48 * lvl + 12 ≤ R.locals ∧ meth.name = K.2.2.1
theorem V_none {K : CT} {pc : Nat} {L : List (Nat × MV)} {st : List MV} {h : MH} : V K pc L st h none := fun r h' q => by cases q
theorem V_sub {K : CT} {pc : Nat} {L L' : List (Nat × MV)} {st : List MV} {h : MH} {res : Res} (ks : List Nat) (hL : ks.filterMap (fun k => L[k]?) = L') (k : V K pc L' st h res) : V K pc L st h res := by
  intro r h' q
  obtain ⟨a, b⟩ := k r h' q
  have hin : ∀ z ∈ L', z ∈ L := by
    intro z hz
    rw [← hL] at hz
    obtain ⟨i, -, hi⟩ := List.mem_filterMap.mp hz
    exact List.mem_of_getElem? hi
  refine ⟨a, ?_⟩
  rcases K with ⟨md1, nL, nm, _ | ⟨p, l, e, R, s, m, args, below, meth, c, D, cy, base, ad0, n0, mc, ms⟩⟩
  · exact True.intro
  refine fun ad H locs cells slots ls w1 w2 w3 w4 w5 w6 w7 => b ad H locs cells slots ls w1 w2 w3 ?_ w5 (fun z hz => w6 z (hin z hz)) w7
  refine ⟨w4.1, w4.2.1, fun z hz => w4.2.2 z ?_⟩
  obtain ⟨z0, h0, rfl⟩ := List.mem_map.mp hz
  exact List.mem_map.mpr ⟨z0, hin z0 h0, rfl⟩
/-- a step that leaves the heap as it is -/
theorem V_step {K : CT} {pc pc' : Nat} {L L' : List (Nat × MV)} {st st' : List MV} {h : MH} {res : Res}
    (hok : ∀ n, (∀ v ∈ st, okv n v) → (∀ q ∈ L, okv n q.2) → (∀ v ∈ st', okv n v) ∧ ∀ q ∈ L', okv n q.2)
    (row : match K.2.2.2 with
      | none => True
      | some (p, l, e, R, s, m, args, below, meth, c, _, _, _, _, _, _, _) =>
        ∀ (ad : Nat → Nat) (H : Heap) (locs : List Loc) (cells slots : Nat) (ls : Array Slot) (Q : State → Prop), lv_has ls K.2.1 (L.map (cvl ad)) →
          (∀ ls', lv_has ls' K.2.1 (L'.map (cvl ad)) → W p l e R s m args below meth c H locs cells slots Q (F0 m pc' ls' (st'.map (cv ad)))) → W p l e R s m args below meth c H locs cells slots Q (F0 m pc ls (st.map (cv ad))))
    (k : V K pc' L' st' h res) : V K pc L st h res := by
  intro r h' q
  obtain ⟨a, b⟩ := k r h' q
  refine ⟨a, ?_⟩
  rcases K with ⟨md1, nL, nm, _ | ⟨p, l, e, R, s, m, args, below, meth, c, D, cy, base, ad0, n0, mc, ms⟩⟩
  · exact True.intro
  intro ad H locs cells slots ls w1 w2 w3 w4 w5 w6 w7
  obtain ⟨o1, o2⟩ := hok _ w5 w6
  exact row ad H locs cells slots ls _ w4 fun ls' hl' => b ad H locs cells slots ls' w1 w2 w3 hl' o1 o2 w7
def bnd {α : Type} (v : α) (k : α → Res) : Res := k v
theorem ok_pop {n : Nat} {a : MV} {st : List MV} (h : ∀ v ∈ a :: st, okv n v) : ∀ v ∈ st, okv n v := fun v hv => h v (List.mem_cons_of_mem _ hv)
theorem ok_psh {n : Nat} {a : MV} {st : List MV} (ha : okv n a) (h : ∀ v ∈ st, okv n v) : ∀ v ∈ a :: st, okv n v := fun v hv => (List.mem_cons.mp hv).elim (fun e => by rw [e]; exact ha) (h v)
theorem ok_hd {n : Nat} {a : MV} {st : List MV} (h : ∀ v ∈ a :: st, okv n v) : okv n a := h a List.mem_cons_self
theorem okl_psh {n i : Nat} {a : MV} {L : List (Nat × MV)} (ha : okv n a) (h : ∀ q ∈ L, okv n q.2) : ∀ q ∈ (i, a) :: L, okv n q.2 := fun q hq => (List.mem_cons.mp hq).elim (fun e => by rw [e]; exact ha) (h q)
theorem okl_at {n k i : Nat} {v : MV} {L : List (Nat × MV)} (h : ∀ q ∈ L, okv n q.2) (hk : L[k]? = some (i, v)) : okv n v := h (i, v) (List.mem_of_getElem? hk)
theorem lvm_at {ls : Array Slot} {nL k i : Nat} {v : MV} {L : List (Nat × MV)} {ad : Nat → Nat} (h : lv_has ls nL (L.map (cvl ad))) (hk : L[k]? = some (i, v)) : ls[i]? = some (.val (cv ad v)) :=
  lv_at h k (by rw [List.getElem?_map, hk]; rfl)
def mcat (v : MV) : Nat := match v with
  | .inr (.inr _) => 2
  | _ => 1
theorem mcat_cv {ad : Nat → Nat} (v : MV) : (cv ad v).category = mcat v := by
  rcases v with x | r | x
  · rfl
  · cases r <;> rfl
  · rfl
/-- the locals behind a store of one word -/
def lst (i : Nat) (v : MV) (L : List (Nat × MV)) : List (Nat × MV) := (i, v) :: L.filter fun q => !(q.1 == i) && !(q.1 + 1 == i && mcat q.2 == 2)
def lst2 (i : Nat) (v : MV) (L : List (Nat × MV)) : List (Nat × MV) := (i, v) :: L.filter fun q => !(q.1 == i) && (!(q.1 == i + 1) && !(q.1 + 1 == i && mcat q.2 == 2))
theorem lst_map {ad : Nat → Nat} {i : Nat} {v : MV} {L : List (Nat × MV)} : (i, cv ad v) :: (L.map (cvl ad)).filter (fun q => !(q.1 == i) && !(q.1 + 1 == i && q.2.category == 2)) = (lst i v L).map (cvl ad) := by
  unfold lst
  rw [List.map_cons, List.filter_map]
  refine congrArg (fun z => (i, cv ad v) :: z) (congrArg _ (List.filter_congr fun q _ => ?_))
  simp [cvl, mcat_cv]
theorem lst2_map {ad : Nat → Nat} {i : Nat} {v : MV} {L : List (Nat × MV)} : (i, cv ad v) :: (L.map (cvl ad)).filter (fun q => !(q.1 == i) && (!(q.1 == i + 1) && !(q.1 + 1 == i && q.2.category == 2))) = (lst2 i v L).map (cvl ad) := by
  unfold lst2
  rw [List.map_cons, List.filter_map]
  refine congrArg (fun z => (i, cv ad v) :: z) (congrArg _ (List.filter_congr fun q _ => ?_))
  simp [cvl, mcat_cv]
theorem lst_ok {n i : Nat} {v : MV} {L : List (Nat × MV)} (hv : okv n v) (h : ∀ q ∈ L, okv n q.2) : ∀ q ∈ lst i v L, okv n q.2 :=
  okl_psh hv fun q hq => h q (List.mem_filter.mp hq).1
theorem lst2_ok {n i : Nat} {v : MV} {L : List (Nat × MV)} (hv : okv n v) (h : ∀ q ∈ L, okv n q.2) : ∀ q ∈ lst2 i v L, okv n q.2 :=
  okl_psh hv fun q hq => h q (List.mem_filter.mp hq).1
end
section
/-! steps without the heap -/
def dvI (x y : Int32) (k : Int32 → Res) : Res := if y = 0 then none else k (x / y)
def rmI (x y : Int32) (k : Int32 → Res) : Res := if y = 0 then none else k (x - x / y * y)
def dvL (x y : Int64) (k : Int64 → Res) : Res := if y = 0 then none else k (x / y)
def mxL (K : CT) : Nat := K.2.1
def nmK (K : CT) (n : String) : Prop := K.2.2.1 = n
theorem V_iadd {K : CT} {cc : ByteArray} {own : String} {ret : Option FieldType} {hh : List (Nat × Nat × Nat × Nat)} {lvl md : Nat} (F : Fr K cc own ret hh lvl md) {pc : Nat} {L : List (Nat × MV)} {st : List MV} {h : MH} {x y : Int32} {res : Int32 → Res} (d : decode cc pc = .ok (.iadd, 1)) (n : ∀ z, V K (pc + 1) L (vI z :: st) h (res z)) : V K pc L (vI y :: vI x :: st) h (bnd (x + y) res) := by
  refine V_step (fun n h1 h2 => ⟨ok_psh okv_I (ok_pop (ok_pop h1)), h2⟩) ?_ (n (x + y))
  rcases K with ⟨md1, nL, nm, _ | ⟨p, l, e, R, s, m, args, below, meth, c, D, cy, base, ad0, n0, mc, ms⟩⟩
  · exact True.intro
  obtain ⟨hmd, hx, hb, hml, hown, hts, hlk, henv, hmc, hms, hstk, hret, htab, hlv1, hlv2, hnm⟩ := F
  intro ad H locs cells slots ls Q hl kk
  exact lv_iadd hx hb d (kk ls hl)
theorem V_isub {K : CT} {cc : ByteArray} {own : String} {ret : Option FieldType} {hh : List (Nat × Nat × Nat × Nat)} {lvl md : Nat} (F : Fr K cc own ret hh lvl md) {pc : Nat} {L : List (Nat × MV)} {st : List MV} {h : MH} {x y : Int32} {res : Int32 → Res} (d : decode cc pc = .ok (.isub, 1)) (n : ∀ z, V K (pc + 1) L (vI z :: st) h (res z)) : V K pc L (vI y :: vI x :: st) h (bnd (x - y) res) := by
  refine V_step (fun n h1 h2 => ⟨ok_psh okv_I (ok_pop (ok_pop h1)), h2⟩) ?_ (n (x - y))
  rcases K with ⟨md1, nL, nm, _ | ⟨p, l, e, R, s, m, args, below, meth, c, D, cy, base, ad0, n0, mc, ms⟩⟩
  · exact True.intro
  obtain ⟨hmd, hx, hb, hml, hown, hts, hlk, henv, hmc, hms, hstk, hret, htab, hlv1, hlv2, hnm⟩ := F
  intro ad H locs cells slots ls Q hl kk
  exact lv_isub hx hb d (kk ls hl)
theorem V_imul {K : CT} {cc : ByteArray} {own : String} {ret : Option FieldType} {hh : List (Nat × Nat × Nat × Nat)} {lvl md : Nat} (F : Fr K cc own ret hh lvl md) {pc : Nat} {L : List (Nat × MV)} {st : List MV} {h : MH} {x y : Int32} {res : Int32 → Res} (d : decode cc pc = .ok (.imul, 1)) (n : ∀ z, V K (pc + 1) L (vI z :: st) h (res z)) : V K pc L (vI y :: vI x :: st) h (bnd (x * y) res) := by
  refine V_step (fun n h1 h2 => ⟨ok_psh okv_I (ok_pop (ok_pop h1)), h2⟩) ?_ (n (x * y))
  rcases K with ⟨md1, nL, nm, _ | ⟨p, l, e, R, s, m, args, below, meth, c, D, cy, base, ad0, n0, mc, ms⟩⟩
  · exact True.intro
  obtain ⟨hmd, hx, hb, hml, hown, hts, hlk, henv, hmc, hms, hstk, hret, htab, hlv1, hlv2, hnm⟩ := F
  intro ad H locs cells slots ls Q hl kk
  exact lv_imul hx hb d (kk ls hl)
theorem V_iand {K : CT} {cc : ByteArray} {own : String} {ret : Option FieldType} {hh : List (Nat × Nat × Nat × Nat)} {lvl md : Nat} (F : Fr K cc own ret hh lvl md) {pc : Nat} {L : List (Nat × MV)} {st : List MV} {h : MH} {x y : Int32} {res : Int32 → Res} (d : decode cc pc = .ok (.iand, 1)) (n : ∀ z, V K (pc + 1) L (vI z :: st) h (res z)) : V K pc L (vI y :: vI x :: st) h (bnd (x &&& y) res) := by
  refine V_step (fun n h1 h2 => ⟨ok_psh okv_I (ok_pop (ok_pop h1)), h2⟩) ?_ (n (x &&& y))
  rcases K with ⟨md1, nL, nm, _ | ⟨p, l, e, R, s, m, args, below, meth, c, D, cy, base, ad0, n0, mc, ms⟩⟩
  · exact True.intro
  obtain ⟨hmd, hx, hb, hml, hown, hts, hlk, henv, hmc, hms, hstk, hret, htab, hlv1, hlv2, hnm⟩ := F
  intro ad H locs cells slots ls Q hl kk
  exact lv_iand hx hb d (kk ls hl)
theorem V_ishr {K : CT} {cc : ByteArray} {own : String} {ret : Option FieldType} {hh : List (Nat × Nat × Nat × Nat)} {lvl md : Nat} (F : Fr K cc own ret hh lvl md) {pc : Nat} {L : List (Nat × MV)} {st : List MV} {h : MH} {x y : Int32} {res : Int32 → Res} (d : decode cc pc = .ok (.ishr, 1)) (n : ∀ z, V K (pc + 1) L (vI z :: st) h (res z)) : V K pc L (vI y :: vI x :: st) h (bnd (x >>> (y &&& 31)) res) := by
  refine V_step (fun n h1 h2 => ⟨ok_psh okv_I (ok_pop (ok_pop h1)), h2⟩) ?_ (n (x >>> (y &&& 31)))
  rcases K with ⟨md1, nL, nm, _ | ⟨p, l, e, R, s, m, args, below, meth, c, D, cy, base, ad0, n0, mc, ms⟩⟩
  · exact True.intro
  obtain ⟨hmd, hx, hb, hml, hown, hts, hlk, henv, hmc, hms, hstk, hret, htab, hlv1, hlv2, hnm⟩ := F
  intro ad H locs cells slots ls Q hl kk
  exact lv_ishr hx hb d (kk ls hl)
theorem V_ladd {K : CT} {cc : ByteArray} {own : String} {ret : Option FieldType} {hh : List (Nat × Nat × Nat × Nat)} {lvl md : Nat} (F : Fr K cc own ret hh lvl md) {pc : Nat} {L : List (Nat × MV)} {st : List MV} {h : MH} {x y : Int64} {res : Int64 → Res} (d : decode cc pc = .ok (.ladd, 1)) (n : ∀ z, V K (pc + 1) L (vL z :: st) h (res z)) : V K pc L (vL y :: vL x :: st) h (bnd (x + y) res) := by
  refine V_step (fun n h1 h2 => ⟨ok_psh okv_L (ok_pop (ok_pop h1)), h2⟩) ?_ (n (x + y))
  rcases K with ⟨md1, nL, nm, _ | ⟨p, l, e, R, s, m, args, below, meth, c, D, cy, base, ad0, n0, mc, ms⟩⟩
  · exact True.intro
  obtain ⟨hmd, hx, hb, hml, hown, hts, hlk, henv, hmc, hms, hstk, hret, htab, hlv1, hlv2, hnm⟩ := F
  intro ad H locs cells slots ls Q hl kk
  exact lv_ladd hx hb d (kk ls hl)
theorem V_lmul {K : CT} {cc : ByteArray} {own : String} {ret : Option FieldType} {hh : List (Nat × Nat × Nat × Nat)} {lvl md : Nat} (F : Fr K cc own ret hh lvl md) {pc : Nat} {L : List (Nat × MV)} {st : List MV} {h : MH} {x y : Int64} {res : Int64 → Res} (d : decode cc pc = .ok (.lmul, 1)) (n : ∀ z, V K (pc + 1) L (vL z :: st) h (res z)) : V K pc L (vL y :: vL x :: st) h (bnd (x * y) res) := by
  refine V_step (fun n h1 h2 => ⟨ok_psh okv_L (ok_pop (ok_pop h1)), h2⟩) ?_ (n (x * y))
  rcases K with ⟨md1, nL, nm, _ | ⟨p, l, e, R, s, m, args, below, meth, c, D, cy, base, ad0, n0, mc, ms⟩⟩
  · exact True.intro
  obtain ⟨hmd, hx, hb, hml, hown, hts, hlk, henv, hmc, hms, hstk, hret, htab, hlv1, hlv2, hnm⟩ := F
  intro ad H locs cells slots ls Q hl kk
  exact lv_lmul hx hb d (kk ls hl)
theorem V_idiv {K : CT} {cc : ByteArray} {own : String} {ret : Option FieldType} {hh : List (Nat × Nat × Nat × Nat)} {lvl md : Nat} (F : Fr K cc own ret hh lvl md) {pc : Nat} {L : List (Nat × MV)} {st : List MV} {h : MH} {x y : Int32} {res : Int32 → Res} (d : decode cc pc = .ok (.idiv, 1)) (n : ∀ z, V K (pc + 1) L (vI z :: st) h (res z)) : V K pc L (vI y :: vI x :: st) h (dvI x y res) := by
  unfold dvI
  by_cases h0 : y = 0
  · rw [if_pos h0]; exact V_none
  · rw [if_neg h0]
    refine V_step (fun n h1 h2 => ⟨ok_psh okv_I (ok_pop (ok_pop h1)), h2⟩) ?_ (n (x / y))
    rcases K with ⟨md1, nL, nm, _ | ⟨p, l, e, R, s, m, args, below, meth, c, D, cy, base, ad0, n0, mc, ms⟩⟩
    · exact True.intro
    obtain ⟨hmd, hx, hb, hml, hown, hts, hlk, henv, hmc, hms, hstk, hret, htab, hlv1, hlv2, hnm⟩ := F
    intro ad H locs cells slots ls Q hl kk
    exact lv_idiv hx hb d h0 (kk ls hl)
theorem V_irem {K : CT} {cc : ByteArray} {own : String} {ret : Option FieldType} {hh : List (Nat × Nat × Nat × Nat)} {lvl md : Nat} (F : Fr K cc own ret hh lvl md) {pc : Nat} {L : List (Nat × MV)} {st : List MV} {h : MH} {x y : Int32} {res : Int32 → Res} (d : decode cc pc = .ok (.irem, 1)) (n : ∀ z, V K (pc + 1) L (vI z :: st) h (res z)) : V K pc L (vI y :: vI x :: st) h (rmI x y res) := by
  unfold rmI
  by_cases h0 : y = 0
  · rw [if_pos h0]; exact V_none
  · rw [if_neg h0]
    refine V_step (fun n h1 h2 => ⟨ok_psh okv_I (ok_pop (ok_pop h1)), h2⟩) ?_ (n (x - x / y * y))
    rcases K with ⟨md1, nL, nm, _ | ⟨p, l, e, R, s, m, args, below, meth, c, D, cy, base, ad0, n0, mc, ms⟩⟩
    · exact True.intro
    obtain ⟨hmd, hx, hb, hml, hown, hts, hlk, henv, hmc, hms, hstk, hret, htab, hlv1, hlv2, hnm⟩ := F
    intro ad H locs cells slots ls Q hl kk
    exact lv_irem hx hb d h0 (kk ls hl)
theorem V_ldiv {K : CT} {cc : ByteArray} {own : String} {ret : Option FieldType} {hh : List (Nat × Nat × Nat × Nat)} {lvl md : Nat} (F : Fr K cc own ret hh lvl md) {pc : Nat} {L : List (Nat × MV)} {st : List MV} {h : MH} {x y : Int64} {res : Int64 → Res} (d : decode cc pc = .ok (.ldiv, 1)) (n : ∀ z, V K (pc + 1) L (vL z :: st) h (res z)) : V K pc L (vL y :: vL x :: st) h (dvL x y res) := by
  unfold dvL
  by_cases h0 : y = 0
  · rw [if_pos h0]; exact V_none
  · rw [if_neg h0]
    refine V_step (fun n h1 h2 => ⟨ok_psh okv_L (ok_pop (ok_pop h1)), h2⟩) ?_ (n (x / y))
    rcases K with ⟨md1, nL, nm, _ | ⟨p, l, e, R, s, m, args, below, meth, c, D, cy, base, ad0, n0, mc, ms⟩⟩
    · exact True.intro
    obtain ⟨hmd, hx, hb, hml, hown, hts, hlk, henv, hmc, hms, hstk, hret, htab, hlv1, hlv2, hnm⟩ := F
    intro ad H locs cells slots ls Q hl kk
    exact lv_ldiv hx hb d h0 (kk ls hl)
theorem V_ineg {K : CT} {cc : ByteArray} {own : String} {ret : Option FieldType} {hh : List (Nat × Nat × Nat × Nat)} {lvl md : Nat} (F : Fr K cc own ret hh lvl md) {pc : Nat} {L : List (Nat × MV)} {st : List MV} {h : MH} {x : Int32} {res : Int32 → Res} (d : decode cc pc = .ok (.ineg, 1)) (n : ∀ z, V K (pc + 1) L (vI z :: st) h (res z)) : V K pc L (vI x :: st) h (bnd (-x) res) := by
  refine V_step (fun n h1 h2 => ⟨ok_psh okv_I (ok_pop h1), h2⟩) ?_ (n (-x))
  rcases K with ⟨md1, nL, nm, _ | ⟨p, l, e, R, s, m, args, below, meth, c, D, cy, base, ad0, n0, mc, ms⟩⟩
  · exact True.intro
  obtain ⟨hmd, hx, hb, hml, hown, hts, hlk, henv, hmc, hms, hstk, hret, htab, hlv1, hlv2, hnm⟩ := F
  intro ad H locs cells slots ls Q hl kk
  exact lv_ineg hx hb d (kk ls hl)
theorem V_i2l {K : CT} {cc : ByteArray} {own : String} {ret : Option FieldType} {hh : List (Nat × Nat × Nat × Nat)} {lvl md : Nat} (F : Fr K cc own ret hh lvl md) {pc : Nat} {L : List (Nat × MV)} {st : List MV} {h : MH} {x : Int32} {res : Int64 → Res} (d : decode cc pc = .ok (.i2l, 1)) (n : ∀ z, V K (pc + 1) L (vL z :: st) h (res z)) : V K pc L (vI x :: st) h (bnd x.toInt64 res) := by
  refine V_step (fun n h1 h2 => ⟨ok_psh okv_L (ok_pop h1), h2⟩) ?_ (n x.toInt64)
  rcases K with ⟨md1, nL, nm, _ | ⟨p, l, e, R, s, m, args, below, meth, c, D, cy, base, ad0, n0, mc, ms⟩⟩
  · exact True.intro
  obtain ⟨hmd, hx, hb, hml, hown, hts, hlk, henv, hmc, hms, hstk, hret, htab, hlv1, hlv2, hnm⟩ := F
  intro ad H locs cells slots ls Q hl kk
  exact lv_i2l hx hb d rfl (kk ls hl)
theorem V_l2i {K : CT} {cc : ByteArray} {own : String} {ret : Option FieldType} {hh : List (Nat × Nat × Nat × Nat)} {lvl md : Nat} (F : Fr K cc own ret hh lvl md) {pc : Nat} {L : List (Nat × MV)} {st : List MV} {h : MH} {x : Int64} {res : Int32 → Res} (d : decode cc pc = .ok (.l2i, 1)) (n : ∀ z, V K (pc + 1) L (vI z :: st) h (res z)) : V K pc L (vL x :: st) h (bnd x.toInt32 res) := by
  refine V_step (fun n h1 h2 => ⟨ok_psh okv_I (ok_pop h1), h2⟩) ?_ (n x.toInt32)
  rcases K with ⟨md1, nL, nm, _ | ⟨p, l, e, R, s, m, args, below, meth, c, D, cy, base, ad0, n0, mc, ms⟩⟩
  · exact True.intro
  obtain ⟨hmd, hx, hb, hml, hown, hts, hlk, henv, hmc, hms, hstk, hret, htab, hlv1, hlv2, hnm⟩ := F
  intro ad H locs cells slots ls Q hl kk
  exact lv_l2i hx hb d rfl (kk ls hl)
theorem V_lcmp {K : CT} {cc : ByteArray} {own : String} {ret : Option FieldType} {hh : List (Nat × Nat × Nat × Nat)} {lvl md : Nat} (F : Fr K cc own ret hh lvl md) {pc : Nat} {L : List (Nat × MV)} {st : List MV} {h : MH} {x y : Int64} {res : Int32 → Res} (d : decode cc pc = .ok (.lcmp, 1)) (n : ∀ z, V K (pc + 1) L (vI z :: st) h (res z)) : V K pc L (vL y :: vL x :: st) h (bnd (lg_cmp x y) res) := by
  refine V_step (fun n h1 h2 => ⟨ok_psh okv_I (ok_pop (ok_pop h1)), h2⟩) ?_ (n (lg_cmp x y))
  rcases K with ⟨md1, nL, nm, _ | ⟨p, l, e, R, s, m, args, below, meth, c, D, cy, base, ad0, n0, mc, ms⟩⟩
  · exact True.intro
  obtain ⟨hmd, hx, hb, hml, hown, hts, hlk, henv, hmc, hms, hstk, hret, htab, hlv1, hlv2, hnm⟩ := F
  intro ad H locs cells slots ls Q hl kk
  exact W.lcmp hx hb d (kk ls hl)
theorem V_iconst {K : CT} {cc : ByteArray} {own : String} {ret : Option FieldType} {hh : List (Nat × Nat × Nat × Nat)} {lvl md : Nat} (F : Fr K cc own ret hh lvl md) {pc : Nat} {L : List (Nat × MV)} {st : List MV} {h : MH} {res : Res} {n : Int} {x : Int32} (d : decode cc pc = .ok (.iconst n, 1)) (hv : Int32.ofInt n = x) (k : V K (pc + 1) L (vI x :: st) h res) : V K pc L st h res := by
  refine V_step (fun n h1 h2 => ⟨ok_psh okv_I h1, h2⟩) ?_ k
  rcases K with ⟨md1, nL, nm, _ | ⟨p, l, e, R, s, m, args, below, meth, c, D, cy, base, ad0, n0, mc, ms⟩⟩
  · exact True.intro
  obtain ⟨hmd, hx, hb, hml, hown, hts, hlk, henv, hmc, hms, hstk, hret, htab, hlv1, hlv2, hnm⟩ := F
  intro ad H locs cells slots ls Q hl kk
  exact lv_iconst hx hb d hv (kk ls hl)
theorem V_bipush {K : CT} {cc : ByteArray} {own : String} {ret : Option FieldType} {hh : List (Nat × Nat × Nat × Nat)} {lvl md : Nat} (F : Fr K cc own ret hh lvl md) {pc : Nat} {L : List (Nat × MV)} {st : List MV} {h : MH} {res : Res} {n : Int} {x : Int32} (d : decode cc pc = .ok (.bipush n, 2)) (hv : (Int8.ofInt n).toInt32 = x) (k : V K (pc + 2) L (vI x :: st) h res) : V K pc L st h res := by
  refine V_step (fun n h1 h2 => ⟨ok_psh okv_I h1, h2⟩) ?_ k
  rcases K with ⟨md1, nL, nm, _ | ⟨p, l, e, R, s, m, args, below, meth, c, D, cy, base, ad0, n0, mc, ms⟩⟩
  · exact True.intro
  obtain ⟨hmd, hx, hb, hml, hown, hts, hlk, henv, hmc, hms, hstk, hret, htab, hlv1, hlv2, hnm⟩ := F
  intro ad H locs cells slots ls Q hl kk
  exact lv_bipush hx hb d hv (kk ls hl)
theorem V_sipush {K : CT} {cc : ByteArray} {own : String} {ret : Option FieldType} {hh : List (Nat × Nat × Nat × Nat)} {lvl md : Nat} (F : Fr K cc own ret hh lvl md) {pc : Nat} {L : List (Nat × MV)} {st : List MV} {h : MH} {res : Res} {n : Int} {x : Int32} (d : decode cc pc = .ok (.sipush n, 3)) (hv : (Int16.ofInt n).toInt32 = x) (k : V K (pc + 3) L (vI x :: st) h res) : V K pc L st h res := by
  refine V_step (fun n h1 h2 => ⟨ok_psh okv_I h1, h2⟩) ?_ k
  rcases K with ⟨md1, nL, nm, _ | ⟨p, l, e, R, s, m, args, below, meth, c, D, cy, base, ad0, n0, mc, ms⟩⟩
  · exact True.intro
  obtain ⟨hmd, hx, hb, hml, hown, hts, hlk, henv, hmc, hms, hstk, hret, htab, hlv1, hlv2, hnm⟩ := F
  intro ad H locs cells slots ls Q hl kk
  exact lv_sipush hx hb d hv (kk ls hl)
theorem V_ldc {K : CT} {cc : ByteArray} {own : String} {ret : Option FieldType} {hh : List (Nat × Nat × Nat × Nat)} {lvl md : Nat} (F : Fr K cc own ret hh lvl md) {pc : Nat} {L : List (Nat × MV)} {st : List MV} {h : MH} {res : Res} {i : Nat} {x : Int32} (hc : Cond.constant own i x ∈ GW) (d : decode cc pc = .ok (.ldc i, 2)) (k : V K (pc + 2) L (vI x :: st) h res) : V K pc L st h res := by
  refine V_step (fun n h1 h2 => ⟨ok_psh okv_I h1, h2⟩) ?_ k
  rcases K with ⟨md1, nL, nm, _ | ⟨p, l, e, R, s, m, args, below, meth, c, D, cy, base, ad0, n0, mc, ms⟩⟩
  · exact True.intro
  obtain ⟨hmd, hx, hb, hml, hown, hts, hlk, henv, hmc, hms, hstk, hret, htab, hlv1, hlv2, hnm⟩ := F
  intro ad H locs cells slots ls Q hl kk
  exact lv_ldc hx hb hown (hts _ hc) d (kk ls hl)
theorem V_ldcw {K : CT} {cc : ByteArray} {own : String} {ret : Option FieldType} {hh : List (Nat × Nat × Nat × Nat)} {lvl md : Nat} (F : Fr K cc own ret hh lvl md) {pc : Nat} {L : List (Nat × MV)} {st : List MV} {h : MH} {res : Res} {i : Nat} {x : Int32} (hc : Cond.constant own i x ∈ GW) (d : decode cc pc = .ok (.ldc_w i, 3)) (k : V K (pc + 3) L (vI x :: st) h res) : V K pc L st h res := by
  refine V_step (fun n h1 h2 => ⟨ok_psh okv_I h1, h2⟩) ?_ k
  rcases K with ⟨md1, nL, nm, _ | ⟨p, l, e, R, s, m, args, below, meth, c, D, cy, base, ad0, n0, mc, ms⟩⟩
  · exact True.intro
  obtain ⟨hmd, hx, hb, hml, hown, hts, hlk, henv, hmc, hms, hstk, hret, htab, hlv1, hlv2, hnm⟩ := F
  intro ad H locs cells slots ls Q hl kk
  exact lv_ldcw hx hb hown (hts _ hc) d (kk ls hl)
theorem V_lconst {K : CT} {cc : ByteArray} {own : String} {ret : Option FieldType} {hh : List (Nat × Nat × Nat × Nat)} {lvl md : Nat} (F : Fr K cc own ret hh lvl md) {pc : Nat} {L : List (Nat × MV)} {st : List MV} {h : MH} {res : Res} {n : Fin 2} {x : Int64} (d : decode cc pc = .ok (.lconst n, 1)) (hv : Int64.ofNat (n : Nat) = x) (k : V K (pc + 1) L (vL x :: st) h res) : V K pc L st h res := by
  refine V_step (fun n h1 h2 => ⟨ok_psh okv_L h1, h2⟩) ?_ k
  rcases K with ⟨md1, nL, nm, _ | ⟨p, l, e, R, s, m, args, below, meth, c, D, cy, base, ad0, n0, mc, ms⟩⟩
  · exact True.intro
  obtain ⟨hmd, hx, hb, hml, hown, hts, hlk, henv, hmc, hms, hstk, hret, htab, hlv1, hlv2, hnm⟩ := F
  intro ad H locs cells slots ls Q hl kk
  exact lv_lconst hx hb d hv (kk ls hl)
theorem V_null {K : CT} {cc : ByteArray} {own : String} {ret : Option FieldType} {hh : List (Nat × Nat × Nat × Nat)} {lvl md : Nat} (F : Fr K cc own ret hh lvl md) {pc : Nat} {L : List (Nat × MV)} {st : List MV} {h : MH} {res : Res} (d : decode cc pc = .ok (.aconst_null, 1)) (k : V K (pc + 1) L (vR none :: st) h res) : V K pc L st h res := by
  refine V_step (fun n h1 h2 => ⟨ok_psh okv_N h1, h2⟩) ?_ k
  rcases K with ⟨md1, nL, nm, _ | ⟨p, l, e, R, s, m, args, below, meth, c, D, cy, base, ad0, n0, mc, ms⟩⟩
  · exact True.intro
  obtain ⟨hmd, hx, hb, hml, hown, hts, hlk, henv, hmc, hms, hstk, hret, htab, hlv1, hlv2, hnm⟩ := F
  intro ad H locs cells slots ls Q hl kk
  exact lv_null hx hb d (kk ls hl)
theorem V_iload {K : CT} {cc : ByteArray} {own : String} {ret : Option FieldType} {hh : List (Nat × Nat × Nat × Nat)} {lvl md : Nat} (F : Fr K cc own ret hh lvl md) {pc : Nat} {L : List (Nat × MV)} {st : List MV} {h : MH} {res : Res} {i : Nat} {x : Int32} (d : decode cc pc = .ok (.iload i, 2)) (j : Nat) (hj : L[j]? = some (i, vI x)) (k : V K (pc + 2) L (vI x :: st) h res) : V K pc L st h res := by
  refine V_step (fun n h1 h2 => ⟨ok_psh (okl_at h2 hj) h1, h2⟩) ?_ k
  rcases K with ⟨md1, nL, nm, _ | ⟨p, l, e, R, s, m, args, below, meth, c, D, cy, base, ad0, n0, mc, ms⟩⟩
  · exact True.intro
  obtain ⟨hmd, hx, hb, hml, hown, hts, hlk, henv, hmc, hms, hstk, hret, htab, hlv1, hlv2, hnm⟩ := F
  intro ad H locs cells slots ls Q hl kk
  exact lv_iload hx hb d (lvm_at hl hj) (kk ls hl)
theorem V_lload {K : CT} {cc : ByteArray} {own : String} {ret : Option FieldType} {hh : List (Nat × Nat × Nat × Nat)} {lvl md : Nat} (F : Fr K cc own ret hh lvl md) {pc : Nat} {L : List (Nat × MV)} {st : List MV} {h : MH} {res : Res} {i : Nat} {x : Int64} (d : decode cc pc = .ok (.lload i, 2)) (j : Nat) (hj : L[j]? = some (i, vL x)) (k : V K (pc + 2) L (vL x :: st) h res) : V K pc L st h res := by
  refine V_step (fun n h1 h2 => ⟨ok_psh (okl_at h2 hj) h1, h2⟩) ?_ k
  rcases K with ⟨md1, nL, nm, _ | ⟨p, l, e, R, s, m, args, below, meth, c, D, cy, base, ad0, n0, mc, ms⟩⟩
  · exact True.intro
  obtain ⟨hmd, hx, hb, hml, hown, hts, hlk, henv, hmc, hms, hstk, hret, htab, hlv1, hlv2, hnm⟩ := F
  intro ad H locs cells slots ls Q hl kk
  exact lv_lload hx hb d (lvm_at hl hj) (kk ls hl)
theorem V_iload_n {K : CT} {cc : ByteArray} {own : String} {ret : Option FieldType} {hh : List (Nat × Nat × Nat × Nat)} {lvl md : Nat} (F : Fr K cc own ret hh lvl md) {pc : Nat} {L : List (Nat × MV)} {st : List MV} {h : MH} {res : Res} {i : Fin 4} {x : Int32} (d : decode cc pc = .ok (.iload_n i, 1)) (j : Nat) (hj : L[j]? = some ((i : Nat), vI x)) (k : V K (pc + 1) L (vI x :: st) h res) : V K pc L st h res := by
  refine V_step (fun n h1 h2 => ⟨ok_psh (okl_at h2 hj) h1, h2⟩) ?_ k
  rcases K with ⟨md1, nL, nm, _ | ⟨p, l, e, R, s, m, args, below, meth, c, D, cy, base, ad0, n0, mc, ms⟩⟩
  · exact True.intro
  obtain ⟨hmd, hx, hb, hml, hown, hts, hlk, henv, hmc, hms, hstk, hret, htab, hlv1, hlv2, hnm⟩ := F
  intro ad H locs cells slots ls Q hl kk
  exact lv_iload_n hx hb d rfl (lvm_at hl hj) (kk ls hl)
theorem V_aload {K : CT} {cc : ByteArray} {own : String} {ret : Option FieldType} {hh : List (Nat × Nat × Nat × Nat)} {lvl md : Nat} (F : Fr K cc own ret hh lvl md) {pc : Nat} {L : List (Nat × MV)} {st : List MV} {h : MH} {res : Res} {i : Nat} {x : Option Nat} (d : decode cc pc = .ok (.aload i, 2)) (j : Nat) (hj : L[j]? = some (i, vR x)) (k : V K (pc + 2) L (vR x :: st) h res) : V K pc L st h res := by
  refine V_step (fun n h1 h2 => ⟨ok_psh (okl_at h2 hj) h1, h2⟩) ?_ k
  rcases K with ⟨md1, nL, nm, _ | ⟨p, l, e, R, s, m, args, below, meth, c, D, cy, base, ad0, n0, mc, ms⟩⟩
  · exact True.intro
  obtain ⟨hmd, hx, hb, hml, hown, hts, hlk, henv, hmc, hms, hstk, hret, htab, hlv1, hlv2, hnm⟩ := F
  intro ad H locs cells slots ls Q hl kk
  cases x with
  | none => exact lv_aloadN hx hb d (lvm_at hl hj) (kk ls hl)
  | some a => exact lv_aload hx hb d (lvm_at hl hj) (kk ls hl)
theorem V_aload_n {K : CT} {cc : ByteArray} {own : String} {ret : Option FieldType} {hh : List (Nat × Nat × Nat × Nat)} {lvl md : Nat} (F : Fr K cc own ret hh lvl md) {pc : Nat} {L : List (Nat × MV)} {st : List MV} {h : MH} {res : Res} {i : Fin 4} {x : Option Nat} (d : decode cc pc = .ok (.aload_n i, 1)) (j : Nat) (hj : L[j]? = some ((i : Nat), vR x)) (k : V K (pc + 1) L (vR x :: st) h res) : V K pc L st h res := by
  refine V_step (fun n h1 h2 => ⟨ok_psh (okl_at h2 hj) h1, h2⟩) ?_ k
  rcases K with ⟨md1, nL, nm, _ | ⟨p, l, e, R, s, m, args, below, meth, c, D, cy, base, ad0, n0, mc, ms⟩⟩
  · exact True.intro
  obtain ⟨hmd, hx, hb, hml, hown, hts, hlk, henv, hmc, hms, hstk, hret, htab, hlv1, hlv2, hnm⟩ := F
  intro ad H locs cells slots ls Q hl kk
  cases x with
  | none => exact lv_aload_nN hx hb d rfl (lvm_at hl hj) (kk ls hl)
  | some a => exact lv_aload_n hx hb d rfl (lvm_at hl hj) (kk ls hl)
theorem V_istore {K : CT} {cc : ByteArray} {own : String} {ret : Option FieldType} {hh : List (Nat × Nat × Nat × Nat)} {lvl md : Nat} (F : Fr K cc own ret hh lvl md) {pc : Nat} {L : List (Nat × MV)} {st : List MV} {h : MH} {res : Res} {i : Nat} {x : Int32} (L' : List (Nat × MV)) (d : decode cc pc = .ok (.istore i, 2)) (hn : i < mxL K) (hL : lst i (vI x) L = L') (k : V K (pc + 2) L' st h res) : V K pc L (vI x :: st) h res := by
  subst hL
  refine V_step (fun n h1 h2 => ⟨ok_pop h1, lst_ok (ok_hd h1) h2⟩) ?_ k
  rcases K with ⟨md1, nL, nm, _ | ⟨p, l, e, R, s, m, args, below, meth, c, D, cy, base, ad0, n0, mc, ms⟩⟩
  · exact True.intro
  obtain ⟨hmd, hx, hb, hml, hown, hts, hlk, henv, hmc, hms, hstk, hret, htab, hlv1, hlv2, hnm⟩ := F
  intro ad H locs cells slots ls Q hl kk
  exact lv_istore hx hb d hl hn (lst_map (ad := ad) (v := vI x)) kk
theorem V_istore_n {K : CT} {cc : ByteArray} {own : String} {ret : Option FieldType} {hh : List (Nat × Nat × Nat × Nat)} {lvl md : Nat} (F : Fr K cc own ret hh lvl md) {pc : Nat} {L : List (Nat × MV)} {st : List MV} {h : MH} {res : Res} {i : Fin 4} {x : Int32} (L' : List (Nat × MV)) (d : decode cc pc = .ok (.istore_n i, 1)) (hn : (i : Nat) < mxL K) (hL : lst i (vI x) L = L') (k : V K (pc + 1) L' st h res) : V K pc L (vI x :: st) h res := by
  subst hL
  refine V_step (fun n h1 h2 => ⟨ok_pop h1, lst_ok (ok_hd h1) h2⟩) ?_ k
  rcases K with ⟨md1, nL, nm, _ | ⟨p, l, e, R, s, m, args, below, meth, c, D, cy, base, ad0, n0, mc, ms⟩⟩
  · exact True.intro
  obtain ⟨hmd, hx, hb, hml, hown, hts, hlk, henv, hmc, hms, hstk, hret, htab, hlv1, hlv2, hnm⟩ := F
  intro ad H locs cells slots ls Q hl kk
  exact lv_istore_n hx hb d rfl hl hn (lst_map (ad := ad) (v := vI x)) kk
theorem V_lstore {K : CT} {cc : ByteArray} {own : String} {ret : Option FieldType} {hh : List (Nat × Nat × Nat × Nat)} {lvl md : Nat} (F : Fr K cc own ret hh lvl md) {pc : Nat} {L : List (Nat × MV)} {st : List MV} {h : MH} {res : Res} {i : Nat} {x : Int64} (L' : List (Nat × MV)) (d : decode cc pc = .ok (.lstore i, 2)) (hn : i + 1 < mxL K) (hL : lst2 i (vL x) L = L') (k : V K (pc + 2) L' st h res) : V K pc L (vL x :: st) h res := by
  subst hL
  refine V_step (fun n h1 h2 => ⟨ok_pop h1, lst2_ok (ok_hd h1) h2⟩) ?_ k
  rcases K with ⟨md1, nL, nm, _ | ⟨p, l, e, R, s, m, args, below, meth, c, D, cy, base, ad0, n0, mc, ms⟩⟩
  · exact True.intro
  obtain ⟨hmd, hx, hb, hml, hown, hts, hlk, henv, hmc, hms, hstk, hret, htab, hlv1, hlv2, hnm⟩ := F
  intro ad H locs cells slots ls Q hl kk
  exact lv_lstore hx hb d hl hn (lst2_map (ad := ad) (v := vL x)) kk
theorem V_astore {K : CT} {cc : ByteArray} {own : String} {ret : Option FieldType} {hh : List (Nat × Nat × Nat × Nat)} {lvl md : Nat} (F : Fr K cc own ret hh lvl md) {pc : Nat} {L : List (Nat × MV)} {st : List MV} {h : MH} {res : Res} {i : Nat} {x : Option Nat} (L' : List (Nat × MV)) (d : decode cc pc = .ok (.astore i, 2)) (hn : i < mxL K) (hL : lst i (vR x) L = L') (k : V K (pc + 2) L' st h res) : V K pc L (vR x :: st) h res := by
  subst hL
  refine V_step (fun n h1 h2 => ⟨ok_pop h1, lst_ok (ok_hd h1) h2⟩) ?_ k
  rcases K with ⟨md1, nL, nm, _ | ⟨p, l, e, R, s, m, args, below, meth, c, D, cy, base, ad0, n0, mc, ms⟩⟩
  · exact True.intro
  obtain ⟨hmd, hx, hb, hml, hown, hts, hlk, henv, hmc, hms, hstk, hret, htab, hlv1, hlv2, hnm⟩ := F
  intro ad H locs cells slots ls Q hl kk
  cases x with
  | none => exact lv_astoreN hx hb d hl hn (lst_map (ad := ad) (v := vR none)) kk
  | some a => exact lv_astore hx hb d hl hn (lst_map (ad := ad) (v := vR (some a))) kk
theorem V_astore_n {K : CT} {cc : ByteArray} {own : String} {ret : Option FieldType} {hh : List (Nat × Nat × Nat × Nat)} {lvl md : Nat} (F : Fr K cc own ret hh lvl md) {pc : Nat} {L : List (Nat × MV)} {st : List MV} {h : MH} {res : Res} {i : Fin 4} {x : Option Nat} (L' : List (Nat × MV)) (d : decode cc pc = .ok (.astore_n i, 1)) (hn : (i : Nat) < mxL K) (hL : lst i (vR x) L = L') (k : V K (pc + 1) L' st h res) : V K pc L (vR x :: st) h res := by
  subst hL
  refine V_step (fun n h1 h2 => ⟨ok_pop h1, lst_ok (ok_hd h1) h2⟩) ?_ k
  rcases K with ⟨md1, nL, nm, _ | ⟨p, l, e, R, s, m, args, below, meth, c, D, cy, base, ad0, n0, mc, ms⟩⟩
  · exact True.intro
  obtain ⟨hmd, hx, hb, hml, hown, hts, hlk, henv, hmc, hms, hstk, hret, htab, hlv1, hlv2, hnm⟩ := F
  intro ad H locs cells slots ls Q hl kk
  cases x with
  | none => exact lv_astore_nN hx hb d rfl hl hn (lst_map (ad := ad) (v := vR none)) kk
  | some a => exact lv_astore_n hx hb d rfl hl hn (lst_map (ad := ad) (v := vR (some a))) kk
theorem V_iinc {K : CT} {cc : ByteArray} {own : String} {ret : Option FieldType} {hh : List (Nat × Nat × Nat × Nat)} {lvl md : Nat} (F : Fr K cc own ret hh lvl md) {pc : Nat} {L : List (Nat × MV)} {st : List MV} {h : MH} {i : Nat} {n : Int} {x : Int32} {res : Int32 → Res} (L' : Int32 → List (Nat × MV)) (d : decode cc pc = .ok (.iinc i n, 3)) (hn : i < mxL K) (j : Nat) (hj : L[j]? = some (i, vI x)) {dx : Int32} (hd : Int32.ofInt n = dx) (hL : ∀ z, lst i (vI z) L = L' z) (k : ∀ z, V K (pc + 3) (L' z) st h (res z)) : V K pc L st h (bnd (x + dx) res) := by
  subst hd
  refine V_step (L' := lst i (vI (x + Int32.ofInt n)) L) (fun n h1 h2 => ⟨h1, lst_ok okv_I h2⟩) ?_ (by rw [hL]; exact k _)
  rcases K with ⟨md1, nL, nm, _ | ⟨p, l, e, R, s, m, args, below, meth, c, D, cy, base, ad0, n0, mc, ms⟩⟩
  · exact True.intro
  obtain ⟨hmd, hx, hb, hml, hown, hts, hlk, henv, hmc, hms, hstk, hret, htab, hlv1, hlv2, hnm⟩ := F
  intro ad H locs cells slots ls Q hl kk
  exact lv_iinc hx hb d hl (k := j) (by rw [List.getElem?_map, hj]; rfl) rfl hn (lst_map (ad := ad) (v := vI (x + Int32.ofInt n))) kk
theorem V_dup {K : CT} {cc : ByteArray} {own : String} {ret : Option FieldType} {hh : List (Nat × Nat × Nat × Nat)} {lvl md : Nat} (F : Fr K cc own ret hh lvl md) {pc : Nat} {L : List (Nat × MV)} {st : List MV} {h : MH} {res : Res} {v : MV} (d : decode cc pc = .ok (.dup, 1)) (hv : mcat v = 1) (k : V K (pc + 1) L (v :: v :: st) h res) : V K pc L (v :: st) h res := by
  refine V_step (fun n h1 h2 => ⟨ok_psh (ok_hd h1) h1, h2⟩) ?_ k
  rcases K with ⟨md1, nL, nm, _ | ⟨p, l, e, R, s, m, args, below, meth, c, D, cy, base, ad0, n0, mc, ms⟩⟩
  · exact True.intro
  obtain ⟨hmd, hx, hb, hml, hown, hts, hlk, henv, hmc, hms, hstk, hret, htab, hlv1, hlv2, hnm⟩ := F
  intro ad H locs cells slots ls Q hl kk
  exact lv_dup hx hb d (by rw [mcat_cv]; exact hv) (kk ls hl)
theorem V_dup2 {K : CT} {cc : ByteArray} {own : String} {ret : Option FieldType} {hh : List (Nat × Nat × Nat × Nat)} {lvl md : Nat} (F : Fr K cc own ret hh lvl md) {pc : Nat} {L : List (Nat × MV)} {st : List MV} {h : MH} {res : Res} {v w : MV} (d : decode cc pc = .ok (.dup2, 1)) (hv : mcat v = 1) (hw : mcat w = 1) (k : V K (pc + 1) L (v :: w :: v :: w :: st) h res) : V K pc L (v :: w :: st) h res := by
  refine V_step (fun n h1 h2 => ⟨ok_psh (ok_hd h1) (ok_psh (ok_hd (ok_pop h1)) h1), h2⟩) ?_ k
  rcases K with ⟨md1, nL, nm, _ | ⟨p, l, e, R, s, m, args, below, meth, c, D, cy, base, ad0, n0, mc, ms⟩⟩
  · exact True.intro
  obtain ⟨hmd, hx, hb, hml, hown, hts, hlk, henv, hmc, hms, hstk, hret, htab, hlv1, hlv2, hnm⟩ := F
  intro ad H locs cells slots ls Q hl kk
  exact lv_dup2_11 hx hb d (by rw [mcat_cv]; exact hv) (by rw [mcat_cv]; exact hw) (kk ls hl)
theorem V_goto {K : CT} {cc : ByteArray} {own : String} {ret : Option FieldType} {hh : List (Nat × Nat × Nat × Nat)} {lvl md : Nat} (F : Fr K cc own ret hh lvl md) {pc : Nat} {L : List (Nat × MV)} {st : List MV} {h : MH} {res : Res} {off : Int} (tgt : Nat) (d : decode cc pc = .ok (.goto off, 3)) (ht : (pc : Int) + off = (tgt : Int)) (k : V K tgt L st h res) : V K pc L st h res := by
  refine V_step (fun n h1 h2 => ⟨h1, h2⟩) ?_ k
  rcases K with ⟨md1, nL, nm, _ | ⟨p, l, e, R, s, m, args, below, meth, c, D, cy, base, ad0, n0, mc, ms⟩⟩
  · exact True.intro
  obtain ⟨hmd, hx, hb, hml, hown, hts, hlk, henv, hmc, hms, hstk, hret, htab, hlv1, hlv2, hnm⟩ := F
  intro ad H locs cells slots ls Q hl kk
  exact lv_goto hx hb d ht (kk ls hl)
theorem V_if_eq {K : CT} {cc : ByteArray} {own : String} {ret : Option FieldType} {hh : List (Nat × Nat × Nat × Nat)} {lvl md : Nat} (F : Fr K cc own ret hh lvl md) {pc : Nat} {L : List (Nat × MV)} {st : List MV} {h : MH} {A B : Res} {x : Int32} {off : Int} (tgt : Nat) (d : decode cc pc = .ok (.ifCond .eq off, 3)) (ht : (pc : Int) + off = (tgt : Int)) (kt : V K tgt L st h A) (kf : V K (pc + 3) L st h B) : V K pc L (vI x :: st) h (if x = 0 then A else B) := by
  by_cases q : x = 0
  · rw [if_pos q]
    refine V_step (fun n h1 h2 => ⟨ok_pop h1, h2⟩) ?_ kt
    rcases K with ⟨md1, nL, nm, _ | ⟨p, l, e, R, s, m, args, below, meth, c, D, cy, base, ad0, n0, mc, ms⟩⟩
    · exact True.intro
    obtain ⟨hmd, hx, hb, hml, hown, hts, hlk, henv, hmc, hms, hstk, hret, htab, hlv1, hlv2, hnm⟩ := F
    intro ad H locs cells slots ls Q hl kk
    exact lv_if_eq hx hb d ht (fun _ => kk ls hl) (fun z => absurd q z)
  · rw [if_neg q]
    refine V_step (fun n h1 h2 => ⟨ok_pop h1, h2⟩) ?_ kf
    rcases K with ⟨md1, nL, nm, _ | ⟨p, l, e, R, s, m, args, below, meth, c, D, cy, base, ad0, n0, mc, ms⟩⟩
    · exact True.intro
    obtain ⟨hmd, hx, hb, hml, hown, hts, hlk, henv, hmc, hms, hstk, hret, htab, hlv1, hlv2, hnm⟩ := F
    intro ad H locs cells slots ls Q hl kk
    exact lv_if_eq hx hb d ht (fun z => absurd z q) (fun _ => kk ls hl)
theorem V_if_ne {K : CT} {cc : ByteArray} {own : String} {ret : Option FieldType} {hh : List (Nat × Nat × Nat × Nat)} {lvl md : Nat} (F : Fr K cc own ret hh lvl md) {pc : Nat} {L : List (Nat × MV)} {st : List MV} {h : MH} {A B : Res} {x : Int32} {off : Int} (tgt : Nat) (d : decode cc pc = .ok (.ifCond .ne off, 3)) (ht : (pc : Int) + off = (tgt : Int)) (kt : V K tgt L st h A) (kf : V K (pc + 3) L st h B) : V K pc L (vI x :: st) h (if x ≠ 0 then A else B) := by
  by_cases q : x ≠ 0
  · rw [if_pos q]
    refine V_step (fun n h1 h2 => ⟨ok_pop h1, h2⟩) ?_ kt
    rcases K with ⟨md1, nL, nm, _ | ⟨p, l, e, R, s, m, args, below, meth, c, D, cy, base, ad0, n0, mc, ms⟩⟩
    · exact True.intro
    obtain ⟨hmd, hx, hb, hml, hown, hts, hlk, henv, hmc, hms, hstk, hret, htab, hlv1, hlv2, hnm⟩ := F
    intro ad H locs cells slots ls Q hl kk
    exact lv_if_ne hx hb d ht (fun _ => kk ls hl) (fun z => absurd z q)
  · rw [if_neg q]
    refine V_step (fun n h1 h2 => ⟨ok_pop h1, h2⟩) ?_ kf
    rcases K with ⟨md1, nL, nm, _ | ⟨p, l, e, R, s, m, args, below, meth, c, D, cy, base, ad0, n0, mc, ms⟩⟩
    · exact True.intro
    obtain ⟨hmd, hx, hb, hml, hown, hts, hlk, henv, hmc, hms, hstk, hret, htab, hlv1, hlv2, hnm⟩ := F
    intro ad H locs cells slots ls Q hl kk
    exact lv_if_ne hx hb d ht (fun z => absurd z q) (fun _ => kk ls hl)
theorem V_if_lt {K : CT} {cc : ByteArray} {own : String} {ret : Option FieldType} {hh : List (Nat × Nat × Nat × Nat)} {lvl md : Nat} (F : Fr K cc own ret hh lvl md) {pc : Nat} {L : List (Nat × MV)} {st : List MV} {h : MH} {A B : Res} {x : Int32} {off : Int} (tgt : Nat) (d : decode cc pc = .ok (.ifCond .lt off, 3)) (ht : (pc : Int) + off = (tgt : Int)) (kt : V K tgt L st h A) (kf : V K (pc + 3) L st h B) : V K pc L (vI x :: st) h (if x < 0 then A else B) := by
  by_cases q : x < 0
  · rw [if_pos q]
    refine V_step (fun n h1 h2 => ⟨ok_pop h1, h2⟩) ?_ kt
    rcases K with ⟨md1, nL, nm, _ | ⟨p, l, e, R, s, m, args, below, meth, c, D, cy, base, ad0, n0, mc, ms⟩⟩
    · exact True.intro
    obtain ⟨hmd, hx, hb, hml, hown, hts, hlk, henv, hmc, hms, hstk, hret, htab, hlv1, hlv2, hnm⟩ := F
    intro ad H locs cells slots ls Q hl kk
    exact lv_if_lt hx hb d ht (fun _ => kk ls hl) (fun z => absurd q z)
  · rw [if_neg q]
    refine V_step (fun n h1 h2 => ⟨ok_pop h1, h2⟩) ?_ kf
    rcases K with ⟨md1, nL, nm, _ | ⟨p, l, e, R, s, m, args, below, meth, c, D, cy, base, ad0, n0, mc, ms⟩⟩
    · exact True.intro
    obtain ⟨hmd, hx, hb, hml, hown, hts, hlk, henv, hmc, hms, hstk, hret, htab, hlv1, hlv2, hnm⟩ := F
    intro ad H locs cells slots ls Q hl kk
    exact lv_if_lt hx hb d ht (fun z => absurd z q) (fun _ => kk ls hl)
theorem V_if_ge {K : CT} {cc : ByteArray} {own : String} {ret : Option FieldType} {hh : List (Nat × Nat × Nat × Nat)} {lvl md : Nat} (F : Fr K cc own ret hh lvl md) {pc : Nat} {L : List (Nat × MV)} {st : List MV} {h : MH} {A B : Res} {x : Int32} {off : Int} (tgt : Nat) (d : decode cc pc = .ok (.ifCond .ge off, 3)) (ht : (pc : Int) + off = (tgt : Int)) (kt : V K tgt L st h A) (kf : V K (pc + 3) L st h B) : V K pc L (vI x :: st) h (if 0 ≤ x then A else B) := by
  by_cases q : 0 ≤ x
  · rw [if_pos q]
    refine V_step (fun n h1 h2 => ⟨ok_pop h1, h2⟩) ?_ kt
    rcases K with ⟨md1, nL, nm, _ | ⟨p, l, e, R, s, m, args, below, meth, c, D, cy, base, ad0, n0, mc, ms⟩⟩
    · exact True.intro
    obtain ⟨hmd, hx, hb, hml, hown, hts, hlk, henv, hmc, hms, hstk, hret, htab, hlv1, hlv2, hnm⟩ := F
    intro ad H locs cells slots ls Q hl kk
    exact lv_if_ge hx hb d ht (fun _ => kk ls hl) (fun z => absurd q z)
  · rw [if_neg q]
    refine V_step (fun n h1 h2 => ⟨ok_pop h1, h2⟩) ?_ kf
    rcases K with ⟨md1, nL, nm, _ | ⟨p, l, e, R, s, m, args, below, meth, c, D, cy, base, ad0, n0, mc, ms⟩⟩
    · exact True.intro
    obtain ⟨hmd, hx, hb, hml, hown, hts, hlk, henv, hmc, hms, hstk, hret, htab, hlv1, hlv2, hnm⟩ := F
    intro ad H locs cells slots ls Q hl kk
    exact lv_if_ge hx hb d ht (fun z => absurd z q) (fun _ => kk ls hl)
theorem V_if_gt {K : CT} {cc : ByteArray} {own : String} {ret : Option FieldType} {hh : List (Nat × Nat × Nat × Nat)} {lvl md : Nat} (F : Fr K cc own ret hh lvl md) {pc : Nat} {L : List (Nat × MV)} {st : List MV} {h : MH} {A B : Res} {x : Int32} {off : Int} (tgt : Nat) (d : decode cc pc = .ok (.ifCond .gt off, 3)) (ht : (pc : Int) + off = (tgt : Int)) (kt : V K tgt L st h A) (kf : V K (pc + 3) L st h B) : V K pc L (vI x :: st) h (if 0 < x then A else B) := by
  by_cases q : 0 < x
  · rw [if_pos q]
    refine V_step (fun n h1 h2 => ⟨ok_pop h1, h2⟩) ?_ kt
    rcases K with ⟨md1, nL, nm, _ | ⟨p, l, e, R, s, m, args, below, meth, c, D, cy, base, ad0, n0, mc, ms⟩⟩
    · exact True.intro
    obtain ⟨hmd, hx, hb, hml, hown, hts, hlk, henv, hmc, hms, hstk, hret, htab, hlv1, hlv2, hnm⟩ := F
    intro ad H locs cells slots ls Q hl kk
    exact lv_if_gt hx hb d ht (fun _ => kk ls hl) (fun z => absurd q z)
  · rw [if_neg q]
    refine V_step (fun n h1 h2 => ⟨ok_pop h1, h2⟩) ?_ kf
    rcases K with ⟨md1, nL, nm, _ | ⟨p, l, e, R, s, m, args, below, meth, c, D, cy, base, ad0, n0, mc, ms⟩⟩
    · exact True.intro
    obtain ⟨hmd, hx, hb, hml, hown, hts, hlk, henv, hmc, hms, hstk, hret, htab, hlv1, hlv2, hnm⟩ := F
    intro ad H locs cells slots ls Q hl kk
    exact lv_if_gt hx hb d ht (fun z => absurd z q) (fun _ => kk ls hl)
theorem V_if_le {K : CT} {cc : ByteArray} {own : String} {ret : Option FieldType} {hh : List (Nat × Nat × Nat × Nat)} {lvl md : Nat} (F : Fr K cc own ret hh lvl md) {pc : Nat} {L : List (Nat × MV)} {st : List MV} {h : MH} {A B : Res} {x : Int32} {off : Int} (tgt : Nat) (d : decode cc pc = .ok (.ifCond .le off, 3)) (ht : (pc : Int) + off = (tgt : Int)) (kt : V K tgt L st h A) (kf : V K (pc + 3) L st h B) : V K pc L (vI x :: st) h (if x ≤ 0 then A else B) := by
  by_cases q : x ≤ 0
  · rw [if_pos q]
    refine V_step (fun n h1 h2 => ⟨ok_pop h1, h2⟩) ?_ kt
    rcases K with ⟨md1, nL, nm, _ | ⟨p, l, e, R, s, m, args, below, meth, c, D, cy, base, ad0, n0, mc, ms⟩⟩
    · exact True.intro
    obtain ⟨hmd, hx, hb, hml, hown, hts, hlk, henv, hmc, hms, hstk, hret, htab, hlv1, hlv2, hnm⟩ := F
    intro ad H locs cells slots ls Q hl kk
    exact lv_if_le hx hb d ht (fun _ => kk ls hl) (fun z => absurd q z)
  · rw [if_neg q]
    refine V_step (fun n h1 h2 => ⟨ok_pop h1, h2⟩) ?_ kf
    rcases K with ⟨md1, nL, nm, _ | ⟨p, l, e, R, s, m, args, below, meth, c, D, cy, base, ad0, n0, mc, ms⟩⟩
    · exact True.intro
    obtain ⟨hmd, hx, hb, hml, hown, hts, hlk, henv, hmc, hms, hstk, hret, htab, hlv1, hlv2, hnm⟩ := F
    intro ad H locs cells slots ls Q hl kk
    exact lv_if_le hx hb d ht (fun z => absurd z q) (fun _ => kk ls hl)
theorem V_icmp_eq {K : CT} {cc : ByteArray} {own : String} {ret : Option FieldType} {hh : List (Nat × Nat × Nat × Nat)} {lvl md : Nat} (F : Fr K cc own ret hh lvl md) {pc : Nat} {L : List (Nat × MV)} {st : List MV} {h : MH} {A B : Res} {x y : Int32} {off : Int} (tgt : Nat) (d : decode cc pc = .ok (.if_icmp .eq off, 3)) (ht : (pc : Int) + off = (tgt : Int)) (kt : V K tgt L st h A) (kf : V K (pc + 3) L st h B) : V K pc L (vI y :: vI x :: st) h (if x = y then A else B) := by
  by_cases q : x = y
  · rw [if_pos q]
    refine V_step (fun n h1 h2 => ⟨ok_pop (ok_pop h1), h2⟩) ?_ kt
    rcases K with ⟨md1, nL, nm, _ | ⟨p, l, e, R, s, m, args, below, meth, c, D, cy, base, ad0, n0, mc, ms⟩⟩
    · exact True.intro
    obtain ⟨hmd, hx, hb, hml, hown, hts, hlk, henv, hmc, hms, hstk, hret, htab, hlv1, hlv2, hnm⟩ := F
    intro ad H locs cells slots ls Q hl kk
    exact lv_icmp_eq hx hb d ht (fun _ => kk ls hl) (fun z => absurd q z)
  · rw [if_neg q]
    refine V_step (fun n h1 h2 => ⟨ok_pop (ok_pop h1), h2⟩) ?_ kf
    rcases K with ⟨md1, nL, nm, _ | ⟨p, l, e, R, s, m, args, below, meth, c, D, cy, base, ad0, n0, mc, ms⟩⟩
    · exact True.intro
    obtain ⟨hmd, hx, hb, hml, hown, hts, hlk, henv, hmc, hms, hstk, hret, htab, hlv1, hlv2, hnm⟩ := F
    intro ad H locs cells slots ls Q hl kk
    exact lv_icmp_eq hx hb d ht (fun z => absurd z q) (fun _ => kk ls hl)
theorem V_icmp_ne {K : CT} {cc : ByteArray} {own : String} {ret : Option FieldType} {hh : List (Nat × Nat × Nat × Nat)} {lvl md : Nat} (F : Fr K cc own ret hh lvl md) {pc : Nat} {L : List (Nat × MV)} {st : List MV} {h : MH} {A B : Res} {x y : Int32} {off : Int} (tgt : Nat) (d : decode cc pc = .ok (.if_icmp .ne off, 3)) (ht : (pc : Int) + off = (tgt : Int)) (kt : V K tgt L st h A) (kf : V K (pc + 3) L st h B) : V K pc L (vI y :: vI x :: st) h (if x ≠ y then A else B) := by
  by_cases q : x ≠ y
  · rw [if_pos q]
    refine V_step (fun n h1 h2 => ⟨ok_pop (ok_pop h1), h2⟩) ?_ kt
    rcases K with ⟨md1, nL, nm, _ | ⟨p, l, e, R, s, m, args, below, meth, c, D, cy, base, ad0, n0, mc, ms⟩⟩
    · exact True.intro
    obtain ⟨hmd, hx, hb, hml, hown, hts, hlk, henv, hmc, hms, hstk, hret, htab, hlv1, hlv2, hnm⟩ := F
    intro ad H locs cells slots ls Q hl kk
    exact lv_icmp_ne hx hb d ht (fun _ => kk ls hl) (fun z => absurd z q)
  · rw [if_neg q]
    refine V_step (fun n h1 h2 => ⟨ok_pop (ok_pop h1), h2⟩) ?_ kf
    rcases K with ⟨md1, nL, nm, _ | ⟨p, l, e, R, s, m, args, below, meth, c, D, cy, base, ad0, n0, mc, ms⟩⟩
    · exact True.intro
    obtain ⟨hmd, hx, hb, hml, hown, hts, hlk, henv, hmc, hms, hstk, hret, htab, hlv1, hlv2, hnm⟩ := F
    intro ad H locs cells slots ls Q hl kk
    exact lv_icmp_ne hx hb d ht (fun z => absurd z q) (fun _ => kk ls hl)
theorem V_icmp_lt {K : CT} {cc : ByteArray} {own : String} {ret : Option FieldType} {hh : List (Nat × Nat × Nat × Nat)} {lvl md : Nat} (F : Fr K cc own ret hh lvl md) {pc : Nat} {L : List (Nat × MV)} {st : List MV} {h : MH} {A B : Res} {x y : Int32} {off : Int} (tgt : Nat) (d : decode cc pc = .ok (.if_icmp .lt off, 3)) (ht : (pc : Int) + off = (tgt : Int)) (kt : V K tgt L st h A) (kf : V K (pc + 3) L st h B) : V K pc L (vI y :: vI x :: st) h (if x < y then A else B) := by
  by_cases q : x < y
  · rw [if_pos q]
    refine V_step (fun n h1 h2 => ⟨ok_pop (ok_pop h1), h2⟩) ?_ kt
    rcases K with ⟨md1, nL, nm, _ | ⟨p, l, e, R, s, m, args, below, meth, c, D, cy, base, ad0, n0, mc, ms⟩⟩
    · exact True.intro
    obtain ⟨hmd, hx, hb, hml, hown, hts, hlk, henv, hmc, hms, hstk, hret, htab, hlv1, hlv2, hnm⟩ := F
    intro ad H locs cells slots ls Q hl kk
    exact lv_icmp_lt hx hb d ht (fun _ => kk ls hl) (fun z => absurd q z)
  · rw [if_neg q]
    refine V_step (fun n h1 h2 => ⟨ok_pop (ok_pop h1), h2⟩) ?_ kf
    rcases K with ⟨md1, nL, nm, _ | ⟨p, l, e, R, s, m, args, below, meth, c, D, cy, base, ad0, n0, mc, ms⟩⟩
    · exact True.intro
    obtain ⟨hmd, hx, hb, hml, hown, hts, hlk, henv, hmc, hms, hstk, hret, htab, hlv1, hlv2, hnm⟩ := F
    intro ad H locs cells slots ls Q hl kk
    exact lv_icmp_lt hx hb d ht (fun z => absurd z q) (fun _ => kk ls hl)
theorem V_icmp_ge {K : CT} {cc : ByteArray} {own : String} {ret : Option FieldType} {hh : List (Nat × Nat × Nat × Nat)} {lvl md : Nat} (F : Fr K cc own ret hh lvl md) {pc : Nat} {L : List (Nat × MV)} {st : List MV} {h : MH} {A B : Res} {x y : Int32} {off : Int} (tgt : Nat) (d : decode cc pc = .ok (.if_icmp .ge off, 3)) (ht : (pc : Int) + off = (tgt : Int)) (kt : V K tgt L st h A) (kf : V K (pc + 3) L st h B) : V K pc L (vI y :: vI x :: st) h (if y ≤ x then A else B) := by
  by_cases q : y ≤ x
  · rw [if_pos q]
    refine V_step (fun n h1 h2 => ⟨ok_pop (ok_pop h1), h2⟩) ?_ kt
    rcases K with ⟨md1, nL, nm, _ | ⟨p, l, e, R, s, m, args, below, meth, c, D, cy, base, ad0, n0, mc, ms⟩⟩
    · exact True.intro
    obtain ⟨hmd, hx, hb, hml, hown, hts, hlk, henv, hmc, hms, hstk, hret, htab, hlv1, hlv2, hnm⟩ := F
    intro ad H locs cells slots ls Q hl kk
    exact lv_icmp_ge hx hb d ht (fun _ => kk ls hl) (fun z => absurd q z)
  · rw [if_neg q]
    refine V_step (fun n h1 h2 => ⟨ok_pop (ok_pop h1), h2⟩) ?_ kf
    rcases K with ⟨md1, nL, nm, _ | ⟨p, l, e, R, s, m, args, below, meth, c, D, cy, base, ad0, n0, mc, ms⟩⟩
    · exact True.intro
    obtain ⟨hmd, hx, hb, hml, hown, hts, hlk, henv, hmc, hms, hstk, hret, htab, hlv1, hlv2, hnm⟩ := F
    intro ad H locs cells slots ls Q hl kk
    exact lv_icmp_ge hx hb d ht (fun z => absurd z q) (fun _ => kk ls hl)
theorem V_icmp_gt {K : CT} {cc : ByteArray} {own : String} {ret : Option FieldType} {hh : List (Nat × Nat × Nat × Nat)} {lvl md : Nat} (F : Fr K cc own ret hh lvl md) {pc : Nat} {L : List (Nat × MV)} {st : List MV} {h : MH} {A B : Res} {x y : Int32} {off : Int} (tgt : Nat) (d : decode cc pc = .ok (.if_icmp .gt off, 3)) (ht : (pc : Int) + off = (tgt : Int)) (kt : V K tgt L st h A) (kf : V K (pc + 3) L st h B) : V K pc L (vI y :: vI x :: st) h (if y < x then A else B) := by
  by_cases q : y < x
  · rw [if_pos q]
    refine V_step (fun n h1 h2 => ⟨ok_pop (ok_pop h1), h2⟩) ?_ kt
    rcases K with ⟨md1, nL, nm, _ | ⟨p, l, e, R, s, m, args, below, meth, c, D, cy, base, ad0, n0, mc, ms⟩⟩
    · exact True.intro
    obtain ⟨hmd, hx, hb, hml, hown, hts, hlk, henv, hmc, hms, hstk, hret, htab, hlv1, hlv2, hnm⟩ := F
    intro ad H locs cells slots ls Q hl kk
    exact lv_icmp_gt hx hb d ht (fun _ => kk ls hl) (fun z => absurd q z)
  · rw [if_neg q]
    refine V_step (fun n h1 h2 => ⟨ok_pop (ok_pop h1), h2⟩) ?_ kf
    rcases K with ⟨md1, nL, nm, _ | ⟨p, l, e, R, s, m, args, below, meth, c, D, cy, base, ad0, n0, mc, ms⟩⟩
    · exact True.intro
    obtain ⟨hmd, hx, hb, hml, hown, hts, hlk, henv, hmc, hms, hstk, hret, htab, hlv1, hlv2, hnm⟩ := F
    intro ad H locs cells slots ls Q hl kk
    exact lv_icmp_gt hx hb d ht (fun z => absurd z q) (fun _ => kk ls hl)
theorem V_icmp_le {K : CT} {cc : ByteArray} {own : String} {ret : Option FieldType} {hh : List (Nat × Nat × Nat × Nat)} {lvl md : Nat} (F : Fr K cc own ret hh lvl md) {pc : Nat} {L : List (Nat × MV)} {st : List MV} {h : MH} {A B : Res} {x y : Int32} {off : Int} (tgt : Nat) (d : decode cc pc = .ok (.if_icmp .le off, 3)) (ht : (pc : Int) + off = (tgt : Int)) (kt : V K tgt L st h A) (kf : V K (pc + 3) L st h B) : V K pc L (vI y :: vI x :: st) h (if x ≤ y then A else B) := by
  by_cases q : x ≤ y
  · rw [if_pos q]
    refine V_step (fun n h1 h2 => ⟨ok_pop (ok_pop h1), h2⟩) ?_ kt
    rcases K with ⟨md1, nL, nm, _ | ⟨p, l, e, R, s, m, args, below, meth, c, D, cy, base, ad0, n0, mc, ms⟩⟩
    · exact True.intro
    obtain ⟨hmd, hx, hb, hml, hown, hts, hlk, henv, hmc, hms, hstk, hret, htab, hlv1, hlv2, hnm⟩ := F
    intro ad H locs cells slots ls Q hl kk
    exact lv_icmp_le hx hb d ht (fun _ => kk ls hl) (fun z => absurd q z)
  · rw [if_neg q]
    refine V_step (fun n h1 h2 => ⟨ok_pop (ok_pop h1), h2⟩) ?_ kf
    rcases K with ⟨md1, nL, nm, _ | ⟨p, l, e, R, s, m, args, below, meth, c, D, cy, base, ad0, n0, mc, ms⟩⟩
    · exact True.intro
    obtain ⟨hmd, hx, hb, hml, hown, hts, hlk, henv, hmc, hms, hstk, hret, htab, hlv1, hlv2, hnm⟩ := F
    intro ad H locs cells slots ls Q hl kk
    exact lv_icmp_le hx hb d ht (fun z => absurd z q) (fun _ => kk ls hl)
theorem V_ifnull {K : CT} {cc : ByteArray} {own : String} {ret : Option FieldType} {hh : List (Nat × Nat × Nat × Nat)} {lvl md : Nat} (F : Fr K cc own ret hh lvl md) {pc : Nat} {L : List (Nat × MV)} {st : List MV} {h : MH} {A B : Res} {x : Option Nat} {off : Int} (tgt : Nat) (d : decode cc pc = .ok (.ifnull off, 3)) (ht : (pc : Int) + off = (tgt : Int)) (kt : V K tgt L st h A) (kf : V K (pc + 3) L st h B) : V K pc L (vR x :: st) h (if x = none then A else B) := by
  cases x with
  | none =>
    rw [if_pos rfl]
    refine V_step (fun n h1 h2 => ⟨ok_pop h1, h2⟩) ?_ kt
    rcases K with ⟨md1, nL, nm, _ | ⟨p, l, e, R, s, m, args, below, meth, c, D, cy, base, ad0, n0, mc, ms⟩⟩
    · exact True.intro
    obtain ⟨hmd, hx, hb, hml, hown, hts, hlk, henv, hmc, hms, hstk, hret, htab, hlv1, hlv2, hnm⟩ := F
    intro ad H locs cells slots ls Q hl kk
    exact lv_ifnullN hx hb d ht (kk ls hl)
  | some a =>
    rw [if_neg (fun z => by cases z)]
    refine V_step (fun n h1 h2 => ⟨ok_pop h1, h2⟩) ?_ kf
    rcases K with ⟨md1, nL, nm, _ | ⟨p, l, e, R, s, m, args, below, meth, c, D, cy, base, ad0, n0, mc, ms⟩⟩
    · exact True.intro
    obtain ⟨hmd, hx, hb, hml, hown, hts, hlk, henv, hmc, hms, hstk, hret, htab, hlv1, hlv2, hnm⟩ := F
    intro ad H locs cells slots ls Q hl kk
    exact lv_ifnull hx hb d (kk ls hl)
theorem V_ifnonnull {K : CT} {cc : ByteArray} {own : String} {ret : Option FieldType} {hh : List (Nat × Nat × Nat × Nat)} {lvl md : Nat} (F : Fr K cc own ret hh lvl md) {pc : Nat} {L : List (Nat × MV)} {st : List MV} {h : MH} {A B : Res} {x : Option Nat} {off : Int} (tgt : Nat) (d : decode cc pc = .ok (.ifnonnull off, 3)) (ht : (pc : Int) + off = (tgt : Int)) (kt : V K tgt L st h A) (kf : V K (pc + 3) L st h B) : V K pc L (vR x :: st) h (if x ≠ none then A else B) := by
  cases x with
  | none =>
    rw [if_neg (fun z => z rfl)]
    refine V_step (fun n h1 h2 => ⟨ok_pop h1, h2⟩) ?_ kf
    rcases K with ⟨md1, nL, nm, _ | ⟨p, l, e, R, s, m, args, below, meth, c, D, cy, base, ad0, n0, mc, ms⟩⟩
    · exact True.intro
    obtain ⟨hmd, hx, hb, hml, hown, hts, hlk, henv, hmc, hms, hstk, hret, htab, hlv1, hlv2, hnm⟩ := F
    intro ad H locs cells slots ls Q hl kk
    exact lv_ifnonnullN hx hb d (kk ls hl)
  | some a =>
    rw [if_pos (fun z => by cases z)]
    refine V_step (fun n h1 h2 => ⟨ok_pop h1, h2⟩) ?_ kt
    rcases K with ⟨md1, nL, nm, _ | ⟨p, l, e, R, s, m, args, below, meth, c, D, cy, base, ad0, n0, mc, ms⟩⟩
    · exact True.intro
    obtain ⟨hmd, hx, hb, hml, hown, hts, hlk, henv, hmc, hms, hstk, hret, htab, hlv1, hlv2, hnm⟩ := F
    intro ad H locs cells slots ls Q hl kk
    exact lv_ifnonnull hx hb d ht (kk ls hl)
end
section
/-! the heap read and written -/
def gfI (h : MH) (r : Option Nat) (ci j : Nat) (k : Int32 → Res) : Res := match r with
  | none => none
  | some a => if hk h a = ci then k (hi h a j) else none
def gfR (h : MH) (r : Option Nat) (ci j : Nat) (k : Option Nat → Res) : Res := match r with
  | none => none
  | some a => if hk h a = ci then k (hr h a j) else none
def pfI (h : MH) (r : Option Nat) (ci j : Nat) (v : Int32) (k : MH → Res) : Res := match r with
  | none => none
  | some a => if hk h a = ci then k (sI h a j v) else none
def pfR (h : MH) (r : Option Nat) (ci j : Nat) (v : Option Nat) (k : MH → Res) : Res := match r with
  | none => none
  | some a => if hk h a = ci then k (sR h a j v) else none
def rdI (h : MH) (r : Option Nat) (kd : Nat) (i : Int32) (k : Int32 → Res) : Res := match r with
  | none => none
  | some a => if hk h a = kd ∧ 0 ≤ i ∧ i.toNatClampNeg < hl h a then k (hi h a i.toNatClampNeg) else none
def wrI (h : MH) (r : Option Nat) (kd : Nat) (i v : Int32) (k : MH → Res) : Res := match r with
  | none => none
  | some a => if hk h a = kd ∧ 0 ≤ i ∧ i.toNatClampNeg < hl h a ∧ (kd = 21 → v = 0 ∨ v = 1) then k (sI h a i.toNatClampNeg v) else none
def rdR (h : MH) (r : Option Nat) (i : Int32) (k : Option Nat → Res) : Res := match r with
  | none => none
  | some a => if (22 ≤ hk h a ∧ hk h a < 26) ∧ 0 ≤ i ∧ i.toNatClampNeg < hl h a then k (hr h a i.toNatClampNeg) else none
def wrR (h : MH) (r : Option Nat) (i : Int32) (v : Option Nat) (k : MH → Res) : Res := match r with
  | none => none
  | some a => match v with
    | none => none
    | some b => if (22 ≤ hk h a ∧ hk h a < 26) ∧ 0 ≤ i ∧ i.toNatClampNeg < hl h a ∧ hk h b = coK (hk h a) ∧ coK (hk h a) < 9 then k (sR h a i.toNatClampNeg (some b)) else none
def rdQ (h : MH) (r : Option Nat) (i : Int32) (k : Int64 → Res) : Res := match r with
  | none => none
  | some a => if hk h a = 30 ∧ 0 ≤ i ∧ i.toNatClampNeg < hl h a then k (hq h a i.toNatClampNeg) else none
def wrQ (h : MH) (r : Option Nat) (i : Int32) (v : Int64) (k : MH → Res) : Res := match r with
  | none => none
  | some a => if hk h a = 30 ∧ 0 ≤ i ∧ i.toNatClampNeg < hl h a then k (sQ h a i.toNatClampNeg v) else none
def aln (h : MH) (r : Option Nat) (k : Int32 → Res) : Res := match r with
  | none => none
  | some a => if hk h a ∈ AK then k (Int32.ofNat (hl h a)) else none
def nwO (h : MH) (ci : Nat) (k : Option Nat → MH → Res) : Res := k (some (hn h + 1)) (alc h ci (nF ci))
def nwA (h : MH) (kd : Nat) (n : Int32) (k : Option Nat → MH → Res) : Res := if 0 ≤ n ∧ n.toNatClampNeg ≤ 1000 then k (some (hn h + 1)) (alc h kd n.toNatClampNeg) else none
theorem up1_o {α : Type} {f : Nat → α} {a b : Nat} {v : α} (h : b ≠ a) : up1 f a v b = f b := if_neg h
theorem up1_s {α : Type} {f : Nat → α} {a : Nat} {v : α} : up1 f a v a = v := if_pos rfl
theorem vpin {i : Int32} {n : Nat} (h0 : 0 ≤ i) (h1 : i.toNatClampNeg < n) : vp_in i n := by
  rintro (h | h)
  · exact absurd h (Int32.not_lt.mpr h0)
  · omega
theorem nwf {t : FieldType} (h : isRt t = true) (v : Option Nat) : narrow t (va_rf v) = va_rf v ∧ fits t (va_rf v) = true := by
  cases t <;> first | (cases v <;> exact ⟨rfl, rfl⟩) | (simp [isRt] at h)
theorem AK40 {k : Nat} (h : k ∈ AK) : 20 ≤ k ∧ k < 40 := by
  simp [AK] at h; omega
theorem Wld.low {D : va_G} {cy : Nat → ClassId} {base : Nat} {ad : Nat → Nat} {h : MH} {H : Heap} (w : Wld D cy base ad h H) {a k : Nat} (hka : hk h a = k) (h4 : k < 40) : ∃ q, q < hn h ∧ a = q + 1 := w.inb (by omega)
theorem RA_inj {s : State} {a b : ClassId} {ty : FieldType} (h1 : va_RA s a ty) (h2 : va_RA s b ty) : a = b := by
  cases ty with
  | object C =>
    obtain ⟨_, _, _, _, _, g1⟩ := h1
    obtain ⟨_, _, _, _, _, g2⟩ := h2
    exact Option.some.inj (g1.symm.trans g2)
  | _ => exact Option.some.inj (Eq.trans (Eq.symm h1) h2)
theorem Wld.sIo {D : va_G} {cy : Nat → ClassId} {base : Nat} {ad : Nat → Nat} {h : MH} {H H1 : Heap} {q ci j : Nat} {v : Int32} (w : Wld D cy base ad h H) (hq0 : q < hn h) (hka : hk h (q + 1) = ci) (hci : ci < 20) (hj : j < nF ci) (hI : isR ci j = false)
    (hP : va_P D CL ((wsO cy ad h).set q (ad (q + 1), .inr (ci, ((List.range (nF ci)).map fun j => if isR ci j = true then va_rf ((hr h (q + 1) j).map ad) else .int (hi h (q + 1) j)).set j (.int v)))) H1)
    (hD : va_D (bA base) ((wsO cy ad h).set q (ad (q + 1), .inr (ci, ((List.range (nF ci)).map fun j => if isR ci j = true then va_rf ((hr h (q + 1) j).map ad) else .int (hi h (q + 1) j)).set j (.int v))))) : Wld D cy base ad (sI h (q + 1) j v) H1 := by
  have e : (wsO cy ad h).set q (ad (q + 1), .inr (ci, ((List.range (nF ci)).map fun j => if isR ci j = true then va_rf ((hr h (q + 1) j).map ad) else .int (hi h (q + 1) j)).set j (.int v))) = wsO cy ad (sI h (q + 1) j v) := by
    refine wsO_set hq0 rfl ?_ (fun b hb => clO_same rfl rfl (up2_oth hb) rfl rfl (fun _ => rfl))
    rw [clO_obj (h := sI h (q + 1) j v) (ci := ci) hka hci]
    refine congrArg _ (congrArg _ ?_)
    have := map_set_eq (n := nF ci) (k := j) (f := fun j => if isR ci j = true then va_rf ((hr h (q + 1) j).map ad) else Value.int (hi h (q + 1) j)) (g := fun k => if isR ci k = true then va_rf ((hr h (q + 1) k).map ad) else Value.int (hi (sI h (q + 1) j v) (q + 1) k)) hj (fun k _ hne => by
      show (if _ then _ else Value.int (up2 (hi h) (q + 1) j v (q + 1) k)) = _
      rw [up2_o (by rintro ⟨-, e⟩; exact hne e)])
    rw [← show (fun k => if isR ci k = true then va_rf ((hr h (q + 1) k).map ad) else Value.int (hi (sI h (q + 1) j v) (q + 1) k)) j = Value.int v by
      show (if isR ci j = true then _ else Value.int (up2 (hi h) (q + 1) j v (q + 1) j)) = _
      rw [hI, up2_s]; rfl]
    exact this
  rw [e] at hP hD
  exact ⟨hP, hD, w.2.2.1, w.2.2.2⟩
theorem Wld.sRo {D : va_G} {cy : Nat → ClassId} {base : Nat} {ad : Nat → Nat} {h : MH} {H H1 : Heap} {q ci j : Nat} {v : Option Nat} (w : Wld D cy base ad h H) (hq0 : q < hn h) (hka : hk h (q + 1) = ci) (hci : ci < 20) (hj : j < nF ci) (hR : isR ci j = true) (hv : okv (hn h) (vR v))
    (hP : va_P D CL ((wsO cy ad h).set q (ad (q + 1), .inr (ci, ((List.range (nF ci)).map fun j => if isR ci j = true then va_rf ((hr h (q + 1) j).map ad) else .int (hi h (q + 1) j)).set j (va_rf (v.map ad))))) H1)
    (hD : va_D (bA base) ((wsO cy ad h).set q (ad (q + 1), .inr (ci, ((List.range (nF ci)).map fun j => if isR ci j = true then va_rf ((hr h (q + 1) j).map ad) else .int (hi h (q + 1) j)).set j (va_rf (v.map ad)))))) : Wld D cy base ad (sR h (q + 1) j v) H1 := by
  have e : (wsO cy ad h).set q (ad (q + 1), .inr (ci, ((List.range (nF ci)).map fun j => if isR ci j = true then va_rf ((hr h (q + 1) j).map ad) else .int (hi h (q + 1) j)).set j (va_rf (v.map ad)))) = wsO cy ad (sR h (q + 1) j v) := by
    refine wsO_set hq0 rfl ?_ (fun b hb => clO_same rfl rfl rfl (up2_oth hb) rfl (fun _ => rfl))
    rw [clO_obj (h := sR h (q + 1) j v) (ci := ci) hka hci]
    refine congrArg _ (congrArg _ ?_)
    have := map_set_eq (n := nF ci) (k := j) (f := fun j => if isR ci j = true then va_rf ((hr h (q + 1) j).map ad) else Value.int (hi h (q + 1) j)) (g := fun k => if isR ci k = true then va_rf ((hr (sR h (q + 1) j v) (q + 1) k).map ad) else Value.int (hi h (q + 1) k)) hj (fun k _ hne => by
      show (if _ then va_rf ((up2 (hr h) (q + 1) j v (q + 1) k).map ad) else _) = _
      rw [up2_o (by rintro ⟨-, e⟩; exact hne e)])
    rw [← show (fun k => if isR ci k = true then va_rf ((hr (sR h (q + 1) j v) (q + 1) k).map ad) else Value.int (hi h (q + 1) k)) j = va_rf (v.map ad) by
      show (if isR ci j = true then va_rf ((up2 (hr h) (q + 1) j v (q + 1) j).map ad) else _) = _
      rw [hR, up2_s]; rfl]
    exact this
  rw [e] at hP hD
  refine ⟨hP, hD, w.2.2.1, fun a k r hra => ?_⟩
  by_cases q9 : a = q + 1 ∧ k = j
  · have h1 : up2 (hr h) (q + 1) j v a k = some r := hra
    obtain ⟨rfl, rfl⟩ := q9
    rw [up2_s] at h1
    exact hv r (by rw [h1])
  · have h1 : up2 (hr h) (q + 1) j v a k = some r := hra
    rw [up2_o q9] at h1
    exact w.2.2.2 a k r h1
theorem Wld.sIa {D : va_G} {cy : Nat → ClassId} {base : Nat} {ad : Nat → Nat} {h : MH} {H H1 : Heap} {q kd : Nat} {f : Nat → Int32} (w : Wld D cy base ad h H) (hq0 : q < hn h) (hka : hk h (q + 1) = kd) (h1 : ¬ kd < 20) (h2 : kd < 22)
    (hP : va_P D CL ((wsO cy ad h).set q (ad (q + 1), .inl (cy kd, hl h (q + 1), .inl f))) H1) (hD : va_D (bA base) ((wsO cy ad h).set q (ad (q + 1), .inl (cy kd, hl h (q + 1), .inl f)))) {h9 : MH} (e9 : h9 = sIr h (q + 1) f) : Wld D cy base ad h9 H1 := by
  subst e9
  have e : (wsO cy ad h).set q (ad (q + 1), .inl (cy kd, hl h (q + 1), .inl f)) = wsO cy ad (sIr h (q + 1) f) := by
    refine wsO_set hq0 rfl ?_ (fun b hb => clO_same rfl rfl (upr_o hb) rfl rfl (fun _ => rfl))
    rw [clO_int (h := sIr h (q + 1) f) (k := kd) hka h1 h2]
    show _ = Sum.inl (cy kd, hl h (q + 1), Sum.inl (upr (hi h) (q + 1) f (q + 1)))
    rw [upr_s]
  rw [e] at hP hD
  exact ⟨hP, hD, w.2.2.1, w.2.2.2⟩
theorem sI_row {h : MH} {a j : Nat} {v : Int32} : sI h a j v = sIr h a (upd (hi h a) j v) := by
  unfold sI sIr
  have : up2 (hi h) a j v = upr (hi h) a (upd (hi h a) j v) := by
    funext b k
    by_cases e : b = a
    · subst e; simp [up2, upr, upd]
    · simp [up2, upr, e]
  rw [this]
theorem Wld.sRa {D : va_G} {cy : Nat → ClassId} {base : Nat} {ad : Nat → Nat} {h : MH} {H H1 : Heap} {q kd j b : Nat} (w : Wld D cy base ad h H) (hq0 : q < hn h) (hka : hk h (q + 1) = kd) (h1 : ¬ kd < 22) (h2 : kd < 30) (hb : b ≤ hn h)
    (hP : va_P D CL ((wsO cy ad h).set q (ad (q + 1), .inl (cy kd, hl h (q + 1), .inr (.inr (.inr (.inr (va_up (fun j => (hr h (q + 1) j).map ad) j (some (ad b))))))))) H1)
    (hD : va_D (bA base) ((wsO cy ad h).set q (ad (q + 1), .inl (cy kd, hl h (q + 1), .inr (.inr (.inr (.inr (va_up (fun j => (hr h (q + 1) j).map ad) j (some (ad b)))))))))) : Wld D cy base ad (sR h (q + 1) j (some b)) H1 := by
  have e : (wsO cy ad h).set q (ad (q + 1), .inl (cy kd, hl h (q + 1), .inr (.inr (.inr (.inr (va_up (fun j => (hr h (q + 1) j).map ad) j (some (ad b)))))))) = wsO cy ad (sR h (q + 1) j (some b)) := by
    refine wsO_set hq0 rfl ?_ (fun b hb => clO_same rfl rfl rfl (up2_oth hb) rfl (fun _ => rfl))
    rw [clO_ref (h := sR h (q + 1) j (some b)) (k := kd) hka h1 h2]
    refine congrArg (fun z => Sum.inl (cy kd, hl h (q + 1), Sum.inr (Sum.inr (Sum.inr (Sum.inr z))))) ?_
    funext k
    show _ = (up2 (hr h) (q + 1) j (some b) (q + 1) k).map ad
    by_cases ek : k = j
    · subst ek; rw [up2_s]; simp [va_up]
    · rw [up2_o (by rintro ⟨-, z⟩; exact ek z)]; simp [va_up, ek, hr]
  rw [e] at hP hD
  refine ⟨hP, hD, w.2.2.1, fun a k r hra => ?_⟩
  by_cases q9 : a = q + 1 ∧ k = j
  · have h1 : up2 (hr h) (q + 1) j (some b) a k = some r := hra
    obtain ⟨rfl, rfl⟩ := q9
    rw [up2_s] at h1
    cases h1
    exact hb
  · have h1 : up2 (hr h) (q + 1) j (some b) a k = some r := hra
    rw [up2_o q9] at h1
    exact w.2.2.2 a k r h1
/-- a new cell -/
theorem Wld.push {D : va_G} {cy : Nat → ClassId} {base : Nat} {ad : Nat → Nat} {h : MH} {H H1 : Heap} {q kd n : Nat} {e : va_E} (w : Wld D cy base ad h H) (he : e = clO cy (up1 ad (hn h + 1) q) (alc h kd n) (hn h + 1))
    (hP : va_P D CL (wsO cy ad h ++ [(q, e)]) H1) (hD : va_D (bA base) (wsO cy ad h ++ [(q, e)])) : Wld D cy base (up1 ad (hn h + 1) q) (alc h kd n) H1 := by
  have e0 : wsO cy ad h ++ [(q, e)] = wsO cy (up1 ad (hn h + 1) q) (alc h kd n) := by
    subst he
    unfold wsO
    show _ = (List.range (hn h + 1)).map _
    rw [List.range_succ, List.map_append]
    congr 1
    · refine List.map_congr_left fun k hmem => ?_
      have hk2 : k < hn h := List.mem_range.mp hmem
      have hne : k + 1 ≠ hn h + 1 := by omega
      have ha : up1 ad (hn h + 1) q (k + 1) = ad (k + 1) := up1_o hne
      show (_, _) = (_, _)
      rw [ha]
      refine congrArg (fun z => (ad (k + 1), z)) (Eq.symm (clO_same ?_ ?_ (upr_o hne) (upr_o hne) (upr_o hne) (fun j => ?_)))
      · exact up1_o hne
      · exact up1_o hne
      · cases hj : hr h (k + 1) j with
        | none => rfl
        | some r =>
          have := w.2.2.2 _ _ _ hj
          show some (up1 ad (hn h + 1) q r) = some (ad r)
          simp [up1]; omega
    · show [(q, _)] = [(up1 ad (hn h + 1) q (hn h + 1), _)]
      simp [up1]
  rw [e0] at hP hD
  refine ⟨hP, hD, fun a ha => ?_, fun a j r hra => ?_⟩
  · have h2 : a = 0 ∨ hn h + 1 < a := ha
    show 40 ≤ up1 (hk h) (hn h + 1) kd a
    have hne : a ≠ hn h + 1 := by omega
    simp only [up1, hne, if_false]
    exact w.2.2.1 a (by omega)
  · have h2 : upr (hr h) (hn h + 1) (fun _ => none) a j = some r := hra
    show r ≤ hn h + 1
    by_cases e : a = hn h + 1
    · subst e; rw [upr_s] at h2; cases h2
    · rw [upr_o e] at h2
      have := w.2.2.2 a j r h2
      omega
end
section
theorem vR_inj {a b : Option Nat} (h : vR a = vR b) : a = b := Sum.inl.inj (Sum.inr.inj h)
theorem V_getI {K : CT} {cc : ByteArray} {own : String} {ret : Option FieldType} {hh : List (Nat × Nat × Nat × Nat)} {lvl md : Nat} (F : Fr K cc own ret hh lvl md) {pc : Nat} {L : List (Nat × MV)} {st : List MV} {h : MH} {r : Option Nat} {res : Int32 → Res} {idx : Nat} (ci j : Nat) (hci : ci < 9) (hj : j < nF ci) (hI : isR ci j = false) (hlink : Cond.fieldLink own idx ((TN ci) j).1 ((TN ci) j).2.1 ((TN ci) j).2.2.1 ∈ GW) (d : decode cc pc = .ok (.getfield idx, 3)) (n : ∀ z, V K (pc + 3) L (vI z :: st) h (res z)) : V K pc L (vR r :: st) h (gfI h r ci j res) := by
  cases r with
  | none => exact V_none
  | some a =>
    show V K pc L _ h (if hk h a = ci then res (hi h a j) else none)
    by_cases q : hk h a = ci
    · rw [if_pos q]
      intro r h' e9
      obtain ⟨a1, b1⟩ := n _ r h' e9
      refine ⟨a1, ?_⟩
      rcases K with ⟨md1, nL, nm, _ | ⟨p, l, e, R, s, m, args, below, meth, c, D, cy, base, ad0, n0, mc, ms⟩⟩
      · exact True.intro
      obtain ⟨hmd, hx, hb, hml, hown, hts, hlk, henv, hmc, hms, hstk, hret, htab, hlv1, hlv2, hnm⟩ := F
      intro ad H locs cells slots ls w1 w2 w3 w4 w5 w6 w7
      obtain ⟨q0, hq0, rfl⟩ := w1.low q (by omega)
      have he := wsO_at (cy := cy) (ad := ad) hq0
      rw [clO_obj q (by omega)] at he
      refine va_get hx hb hts (inN hci) hown henv.1 w1.1 q0 he (CL_at hci) j hj (hts _ hlink) (fun _ z => z) (v := .int (hi h (q0 + 1) j)) ?_ d (b1 ad H locs cells slots ls w1 w2 w3 w4 (ok_psh okv_I (ok_pop w5)) w6 w7)
      simp [hj, hI]
    · rw [if_neg q]; exact V_none
theorem V_getR {K : CT} {cc : ByteArray} {own : String} {ret : Option FieldType} {hh : List (Nat × Nat × Nat × Nat)} {lvl md : Nat} (F : Fr K cc own ret hh lvl md) {pc : Nat} {L : List (Nat × MV)} {st : List MV} {h : MH} {r : Option Nat} {res : Option Nat → Res} {idx : Nat} (ci j : Nat) (hci : ci < 9) (hj : j < nF ci) (hI : isR ci j = true) (hlink : Cond.fieldLink own idx ((TN ci) j).1 ((TN ci) j).2.1 ((TN ci) j).2.2.1 ∈ GW) (d : decode cc pc = .ok (.getfield idx, 3)) (n : ∀ z, V K (pc + 3) L (vR z :: st) h (res z)) : V K pc L (vR r :: st) h (gfR h r ci j res) := by
  cases r with
  | none => exact V_none
  | some a =>
    show V K pc L _ h (if hk h a = ci then res (hr h a j) else none)
    by_cases q : hk h a = ci
    · rw [if_pos q]
      intro r h' e9
      obtain ⟨a1, b1⟩ := n _ r h' e9
      refine ⟨a1, ?_⟩
      rcases K with ⟨md1, nL, nm, _ | ⟨p, l, e, R, s, m, args, below, meth, c, D, cy, base, ad0, n0, mc, ms⟩⟩
      · exact True.intro
      obtain ⟨hmd, hx, hb, hml, hown, hts, hlk, henv, hmc, hms, hstk, hret, htab, hlv1, hlv2, hnm⟩ := F
      intro ad H locs cells slots ls w1 w2 w3 w4 w5 w6 w7
      obtain ⟨q0, hq0, rfl⟩ := w1.low q (by omega)
      have he := wsO_at (cy := cy) (ad := ad) hq0
      rw [clO_obj q (by omega)] at he
      refine va_get hx hb hts (inN hci) hown henv.1 w1.1 q0 he (CL_at hci) j hj (hts _ hlink) (fun _ z => z) (v := va_rf ((hr h (q0 + 1) j).map ad)) ?_ d (b1 ad H locs cells slots ls w1 w2 w3 w4 (ok_psh (fun b eb => w1.2.2.2 _ j b (vR_inj eb)) (ok_pop w5)) w6 w7)
      simp [hj, hI]
    · rw [if_neg q]; exact V_none
theorem V_putI {K : CT} {cc : ByteArray} {own : String} {ret : Option FieldType} {hh : List (Nat × Nat × Nat × Nat)} {lvl md : Nat} (F : Fr K cc own ret hh lvl md) {pc : Nat} {L : List (Nat × MV)} {st : List MV} {h : MH} {r : Option Nat} {v : Int32} {res : MH → Res} {idx : Nat} (ci j : Nat) (hci : ci < 9) (hj : j < nF ci) (hty : tyN ci j = .int) (hfin : ((TN ci) j).2.2.2 = false) (hlink : Cond.fieldLink own idx ((TN ci) j).1 ((TN ci) j).2.1 ((TN ci) j).2.2.1 ∈ GW) (d : decode cc pc = .ok (.putfield idx, 3)) (n : ∀ h', V K (pc + 3) L st h' (res h')) : V K pc L (vI v :: vR r :: st) h (pfI h r ci j v res) := by
  have hI : isR ci j = false := by unfold isR; rw [hty]; rfl
  cases r with
  | none => exact V_none
  | some a =>
    show V K pc L _ h (if hk h a = ci then res (sI h a j v) else none)
    by_cases q : hk h a = ci
    · rw [if_pos q]
      intro r h' e9
      obtain ⟨a1, b1⟩ := n _ r h' e9
      refine ⟨a1, ?_⟩
      rcases K with ⟨md1, nL, nm, _ | ⟨p, l, e, R, s, m, args, below, meth, c, D, cy, base, ad0, n0, mc, ms⟩⟩
      · exact True.intro
      obtain ⟨hmd, hx, hb, hml, hown, hts, hlk, henv, hmc, hms, hstk, hret, htab, hlv1, hlv2, hnm⟩ := F
      intro ad H locs cells slots ls w1 w2 w3 w4 w5 w6 w7
      obtain ⟨q0, hq0, rfl⟩ := w1.low q (by omega)
      have he := wsO_at (cy := cy) (ad := ad) hq0
      rw [clO_obj q (by omega)] at he
      exact va_put hx hb hts (inN hci) (tyN ci) (tyN_ok hci) (nmN hci) hown henv.1 w1.1 w1.2.1 w2 q0 he (CL_at hci) j hj (hts _ hlink) (fun _ z => z) hfin (ty := .int) (v := .int v) (by rw [tyN_ok hci j hj, hty]) rfl rfl (by simp [hj]) d
        (fun H1 locs1 hP hD hS => b1 ad H1 locs1 cells slots ls (w1.sIo hq0 q (by omega) hj hI hP hD) hS w3 w4 (ok_pop (ok_pop w5)) w6 w7)
    · rw [if_neg q]; exact V_none
theorem V_putIF {K : CT} {cc : ByteArray} {own : String} {ret : Option FieldType} {hh : List (Nat × Nat × Nat × Nat)} {lvl md : Nat} (F : Fr K cc own ret hh lvl md) {pc : Nat} {L : List (Nat × MV)} {st : List MV} {h : MH} {r : Option Nat} {v : Int32} {res : MH → Res} {idx : Nat} (hini : nmK K "<init>") (ci j : Nat) (hci : ci < 9) (hj : j < nF ci) (hty : tyN ci j = .int) (hfin : ((TN ci) j).2.2.2 = true) (hdecl : ((TN ci) j).1 = own) (hlink : Cond.fieldLink own idx ((TN ci) j).1 ((TN ci) j).2.1 ((TN ci) j).2.2.1 ∈ GW) (d : decode cc pc = .ok (.putfield idx, 3)) (n : ∀ h', V K (pc + 3) L st h' (res h')) : V K pc L (vI v :: vR r :: st) h (pfI h r ci j v res) := by
  have hI : isR ci j = false := by unfold isR; rw [hty]; rfl
  cases r with
  | none => exact V_none
  | some a =>
    show V K pc L _ h (if hk h a = ci then res (sI h a j v) else none)
    by_cases q : hk h a = ci
    · rw [if_pos q]
      intro r h' e9
      obtain ⟨a1, b1⟩ := n _ r h' e9
      refine ⟨a1, ?_⟩
      rcases K with ⟨md1, nL, nm, _ | ⟨p, l, e, R, s, m, args, below, meth, c, D, cy, base, ad0, n0, mc, ms⟩⟩
      · exact True.intro
      obtain ⟨hmd, hx, hb, hml, hown, hts, hlk, henv, hmc, hms, hstk, hret, htab, hlv1, hlv2, hnm⟩ := F
      intro ad H locs cells slots ls w1 w2 w3 w4 w5 w6 w7
      obtain ⟨q0, hq0, rfl⟩ := w1.low q (by omega)
      have he := wsO_at (cy := cy) (ad := ad) hq0
      rw [clO_obj q (by omega)] at he
      exact va_putF hx hb hts (inN hci) (tyN ci) (tyN_ok hci) (nmN hci) hown henv.1 w1.1 w1.2.1 w2 q0 he (CL_at hci) j hj (hts _ hlink) (fun _ z => z) hfin (hnm.trans hini) hdecl (ty := .int) (v := .int v) (by rw [tyN_ok hci j hj, hty]) rfl rfl (by simp [hj]) d
        (fun H1 locs1 hP hD hS => b1 ad H1 locs1 cells slots ls (w1.sIo hq0 q (by omega) hj hI hP hD) hS w3 w4 (ok_pop (ok_pop w5)) w6 w7)
    · rw [if_neg q]; exact V_none
theorem V_putR {K : CT} {cc : ByteArray} {own : String} {ret : Option FieldType} {hh : List (Nat × Nat × Nat × Nat)} {lvl md : Nat} (F : Fr K cc own ret hh lvl md) {pc : Nat} {L : List (Nat × MV)} {st : List MV} {h : MH} {r v : Option Nat} {res : MH → Res} {idx : Nat} (ci j : Nat) (hci : ci < 9) (hj : j < nF ci) (hR : isR ci j = true) (hfin : ((TN ci) j).2.2.2 = false) (hlink : Cond.fieldLink own idx ((TN ci) j).1 ((TN ci) j).2.1 ((TN ci) j).2.2.1 ∈ GW) (d : decode cc pc = .ok (.putfield idx, 3)) (n : ∀ h', V K (pc + 3) L st h' (res h')) : V K pc L (vR v :: vR r :: st) h (pfR h r ci j v res) := by
  cases r with
  | none => exact V_none
  | some a =>
    show V K pc L _ h (if hk h a = ci then res (sR h a j v) else none)
    by_cases q : hk h a = ci
    · rw [if_pos q]
      intro r h' e9
      obtain ⟨a1, b1⟩ := n _ r h' e9
      refine ⟨a1, ?_⟩
      rcases K with ⟨md1, nL, nm, _ | ⟨p, l, e, R, s, m, args, below, meth, c, D, cy, base, ad0, n0, mc, ms⟩⟩
      · exact True.intro
      obtain ⟨hmd, hx, hb, hml, hown, hts, hlk, henv, hmc, hms, hstk, hret, htab, hlv1, hlv2, hnm⟩ := F
      intro ad H locs cells slots ls w1 w2 w3 w4 w5 w6 w7
      obtain ⟨q0, hq0, rfl⟩ := w1.low q (by omega)
      have he := wsO_at (cy := cy) (ad := ad) hq0
      rw [clO_obj q (by omega)] at he
      obtain ⟨f1, f2⟩ := nwf (t := tyN ci j) hR (v.map ad)
      exact va_put hx hb hts (inN hci) (tyN ci) (tyN_ok hci) (nmN hci) hown henv.1 w1.1 w1.2.1 w2 q0 he (CL_at hci) j hj (hts _ hlink) (fun _ z => z) hfin (ty := tyN ci j) (v := va_rf (v.map ad)) (tyN_ok hci j hj) f1 f2 (by simp [hj]) d
        (fun H1 locs1 hP hD hS => b1 ad H1 locs1 cells slots ls (w1.sRo hq0 q (by omega) hj hR (ok_hd w5) hP hD) hS w3 w4 (ok_pop (ok_pop w5)) w6 w7)
    · rw [if_neg q]; exact V_none
theorem V_putRF {K : CT} {cc : ByteArray} {own : String} {ret : Option FieldType} {hh : List (Nat × Nat × Nat × Nat)} {lvl md : Nat} (F : Fr K cc own ret hh lvl md) {pc : Nat} {L : List (Nat × MV)} {st : List MV} {h : MH} {r v : Option Nat} {res : MH → Res} {idx : Nat} (hini : nmK K "<init>") (ci j : Nat) (hci : ci < 9) (hj : j < nF ci) (hR : isR ci j = true) (hfin : ((TN ci) j).2.2.2 = true) (hdecl : ((TN ci) j).1 = own) (hlink : Cond.fieldLink own idx ((TN ci) j).1 ((TN ci) j).2.1 ((TN ci) j).2.2.1 ∈ GW) (d : decode cc pc = .ok (.putfield idx, 3)) (n : ∀ h', V K (pc + 3) L st h' (res h')) : V K pc L (vR v :: vR r :: st) h (pfR h r ci j v res) := by
  cases r with
  | none => exact V_none
  | some a =>
    show V K pc L _ h (if hk h a = ci then res (sR h a j v) else none)
    by_cases q : hk h a = ci
    · rw [if_pos q]
      intro r h' e9
      obtain ⟨a1, b1⟩ := n _ r h' e9
      refine ⟨a1, ?_⟩
      rcases K with ⟨md1, nL, nm, _ | ⟨p, l, e, R, s, m, args, below, meth, c, D, cy, base, ad0, n0, mc, ms⟩⟩
      · exact True.intro
      obtain ⟨hmd, hx, hb, hml, hown, hts, hlk, henv, hmc, hms, hstk, hret, htab, hlv1, hlv2, hnm⟩ := F
      intro ad H locs cells slots ls w1 w2 w3 w4 w5 w6 w7
      obtain ⟨q0, hq0, rfl⟩ := w1.low q (by omega)
      have he := wsO_at (cy := cy) (ad := ad) hq0
      rw [clO_obj q (by omega)] at he
      obtain ⟨f1, f2⟩ := nwf (t := tyN ci j) hR (v.map ad)
      exact va_putF hx hb hts (inN hci) (tyN ci) (tyN_ok hci) (nmN hci) hown henv.1 w1.1 w1.2.1 w2 q0 he (CL_at hci) j hj (hts _ hlink) (fun _ z => z) hfin (hnm.trans hini) hdecl (ty := tyN ci j) (v := va_rf (v.map ad)) (tyN_ok hci j hj) f1 f2 (by simp [hj]) d
        (fun H1 locs1 hP hD hS => b1 ad H1 locs1 cells slots ls (w1.sRo hq0 q (by omega) hj hR (ok_hd w5) hP hD) hS w3 w4 (ok_pop (ok_pop w5)) w6 w7)
    · rw [if_neg q]; exact V_none
theorem V_iald {K : CT} {cc : ByteArray} {own : String} {ret : Option FieldType} {hh : List (Nat × Nat × Nat × Nat)} {lvl md : Nat} (F : Fr K cc own ret hh lvl md) {pc : Nat} {L : List (Nat × MV)} {st : List MV} {h : MH} {r : Option Nat} {i : Int32} {res : Int32 → Res} (d : decode cc pc = .ok (.iaload, 1)) (n : ∀ z, V K (pc + 1) L (vI z :: st) h (res z)) : V K pc L (vI i :: vR r :: st) h (rdI h r 20 i res) := by
  cases r with
  | none => exact V_none
  | some a =>
    show V K pc L _ h (if hk h a = 20 ∧ 0 ≤ i ∧ i.toNatClampNeg < hl h a then res (hi h a i.toNatClampNeg) else none)
    by_cases q : hk h a = 20 ∧ 0 ≤ i ∧ i.toNatClampNeg < hl h a
    · rw [if_pos q]
      obtain ⟨q1, q2, q3⟩ := q
      intro r h' e9
      obtain ⟨a1, b1⟩ := n _ r h' e9
      refine ⟨a1, ?_⟩
      rcases K with ⟨md1, nL, nm, _ | ⟨p, l, e, R, s, m, args, below, meth, c, D, cy, base, ad0, n0, mc, ms⟩⟩
      · exact True.intro
      obtain ⟨hmd, hx, hb, hml, hown, hts, hlk, henv, hmc, hms, hstk, hret, htab, hlv1, hlv2, hnm⟩ := F
      intro ad H locs cells slots ls w1 w2 w3 w4 w5 w6 w7
      obtain ⟨q0, hq0, rfl⟩ := w1.low q1 (by omega)
      have he := wsO_at (cy := cy) (ad := ad) hq0
      rw [clO_int q1 (by omega) (by omega)] at he
      obtain ⟨t0, ht0⟩ := TYL_at (cy := cy) (k := 20) (by decide)
      exact va_iald hx hb henv.1 w1.1 q0 t0 he ht0 (vpin q2 q3) d (b1 ad H locs cells slots ls w1 w2 w3 w4 (ok_psh okv_I (ok_pop (ok_pop w5))) w6 w7)
    · rw [if_neg q]; exact V_none
theorem V_zald {K : CT} {cc : ByteArray} {own : String} {ret : Option FieldType} {hh : List (Nat × Nat × Nat × Nat)} {lvl md : Nat} (F : Fr K cc own ret hh lvl md) {pc : Nat} {L : List (Nat × MV)} {st : List MV} {h : MH} {r : Option Nat} {i : Int32} {res : Int32 → Res} (d : decode cc pc = .ok (.baload, 1)) (n : ∀ z, V K (pc + 1) L (vI z :: st) h (res z)) : V K pc L (vI i :: vR r :: st) h (rdI h r 21 i res) := by
  cases r with
  | none => exact V_none
  | some a =>
    show V K pc L _ h (if hk h a = 21 ∧ 0 ≤ i ∧ i.toNatClampNeg < hl h a then res (hi h a i.toNatClampNeg) else none)
    by_cases q : hk h a = 21 ∧ 0 ≤ i ∧ i.toNatClampNeg < hl h a
    · rw [if_pos q]
      obtain ⟨q1, q2, q3⟩ := q
      intro r h' e9
      obtain ⟨a1, b1⟩ := n _ r h' e9
      refine ⟨a1, ?_⟩
      rcases K with ⟨md1, nL, nm, _ | ⟨p, l, e, R, s, m, args, below, meth, c, D, cy, base, ad0, n0, mc, ms⟩⟩
      · exact True.intro
      obtain ⟨hmd, hx, hb, hml, hown, hts, hlk, henv, hmc, hms, hstk, hret, htab, hlv1, hlv2, hnm⟩ := F
      intro ad H locs cells slots ls w1 w2 w3 w4 w5 w6 w7
      obtain ⟨q0, hq0, rfl⟩ := w1.low q1 (by omega)
      have he := wsO_at (cy := cy) (ad := ad) hq0
      rw [clO_int q1 (by omega) (by omega)] at he
      obtain ⟨t0, ht0⟩ := TYL_at (cy := cy) (k := 21) (by decide)
      exact va_zald hx hb henv.1 w1.1 q0 t0 he ht0 (vpin q2 q3) d (b1 ad H locs cells slots ls w1 w2 w3 w4 (ok_psh okv_I (ok_pop (ok_pop w5))) w6 w7)
    · rw [if_neg q]; exact V_none
theorem V_iast {K : CT} {cc : ByteArray} {own : String} {ret : Option FieldType} {hh : List (Nat × Nat × Nat × Nat)} {lvl md : Nat} (F : Fr K cc own ret hh lvl md) {pc : Nat} {L : List (Nat × MV)} {st : List MV} {h : MH} {r : Option Nat} {i v : Int32} {res : MH → Res} (d : decode cc pc = .ok (.iastore, 1)) (n : ∀ h', V K (pc + 1) L st h' (res h')) : V K pc L (vI v :: vI i :: vR r :: st) h (wrI h r 20 i v res) := by
  cases r with
  | none => exact V_none
  | some a =>
    show V K pc L _ h (if hk h a = 20 ∧ 0 ≤ i ∧ i.toNatClampNeg < hl h a ∧ (20 = 21 → v = 0 ∨ v = 1) then res (sI h a i.toNatClampNeg v) else none)
    by_cases q : hk h a = 20 ∧ 0 ≤ i ∧ i.toNatClampNeg < hl h a ∧ (20 = 21 → v = 0 ∨ v = 1)
    · rw [if_pos q]
      obtain ⟨q1, q2, q3, -⟩ := q
      intro r h' e9
      obtain ⟨a1, b1⟩ := n _ r h' e9
      refine ⟨a1, ?_⟩
      rcases K with ⟨md1, nL, nm, _ | ⟨p, l, e, R, s, m, args, below, meth, c, D, cy, base, ad0, n0, mc, ms⟩⟩
      · exact True.intro
      obtain ⟨hmd, hx, hb, hml, hown, hts, hlk, henv, hmc, hms, hstk, hret, htab, hlv1, hlv2, hnm⟩ := F
      intro ad H locs cells slots ls w1 w2 w3 w4 w5 w6 w7
      obtain ⟨q0, hq0, rfl⟩ := w1.low q1 (by omega)
      have he := wsO_at (cy := cy) (ad := ad) hq0
      rw [clO_int q1 (by omega) (by omega)] at he
      obtain ⟨t0, ht0⟩ := TYL_at (cy := cy) (k := 20) (by decide)
      exact va_iast hx hb henv.1 w1.1 w1.2.1 w2 q0 t0 he ht0 (vpin q2 q3) d
        (fun H1 locs1 hP hD hS => b1 ad H1 locs1 cells slots ls (w1.sIa hq0 q1 (by omega) (by omega) hP hD sI_row) hS w3 w4 (ok_pop (ok_pop (ok_pop w5))) w6 w7)
    · rw [if_neg q]; exact V_none
theorem V_zast {K : CT} {cc : ByteArray} {own : String} {ret : Option FieldType} {hh : List (Nat × Nat × Nat × Nat)} {lvl md : Nat} (F : Fr K cc own ret hh lvl md) {pc : Nat} {L : List (Nat × MV)} {st : List MV} {h : MH} {r : Option Nat} {i v : Int32} {res : MH → Res} (d : decode cc pc = .ok (.bastore, 1)) (n : ∀ h', V K (pc + 1) L st h' (res h')) : V K pc L (vI v :: vI i :: vR r :: st) h (wrI h r 21 i v res) := by
  cases r with
  | none => exact V_none
  | some a =>
    show V K pc L _ h (if hk h a = 21 ∧ 0 ≤ i ∧ i.toNatClampNeg < hl h a ∧ (21 = 21 → v = 0 ∨ v = 1) then res (sI h a i.toNatClampNeg v) else none)
    by_cases q : hk h a = 21 ∧ 0 ≤ i ∧ i.toNatClampNeg < hl h a ∧ (21 = 21 → v = 0 ∨ v = 1)
    · rw [if_pos q]
      obtain ⟨q1, q2, q3, q4⟩ := q
      intro r h' e9
      obtain ⟨a1, b1⟩ := n _ r h' e9
      refine ⟨a1, ?_⟩
      rcases K with ⟨md1, nL, nm, _ | ⟨p, l, e, R, s, m, args, below, meth, c, D, cy, base, ad0, n0, mc, ms⟩⟩
      · exact True.intro
      obtain ⟨hmd, hx, hb, hml, hown, hts, hlk, henv, hmc, hms, hstk, hret, htab, hlv1, hlv2, hnm⟩ := F
      intro ad H locs cells slots ls w1 w2 w3 w4 w5 w6 w7
      obtain ⟨q0, hq0, rfl⟩ := w1.low q1 (by omega)
      have he := wsO_at (cy := cy) (ad := ad) hq0
      rw [clO_int q1 (by omega) (by omega)] at he
      obtain ⟨t0, ht0⟩ := TYL_at (cy := cy) (k := 21) (by decide)
      have hv : vp_nar .boolean v = v := by
        rcases q4 rfl with rfl | rfl <;> decide
      refine va_zast hx hb henv.1 w1.1 w1.2.1 w2 q0 t0 he ht0 (vpin q2 q3) d
        (fun H1 locs1 hP hD hS => b1 ad H1 locs1 cells slots ls (w1.sIa hq0 q1 (by omega) (by omega) hP hD ?_) hS w3 w4 (ok_pop (ok_pop (ok_pop w5))) w6 w7)
      rw [hv]; exact sI_row
    · rw [if_neg q]; exact V_none
theorem kd_ref {k : Nat} (h : 22 ≤ k ∧ k < 26) : k ∈ AK ∧ ∃ C, tyK k = .object C ∧ C = RN (coK k) ∧ coK k < 10 := by
  obtain ⟨h1, h2⟩ := h
  rcases (show k = 22 ∨ k = 23 ∨ k = 24 ∨ k = 25 by omega) with rfl | rfl | rfl | rfl <;> exact ⟨by decide, _, rfl, rfl, by decide⟩
theorem V_aald {K : CT} {cc : ByteArray} {own : String} {ret : Option FieldType} {hh : List (Nat × Nat × Nat × Nat)} {lvl md : Nat} (F : Fr K cc own ret hh lvl md) {pc : Nat} {L : List (Nat × MV)} {st : List MV} {h : MH} {r : Option Nat} {i : Int32} {res : Option Nat → Res} (d : decode cc pc = .ok (.aaload, 1)) (n : ∀ z, V K (pc + 1) L (vR z :: st) h (res z)) : V K pc L (vI i :: vR r :: st) h (rdR h r i res) := by
  cases r with
  | none => exact V_none
  | some a =>
    show V K pc L _ h (if (22 ≤ hk h a ∧ hk h a < 26) ∧ 0 ≤ i ∧ i.toNatClampNeg < hl h a then res (hr h a i.toNatClampNeg) else none)
    by_cases q : (22 ≤ hk h a ∧ hk h a < 26) ∧ 0 ≤ i ∧ i.toNatClampNeg < hl h a
    · rw [if_pos q]
      obtain ⟨q1, q2, q3⟩ := q
      intro r h' e9
      obtain ⟨a1, b1⟩ := n _ r h' e9
      refine ⟨a1, ?_⟩
      rcases K with ⟨md1, nL, nm, _ | ⟨p, l, e, R, s, m, args, below, meth, c, D, cy, base, ad0, n0, mc, ms⟩⟩
      · exact True.intro
      obtain ⟨hmd, hx, hb, hml, hown, hts, hlk, henv, hmc, hms, hstk, hret, htab, hlv1, hlv2, hnm⟩ := F
      intro ad H locs cells slots ls w1 w2 w3 w4 w5 w6 w7
      obtain ⟨q0, hq0, rfl⟩ := w1.low (k := hk h a) rfl (by omega)
      have he := wsO_at (cy := cy) (ad := ad) hq0
      rw [clO_ref rfl (by omega) (by omega)] at he
      obtain ⟨g1, C, g2, -⟩ := kd_ref q1
      obtain ⟨t0, ht0⟩ := TYL_at (cy := cy) g1
      rw [g2] at ht0
      exact va_aldq hx hb henv.1 w1.1 q0 t0 he ht0 (vpin q2 q3) d (b1 ad H locs cells slots ls w1 w2 w3 w4 (ok_psh (fun b eb => w1.2.2.2 _ _ b (vR_inj eb)) (ok_pop (ok_pop w5))) w6 w7)
    · rw [if_neg q]; exact V_none
theorem V_aast {K : CT} {cc : ByteArray} {own : String} {ret : Option FieldType} {hh : List (Nat × Nat × Nat × Nat)} {lvl md : Nat} (F : Fr K cc own ret hh lvl md) {pc : Nat} {L : List (Nat × MV)} {st : List MV} {h : MH} {r v : Option Nat} {i : Int32} {res : MH → Res} (d : decode cc pc = .ok (.aastore, 1)) (n : ∀ h', V K (pc + 1) L st h' (res h')) : V K pc L (vR v :: vI i :: vR r :: st) h (wrR h r i v res) := by
  cases r with
  | none => exact V_none
  | some a =>
    cases v with
    | none => exact V_none
    | some b =>
      show V K pc L _ h (if (22 ≤ hk h a ∧ hk h a < 26) ∧ 0 ≤ i ∧ i.toNatClampNeg < hl h a ∧ hk h b = coK (hk h a) ∧ coK (hk h a) < 9 then res (sR h a i.toNatClampNeg (some b)) else none)
      by_cases q : (22 ≤ hk h a ∧ hk h a < 26) ∧ 0 ≤ i ∧ i.toNatClampNeg < hl h a ∧ hk h b = coK (hk h a) ∧ coK (hk h a) < 9
      · rw [if_pos q]
        obtain ⟨q1, q2, q3, q4, g4⟩ := q
        intro r h' e9
        obtain ⟨a1, b1⟩ := n _ r h' e9
        refine ⟨a1, ?_⟩
        rcases K with ⟨md1, nL, nm, _ | ⟨p, l, e, R, s, m, args, below, meth, c, D, cy, base, ad0, n0, mc, ms⟩⟩
        · exact True.intro
        obtain ⟨hmd, hx, hb, hml, hown, hts, hlk, henv, hmc, hms, hstk, hret, htab, hlv1, hlv2, hnm⟩ := F
        intro ad H locs cells slots ls w1 w2 w3 w4 w5 w6 w7
        obtain ⟨q0, hq0, rfl⟩ := w1.low (k := hk h a) rfl (by omega)
        have he := wsO_at (cy := cy) (ad := ad) hq0
        rw [clO_ref rfl (by omega) (by omega)] at he
        obtain ⟨g1, C, g2, g3, -⟩ := kd_ref q1
        obtain ⟨t0, ht0⟩ := TYL_at (cy := cy) g1
        rw [g2, g3] at ht0
        obtain ⟨qb, hqb, rfl⟩ := w1.low q4 (by omega)
        have hev := wsO_at (cy := cy) (ad := ad) hqb
        rw [clO_obj q4 (by omega)] at hev
        exact va_astq hx hb henv.1 w1.1 w1.2.1 w2 q0 t0 qb (coK (hk h (q0 + 1))) (r := (RN (coK (hk h (q0 + 1))), TN (coK (hk h (q0 + 1))), nF (coK (hk h (q0 + 1))))) he ht0 hev (CL_at g4) (vpin q2 q3) d
          (fun H1 locs1 hP hD hS => b1 ad H1 locs1 cells slots ls (w1.sRa hq0 rfl (by omega) (by omega) (by omega) hP hD) hS w3 w4 (ok_pop (ok_pop (ok_pop w5))) w6 w7)
      · rw [if_neg q]; exact V_none
theorem V_alen {K : CT} {cc : ByteArray} {own : String} {ret : Option FieldType} {hh : List (Nat × Nat × Nat × Nat)} {lvl md : Nat} (F : Fr K cc own ret hh lvl md) {pc : Nat} {L : List (Nat × MV)} {st : List MV} {h : MH} {r : Option Nat} {res : Int32 → Res} (d : decode cc pc = .ok (.arraylength, 1)) (n : ∀ z, V K (pc + 1) L (vI z :: st) h (res z)) : V K pc L (vR r :: st) h (aln h r res) := by
  cases r with
  | none => exact V_none
  | some a =>
    show V K pc L _ h (if hk h a ∈ AK then res (Int32.ofNat (hl h a)) else none)
    by_cases q : hk h a ∈ AK
    · rw [if_pos q]
      have q40 := AK40 q
      intro r h' e9
      obtain ⟨a1, b1⟩ := n _ r h' e9
      refine ⟨a1, ?_⟩
      rcases K with ⟨md1, nL, nm, _ | ⟨p, l, e, R, s, m, args, below, meth, c, D, cy, base, ad0, n0, mc, ms⟩⟩
      · exact True.intro
      obtain ⟨hmd, hx, hb, hml, hown, hts, hlk, henv, hmc, hms, hstk, hret, htab, hlv1, hlv2, hnm⟩ := F
      intro ad H locs cells slots ls w1 w2 w3 w4 w5 w6 w7
      obtain ⟨q0, hq0, rfl⟩ := w1.low (k := hk h a) rfl (by omega)
      have he := wsO_at (cy := cy) (ad := ad) hq0
      obtain ⟨x9, g1, g2⟩ := clO_arr (cy := cy) (ad := ad) (h := h) (a := q0 + 1) rfl (by omega)
      rw [g1] at he
      obtain ⟨t0, ht0⟩ := TYL_at (cy := cy) q
      exact va_alen hx hb henv.1 w1.1 q0 t0 he ht0 (by rw [g2]) d (b1 ad H locs cells slots ls w1 w2 w3 w4 (ok_psh okv_I (ok_pop w5)) w6 w7)
    · rw [if_neg q]; exact V_none
end
section
/-! new cells, copies, ends -/
theorem clO_newO {cy : Nat → ClassId} {ad : Nat → Nat} {h : MH} {ci n : Nat} (hci : ci < 20) : clO cy ad (alc h ci n) (hn h + 1) = .inr (ci, (List.range (nF ci)).map fun j => if isR ci j = true then .null else .int 0) := by
  rw [clO_obj (h := alc h ci n) (ci := ci) up1_s hci]
  refine congrArg _ (congrArg _ (List.map_congr_left fun j _ => ?_))
  show (if isR ci j = true then va_rf ((upr (hr h) (hn h + 1) (fun _ => none) (hn h + 1) j).map ad) else Value.int (upr (hi h) (hn h + 1) (fun _ => 0) (hn h + 1) j)) = _
  rw [upr_s, upr_s]; rfl
def allD (k : Nat) : Bool := (List.range (nF k)).all fun j => match tyN k j with
  | .int => true
  | .object _ => true
  | .array _ => true
  | _ => false
theorem dflt {ci j : Nat} (hci : allD ci = true) (hj : j < nF ci) : defaultValue (tyN ci j) = vp_V ((List.range (nF ci)).map fun j => if isR ci j = true then Value.null else .int 0) j := by
  have h1 := List.all_eq_true.mp hci j (List.mem_range.mpr hj)
  have h2 : vp_V ((List.range (nF ci)).map fun j => if isR ci j = true then Value.null else .int 0) j = if isR ci j = true then Value.null else .int 0 := by
    simp [vp_V, hj]
  rw [h2]
  unfold isR
  cases ht : tyN ci j <;> rw [ht] at h1 <;> first | rfl | (simp at h1)
theorem V_new {K : CT} {cc : ByteArray} {own : String} {ret : Option FieldType} {hh : List (Nat × Nat × Nat × Nat)} {lvl md : Nat} (F : Fr K cc own ret hh lvl md) {pc : Nat} {L : List (Nat × MV)} {st : List MV} {h : MH} {res : Option Nat → MH → Res} {idx : Nat} (ci : Nat) (hci : ci < 9) (hall : allD ci = true) (hk : Cond.classLink own idx (RN ci) ∈ GW) (hin : Cond.instantiable (RN ci) (nF ci) ∈ GW) (hini : Cond.initialized (RN ci) ∈ GW) (d : decode cc pc = .ok (.new idx, 3)) (n : ∀ r h', V K (pc + 3) L (vR r :: st) h' (res r h')) : V K pc L st h (nwO h ci res) := by
  intro r h' e9
  obtain ⟨a1, b1⟩ := n (some (hn h + 1)) (alc h ci (nF ci)) r h' e9
  obtain ⟨⟨z1, z2, z3⟩, z4⟩ := a1
  have y1 : hn h + 1 ≤ hn h' := z1
  have y2 : hc h + 1 ≤ hc h' := z2
  have y3 : hs h + nF ci ≤ hs h' := z3
  refine ⟨⟨⟨by omega, by omega, by omega⟩, z4⟩, ?_⟩
  rcases K with ⟨md1, nL, nm, _ | ⟨p, l, e, R, s, m, args, below, meth, c, D, cy, base, ad0, n0, mc, ms⟩⟩
  · exact True.intro
  obtain ⟨hmd, hx, hb, hml, hown, hts, hlk, henv, hmc, hms, hstk, hret, htab, hlv1, hlv2, hnm⟩ := F
  intro ad H locs cells slots ls w1 w2 w3 w4 w5 w6 w7
  obtain ⟨v1, v2⟩ := w7
  refine va_new hx hb hts (inN hci) (tyN ci) (tyN_ok hci) hown (hts _ hk) (hts _ hin) (hts _ hini) henv.1 w1.1 w1.2.1 w2 (fun q hq => Nat.le_trans henv.2.2.2.2.2.2.2.2 hq) (CL_at hci) (fun j hj => dflt hall hj) (by omega) (by omega) d (fun q H1 hP hD hS => ?_)
  have hag : ∀ z, z < hn h + 1 → up1 ad (hn h + 1) q z = ad z := fun z hz => up1_o (by omega)
  have w1' := w1.push (kd := ci) (n := nF ci) (clO_newO (by omega)).symm hP hD
  have k9 := b1 (up1 ad (hn h + 1) q) H1 locs (cells + 1) (slots + nF ci) ls w1' hS ⟨fun z hz => (hag z (by omega)).trans (w3.1 z hz), by show n0 ≤ hn h + 1 + 1; omega⟩ (by rw [map_cvl_congr w6 hag]; exact w4)
    (ok_psh (fun a ea => by cases ea; exact Nat.le_refl _) fun v hv => okv_mono (w5 v hv) (Nat.le_succ _)) (fun z hz => okv_mono (w6 z hz) (Nat.le_succ _)) ⟨by show cells + 1 + (hc h' - (hc h + 1)) ≤ mc; omega, by show slots + nF ci + (hs h' - (hs h + nF ci)) ≤ ms; omega⟩
  have e1 : cv (up1 ad (hn h + 1) q) (vR (some (hn h + 1))) = .ref q := by
    show va_rf (some (up1 ad (hn h + 1) q (hn h + 1))) = _
    rw [up1_s]; rfl
  rw [List.map_cons, e1, map_cv_congr w5 hag] at k9
  exact k9
def atK (k : Nat) : ArrayType := match k with
  | 20 => .int
  | 21 => .boolean
  | _ => .long
theorem clO_newA {cy : Nat → ClassId} {ad : Nat → Nat} {h : MH} {k n : Nat} (hk : k = 20 ∨ k = 21) : ∃ x : vp_A, clO cy ad (alc h k n) (hn h + 1) = .inl (cy k, x) ∧ ∀ cA : ClassId, vp_cell cA x = arrV cA n (fun _ => defaultValue (tyK k)) := by
  have l1 : hl (alc h k n) (hn h + 1) = n := up1_s
  rcases hk with rfl | rfl
  · refine ⟨(n, .inl fun _ => 0), ?_, fun _ => rfl⟩
    rw [clO_int (h := alc h 20 n) (k := 20) up1_s (by omega) (by omega), l1]
    show Sum.inl (cy 20, n, Sum.inl (upr (hi h) (hn h + 1) (fun _ => 0) (hn h + 1))) = _
    rw [upr_s]
  · refine ⟨(n, .inl fun _ => 0), ?_, fun _ => rfl⟩
    rw [clO_int (h := alc h 21 n) (k := 21) up1_s (by omega) (by omega), l1]
    show Sum.inl (cy 21, n, Sum.inl (upr (hi h) (hn h + 1) (fun _ => 0) (hn h + 1))) = _
    rw [upr_s]
theorem cb_le (k : Nat) : componentBytes (tyK k) ≤ 8 := by
  unfold tyK
  split <;> decide
theorem V_newa {K : CT} {cc : ByteArray} {own : String} {ret : Option FieldType} {hh : List (Nat × Nat × Nat × Nat)} {lvl md : Nat} (F : Fr K cc own ret hh lvl md) {pc : Nat} {L : List (Nat × MV)} {st : List MV} {h : MH} {res : Option Nat → MH → Res} {x : Int32} (kd : Nat) (hkd : kd = 20 ∨ kd = 21) (harr : Cond.arrayClass (tyK kd) ∈ GW) (d : decode cc pc = .ok (.newarray (atK kd), 2)) (n : ∀ r h', V K (pc + 2) L (vR r :: st) h' (res r h')) : V K pc L (vI x :: st) h (nwA h kd x res) := by
  unfold nwA
  by_cases q9 : 0 ≤ x ∧ x.toNatClampNeg ≤ 1000
  · rw [if_pos q9]
    obtain ⟨q1, q2⟩ := q9
    intro r h' e9
    obtain ⟨a1, b1⟩ := n (some (hn h + 1)) (alc h kd x.toNatClampNeg) r h' e9
    obtain ⟨⟨z1, z2, z3⟩, z4⟩ := a1
    have y1 : hn h + 1 ≤ hn h' := z1
    have y2 : hc h + 1 ≤ hc h' := z2
    have y3 : hs h + x.toNatClampNeg ≤ hs h' := z3
    refine ⟨⟨⟨by omega, by omega, by omega⟩, z4⟩, ?_⟩
    rcases K with ⟨md1, nL, nm, _ | ⟨p, l, e, R, s, m, args, below, meth, c, D, cy, base, ad0, n0, mc, ms⟩⟩
    · exact True.intro
    obtain ⟨hmd, hx, hb, hml, hown, hts, hlk, henv, hmc, hms, hstk, hret, htab, hlv1, hlv2, hnm⟩ := F
    intro ad H locs cells slots ls w1 w2 w3 w4 w5 w6 w7
    obtain ⟨v1, v2⟩ := w7
    have hty : newarray.typeOf (atK kd) = tyK kd := by rcases hkd with rfl | rfl <;> rfl
    have hAK : kd ∈ AK := by rcases hkd with rfl | rfl <;> decide
    have g5 : x.toNatClampNeg * componentBytes (tyK kd) ≤ 1000 * 8 := Nat.mul_le_mul q2 (cb_le kd)
    obtain ⟨x9, g1, g2⟩ := clO_newA (cy := cy) (ad := fun _ => 0) (h := h) (n := x.toNatClampNeg) hkd
    refine va_newa hx hb (by rw [hty]; exact hts _ harr) hty henv.1 w1.1 w1.2.1 w2 (fun q hq => Nat.le_trans henv.2.2.2.2.2.2.2.2 hq) (n := x) (N' := x.toNatClampNeg) (a0 := x9) g2 (Int32.not_lt.mpr q1) rfl (by omega) (by omega) (by omega) d (fun q cA H1 hK hP hD hS => ?_)
    have ecA : cA = cy kd := by
      obtain ⟨t0, ht0⟩ := TYL_at (cy := cy) hAK
      have r1 := (hK.2 (TYL cy).length (cA, tyK kd) (by simp)).2
      exact RA_inj r1 (henv.1.2 t0 _ ht0).2
    subst ecA
    have hag : ∀ z, z < hn h + 1 → up1 ad (hn h + 1) q z = ad z := fun z hz => up1_o (by omega)
    have ecl : (Sum.inl (cy kd, x9) : va_E) = clO cy (up1 ad (hn h + 1) q) (alc h kd x.toNatClampNeg) (hn h + 1) := by
      rw [← g1]
      rcases hkd with rfl | rfl
      · rw [clO_int (h := alc h 20 x.toNatClampNeg) (k := 20) up1_s (by omega) (by omega), clO_int (h := alc h 20 x.toNatClampNeg) (k := 20) up1_s (by omega) (by omega)]
      · rw [clO_int (h := alc h 21 x.toNatClampNeg) (k := 21) up1_s (by omega) (by omega), clO_int (h := alc h 21 x.toNatClampNeg) (k := 21) up1_s (by omega) (by omega)]
    have w1' := w1.push (kd := kd) (n := x.toNatClampNeg) ecl hP hD
    have k9 := b1 (up1 ad (hn h + 1) q) H1 locs (cells + 1) (slots + x.toNatClampNeg) ls w1' hS ⟨fun z hz => (hag z (by omega)).trans (w3.1 z hz), by show n0 ≤ hn h + 1 + 1; omega⟩ (by rw [map_cvl_congr w6 hag]; exact w4)
      (ok_psh (fun a ea => by cases ea; exact Nat.le_refl _) fun v hv => okv_mono (ok_pop w5 v hv) (Nat.le_succ _)) (fun z hz => okv_mono (w6 z hz) (Nat.le_succ _)) ⟨by show cells + 1 + (hc h' - (hc h + 1)) ≤ mc; omega, by show slots + x.toNatClampNeg + (hs h' - (hs h + x.toNatClampNeg)) ≤ ms; omega⟩
    have e1 : cv (up1 ad (hn h + 1) q) (vR (some (hn h + 1))) = .ref q := by
      show va_rf (some (up1 ad (hn h + 1) q (hn h + 1))) = _
      rw [up1_s]; rfl
    rw [List.map_cons, e1, map_cv_congr (ok_pop w5) hag] at k9
    exact k9
  · rw [if_neg q9]; exact V_none
theorem V_newq {K : CT} {cc : ByteArray} {own : String} {ret : Option FieldType} {hh : List (Nat × Nat × Nat × Nat)} {lvl md : Nat} (F : Fr K cc own ret hh lvl md) {pc : Nat} {L : List (Nat × MV)} {st : List MV} {h : MH} {res : Option Nat → MH → Res} {x : Int32} {idx : Nat} (kd : Nat) (hkd : 22 ≤ kd ∧ kd < 26) (hlink : Cond.classLink own idx (RN (coK kd)) ∈ GW) (hAO : RN (coK kd) ∈ AOL) (d : decode cc pc = .ok (.anewarray idx, 3)) (n : ∀ r h', V K (pc + 3) L (vR r :: st) h' (res r h')) : V K pc L (vI x :: st) h (nwA h kd x res) := by
  unfold nwA
  by_cases q9 : 0 ≤ x ∧ x.toNatClampNeg ≤ 1000
  · rw [if_pos q9]
    obtain ⟨q1, q2⟩ := q9
    intro r h' e9
    obtain ⟨a1, b1⟩ := n (some (hn h + 1)) (alc h kd x.toNatClampNeg) r h' e9
    obtain ⟨⟨z1, z2, z3⟩, z4⟩ := a1
    have y1 : hn h + 1 ≤ hn h' := z1
    have y2 : hc h + 1 ≤ hc h' := z2
    have y3 : hs h + x.toNatClampNeg ≤ hs h' := z3
    refine ⟨⟨⟨by omega, by omega, by omega⟩, z4⟩, ?_⟩
    rcases K with ⟨md1, nL, nm, _ | ⟨p, l, e, R, s, m, args, below, meth, c, D, cy, base, ad0, n0, mc, ms⟩⟩
    · exact True.intro
    obtain ⟨hmd, hx, hb, hml, hown, hts, hlk, henv, hmc, hms, hstk, hret, htab, hlv1, hlv2, hnm⟩ := F
    intro ad H locs cells slots ls w1 w2 w3 w4 w5 w6 w7
    obtain ⟨v1, v2⟩ := w7
    obtain ⟨hAK, C, hC1, hC2, -⟩ := kd_ref hkd
    refine va_newq hx hb hown (hts _ hlink) (henv.2.2.2.1 _ hAO) henv.1 w1.1 w1.2.1 w2 (fun q hq => Nat.le_trans henv.2.2.2.2.2.2.2.2 hq) (Int32.not_lt.mpr q1) rfl (by omega) (by omega) (by omega) d (fun q cA H1 hK hP hD hS => ?_)
    have ecA : cA = cy kd := by
      obtain ⟨t0, ht0⟩ := TYL_at (cy := cy) hAK
      rw [hC1, hC2] at ht0
      have r1 := (hK.2 (TYL cy).length (cA, .object (RN (coK kd))) (by simp)).2
      exact RA_inj r1 (henv.1.2 t0 _ ht0).2
    subst ecA
    have hag : ∀ z, z < hn h + 1 → up1 ad (hn h + 1) q z = ad z := fun z hz => up1_o (by omega)
    have ecl : (Sum.inl (cy kd, x.toNatClampNeg, .inr (.inr (.inr (.inr fun _ => none)))) : va_E) = clO cy (up1 ad (hn h + 1) q) (alc h kd x.toNatClampNeg) (hn h + 1) := by
      rw [clO_ref (h := alc h kd x.toNatClampNeg) (k := kd) up1_s (by omega) (by omega)]
      have l1 : hl (alc h kd x.toNatClampNeg) (hn h + 1) = x.toNatClampNeg := up1_s
      rw [l1]
      refine congrArg (fun z => Sum.inl (cy kd, x.toNatClampNeg, Sum.inr (Sum.inr (Sum.inr (Sum.inr z))))) ?_
      funext j
      show none = (upr (hr h) (hn h + 1) (fun _ => none) (hn h + 1) j).map _
      rw [upr_s]; rfl
    have w1' := w1.push (kd := kd) (n := x.toNatClampNeg) ecl hP hD
    have k9 := b1 (up1 ad (hn h + 1) q) H1 locs (cells + 1) (slots + x.toNatClampNeg) ls w1' hS ⟨fun z hz => (hag z (by omega)).trans (w3.1 z hz), by show n0 ≤ hn h + 1 + 1; omega⟩ (by rw [map_cvl_congr w6 hag]; exact w4)
      (ok_psh (fun a ea => by cases ea; exact Nat.le_refl _) fun v hv => okv_mono (ok_pop w5 v hv) (Nat.le_succ _)) (fun z hz => okv_mono (w6 z hz) (Nat.le_succ _)) ⟨by show cells + 1 + (hc h' - (hc h + 1)) ≤ mc; omega, by show slots + x.toNatClampNeg + (hs h' - (hs h + x.toNatClampNeg)) ≤ ms; omega⟩
    have e1 : cv (up1 ad (hn h + 1) q) (vR (some (hn h + 1))) = .ref q := by
      show va_rf (some (up1 ad (hn h + 1) q (hn h + 1))) = _
      rw [up1_s]; rfl
    rw [List.map_cons, e1, map_cv_congr (ok_pop w5) hag] at k9
    exact k9
  · rw [if_neg q9]; exact V_none
end
section
/-! returns -/
def rtI (x : Int32) (h : MH) : Res := some (.inl (some (vI x)), h)
def rtR (x : Option Nat) (h : MH) : Res := some (.inl (some (vR x)), h)
def rtQ (x : Int64) (h : MH) : Res := some (.inl (some (vL x)), h)
def rtV (h : MH) : Res := some (.inl none, h)
theorem VR_core {K : CT} {cc : ByteArray} {own : String} {ret : Option FieldType} {hh : List (Nat × Nat × Nat × Nat)} {lvl md : Nat} (F : Fr K cc own ret hh lvl md) (hmd1 : md = 0 ∨ md = 1) {pc : Nat} {L : List (Nat × MV)} {st : List MV} {h : MH} {v : Option MV}
    (hok : ∀ w, v = some w → w ∈ st)
    (row : match K.2.2.2 with
      | none => True
      | some (p, l, e, R, s, m, args, below, meth, c, _, _, base, _, _, mc, ms) =>
        ∀ (ad : Nat → Nat) (H : Heap) (locs : List Loc) (ls : Array Slot) (Qc : Array Value → State → Outcome → State → Prop),
          (∀ t : State, t.heap = H → s.WarmedH t.vm → Qc args s (.returned (v.map (cv ad))) t) → (∀ q ∈ locs, bA base q.base) →
          W p l e R s m args below meth c H locs mc ms (MQ below Qc args s mc ms (bA base)) (F0 m pc ls (st.map (cv ad)))) :
    V K pc L st h (some (.inl v, h)) := by
  intro r h' e9
  cases e9
  refine ⟨⟨Hle.rf, fun _ => ⟨_, rfl⟩⟩, ?_⟩
  rcases K with ⟨md1, nL, nm, _ | ⟨p, l, e, R, s, m, args, below, meth, c, D, cy, base, ad0, n0, mc, ms⟩⟩
  · exact True.intro
  obtain ⟨hmd, hx, hb, hml, hown, hts, hlk, henv, hmc, hms, hstk, hret, htab, hlv1, hlv2, hnm⟩ := F
  intro ad H locs cells slots ls w1 w2 w3 w4 w5 w6 w7
  refine W.widen (k := mc) (n := ms) (by omega) (by omega) ?_
  have k9 := row ad H locs ls (QcF D cy base ad0 n0 (.inl v) h) (fun t ht hW => ⟨v, rfl, ⟨ad, w3.1, rfl, fun w hw => w5 w (hok w hw), by rw [ht]; exact w1⟩, w2.F ht⟩) w2.2.2
  have hmd : md1 = md := hmd
  subst hmd
  rcases hmd1 with rfl | rfl
  · exact k9
  · exact vx_ret k9
theorem V_iret {K : CT} {cc : ByteArray} {own : String} {hh : List (Nat × Nat × Nat × Nat)} {lvl md : Nat} (F : Fr K cc own (some .int) hh lvl md) (hmd1 : md = 0 ∨ md = 1) {pc : Nat} {L : List (Nat × MV)} {h : MH} {x : Int32} (d : decode cc pc = .ok (.ireturn, 1)) : V K pc L [vI x] h (rtI x h) := by
  refine VR_core F hmd1 (fun w hw => by cases hw; exact List.mem_cons_self) ?_
  rcases K with ⟨md1, nL, nm, _ | ⟨p, l, e, R, s, m, args, below, meth, c, D, cy, base, ad0, n0, mc, ms⟩⟩
  · exact True.intro
  obtain ⟨hmd, hx, hb, hml, hown, hts, hlk, henv, hmc, hms, hstk, hret, htab, hlv1, hlv2, hnm⟩ := F
  intro ad H locs ls Qc hq hf
  exact W.iret hx hb hret hq hf d hlk
def rtZ (x : Int32) (h : MH) : Res := if x = 0 ∨ x = 1 then some (.inl (some (vI x)), h) else none
theorem V_zret {K : CT} {cc : ByteArray} {own : String} {hh : List (Nat × Nat × Nat × Nat)} {lvl md : Nat} (F : Fr K cc own (some .boolean) hh lvl md) (hmd1 : md = 0 ∨ md = 1) {pc : Nat} {L : List (Nat × MV)} {h : MH} {x : Int32} (d : decode cc pc = .ok (.ireturn, 1)) : V K pc L [vI x] h (rtZ x h) := by
  unfold rtZ
  by_cases q9 : x = 0 ∨ x = 1
  · rw [if_pos q9]
    refine VR_core F hmd1 (fun w hw => by cases hw; exact List.mem_cons_self) ?_
    rcases K with ⟨md1, nL, nm, _ | ⟨p, l, e, R, s, m, args, below, meth, c, D, cy, base, ad0, n0, mc, ms⟩⟩
    · exact True.intro
    obtain ⟨hmd, hx, hb, hml, hown, hts, hlk, henv, hmc, hms, hstk, hret, htab, hlv1, hlv2, hnm⟩ := F
    intro ad H locs ls Qc hq hf
    exact W.zret hx hb hret (by rcases q9 with rfl | rfl <;> rfl) hq hf d hlk
  · rw [if_neg q9]; exact V_none
theorem V_vret {K : CT} {cc : ByteArray} {own : String} {hh : List (Nat × Nat × Nat × Nat)} {lvl md : Nat} (F : Fr K cc own none hh lvl md) (hmd1 : md = 0 ∨ md = 1) {pc : Nat} {L : List (Nat × MV)} {h : MH} (d : decode cc pc = .ok (.return_, 1)) : V K pc L [] h (rtV h) := by
  refine VR_core F hmd1 (fun w hw => by cases hw) ?_
  rcases K with ⟨md1, nL, nm, _ | ⟨p, l, e, R, s, m, args, below, meth, c, D, cy, base, ad0, n0, mc, ms⟩⟩
  · exact True.intro
  obtain ⟨hmd, hx, hb, hml, hown, hts, hlk, henv, hmc, hms, hstk, hret, htab, hlv1, hlv2, hnm⟩ := F
  intro ad H locs ls Qc hq hf
  exact W.vret hx hb hret hq hf d hlk
theorem V_lret {K : CT} {cc : ByteArray} {own : String} {hh : List (Nat × Nat × Nat × Nat)} {lvl md : Nat} (F : Fr K cc own (some .long) hh lvl md) (hmd1 : md = 0 ∨ md = 1) {pc : Nat} {L : List (Nat × MV)} {h : MH} {x : Int64} (d : decode cc pc = .ok (.lreturn, 1)) : V K pc L [vL x] h (rtQ x h) := by
  refine VR_core F hmd1 (fun w hw => by cases hw; exact List.mem_cons_self) ?_
  rcases K with ⟨md1, nL, nm, _ | ⟨p, l, e, R, s, m, args, below, meth, c, D, cy, base, ad0, n0, mc, ms⟩⟩
  · exact True.intro
  obtain ⟨hmd, hx, hb, hml, hown, hts, hlk, henv, hmc, hms, hstk, hret, htab, hlv1, hlv2, hnm⟩ := F
  intro ad H locs ls Qc hq hf
  exact W.lret hx hb hret hq hf d hlk
theorem V_aret {K : CT} {cc : ByteArray} {own : String} {rt : FieldType} {hh : List (Nat × Nat × Nat × Nat)} {lvl md : Nat} (F : Fr K cc own (some rt) hh lvl md) (hmd1 : md = 0 ∨ md = 1) (hrt : (∃ n, rt = .object n) ∨ ∃ t, rt = .array t) {pc : Nat} {L : List (Nat × MV)} {h : MH} {x : Option Nat} (d : decode cc pc = .ok (.areturn, 1)) : V K pc L [vR x] h (rtR x h) := by
  refine VR_core F hmd1 (fun w hw => by cases hw; exact List.mem_cons_self) ?_
  rcases K with ⟨md1, nL, nm, _ | ⟨p, l, e, R, s, m, args, below, meth, c, D, cy, base, ad0, n0, mc, ms⟩⟩
  · exact True.intro
  obtain ⟨hmd, hx, hb, hml, hown, hts, hlk, henv, hmc, hms, hstk, hret, htab, hlv1, hlv2, hnm⟩ := F
  intro ad H locs ls Qc hq hf
  exact W.aret hx hb hret hrt (va_rf_or _) hq hf d hlk
/-! contracts and calls -/
def calG (res : Res) (k : Option MV → MH → Res) (kx : Nat → MH → Res) : Res := match res with
  | none => none
  | some (.inl v, h) => k v h
  | some (.inr x, h) => kx x h
def toI (k : Int32 → MH → Res) : Option MV → MH → Res := fun v h => match v with
  | some (.inl x) => k x h
  | _ => none
def toR (k : Option Nat → MH → Res) : Option MV → MH → Res := fun v h => match v with
  | some (.inr (.inl x)) => k x h
  | _ => none
def toL (k : Int64 → MH → Res) : Option MV → MH → Res := fun v h => match v with
  | some (.inr (.inr x)) => k x h
  | _ => none
def toV (k : MH → Res) : Option MV → MH → Res := fun v h => match v with
  | none => k h
  | _ => none
def prp : Nat → MH → Res := fun x h => some (.inr x, h)
def calI (res : Res) (k : Int32 → MH → Res) : Res := calG res (toI k) prp
def calR (res : Res) (k : Option Nat → MH → Res) : Res := calG res (toR k) prp
def calL (res : Res) (k : Int64 → MH → Res) : Res := calG res (toL k) prp
def calV (res : Res) (k : MH → Res) : Res := calG res (toV k) prp
def RM (lvl mc ms : Nat) : Room := { frames := lvl, cells := mc, slots := ms, locals := 48 * lvl + 12 }
def WSm (y : MethodName) (b : ByteArray) (maxL : Nat) (ret : Option FieldType) : List Cond := Cond.code y b maxL ret :: GW
def WSw (y : MethodName) (b : ByteArray) (maxL : Nat) (ret : Option FieldType) (hh : List (Nat × Nat × Nat × Nat)) : List Cond := Cond.codeWith y b maxL ret hh :: GW
def CtrM (y : MethodName) (ws : List Cond) (lvl : Nat) (vs : List MV) (h : MH) (res : Res) : Prop :=
  ∀ (r : MR) (h' : MH), res = some (r, h') → Hle h h' ∧ (∃ v, r = .inl v) ∧ ∀ (l : Launch) (D : va_G) (cy : Nat → ClassId) (base : Nat) (ad0 : Nat → Nat), l.stackTraces = false →
    Met l y ws (RM lvl (hc h' - hc h) (hs h' - hs h)) (PcF D cy base ad0 vs h) (QcF D cy base ad0 (hn h + 1) r h') (hc h' - hc h) (hs h' - hs h) (bA base)
def CtrX (y : MethodName) (ws : List Cond) (lvl : Nat) (vs : List MV) (h : MH) (res : Res) : Prop :=
  ∀ (r : MR) (h' : MH), res = some (r, h') → Hle h h' ∧ ∀ (l : Launch) (D : va_G) (cy : Nat → ClassId) (base : Nat) (ad0 : Nat → Nat), l.stackTraces = false →
    vx_Met l y ws (RM lvl (hc h' - hc h) (hs h' - hs h)) (PcF D cy base ad0 vs h) (QcF D cy base ad0 (hn h + 1) r h') (XcF D cy base ad0 (hn h + 1) r h') (hc h' - hc h) (hs h' - hs h) (bA base)
def RunX (K : CT) (pc : Nat) (L : List (Nat × MV)) (st0 rest : List MV) (h : MH) (res : Res) : Prop :=
  ∀ (r : MR) (h' : MH), res = some (r, h') → Hle h h' ∧ match K.2.2.2 with
    | none => True
    | some (p, l, e, R, s, m, args, below, meth, c, D, cy, base, ad0, n0, mc, ms) =>
      ∀ (ad : Nat → Nat) (H : Heap) (locs : List Loc) (cells slots : Nat) (ls : Array Slot),
        Wld D cy base ad h H → va_S (bA base) s.heap H locs → ((∀ z, z < n0 → ad z = ad0 z) ∧ n0 ≤ hn h + 1) → lv_has ls K.2.1 (L.map (cvl ad)) → (∀ v ∈ st0, okv (hn h) v) →
        (cells + (hc h' - hc h) ≤ mc ∧ slots + (hs h' - hs h) ≤ ms) →
        vx_Run p l e R s m args below meth c H locs cells slots (hc h' - hc h) (hs h' - hs h) (F0 m pc ls (st0.map (cv ad))) (rest.map (cv ad)) (QcF D cy base ad (hn h + 1) r h' #[]) (XcF D cy base ad (hn h + 1) r h') (bA base)
/-- an exception x over the frame -/
def VX (K : CT) (pc : Nat) (L : List (Nat × MV)) (rest : List MV) (h : MH) (x : Nat) (res : Res) : Prop :=
  ∀ (r : MR) (h' : MH), res = some (r, h') → (Hle h h' ∧ (K.1 = 0 → ∃ v : Option MV, r = Sum.inl v)) ∧ match K.2.2.2 with
    | none => True
    | some (p, l, e, R, s, m, args, below, meth, c, D, cy, base, ad0, n0, mc, ms) =>
      ∀ (ad : Nat → Nat) (H : Heap) (locs : List Loc) (cells slots : Nat) (ls : Array Slot) (q : Addr) (ce : Cell),
        Wld D cy base ad h H → va_S (bA base) s.heap H locs → ((∀ z, z < n0 → ad z = ad0 z) ∧ n0 ≤ hn h + 1) → lv_has ls K.2.1 (L.map (cvl ad)) →
        (∀ v ∈ rest, okv (hn h) v) → (∀ q ∈ L, okv (hn h) q.2) →
        (cells + (hc h' - hc h) ≤ mc ∧ slots + (hs h' - hs h) ≤ ms) →
        H[q]? = some ce → ce.vm = .none → s.vm.findClass (exN x) = some ce.cls →
        vx_W p l e R s m args below meth c H locs cells slots (QFd K.1 (p, l, e, R, s, m, args, below, meth, c, D, cy, base, ad0, n0, mc, ms) r h') (F0 m pc ls (rest.map (cv ad))) q
theorem V_calG {K : CT} {pc : Nat} {L : List (Nat × MV)} {st0 rest : List MV} {h : MH} {res : Res} {k : Option MV → MH → Res} {kx : Nat → MH → Res}
    (hrun : RunX K pc L st0 rest h res) (hrest : ∀ v ∈ rest, v ∈ st0) (n : ∀ v h1, V K (pc + 3) L (v.toList ++ rest) h1 (k v h1)) (nx : ∀ x h1, res = some (.inr x, h1) → VX K pc L rest h1 x (kx x h1)) : V K pc L st0 h (calG res k kx) := by
  cases hres : res with
  | none => exact V_none
  | some z =>
    obtain ⟨r1, h1⟩ := z
    subst hres
    obtain ⟨y1, y2⟩ := hrun r1 h1 rfl
    obtain ⟨z1, z2, z3⟩ := id y1
    have hmono : ∀ {v : MV}, okv (hn h) v → okv (hn h1) v := fun q => okv_mono q z1
    cases r1 with
    | inl v =>
      intro r h' e9
      obtain ⟨a1, b1⟩ := n v h1 r h' e9
      obtain ⟨-, u2, u3⟩ := id a1.1
      refine ⟨⟨y1.tr a1.1, a1.2⟩, ?_⟩
      rcases K with ⟨md1, nL, nm, _ | ⟨p, l, e, R, s, m, args, below, meth, c, D, cy, base, ad0, n0, mc, ms⟩⟩
      · exact True.intro
      intro ad H locs cells slots ls w1 w2 w3 w4 w5 w6 w7
      intro T hT X
      rcases y2 ad H locs cells slots ls w1 w2 w3 w4 w5 ⟨by omega, by omega⟩ T hT X with ⟨v', st₀, t, T', L', h0, X', hL, e1, e2, ⟨v2, ev, ⟨ad', hag, eo, hokv, hW'⟩, hF⟩, st⟩ | ⟨q, st₀, t, T', L', E, ce, h0, X', hL, e1, e2, ⟨x9, ex, -⟩, -⟩
      · cases ev
        have ev' : v' = v.map (cv ad') := Outcome.returned.inj eo
        subst ev'
        obtain ⟨-, -, k3⟩ := vx_keep h0 e1 w2 (fun q _ z => z) (fun q z => z) hL hF
        have w6' : ∀ q ∈ L, okv (hn h) q.2 := w6
        have hmr : ∀ u ∈ rest, okv (hn h) u := fun u hu => w5 u (hrest u hu)
        obtain ⟨t2, a2, b2⟩ := b1 ad' T'.heap (locs ++ L') (cells + (hc h1 - hc h)) (slots + (hs h1 - hs h)) ls (by rw [e1]; exact hW') k3 ⟨fun z hz => (hag z (by omega)).trans (w3.1 z hz), by omega⟩
          (by rw [map_cvl_congr w6 hag]; exact w4) (fun u hu => (List.mem_append.mp hu).elim (fun q => hokv u (Option.mem_toList.mp q)) (fun q => hmono (hmr u q))) (fun q hq => hmono (w6 q hq)) ⟨by omega, by omega⟩ T' rfl X'
        refine ⟨t2, st t2 ?_, b2⟩
        have e8 : (v.toList ++ rest).map (cv ad') = (v.map (cv ad')).toList ++ rest.map (cv ad) := by
          rw [List.map_append, map_cv_congr hmr hag]
          cases v <;> rfl
        rw [e8] at a2
        exact a2
      · cases ex
    | inr x =>
      intro r h' e9
      obtain ⟨a1, b1⟩ := nx x h1 rfl r h' e9
      obtain ⟨-, u2, u3⟩ := id a1.1
      refine ⟨⟨y1.tr a1.1, a1.2⟩, ?_⟩
      rcases K with ⟨md1, nL, nm, _ | ⟨p, l, e, R, s, m, args, below, meth, c, D, cy, base, ad0, n0, mc, ms⟩⟩
      · exact True.intro
      intro ad H locs cells slots ls w1 w2 w3 w4 w5 w6 w7
      intro T hT X
      rcases y2 ad H locs cells slots ls w1 w2 w3 w4 w5 ⟨by omega, by omega⟩ T hT X with ⟨v', st₀, t, T', L', h0, X', hL, e1, e2, ⟨v2, ev, -⟩, -⟩ | ⟨q, st₀, t, T', L', E, ce, h0, X', hL, e1, e2, ⟨x9, ex, rfl, ⟨ad', hag, hW'⟩, hF⟩, hce, hcv, hcl, st⟩
      · cases ev
      · cases ex
        obtain ⟨-, -, k3⟩ := vx_keep h0 e1 w2 (fun q _ z => z) (fun q z => z) hL hF
        have hmr : ∀ u ∈ rest, okv (hn h) u := fun u hu => w5 u (hrest u hu)
        obtain ⟨t2, a2, b2⟩ := b1 ad' T'.heap (locs ++ L') (cells + (hc h1 - hc h)) (slots + (hs h1 - hs h)) ls q ce (by rw [e1]; exact hW') k3 ⟨fun z hz => (hag z (by omega)).trans (w3.1 z hz), by omega⟩
          (by rw [map_cvl_congr w6 hag]; exact w4) (fun u hu => hmono (hmr u hu)) (fun q hq => hmono (w6 q hq)) ⟨by omega, by omega⟩ (by rw [e1]; exact hce) hcv hcl T' rfl X'
        rw [map_cv_congr hmr hag] at a2
        exact ⟨t2, st.trans a2, b2⟩
theorem VX_out {K : CT} {cc : ByteArray} {own : String} {ret : Option FieldType} {lvl : Nat} (F : Fr K cc own ret [] lvl 1) {pc : Nat} {L : List (Nat × MV)} {rest : List MV} {h : MH} {x : Nat} : VX K pc L rest h x (prp x h) := by
  have hm1 : K.1 = 1 := F.1
  intro r h' e9
  cases e9
  refine ⟨⟨Hle.rf, fun q => by omega⟩, ?_⟩
  rcases K with ⟨md1, nL, nm, _ | ⟨p, l, e, R, s, m, args, below, meth, c, D, cy, base, ad0, n0, mc, ms⟩⟩
  · exact True.intro
  obtain ⟨hmd, hx, hb, hml, hown, hts, hlk, henv, hmc, hms, hstk, hret, htab, hlv1, hlv2, hnm⟩ := F
  have hm2 : md1 = 1 := hm1
  subst hm2
  intro ad H locs cells slots ls q ce w1 w2 w3 w4 w5 w6 w7 g1 g2 g3
  refine vx_out (fun z hz => ?_) hlk g1 g2 g3 (fun t ht hA => ⟨x, rfl, rfl, ⟨ad, w3.1, by rw [ht]; exact w1⟩, w2.F ht⟩) w2.2.2 (by omega) (by omega)
  rw [htab rfl] at hz
  cases hz
theorem k_I {K : CT} {pc : Nat} {L : List (Nat × MV)} {rest : List MV} {k : Int32 → MH → Res} (n : ∀ x h1, V K pc L (vI x :: rest) h1 (k x h1)) : ∀ v h1, V K pc L (v.toList ++ rest) h1 (toI k v h1) := by
  intro v h1
  rcases v with _ | (x | (x | x)) <;> first | exact V_none | exact n x h1
theorem k_R {K : CT} {pc : Nat} {L : List (Nat × MV)} {rest : List MV} {k : Option Nat → MH → Res} (n : ∀ x h1, V K pc L (vR x :: rest) h1 (k x h1)) : ∀ v h1, V K pc L (v.toList ++ rest) h1 (toR k v h1) := by
  intro v h1
  rcases v with _ | (x | (x | x)) <;> first | exact V_none | exact n x h1
theorem k_L {K : CT} {pc : Nat} {L : List (Nat × MV)} {rest : List MV} {k : Int64 → MH → Res} (n : ∀ x h1, V K pc L (vL x :: rest) h1 (k x h1)) : ∀ v h1, V K pc L (v.toList ++ rest) h1 (toL k v h1) := by
  intro v h1
  rcases v with _ | (x | (x | x)) <;> first | exact V_none | exact n x h1
theorem k_V {K : CT} {pc : Nat} {L : List (Nat × MV)} {rest : List MV} {k : MH → Res} (n : ∀ h1, V K pc L rest h1 (k h1)) : ∀ v h1, V K pc L (v.toList ++ rest) h1 (toV k v h1) := by
  intro v h1
  rcases v with _ | v
  · exact n h1
  · exact V_none
end
section
theorem run_of_va {p : Program} {l : Launch} {e : Env} {R : Room} {s : State} {m : MethodId} {args : Array Value} {below : List Frame} {meth : Method} {c : Code} {H : Heap} {locs : List Loc} {cells slots mc ms : Nat} {g : JFrame} {rest : List Value} {Qa : State → Outcome → State → Prop} {XC : String → State → State → Prop} {free : Addr → Prop}
    (h : va_Run p l e R s m args below meth c H locs cells slots mc ms g rest Qa free) : vx_Run p l e R s m args below meth c H locs cells slots mc ms g rest Qa XC free := fun T hT X => Or.inl (h T hT X)
theorem GWin {ws : List Cond} (h : ∀ w ∈ ws, w ∈ GW) : GoodIn GW ws := fun w hw => ⟨h w hw, good_of_word (GW_g (h w hw))⟩
theorem GWm {y : MethodName} {b : ByteArray} {maxL : Nat} {rt : Option FieldType} (h : Cond.code y b maxL rt ∈ GW) : GoodIn GW (WSm y b maxL rt) := GWin fun w hw => (List.mem_cons.mp hw).elim (fun e => by rw [e]; exact h) id
theorem GWw {y : MethodName} {b : ByteArray} {maxL : Nat} {rt : Option FieldType} {hh : List (Nat × Nat × Nat × Nat)} (h : Cond.codeWith y b maxL rt hh ∈ GW) : GoodIn GW (WSw y b maxL rt hh) := GWin fun w hw => (List.mem_cons.mp hw).elim (fun e => by rw [e]; exact h) id
def CWm (y : MethodName) (b : ByteArray) (maxL : Nat) (rt : Option FieldType) (n : Nat) : Prop :=
  Cond.code y b maxL rt ∈ GW ∧ Cond.initialized y.cls ∈ GW ∧ (y.cls ≠ "java/lang/invoke/MethodHandle" ∧ y.cls ≠ "java/lang/invoke/VarHandle" ∧ (parseMethodDescriptor y.desc).map (fun d => d.parameters.length) = some n) ∧ maxL ≤ 29
theorem cat_sum {ad : Nat → Nat} (st : List MV) : ((st.map (cv ad)).map fun v => v.category).sum = (st.map mcat).sum := by
  rw [List.map_map]
  exact congrArg List.sum (List.map_congr_left fun v _ => mcat_cv v)
theorem rm_ok {R : Room} {lv lvl maxL mc ms : Nat} (h1 : lv < lvl) (h2 : lvl ≤ R.frames) (h3 : 48 * lvl + 12 ≤ R.locals) (h4 : maxL ≤ 29) : (RM lv mc ms).frames + 1 ≤ R.frames ∧ 8 + (maxL + 11) + (RM lv mc ms).locals ≤ R.locals := by
  constructor
  · show lv + 1 ≤ R.frames; omega
  · show 8 + (maxL + 11) + (48 * lv + 12) ≤ R.locals; omega
theorem noX {y : MethodName} {ws : List Cond} {lv : Nat} {vs : List MV} {h : MH} {res : Res} (hC : CtrM y ws lv vs h res) : ∀ x h1, res = some (.inr x, h1) → False := by
  intro x h1 e
  obtain ⟨-, ⟨v, ev⟩, -⟩ := hC _ _ e
  cases ev
theorem PcF_go {D : va_G} {cy : Nat → ClassId} {base : Nat} {ad : Nat → Nat} {as : List MV} {h : MH} {s : State} {H : Heap} {locs : List Loc} (hE : EnvO D cy base s) (hS : va_S (bA base) s.heap H locs) (w1 : Wld D cy base ad h H) (hok : ∀ v ∈ as, okv (hn h) v) {a : Array Value} (ha : a = (as.map (cv ad)).toArray) : ∀ U : State, U.heap = H → s.WarmedH U.vm → PcF D cy base ad as h a U :=
  fun U hU hW => ⟨ha, hE.go (locs := locs) hW (by rw [hU]; exact hS), by rw [hU]; exact w1, hok⟩
theorem run_S {K : CT} {cc : ByteArray} {own : String} {ret : Option FieldType} {hh : List (Nat × Nat × Nat × Nat)} {lvl md : Nat} (F : Fr K cc own ret hh lvl md) {pc : Nat} {L : List (Nat × MV)} {h : MH} {st0 as rest : List MV} {res : Res} {y : MethodName} {b : ByteArray} {maxL lv n idx : Nat} {rt : Option FieldType} (hC : CtrX y (WSm y b maxL rt) lv as h res) (hw : CWm y b maxL rt n) (hsta : Cond.static y ∈ GW) (hlnk : Cond.methodLink own idx y ∈ GW) (hlv : lv < lvl) (hst0 : st0 = as.reverse ++ rest) (hn : as.length = n) (hcat : (rest.map mcat).sum ≤ 8) (d : decode cc pc = .ok (.invokestatic idx, 3)) : RunX K pc L st0 rest h res := by
  subst hst0
  intro r h' e9
  obtain ⟨g1, g2⟩ := hC r h' e9
  refine ⟨g1, ?_⟩
  rcases K with ⟨md1, nL, nm, _ | ⟨p, l, e, R, s, m, args, below, meth, c, D, cy, base, ad0, n0, mc, ms⟩⟩
  · exact True.intro
  obtain ⟨hmd, hx, hb, hml, hown, hts, hlk, henv, hmc, hms, hstk, hret, htab, hlv1, hlv2, hnm⟩ := F
  intro ad H locs cells slots ls w1 w2 w3 w4 w5 w7
  have cb := callB_of (R := R) (own := own) (index := idx) (rm := RM lv (hc h' - hc h) (hs h' - hs h)) n hts (GWm hw.1) rfl rfl rfl (hts _ hw.2.1) (hts _ hlnk) hw.2.2.1 (rm_ok hlv hlv1 hlv2 hw.2.2.2)
  exact vx_runS (As := as.map (cv ad)) ⟨hx, hb, hml, hown, hts⟩ (g2 l D cy base ad hstk) ⟨cb, hts _ hsta⟩ ⟨PcF.blind, PcF_go henv w2 w1 (fun v hv => w5 v (List.mem_append_left _ (List.mem_reverse.mpr hv))) rfl⟩ rfl (by rw [List.length_map]; exact hn) w4.1
    (by rw [List.map_append, List.map_reverse]) (lv_room (m := m) (pc := pc) (ls := ls) (rest := []) (by rw [cat_sum]; exact hcat)) d ⟨by omega, by omega⟩
theorem run_SM {K : CT} {cc : ByteArray} {own : String} {ret : Option FieldType} {hh : List (Nat × Nat × Nat × Nat)} {lvl md : Nat} (F : Fr K cc own ret hh lvl md) {pc : Nat} {L : List (Nat × MV)} {h : MH} {st0 as rest : List MV} {res : Res} {y : MethodName} {b : ByteArray} {maxL lv n idx : Nat} {rt : Option FieldType} (hC : CtrM y (WSm y b maxL rt) lv as h res) (hw : CWm y b maxL rt n) (hsta : Cond.static y ∈ GW) (hlnk : Cond.methodLink own idx y ∈ GW) (hlv : lv < lvl) (hst0 : st0 = as.reverse ++ rest) (hn : as.length = n) (hcat : (rest.map mcat).sum ≤ 8) (d : decode cc pc = .ok (.invokestatic idx, 3)) : RunX K pc L st0 rest h res := by
  subst hst0
  intro r h' e9
  obtain ⟨g1, -, g2⟩ := hC r h' e9
  refine ⟨g1, ?_⟩
  rcases K with ⟨md1, nL, nm, _ | ⟨p, l, e, R, s, m, args, below, meth, c, D, cy, base, ad0, n0, mc, ms⟩⟩
  · exact True.intro
  obtain ⟨hmd, hx, hb, hml, hown, hts, hlk, henv, hmc, hms, hstk, hret, htab, hlv1, hlv2, hnm⟩ := F
  intro ad H locs cells slots ls w1 w2 w3 w4 w5 w7
  refine run_of_va ?_
  have cb := callB_of (R := R) (own := own) (index := idx) (rm := RM lv (hc h' - hc h) (hs h' - hs h)) n hts (GWm hw.1) rfl rfl rfl (hts _ hw.2.1) (hts _ hlnk) hw.2.2.1 (rm_ok hlv hlv1 hlv2 hw.2.2.2)
  exact va_runS (As := as.map (cv ad)) ⟨hx, hb, hml, hown, hts⟩ (g2 l D cy base ad hstk) ⟨cb, hts _ hsta⟩ ⟨PcF.blind, PcF_go henv w2 w1 (fun v hv => w5 v (List.mem_append_left _ (List.mem_reverse.mpr hv))) rfl⟩ rfl (by rw [List.length_map]; exact hn) w4.1
    (by rw [List.map_append, List.map_reverse]) (lv_room (m := m) (pc := pc) (ls := ls) (rest := []) (by rw [cat_sum]; exact hcat)) d ⟨by omega, by omega⟩
theorem run_SN {K : CT} {cc : ByteArray} {own : String} {ret : Option FieldType} {hh : List (Nat × Nat × Nat × Nat)} {lvl md : Nat} (F : Fr K cc own ret hh lvl md) {pc : Nat} {L : List (Nat × MV)} {h : MH} {st0 as rest : List MV} {res : Res} {y : MethodName} {b : ByteArray} {maxL lv n idx : Nat} {rt : Option FieldType} {host : String} (hC : CtrM y (WSm y b maxL rt) lv as h res) (hw : CWm y b maxL rt n) (hsta : Cond.static y ∈ GW) (hlnk : (own, idx, y, host) ∈ NML) (hlv : lv < lvl) (hst0 : st0 = as.reverse ++ rest) (hn : as.length = n) (hcat : (rest.map mcat).sum ≤ 8) (d : decode cc pc = .ok (.invokestatic idx, 3)) : RunX K pc L st0 rest h res := by
  subst hst0
  intro r h' e9
  obtain ⟨g1, -, g2⟩ := hC r h' e9
  refine ⟨g1, ?_⟩
  rcases K with ⟨md1, nL, nm, _ | ⟨p, l, e, R, s, m, args, below, meth, c, D, cy, base, ad0, n0, mc, ms⟩⟩
  · exact True.intro
  obtain ⟨hmd, hx, hb, hml, hown, hts, hlk, henv, hmc, hms, hstk, hret, htab, hlv1, hlv2, hnm⟩ := F
  intro ad H locs cells slots ls w1 w2 w3 w4 w5 w7
  refine run_of_va ?_
  have cb := va_cnB (R := R) (own := own) (host := host) (index := idx) (rm := RM lv (hc h' - hc h) (hs h' - hs h)) n hts (GWm hw.1) rfl rfl rfl (henv.2.1 _ hlnk) (hts _ hw.2.1) hw.2.2.1 (rm_ok hlv hlv1 hlv2 hw.2.2.2)
  exact va_runSN (As := as.map (cv ad)) ⟨hx, hb, hml, hown, hts⟩ (g2 l D cy base ad hstk) ⟨cb, hts _ hsta, trivial⟩ ⟨PcF.blind, PcF_go henv w2 w1 (fun v hv => w5 v (List.mem_append_left _ (List.mem_reverse.mpr hv))) rfl⟩ rfl (by rw [List.length_map]; exact hn) w4.1
    (by rw [List.map_append, List.map_reverse]) (lv_room (m := m) (pc := pc) (ls := ls) (rest := []) (by rw [cat_sum]; exact hcat)) d ⟨by omega, by omega⟩
/-- the receiver is an object of class ci -/
def chk (h : MH) (r : Option Nat) (ci : Nat) (k : Res) : Res := match r with
  | none => none
  | some a => if hk h a = ci then k else none
theorem V_chk {K : CT} {pc : Nat} {L : List (Nat × MV)} {st : List MV} {h : MH} {r : Option Nat} {ci : Nat} {k : Res} (n : ∀ a, r = some a → hk h a = ci → V K pc L st h k) : V K pc L st h (chk h r ci k) := by
  cases r with
  | none => exact V_none
  | some a =>
    show V K pc L st h (if hk h a = ci then k else none)
    by_cases q : hk h a = ci
    · rw [if_pos q]; exact n a rfl q
    · rw [if_neg q]; exact V_none
theorem run_V {K : CT} {cc : ByteArray} {own : String} {ret : Option FieldType} {hh : List (Nat × Nat × Nat × Nat)} {lvl md : Nat} (F : Fr K cc own ret hh lvl md) {pc : Nat} {L : List (Nat × MV)} {h : MH} {st0 as rest : List MV} {res : Res} {y : MethodName} {b : ByteArray} {maxL lv n idx a : Nat} {rt : Option FieldType} (ci : Nat) (hci : ci < 9) (hka : hk h a = ci) (hC : CtrX y (WSm y b maxL rt) lv (vR (some a) :: as) h res) (hw : CWm y b maxL rt n) (hin : Cond.instanceMethod y ∈ GW) (hsel : Cond.selects (RN ci) y y ∈ GW) (hlnk : Cond.methodLink own idx y ∈ GW) (hlv : lv < lvl) (hst0 : st0 = as.reverse ++ vR (some a) :: rest) (hn : as.length = n) (hcat : (rest.map mcat).sum ≤ 8) (d : decode cc pc = .ok (.invokevirtual idx, 3)) : RunX K pc L st0 rest h res := by
  subst hst0
  intro r h' e9
  obtain ⟨g1, g2⟩ := hC r h' e9
  refine ⟨g1, ?_⟩
  rcases K with ⟨md1, nL, nm, _ | ⟨p, l, e, R, s, m, args, below, meth, c, D, cy, base, ad0, n0, mc, ms⟩⟩
  · exact True.intro
  obtain ⟨hmd, hx, hb, hml, hown, hts, hlk, henv, hmc, hms, hstk, hret, htab, hlv1, hlv2, hnm⟩ := F
  intro ad H locs cells slots ls w1 w2 w3 w4 w5 w7
  have cb := callB_of (R := R) (own := own) (index := idx) (rm := RM lv (hc h' - hc h) (hs h' - hs h)) n hts (GWm hw.1) rfl rfl rfl (hts _ hw.2.1) (hts _ hlnk) hw.2.2.1 (rm_ok hlv hlv1 hlv2 hw.2.2.2)
  obtain ⟨q0, hq0, rfl⟩ := w1.low hka (by omega)
  have he := wsO_at (cy := cy) (ad := ad) hq0
  rw [clO_obj hka (by omega)] at he
  exact vx_runV (As := as.map (cv ad)) ⟨hx, hb, hml, hown, hts⟩ (g2 l D cy base ad hstk) ⟨cb, hts _ hin, hts _ hsel⟩ ⟨PcF.blind, va_recv henv.1 w1.1 (CL_at hci) he, PcF_go henv w2 w1 (fun v hv => w5 v ((List.mem_cons.mp hv).elim (fun e => List.mem_append_right _ (by rw [e]; exact List.mem_cons_self)) fun q => List.mem_append_left _ (List.mem_reverse.mpr q))) rfl⟩ rfl (by rw [List.length_map]; exact hn) w4.1
    (by rw [List.map_append, List.map_reverse]; rfl) (lv_room (m := m) (pc := pc) (ls := ls) (rest := []) (by rw [cat_sum]; exact hcat)) d ⟨by omega, by omega⟩
theorem run_VM {K : CT} {cc : ByteArray} {own : String} {ret : Option FieldType} {hh : List (Nat × Nat × Nat × Nat)} {lvl md : Nat} (F : Fr K cc own ret hh lvl md) {pc : Nat} {L : List (Nat × MV)} {h : MH} {st0 as rest : List MV} {res : Res} {y : MethodName} {b : ByteArray} {maxL lv n idx a : Nat} {rt : Option FieldType} (ci : Nat) (hci : ci < 9) (hka : hk h a = ci) (hC : CtrM y (WSm y b maxL rt) lv (vR (some a) :: as) h res) (hw : CWm y b maxL rt n) (hin : Cond.instanceMethod y ∈ GW) (hsel : Cond.selects (RN ci) y y ∈ GW) (hlnk : Cond.methodLink own idx y ∈ GW) (hlv : lv < lvl) (hst0 : st0 = as.reverse ++ vR (some a) :: rest) (hn : as.length = n) (hcat : (rest.map mcat).sum ≤ 8) (d : decode cc pc = .ok (.invokevirtual idx, 3)) : RunX K pc L st0 rest h res := by
  subst hst0
  intro r h' e9
  obtain ⟨g1, -, g2⟩ := hC r h' e9
  refine ⟨g1, ?_⟩
  rcases K with ⟨md1, nL, nm, _ | ⟨p, l, e, R, s, m, args, below, meth, c, D, cy, base, ad0, n0, mc, ms⟩⟩
  · exact True.intro
  obtain ⟨hmd, hx, hb, hml, hown, hts, hlk, henv, hmc, hms, hstk, hret, htab, hlv1, hlv2, hnm⟩ := F
  intro ad H locs cells slots ls w1 w2 w3 w4 w5 w7
  refine run_of_va ?_
  have cb := callB_of (R := R) (own := own) (index := idx) (rm := RM lv (hc h' - hc h) (hs h' - hs h)) n hts (GWm hw.1) rfl rfl rfl (hts _ hw.2.1) (hts _ hlnk) hw.2.2.1 (rm_ok hlv hlv1 hlv2 hw.2.2.2)
  obtain ⟨q0, hq0, rfl⟩ := w1.low hka (by omega)
  have he := wsO_at (cy := cy) (ad := ad) hq0
  rw [clO_obj hka (by omega)] at he
  exact va_runV (As := as.map (cv ad)) ⟨hx, hb, hml, hown, hts⟩ (g2 l D cy base ad hstk) ⟨cb, hts _ hin, hts _ hsel⟩ ⟨PcF.blind, va_recv henv.1 w1.1 (CL_at hci) he, PcF_go henv w2 w1 (fun v hv => w5 v ((List.mem_cons.mp hv).elim (fun e => List.mem_append_right _ (by rw [e]; exact List.mem_cons_self)) fun q => List.mem_append_left _ (List.mem_reverse.mpr q))) rfl⟩ rfl (by rw [List.length_map]; exact hn) w4.1
    (by rw [List.map_append, List.map_reverse]; rfl) (lv_room (m := m) (pc := pc) (ls := ls) (rest := []) (by rw [cat_sum]; exact hcat)) d ⟨by omega, by omega⟩
/-- not null -/
def nnl (r : Option Nat) (k : Res) : Res := match r with
  | none => none
  | some _ => k
theorem V_nnl {K : CT} {pc : Nat} {L : List (Nat × MV)} {st : List MV} {h : MH} {r : Option Nat} {k : Res} (n : ∀ a, r = some a → V K pc L st h k) : V K pc L st h (nnl r k) := by
  cases r with
  | none => exact V_none
  | some a => exact n a rfl
theorem run_I {K : CT} {cc : ByteArray} {own : String} {ret : Option FieldType} {hh : List (Nat × Nat × Nat × Nat)} {lvl md : Nat} (F : Fr K cc own ret hh lvl md) {pc : Nat} {L : List (Nat × MV)} {h : MH} {st0 as rest : List MV} {res : Res} {y : MethodName} {b : ByteArray} {maxL lv n idx a : Nat} (hC : CtrM y (WSm y b maxL none) lv (vR (some a) :: as) h res) (hy : y.name = "<init>") (hw : CWm y b maxL none n) (hin : Cond.instanceMethod y ∈ GW) (hlnk : Cond.methodLink own idx y ∈ GW) (hlv : lv < lvl) (hst0 : st0 = as.reverse ++ vR (some a) :: rest) (hn : as.length = n) (hcat : (rest.map mcat).sum ≤ 8) (d : decode cc pc = .ok (.invokespecial idx, 3)) : RunX K pc L st0 rest h res := by
  subst hst0
  intro r h' e9
  obtain ⟨g1, -, g2⟩ := hC r h' e9
  refine ⟨g1, ?_⟩
  rcases K with ⟨md1, nL, nm, _ | ⟨p, l, e, R, s, m, args, below, meth, c, D, cy, base, ad0, n0, mc, ms⟩⟩
  · exact True.intro
  obtain ⟨hmd, hx, hb, hml, hown, hts, hlk, henv, hmc, hms, hstk, hret, htab, hlv1, hlv2, hnm⟩ := F
  intro ad H locs cells slots ls w1 w2 w3 w4 w5 w7
  refine run_of_va ?_
  have cb := callB_of (R := R) (own := own) (index := idx) (rm := RM lv (hc h' - hc h) (hs h' - hs h)) n hts (GWm hw.1) rfl rfl rfl (hts _ hw.2.1) (hts _ hlnk) hw.2.2.1 (rm_ok hlv hlv1 hlv2 hw.2.2.2)
  exact va_runI (As := as.map (cv ad)) ⟨hx, hb, hml, hown, hts⟩ (g2 l D cy base ad hstk) ⟨cb, hy, hts _ hin⟩ ⟨PcF.blind, PcF_go henv w2 w1 (fun v hv => w5 v ((List.mem_cons.mp hv).elim (fun e => List.mem_append_right _ (by rw [e]; exact List.mem_cons_self)) fun q => List.mem_append_left _ (List.mem_reverse.mpr q))) rfl⟩ rfl (by rw [List.length_map]; exact hn) w4.1
    (by rw [List.map_append, List.map_reverse]; rfl) (lv_room (m := m) (pc := pc) (ls := ls) (rest := []) (by rw [cat_sum]; exact hcat)) d ⟨by omega, by omega⟩
theorem run_IN {K : CT} {cc : ByteArray} {own : String} {ret : Option FieldType} {hh : List (Nat × Nat × Nat × Nat)} {lvl md : Nat} (F : Fr K cc own ret hh lvl md) {pc : Nat} {L : List (Nat × MV)} {h : MH} {st0 as rest : List MV} {res : Res} {y : MethodName} {b : ByteArray} {maxL lv n idx a : Nat} {host : String} (hC : CtrM y (WSm y b maxL none) lv (vR (some a) :: as) h res) (hy : y.name = "<init>") (hw : CWm y b maxL none n) (hin : Cond.instanceMethod y ∈ GW) (hlnk : (own, idx, y, host) ∈ NML) (hlv : lv < lvl) (hst0 : st0 = as.reverse ++ vR (some a) :: rest) (hn : as.length = n) (hcat : (rest.map mcat).sum ≤ 8) (d : decode cc pc = .ok (.invokespecial idx, 3)) : RunX K pc L st0 rest h res := by
  subst hst0
  intro r h' e9
  obtain ⟨g1, -, g2⟩ := hC r h' e9
  refine ⟨g1, ?_⟩
  rcases K with ⟨md1, nL, nm, _ | ⟨p, l, e, R, s, m, args, below, meth, c, D, cy, base, ad0, n0, mc, ms⟩⟩
  · exact True.intro
  obtain ⟨hmd, hx, hb, hml, hown, hts, hlk, henv, hmc, hms, hstk, hret, htab, hlv1, hlv2, hnm⟩ := F
  intro ad H locs cells slots ls w1 w2 w3 w4 w5 w7
  refine run_of_va ?_
  have cb := va_cnB (R := R) (own := own) (host := host) (index := idx) (rm := RM lv (hc h' - hc h) (hs h' - hs h)) n hts (GWm hw.1) rfl rfl rfl (henv.2.1 _ hlnk) (hts _ hw.2.1) hw.2.2.1 (rm_ok hlv hlv1 hlv2 hw.2.2.2)
  exact va_runIN (As := as.map (cv ad)) ⟨hx, hb, hml, hown, hts⟩ (g2 l D cy base ad hstk) ⟨cb, hy, hts _ hin⟩ ⟨PcF.blind, PcF_go henv w2 w1 (fun v hv => w5 v ((List.mem_cons.mp hv).elim (fun e => List.mem_append_right _ (by rw [e]; exact List.mem_cons_self)) fun q => List.mem_append_left _ (List.mem_reverse.mpr q))) rfl⟩ rfl (by rw [List.length_map]; exact hn) w4.1
    (by rw [List.map_append, List.map_reverse]; rfl) (lv_room (m := m) (pc := pc) (ls := ls) (rest := []) (by rw [cat_sum]; exact hcat)) d ⟨by omega, by omega⟩
def CWw (y : MethodName) (b : ByteArray) (maxL : Nat) (rt : Option FieldType) (hh : List (Nat × Nat × Nat × Nat)) (n : Nat) : Prop :=
  Cond.codeWith y b maxL rt hh ∈ GW ∧ Cond.initialized y.cls ∈ GW ∧ (y.cls ≠ "java/lang/invoke/MethodHandle" ∧ y.cls ≠ "java/lang/invoke/VarHandle" ∧ (parseMethodDescriptor y.desc).map (fun d => d.parameters.length) = some n) ∧ maxL ≤ 29
theorem run_SW {K : CT} {cc : ByteArray} {own : String} {ret : Option FieldType} {hh : List (Nat × Nat × Nat × Nat)} {lvl md : Nat} (F : Fr K cc own ret hh lvl md) {pc : Nat} {L : List (Nat × MV)} {h : MH} {st0 as rest : List MV} {res : Res} {y : MethodName} {b : ByteArray} {maxL lv n idx : Nat} {rt : Option FieldType} {h9 : List (Nat × Nat × Nat × Nat)} (hC : CtrX y (WSw y b maxL rt h9) lv as h res) (hw : CWw y b maxL rt h9 n) (hsta : Cond.static y ∈ GW) (hlnk : Cond.methodLink own idx y ∈ GW) (hlv : lv < lvl) (hst0 : st0 = as.reverse ++ rest) (hn : as.length = n) (hcat : (rest.map mcat).sum ≤ 8) (d : decode cc pc = .ok (.invokestatic idx, 3)) : RunX K pc L st0 rest h res := by
  subst hst0
  intro r h' e9
  obtain ⟨g1, g2⟩ := hC r h' e9
  refine ⟨g1, ?_⟩
  rcases K with ⟨md1, nL, nm, _ | ⟨p, l, e, R, s, m, args, below, meth, c, D, cy, base, ad0, n0, mc, ms⟩⟩
  · exact True.intro
  obtain ⟨hmd, hx, hb, hml, hown, hts, hlk, henv, hmc, hms, hstk, hret, htab, hlv1, hlv2, hnm⟩ := F
  intro ad H locs cells slots ls w1 w2 w3 w4 w5 w7
  have hsub : GoodIn GW (va_wsS own idx y (WSw y b maxL rt h9)) := GWin fun w hw9 => by
    rcases List.mem_append.mp hw9 with q | q
    · simp only [List.mem_cons, List.mem_nil_iff, or_false] at q
      rcases q with rfl | rfl | rfl
      · exact hlnk
      · exact hsta
      · exact hw.2.1
    · exact (List.mem_cons.mp q).elim (fun e => by rw [e]; exact hw.1) id
  have cb := vx_cwSW (R := R) (own := own) (index := idx) (rm := RM lv (hc h' - hc h) (hs h' - hs h)) n hts hsub rfl rfl rfl hw.2.2.1 (rm_ok hlv hlv1 hlv2 hw.2.2.2)
  exact vx_runSX (As := as.map (cv ad)) ⟨hx, hb, hml, hown, hts⟩ (g2 l D cy base ad hstk) cb ⟨PcF.blind, PcF_go henv w2 w1 (fun v hv => w5 v (List.mem_append_left _ (List.mem_reverse.mpr hv))) rfl⟩ rfl (by rw [List.length_map]; exact hn) w4.1
    (by rw [List.map_append, List.map_reverse]) (lv_room (m := m) (pc := pc) (ls := ls) (rest := []) (by rw [cat_sum]; exact hcat)) d ⟨by omega, by omega⟩
end
section
/-! throws, handlers, switches, entry -/
def XNm : List String := ["java/lang/RuntimeException", "java/lang/Exception"]
theorem fitN (x : Nat) : Bundle.fit (exN x) = true := by
  unfold exN
  split <;> decide
theorem Wld.exc {D : va_G} {cy : Nat → ClassId} {base : Nat} {ad : Nat → Nat} {h : MH} {H H1 : Heap} (w : Wld D cy base ad h H) (hq : ∀ q : Nat, q < H.size → H1[q]? = H[q]?) : Wld D cy base ad (exc h) H1 :=
  ⟨w.1.kept (fun k q hk => hq _ (w.1 k q hk).lt), w.2.1, w.2.2.1, w.2.2.2⟩
theorem vxF {base : Nat} {s t : State} {H : Heap} {locs : List Loc} (hS : va_S (bA base) s.heap H locs) (h1 : H.size ≤ t.heap.size) (h2 : ∀ q : Nat, q < H.size → t.heap[q]? = H[q]?) : va_F (bA base) s t :=
  ⟨Nat.le_trans hS.1 h1, fun q q1 q2 => (h2 q (Nat.lt_of_lt_of_le q1 hS.1)).trans (hS.2.1 q q1 q2)⟩
theorem V_thr {K : CT} {cc : ByteArray} {own : String} {ret : Option FieldType} {lvl : Nat} (F : Fr K cc own ret [] lvl 1) {pc : Nat} {L : List (Nat × MV)} {h : MH} (x : Nat) {ik is ic : Nat} {tx : String} (hl6 : 6 ≤ lvl)
    (hk : Cond.classLink own ik (exN x) ∈ GW) (hini : Cond.initialized (exN x) ∈ GW) (hstr : (own, is, tx) ∈ SRL) (hat : ∀ w ∈ (vx_atS own ic (exN x) XNm).filter goodWord, w ∈ lw_tbl)
    (hbad : ∀ w ∈ (vx_atS own ic (exN x) XNm).filter (fun w => !goodWord w), w ∈ Cond.castable (exN x) (exN x) :: NDL.map Cond.declares) (hgd : ∀ w ∈ Cond.classLink own ik (exN x) :: Cond.initialized (exN x) :: vx_atS own ic (exN x) XNm, vx_ot w = true)
    (d0 : decode cc pc = .ok (.new ik, 3)) (d3 : decode cc (pc + 3) = .ok (.dup, 1)) (d4 : decode cc (pc + 4) = .ok (.ldc is, 2)) (d6 : decode cc (pc + 6) = .ok (.invokespecial ic, 3)) (d9 : decode cc (pc + 9) = .ok (.athrow, 1)) : V K pc L [] h (some (.inr x, exc h)) := by
  have hm1 : K.1 = 1 := F.1
  intro r h' e9
  cases e9
  refine ⟨⟨⟨Nat.le_refl _, Nat.le_succ _, Nat.le_add_right _ _⟩, fun q => by omega⟩, ?_⟩
  rcases K with ⟨md1, nL, nm, _ | ⟨p, l, e, R, s, m, args, below, meth, c, D, cy, base, ad0, n0, mc, ms⟩⟩
  · exact True.intro
  obtain ⟨hmd, hx, hb, hml, hown, hts, hlk, henv, hmc, hms, hstk, hret, htab, hlv1, hlv2, hnm⟩ := F
  have hm2 : md1 = 1 := hm1
  subst hm2
  intro ad H locs cells slots ls w1 w2 w3 w4 w5 w6 w7
  obtain ⟨v1, v2⟩ := w7
  have y2 : cells + (hc h + 1 - hc h) ≤ mc := v1
  have y3 : slots + (hs h + 6 - hs h) ≤ ms := v2
  obtain ⟨sa, hsa⟩ := henv.2.2.2.2.2.1 _ hstr
  have ht0 : c.exceptionTable.toList = [] := htab rfl
  refine vx_throwS (names := XNm) hx hb hstk hown (fitN x) (by decide) (hts _ hk) (hts _ hini) hsa (vx_hat (fun w hw => hts w (GW_of (hat w hw) (List.mem_filter.mp hw).2)) hbad (vx_c (va_Nw.use rfl (henv.2.2.1.1 x)) (fun w hw => by obtain ⟨y, hy, rfl⟩ := List.mem_map.mp hw; exact va_Nw.use rfl (henv.2.2.1.2 y hy)))) hgd henv.2.2.2.2.2.2.1 henv.2.2.2.2.2.2.2.1 w2 (w4.1.trans hml.symm) d0 d3 d4 d6 d9
    (fun z hz => by rw [ht0] at hz; cases hz) (by show 2 + 3 < R.frames; omega) (by show 0 + (13 * (2 + 1) + 43) ≤ R.locals; omega) (by omega) (by omega) hlk (fun t hA h1 h2 => ⟨x, rfl, rfl, ⟨ad, w3.1, w1.exc h2⟩, vxF w2 h1 h2⟩) w2.2.2 (by omega) (by omega)
theorem V_thrW {K : CT} {cc : ByteArray} {own : String} {ret : Option FieldType} {lvl : Nat} (F : Fr K cc own ret [] lvl 1) {pc : Nat} {L : List (Nat × MV)} {h : MH} (x : Nat) {ik is ic : Nat} {tx : String} (hl6 : 6 ≤ lvl)
    (hk : Cond.classLink own ik (exN x) ∈ GW) (hini : Cond.initialized (exN x) ∈ GW) (hstr : (own, is, tx) ∈ SRL) (hat : ∀ w ∈ (vx_atS own ic (exN x) XNm).filter goodWord, w ∈ lw_tbl)
    (hbad : ∀ w ∈ (vx_atS own ic (exN x) XNm).filter (fun w => !goodWord w), w ∈ Cond.castable (exN x) (exN x) :: NDL.map Cond.declares) (hgd : ∀ w ∈ Cond.classLink own ik (exN x) :: Cond.initialized (exN x) :: vx_atS own ic (exN x) XNm, vx_ot w = true)
    (d0 : decode cc pc = .ok (.new ik, 3)) (d3 : decode cc (pc + 3) = .ok (.dup, 1)) (d4 : decode cc (pc + 4) = .ok (.ldc_w is, 3)) (d7 : decode cc (pc + 7) = .ok (.invokespecial ic, 3)) (d10 : decode cc (pc + 10) = .ok (.athrow, 1)) : V K pc L [] h (some (.inr x, exc h)) := by
  have hm1 : K.1 = 1 := F.1
  intro r h' e9
  cases e9
  refine ⟨⟨⟨Nat.le_refl _, Nat.le_succ _, Nat.le_add_right _ _⟩, fun q => by omega⟩, ?_⟩
  rcases K with ⟨md1, nL, nm, _ | ⟨p, l, e, R, s, m, args, below, meth, c, D, cy, base, ad0, n0, mc, ms⟩⟩
  · exact True.intro
  obtain ⟨hmd, hx, hb, hml, hown, hts, hlk, henv, hmc, hms, hstk, hret, htab, hlv1, hlv2, hnm⟩ := F
  have hm2 : md1 = 1 := hm1
  subst hm2
  intro ad H locs cells slots ls w1 w2 w3 w4 w5 w6 w7
  obtain ⟨v1, v2⟩ := w7
  have y2 : cells + (hc h + 1 - hc h) ≤ mc := v1
  have y3 : slots + (hs h + 6 - hs h) ≤ ms := v2
  obtain ⟨sa, hsa⟩ := henv.2.2.2.2.2.1 _ hstr
  have ht0 : c.exceptionTable.toList = [] := htab rfl
  refine vx_throwSW (names := XNm) hx hb hstk hown (fitN x) (by decide) (hts _ hk) (hts _ hini) hsa (vx_hat (fun w hw => hts w (GW_of (hat w hw) (List.mem_filter.mp hw).2)) hbad (vx_c (va_Nw.use rfl (henv.2.2.1.1 x)) (fun w hw => by obtain ⟨y, hy, rfl⟩ := List.mem_map.mp hw; exact va_Nw.use rfl (henv.2.2.1.2 y hy)))) hgd henv.2.2.2.2.2.2.1 henv.2.2.2.2.2.2.2.1 w2 (w4.1.trans hml.symm) d0 d3 d4 d7 d10
    (fun z hz => by rw [ht0] at hz; cases hz) (by show 2 + 3 < R.frames; omega) (by show 0 + (13 * (2 + 1) + 43) ≤ R.locals; omega) (by omega) (by omega) hlk (fun t hA h1 h2 => ⟨x, rfl, rfl, ⟨ad, w3.1, w1.exc h2⟩, vxF w2 h1 h2⟩) w2.2.2 (by omega) (by omega)
/-- caught, and put aside -/
theorem VX_catch {K : CT} {cc : ByteArray} {own : String} {ret : Option FieldType} {hh : List (Nat × Nat × Nat × Nat)} {lvl : Nat} (F : Fr K cc own ret hh lvl 1) {pc : Nat} {L L' : List (Nat × MV)} {rest : List MV} {h : MH} {x : Nat} {res : Res} (pre : List ExceptionTableEntry) (z : ExceptionTableEntry) (suf : List ExceptionTableEntry) (hsp : tableOf hh = pre ++ z :: suf)
    (hpass : ∀ w ∈ pre, covers w pc = false ∨ (w.catchType ≠ 0 ∧ ∃ nm : String, Cond.classLink own w.catchType nm ∈ GW ∧ (exN x, nm) ∈ NCL)) (hx9 : covers z pc = true) (h0 : z.catchType ≠ 0) (hlink : Cond.classLink own z.catchType (exN x) ∈ GW)
    {i nx : Nat} (hi : i < mxL K) (di : (∃ q : Fin 4, (q : Nat) = i ∧ decode cc z.handlerPc = .ok (.astore_n q, 1) ∧ nx = z.handlerPc + 1) ∨ (decode cc z.handlerPc = .ok (.astore i, 2) ∧ nx = z.handlerPc + 2)) (hL : L.filter (fun q => !(q.1 == i) && !(q.1 + 1 == i && mcat q.2 == 2)) = L') (k : V K nx L' [] h res) : VX K pc L rest h x res := by
  have hm1 : K.1 = 1 := F.1
  intro r h' e9
  obtain ⟨a1, b1⟩ := k r h' e9
  refine ⟨a1, ?_⟩
  rcases K with ⟨md1, nL, nm, _ | ⟨p, l, e, R, s, m, args, below, meth, c, D, cy, base, ad0, n0, mc, ms⟩⟩
  · exact True.intro
  obtain ⟨hmd, hx, hb, hml, hown, hts, hlk, henv, hmc, hms, hstk, hret, htab, hlv1, hlv2, hnm⟩ := F
  have hm2 : md1 = 1 := hm1
  subst hm2
  intro ad H locs cells slots ls q ce w1 w2 w3 w4 w5 w6 w7 g1 g2 g3
  have ht0 : c.exceptionTable.toList = tableOf hh := htab rfl
  refine vx_catch hown pre z suf (ht0.trans hsp) (fun w hw => ?_) hx9 h0 (hts _ hlink) (va_Nw.use rfl (henv.2.2.1.1 x)) g1 g2 g3 ?_
  · rcases hpass w hw with q9 | ⟨q1, nm, q2, q3⟩
    · exact Or.inl q9
    · exact Or.inr ⟨q1, nm, hts _ q2, henv.2.2.2.2.1 _ q3⟩
  · have e0 : (i, Value.ref q) :: (L.map (cvl ad)).filter (fun q => !(q.1 == i) && !(q.1 + 1 == i && q.2.category == 2)) = (i, Value.ref q) :: L'.map (cvl ad) := by
      rw [← hL, List.filter_map]
      refine congrArg (fun z => (i, Value.ref q) :: z) (congrArg _ (List.filter_congr fun q _ => ?_))
      simp [cvl, mcat_cv]
    have kk : ∀ ls' : Array Slot, lv_has ls' nL ((i, Value.ref q) :: L'.map (cvl ad)) → W p l e R s m args below meth c H locs cells slots (QFd 1 (p, l, e, R, s, m, args, below, meth, c, D, cy, base, ad0, n0, mc, ms) r h') (F0 m nx ls' []) := by
      intro ls' hl'
      refine b1 ad H locs cells slots ls' w1 w2 w3 ⟨hl'.1, hl'.2.1, fun z hz => hl'.2.2 z (List.mem_cons_of_mem _ hz)⟩ (fun v hv => by cases hv) (fun q hq => w6 q ?_) w7
      rw [← hL] at hq
      exact (List.mem_filter.mp hq).1
    rcases di with ⟨qf, rfl, d1, rfl⟩ | ⟨d1, rfl⟩
    · exact lv_astore_n hx hb d1 rfl w4 hi e0 kk
    · exact lv_astore hx hb d1 w4 hi e0 kk
theorem VX_none {K : CT} {pc : Nat} {L : List (Nat × MV)} {rest : List MV} {h : MH} {x : Nat} : VX K pc L rest h x none := fun r h' q => by cases q
theorem VX_if {K : CT} {pc : Nat} {L : List (Nat × MV)} {rest : List MV} {h : MH} {x y : Nat} {A B : Res} (hA : VX K pc L rest h y A) (hB : VX K pc L rest h x B) : VX K pc L rest h x (if x = y then A else B) := by
  by_cases q : x = y
  · rw [if_pos q, q]; exact hA
  · rw [if_neg q]; exact hB
/-! switches -/
def VT (K : CT) (pc : Nat) (L : List (Nat × MV)) (st : List MV) (h : MH) (x : Int32) (i : Int) (res : Res) : Prop := i ≤ x.toInt → V K pc L (vI x :: st) h res
theorem V_tsw {K : CT} {cc : ByteArray} {own : String} {ret : Option FieldType} {hh : List (Nat × Nat × Nat × Nat)} {lvl md : Nat} (F : Fr K cc own ret hh lvl md) {pc : Nat} {L : List (Nat × MV)} {st : List MV} {h : MH} {x : Int32} {D B : Res} {dflt lo hi : Int} {offs : Array Int} {len : Nat} (k0 : Int32) (dt : Nat) (d : decode cc pc = .ok (.tableswitch dflt lo hi offs, len)) (h0 : k0.toInt = lo) (ht : (pc : Int) + dflt = (dt : Int)) (kd : V K dt L st h D) (kb : VT K pc L st h x lo B) : V K pc L (vI x :: st) h (if x < k0 then D else B) := by
  by_cases q : x < k0
  · rw [if_pos q]
    refine V_step (fun n h1 h2 => ⟨ok_pop h1, h2⟩) ?_ kd
    rcases K with ⟨md1, nL, nm, _ | ⟨p, l, e, R, s, m, args, below, meth, c, D, cy, base, ad0, n0, mc, ms⟩⟩
    · exact True.intro
    obtain ⟨hmd, hx, hb, hml, hown, hts, hlk, henv, hmc, hms, hstk, hret, htab, hlv1, hlv2, hnm⟩ := F
    intro ad H locs cells slots ls Q hl kk
    exact lv_tableOut hx hb d (Or.inl (by rw [← h0]; exact Int32.lt_iff_toInt_lt.mp q)) ht (kk ls hl)
  · rw [if_neg q]
    exact kb (by rw [← h0]; exact Int32.le_iff_toInt_le.mp (Int32.not_lt.mp q))
theorem VT_peel {K : CT} {cc : ByteArray} {own : String} {ret : Option FieldType} {hh : List (Nat × Nat × Nat × Nat)} {lvl md : Nat} (F : Fr K cc own ret hh lvl md) {pc : Nat} {L : List (Nat × MV)} {st : List MV} {h : MH} {x : Int32} {A B : Res} {dflt lo hi : Int} {offs : Array Int} {len : Nat} {i off : Int} (k0 : Int32) (tgt : Nat) (d : decode cc pc = .ok (.tableswitch dflt lo hi offs, len)) (h0 : k0.toInt = i) (h1 : lo ≤ i ∧ i ≤ hi) (ho : offs[(i - lo).toNat]? = some off) (ht : (pc : Int) + off = (tgt : Int)) (ka : V K tgt L st h A) (kb : VT K pc L st h x (i + 1) B) : VT K pc L st h x i (if x = k0 then A else B) := by
  intro hge
  by_cases q : x = k0
  · rw [if_pos q]
    refine V_step (fun n h1 h2 => ⟨ok_pop h1, h2⟩) ?_ ka
    rcases K with ⟨md1, nL, nm, _ | ⟨p, l, e, R, s, m, args, below, meth, c, D, cy, base, ad0, n0, mc, ms⟩⟩
    · exact True.intro
    obtain ⟨hmd, hx, hb, hml, hown, hts, hlk, henv, hmc, hms, hstk, hret, htab, hlv1, hlv2, hnm⟩ := F
    intro ad H locs cells slots ls Q hl kk
    subst q
    exact lv_tableIn hx hb d (by rw [h0]; omega) (by rw [h0]; omega) (by rw [h0]; exact ho) ht (kk ls hl)
  · rw [if_neg q]
    refine kb ?_
    have : x.toInt ≠ i := fun e => q (Int32.toInt_inj.mp (by rw [e, h0]))
    omega
theorem VT_end {K : CT} {cc : ByteArray} {own : String} {ret : Option FieldType} {hh : List (Nat × Nat × Nat × Nat)} {lvl md : Nat} (F : Fr K cc own ret hh lvl md) {pc : Nat} {L : List (Nat × MV)} {st : List MV} {h : MH} {x : Int32} {D : Res} {dflt lo hi : Int} {offs : Array Int} {len : Nat} {i : Int} (dt : Nat) (d : decode cc pc = .ok (.tableswitch dflt lo hi offs, len)) (h1 : hi < i) (ht : (pc : Int) + dflt = (dt : Int)) (kd : V K dt L st h D) : VT K pc L st h x i D := by
  intro hge
  refine V_step (fun n h1 h2 => ⟨ok_pop h1, h2⟩) ?_ kd
  rcases K with ⟨md1, nL, nm, _ | ⟨p, l, e, R, s, m, args, below, meth, c, D, cy, base, ad0, n0, mc, ms⟩⟩
  · exact True.intro
  obtain ⟨hmd, hx, hb, hml, hown, hts, hlk, henv, hmc, hms, hstk, hret, htab, hlv1, hlv2, hnm⟩ := F
  intro ad H locs cells slots ls Q hl kk
  exact lv_tableOut hx hb d (Or.inr (by omega)) ht (kk ls hl)
theorem V_lsw2 {K : CT} {cc : ByteArray} {own : String} {ret : Option FieldType} {hh : List (Nat × Nat × Nat × Nat)} {lvl md : Nat} (F : Fr K cc own ret hh lvl md) {pc : Nat} {L : List (Nat × MV)} {st : List MV} {h : MH} {x : Int32} {A B D : Res} {dflt o0 o1 : Int} {len : Nat} (t0 t1 dt : Nat) (d : decode cc pc = .ok (.lookupswitch dflt #[(0, o0), (1, o1)], len)) (h0 : (pc : Int) + o0 = (t0 : Int)) (h1 : (pc : Int) + o1 = (t1 : Int)) (hd : (pc : Int) + dflt = (dt : Int)) (ka : V K t0 L st h A) (kb : V K t1 L st h B) (kd : V K dt L st h D) : V K pc L (vI x :: st) h (if x = 0 then A else if x = 1 then B else D) := by
  have i0 : ∀ y : Int32, x = y ↔ x.toInt = y.toInt := fun y => Int32.toInt_inj.symm
  by_cases q : x = 0
  · rw [if_pos q]
    refine V_step (fun n h1 h2 => ⟨ok_pop h1, h2⟩) ?_ ka
    rcases K with ⟨md1, nL, nm, _ | ⟨p, l, e, R, s, m, args, below, meth, c, D, cy, base, ad0, n0, mc, ms⟩⟩
    · exact True.intro
    obtain ⟨hmd, hx, hb, hml, hown, hts, hlk, henv, hmc, hms, hstk, hret, htab, hlv1, hlv2, hnm⟩ := F
    intro ad H locs cells slots ls Q hl kk
    exact lv_lookup hx hb d rfl (by subst q; simp [Op.lookupswitch.offset]) h0 (kk ls hl)
  · rw [if_neg q]
    have q0 : ¬ x.toInt = 0 := fun e => q ((i0 0).mpr e)
    by_cases q1 : x = 1
    · rw [if_pos q1]
      refine V_step (fun n h1 h2 => ⟨ok_pop h1, h2⟩) ?_ kb
      rcases K with ⟨md1, nL, nm, _ | ⟨p, l, e, R, s, m, args, below, meth, c, D, cy, base, ad0, n0, mc, ms⟩⟩
      · exact True.intro
      obtain ⟨hmd, hx, hb, hml, hown, hts, hlk, henv, hmc, hms, hstk, hret, htab, hlv1, hlv2, hnm⟩ := F
      intro ad H locs cells slots ls Q hl kk
      exact lv_lookup hx hb d rfl (by subst q1; simp [Op.lookupswitch.offset]) h1 (kk ls hl)
    · rw [if_neg q1]
      have q2 : ¬ x.toInt = 1 := fun e => q1 ((i0 1).mpr e)
      refine V_step (fun n h1 h2 => ⟨ok_pop h1, h2⟩) ?_ kd
      rcases K with ⟨md1, nL, nm, _ | ⟨p, l, e, R, s, m, args, below, meth, c, D, cy, base, ad0, n0, mc, ms⟩⟩
      · exact True.intro
      obtain ⟨hmd, hx, hb, hml, hown, hts, hlk, henv, hmc, hms, hstk, hret, htab, hlv1, hlv2, hnm⟩ := F
      intro ad H locs cells slots ls Q hl kk
      exact lv_lookup hx hb d rfl (by simp [Op.lookupswitch.offset, Ne.symm q0, Ne.symm q2, q0, q2]) hd (kk ls hl)
/-! entry -/
def margs : Nat → List MV → List (Nat × MV)
  | _, [] => []
  | i, v :: vs => (i, v) :: margs (if mcat v = 2 then i + 2 else i + 1) vs
theorem margs_map {ad : Nat → Nat} : ∀ (vs : List MV) (i : Nat), lv_args i (vs.map (cv ad)) = (margs i vs).map (cvl ad)
  | [], _ => rfl
  | v :: vs, i => by
    show (i, cv ad v) :: lv_args (if (cv ad v).category = 2 then i + 2 else i + 1) (vs.map (cv ad)) = (i, cv ad v) :: (margs (if mcat v = 2 then i + 2 else i + 1) vs).map (cvl ad)
    rw [mcat_cv, margs_map vs]
theorem margs_ok {n : Nat} : ∀ (vs : List MV) (i : Nat), (∀ v ∈ vs, okv n v) → ∀ q ∈ margs i vs, okv n q.2
  | [], _, _ => fun q hq => by cases hq
  | v :: vs, i, h => fun q hq => by
    rcases List.mem_cons.mp hq with e | e
    · rw [e]; exact h v List.mem_cons_self
    · exact margs_ok vs _ (fun w hw => h w (List.mem_cons_of_mem _ hw)) q e
theorem lg_sl_len {ad : Nat → Nat} : ∀ vs : List MV, (lg_sl (vs.map (cv ad))).length = (vs.map mcat).sum
  | [] => rfl
  | v :: vs => by
    have h := lg_sl_len (ad := ad) vs
    simp only [lg_sl, List.map_cons, List.flatMap_cons, List.length_append, List.sum_cons] at h ⊢
    rw [h, mcat_cv]
    rcases v with x | (x | x) <;> rfl
theorem entry_V {p : Program} {l : Launch} {e : Env} {R : Room} {s : State} {m : MethodId} {below : List Frame} {meth : Method} {c : Code} {D : va_G} {cy : Nat → ClassId} {base : Nat} {ad0 : Nat → Nat} {vs : List MV} {h : MH} {maxL mc ms md : Nat} {nm : String} {res : Res} {r : MR} {h' : MH} (hlen : (vs.map mcat).sum ≤ maxL)
    (k : V (md, maxL, nm, some (p, l, e, R, s, m, (vs.map (cv ad0)).toArray, below, meth, c, D, cy, base, ad0, hn h + 1, mc, ms)) 0 (margs 0 vs) [] h res) (e9 : res = some (r, h')) (w1 : Wld D cy base ad0 h s.heap) (hok : ∀ v ∈ vs, okv (hn h) v) (hmc : hc h' - hc h ≤ mc) (hms : hs h' - hs h ≤ ms) :
    W p l e R s m (vs.map (cv ad0)).toArray below meth c s.heap [] 0 0 (QFd md (p, l, e, R, s, m, (vs.map (cv ad0)).toArray, below, meth, c, D, cy, base, ad0, hn h + 1, mc, ms) r h') (entryFrame m (vs.map (cv ad0)).toArray maxL) := by
  obtain ⟨-, b1⟩ := k r h' e9
  have hl := lv_entry (vs.map (cv ad0)) (n := maxL) (by rw [lg_sl_len]; exact hlen)
  rw [margs_map] at hl
  rw [lg_entry_eq]
  exact b1 ad0 s.heap [] 0 0 _ w1 va_S.rf ⟨fun _ _ => rfl, Nat.le_refl _⟩ hl (fun v hv => by cases hv) (margs_ok vs 0 hok) ⟨by omega, by omega⟩
theorem CtrM_of {y : MethodName} {b : ByteArray} {maxL lvl : Nat} {rt : Option FieldType} {vs : List MV} {h : MH} {res : Res} (hy : plainName y.cls = true) (hlen : (vs.map mcat).sum ≤ maxL)
    (body : ∀ K : CT, Fr K b y.cls rt [] lvl 0 → mxL K = maxL → nmK K y.name → V K 0 (margs 0 vs) [] h res) : CtrM y (WSm y b maxL rt) lvl vs h res := by
  intro r h' e9
  have gk := (body (0, maxL, y.name, none) ⟨rfl, True.intro⟩ rfl rfl r h' e9).1
  refine ⟨gk.1, gk.2 rfl, fun l D cy base ad0 hstk => ?_⟩
  refine Met.ofW (cc := b) (maxL := maxL) (ret := rt) hy rfl ?_
  intro p e s m args below meth c s₁ B hml hv
  obtain ⟨rfl, henv, w1, hok⟩ := hv
  have hts := atoms_spec (ws := WSm y b maxL rt) B.pre
  exact entry_V hlen (body (0, maxL, y.name, some (p, l, e, (headSpec (WSm y b maxL rt) (RM lvl (hc h' - hc h) (hs h' - hs h))).room, s, m, _, below, meth, c, D, cy, base, ad0, hn h + 1, hc h' - hc h, hs h' - hs h))
    ⟨rfl, B.exec, B.bytes, hml, findClass_of_methodNamed B.named, fun w hw => hts w (List.mem_cons_of_mem _ hw), B.notSynchronized, henv, Nat.le_refl _, Nat.le_refl _, hstk, B.returns, (fun q => by omega), Nat.le_refl _, Nat.le_refl _, (name_of_methodNamed B.named B.method).1⟩ rfl rfl) e9 w1 hok (Nat.le_refl _) (Nat.le_refl _)
theorem CtrX_of {y : MethodName} {b : ByteArray} {maxL lvl : Nat} {rt : Option FieldType} {vs : List MV} {h : MH} {res : Res} (hy : plainName y.cls = true) (hlen : (vs.map mcat).sum ≤ maxL)
    (body : ∀ K : CT, Fr K b y.cls rt [] lvl 1 → mxL K = maxL → nmK K y.name → V K 0 (margs 0 vs) [] h res) : CtrX y (WSm y b maxL rt) lvl vs h res := by
  intro r h' e9
  have gk := (body (1, maxL, y.name, none) ⟨rfl, True.intro⟩ rfl rfl r h' e9).1
  refine ⟨gk.1, fun l D cy base ad0 hstk => ?_⟩
  refine vx_ofW (cc := b) (maxL := maxL) (ret := rt) hy rfl ?_
  intro p e s m args below meth c s₁ B hml htb hv
  obtain ⟨rfl, henv, w1, hok⟩ := hv
  have hts := atoms_spec (ws := WSm y b maxL rt) B.pre
  have ht0 : c.exceptionTable.toList = [] := by
    cases hq : c.exceptionTable.toList with
    | nil => rfl
    | cons a as => exact (htb a (by rw [hq]; exact List.mem_cons_self)).elim
  exact entry_V hlen (body (1, maxL, y.name, some (p, l, e, (headSpec (WSm y b maxL rt) (RM lvl (hc h' - hc h) (hs h' - hs h))).room, s, m, _, below, meth, c, D, cy, base, ad0, hn h + 1, hc h' - hc h, hs h' - hs h))
    ⟨rfl, B.exec, B.bytes, hml, findClass_of_methodNamed B.named, fun w hw => hts w (List.mem_cons_of_mem _ hw), B.notSynchronized, henv, Nat.le_refl _, Nat.le_refl _, hstk, B.returns, (fun _ => ht0), Nat.le_refl _, Nat.le_refl _, (name_of_methodNamed B.named B.method).1⟩ rfl rfl) e9 w1 hok (Nat.le_refl _) (Nat.le_refl _)
theorem CtrW_of {y : MethodName} {b : ByteArray} {maxL lvl : Nat} {rt : Option FieldType} {hh : List (Nat × Nat × Nat × Nat)} {vs : List MV} {h : MH} {res : Res} (hy : plainName y.cls = true) (hlen : (vs.map mcat).sum ≤ maxL)
    (body : ∀ K : CT, Fr K b y.cls rt hh lvl 1 → mxL K = maxL → nmK K y.name → V K 0 (margs 0 vs) [] h res) : CtrX y (WSw y b maxL rt hh) lvl vs h res := by
  intro r h' e9
  have gk := (body (1, maxL, y.name, none) ⟨rfl, True.intro⟩ rfl rfl r h' e9).1
  refine ⟨gk.1, fun l D cy base ad0 hstk => ?_⟩
  refine vx_ofWH (cc := b) (maxL := maxL) (ret := rt) (hh := hh) hy rfl ?_
  intro p e s m args below meth c s₁ B hml hv
  obtain ⟨rfl, henv, w1, hok⟩ := hv
  have hts := atoms_spec (ws := WSw y b maxL rt hh) B.pre
  have ht0 : c.exceptionTable.toList = tableOf hh := vx_table (x := y) (y := y) B (hts _ List.mem_cons_self)
  exact entry_V hlen (body (1, maxL, y.name, some (p, l, e, (headSpec (WSw y b maxL rt hh) (RM lvl (hc h' - hc h) (hs h' - hs h))).room, s, m, _, below, meth, c, D, cy, base, ad0, hn h + 1, hc h' - hc h, hs h' - hs h))
    ⟨rfl, B.exec, B.bytes, hml, findClass_of_methodNamed B.named, fun w hw => hts w (List.mem_cons_of_mem _ hw), B.notSynchronized, henv, Nat.le_refl _, Nat.le_refl _, hstk, B.returns, (fun _ => ht0), Nat.le_refl _, Nat.le_refl _, (name_of_methodNamed B.named B.method).1⟩ rfl rfl) e9 w1 hok (Nat.le_refl _) (Nat.le_refl _)
end
section
/-! calls as the walks use them -/
abbrev KX (K : CT) (pc : Nat) (L : List (Nat × MV)) (rest : List MV) (kx : Nat → MH → Res) : Prop := ∀ x h1, VX K pc L rest h1 x (kx x h1)
theorem V_cS {K : CT} {cc : ByteArray} {own : String} {ret : Option FieldType} {hh : List (Nat × Nat × Nat × Nat)} {lvl md : Nat} (F : Fr K cc own ret hh lvl md) {pc : Nat} {L : List (Nat × MV)} {h : MH} {st0 as rest : List MV} {res : Res} {k : Option MV → MH → Res} {kx : Nat → MH → Res} {y : MethodName} {b : ByteArray} {maxL lv n idx : Nat} {rt : Option FieldType} (hC : CtrX y (WSm y b maxL rt) lv as h res) (hw : CWm y b maxL rt n) (hsta : Cond.static y ∈ GW) (hlnk : Cond.methodLink own idx y ∈ GW) (hlv : lv < lvl) (hst0 : st0 = as.reverse ++ rest) (hn : as.length = n) (hcat : (rest.map mcat).sum ≤ 8) (d : decode cc pc = .ok (.invokestatic idx, 3))
    (kk : ∀ v h1, V K (pc + 3) L (v.toList ++ rest) h1 (k v h1)) (nx : KX K pc L rest kx) : V K pc L st0 h (calG res k kx) :=
  V_calG (run_S F hC hw hsta hlnk hlv hst0 hn hcat d) (by subst hst0; exact fun v hv => List.mem_append_right _ hv) kk (fun x h1 _ => nx x h1)
theorem V_cSM {K : CT} {cc : ByteArray} {own : String} {ret : Option FieldType} {hh : List (Nat × Nat × Nat × Nat)} {lvl md : Nat} (F : Fr K cc own ret hh lvl md) {pc : Nat} {L : List (Nat × MV)} {h : MH} {st0 as rest : List MV} {res : Res} {k : Option MV → MH → Res} {kx : Nat → MH → Res} {y : MethodName} {b : ByteArray} {maxL lv n idx : Nat} {rt : Option FieldType} (hC : CtrM y (WSm y b maxL rt) lv as h res) (hw : CWm y b maxL rt n) (hsta : Cond.static y ∈ GW) (hlnk : Cond.methodLink own idx y ∈ GW) (hlv : lv < lvl) (hst0 : st0 = as.reverse ++ rest) (hn : as.length = n) (hcat : (rest.map mcat).sum ≤ 8) (d : decode cc pc = .ok (.invokestatic idx, 3))
    (kk : ∀ v h1, V K (pc + 3) L (v.toList ++ rest) h1 (k v h1)) : V K pc L st0 h (calG res k kx) :=
  V_calG (run_SM F hC hw hsta hlnk hlv hst0 hn hcat d) (by subst hst0; exact fun v hv => List.mem_append_right _ hv) kk (fun x h1 e => (noX hC x h1 e).elim)
theorem V_cSN {K : CT} {cc : ByteArray} {own : String} {ret : Option FieldType} {hh : List (Nat × Nat × Nat × Nat)} {lvl md : Nat} (F : Fr K cc own ret hh lvl md) {pc : Nat} {L : List (Nat × MV)} {h : MH} {st0 as rest : List MV} {res : Res} {k : Option MV → MH → Res} {kx : Nat → MH → Res} {y : MethodName} {b : ByteArray} {maxL lv n idx : Nat} {rt : Option FieldType} {host : String} (hC : CtrM y (WSm y b maxL rt) lv as h res) (hw : CWm y b maxL rt n) (hsta : Cond.static y ∈ GW) (hlnk : (own, idx, y, host) ∈ NML) (hlv : lv < lvl) (hst0 : st0 = as.reverse ++ rest) (hn : as.length = n) (hcat : (rest.map mcat).sum ≤ 8) (d : decode cc pc = .ok (.invokestatic idx, 3))
    (kk : ∀ v h1, V K (pc + 3) L (v.toList ++ rest) h1 (k v h1)) : V K pc L st0 h (calG res k kx) :=
  V_calG (run_SN F hC hw hsta hlnk hlv hst0 hn hcat d) (by subst hst0; exact fun v hv => List.mem_append_right _ hv) kk (fun x h1 e => (noX hC x h1 e).elim)
theorem V_cSW {K : CT} {cc : ByteArray} {own : String} {ret : Option FieldType} {hh : List (Nat × Nat × Nat × Nat)} {lvl md : Nat} (F : Fr K cc own ret hh lvl md) {pc : Nat} {L : List (Nat × MV)} {h : MH} {st0 as rest : List MV} {res : Res} {k : Option MV → MH → Res} {kx : Nat → MH → Res} {y : MethodName} {b : ByteArray} {maxL lv n idx : Nat} {rt : Option FieldType} {h9 : List (Nat × Nat × Nat × Nat)} (hC : CtrX y (WSw y b maxL rt h9) lv as h res) (hw : CWw y b maxL rt h9 n) (hsta : Cond.static y ∈ GW) (hlnk : Cond.methodLink own idx y ∈ GW) (hlv : lv < lvl) (hst0 : st0 = as.reverse ++ rest) (hn : as.length = n) (hcat : (rest.map mcat).sum ≤ 8) (d : decode cc pc = .ok (.invokestatic idx, 3))
    (kk : ∀ v h1, V K (pc + 3) L (v.toList ++ rest) h1 (k v h1)) (nx : KX K pc L rest kx) : V K pc L st0 h (calG res k kx) :=
  V_calG (run_SW F hC hw hsta hlnk hlv hst0 hn hcat d) (by subst hst0; exact fun v hv => List.mem_append_right _ hv) kk (fun x h1 _ => nx x h1)
theorem V_cV {K : CT} {cc : ByteArray} {own : String} {ret : Option FieldType} {hh : List (Nat × Nat × Nat × Nat)} {lvl md : Nat} (F : Fr K cc own ret hh lvl md) {pc : Nat} {L : List (Nat × MV)} {h : MH} {st0 as rest : List MV} {res : Res} {k : Option MV → MH → Res} {kx : Nat → MH → Res} {y : MethodName} {b : ByteArray} {maxL lv n idx : Nat} {r : Option Nat} {rt : Option FieldType} (ci : Nat) (hci : ci < 9) (hC : CtrX y (WSm y b maxL rt) lv (vR r :: as) h res) (hw : CWm y b maxL rt n) (hin : Cond.instanceMethod y ∈ GW) (hsel : Cond.selects (RN ci) y y ∈ GW) (hlnk : Cond.methodLink own idx y ∈ GW) (hlv : lv < lvl) (hst0 : st0 = as.reverse ++ vR r :: rest) (hn : as.length = n) (hcat : (rest.map mcat).sum ≤ 8) (d : decode cc pc = .ok (.invokevirtual idx, 3))
    (kk : ∀ v h1, V K (pc + 3) L (v.toList ++ rest) h1 (k v h1)) (nx : KX K pc L rest kx) : V K pc L st0 h (chk h r ci (calG res k kx)) := by
  refine V_chk fun a ea hka => ?_
  subst ea
  exact V_calG (run_V F ci hci hka hC hw hin hsel hlnk hlv hst0 hn hcat d) (by subst hst0; exact fun v hv => List.mem_append_right _ (List.mem_cons_of_mem _ hv)) kk (fun x h1 _ => nx x h1)
theorem V_cVM {K : CT} {cc : ByteArray} {own : String} {ret : Option FieldType} {hh : List (Nat × Nat × Nat × Nat)} {lvl md : Nat} (F : Fr K cc own ret hh lvl md) {pc : Nat} {L : List (Nat × MV)} {h : MH} {st0 as rest : List MV} {res : Res} {k : Option MV → MH → Res} {kx : Nat → MH → Res} {y : MethodName} {b : ByteArray} {maxL lv n idx : Nat} {r : Option Nat} {rt : Option FieldType} (ci : Nat) (hci : ci < 9) (hC : CtrM y (WSm y b maxL rt) lv (vR r :: as) h res) (hw : CWm y b maxL rt n) (hin : Cond.instanceMethod y ∈ GW) (hsel : Cond.selects (RN ci) y y ∈ GW) (hlnk : Cond.methodLink own idx y ∈ GW) (hlv : lv < lvl) (hst0 : st0 = as.reverse ++ vR r :: rest) (hn : as.length = n) (hcat : (rest.map mcat).sum ≤ 8) (d : decode cc pc = .ok (.invokevirtual idx, 3))
    (kk : ∀ v h1, V K (pc + 3) L (v.toList ++ rest) h1 (k v h1)) : V K pc L st0 h (chk h r ci (calG res k kx)) := by
  refine V_chk fun a ea hka => ?_
  subst ea
  exact V_calG (run_VM F ci hci hka hC hw hin hsel hlnk hlv hst0 hn hcat d) (by subst hst0; exact fun v hv => List.mem_append_right _ (List.mem_cons_of_mem _ hv)) kk (fun x h1 e => (noX hC x h1 e).elim)
theorem V_cI {K : CT} {cc : ByteArray} {own : String} {ret : Option FieldType} {hh : List (Nat × Nat × Nat × Nat)} {lvl md : Nat} (F : Fr K cc own ret hh lvl md) {pc : Nat} {L : List (Nat × MV)} {h : MH} {st0 as rest : List MV} {res : Res} {k : Option MV → MH → Res} {kx : Nat → MH → Res} {y : MethodName} {b : ByteArray} {maxL lv n idx : Nat} {r : Option Nat} (hC : CtrM y (WSm y b maxL none) lv (vR r :: as) h res) (hy : y.name = "<init>") (hw : CWm y b maxL none n) (hin : Cond.instanceMethod y ∈ GW) (hlnk : Cond.methodLink own idx y ∈ GW) (hlv : lv < lvl) (hst0 : st0 = as.reverse ++ vR r :: rest) (hn : as.length = n) (hcat : (rest.map mcat).sum ≤ 8) (d : decode cc pc = .ok (.invokespecial idx, 3))
    (kk : ∀ v h1, V K (pc + 3) L (v.toList ++ rest) h1 (k v h1)) : V K pc L st0 h (nnl r (calG res k kx)) := by
  refine V_nnl fun a ea => ?_
  subst ea
  exact V_calG (run_I F hC hy hw hin hlnk hlv hst0 hn hcat d) (by subst hst0; exact fun v hv => List.mem_append_right _ (List.mem_cons_of_mem _ hv)) kk (fun x h1 e => (noX hC x h1 e).elim)
theorem V_cIN {K : CT} {cc : ByteArray} {own : String} {ret : Option FieldType} {hh : List (Nat × Nat × Nat × Nat)} {lvl md : Nat} (F : Fr K cc own ret hh lvl md) {pc : Nat} {L : List (Nat × MV)} {h : MH} {st0 as rest : List MV} {res : Res} {k : Option MV → MH → Res} {kx : Nat → MH → Res} {y : MethodName} {b : ByteArray} {maxL lv n idx : Nat} {r : Option Nat} {host : String} (hC : CtrM y (WSm y b maxL none) lv (vR r :: as) h res) (hy : y.name = "<init>") (hw : CWm y b maxL none n) (hin : Cond.instanceMethod y ∈ GW) (hlnk : (own, idx, y, host) ∈ NML) (hlv : lv < lvl) (hst0 : st0 = as.reverse ++ vR r :: rest) (hn : as.length = n) (hcat : (rest.map mcat).sum ≤ 8) (d : decode cc pc = .ok (.invokespecial idx, 3))
    (kk : ∀ v h1, V K (pc + 3) L (v.toList ++ rest) h1 (k v h1)) : V K pc L st0 h (nnl r (calG res k kx)) := by
  refine V_nnl fun a ea => ?_
  subst ea
  exact V_calG (run_IN F hC hy hw hin hlnk hlv hst0 hn hcat d) (by subst hst0; exact fun v hv => List.mem_append_right _ (List.mem_cons_of_mem _ hv)) kk (fun x h1 e => (noX hC x h1 e).elim)
theorem V_obj {K : CT} {cc : ByteArray} {own : String} {ret : Option FieldType} {hh : List (Nat × Nat × Nat × Nat)} {lvl md : Nat} (F : Fr K cc own ret hh lvl md) {pc : Nat} {L : List (Nat × MV)} {st : List MV} {h : MH} {r : Option Nat} {k : Res} {idx : Nat} (hl1 : 1 ≤ lvl) (hlnk : Cond.methodLink own idx objectInit ∈ GW) (hin : Cond.instanceMethod objectInit ∈ GW) (hcod : Cond.code objectInit ⟨#[0xb1]⟩ 1 none ∈ GW) (hcat : (st.map mcat).sum ≤ 8) (d : decode cc pc = .ok (.invokespecial idx, 3)) (n : V K (pc + 3) L st h k) : V K pc L (vR r :: st) h (nnl r k) := by
  refine V_nnl fun a ea => ?_
  subst ea
  refine V_step (fun n h1 h2 => ⟨ok_pop h1, h2⟩) ?_ n
  rcases K with ⟨md1, nL, nm, _ | ⟨p, l, e, R, s, m, args, below, meth, c, D, cy, base, ad0, n0, mc, ms⟩⟩
  · exact True.intro
  obtain ⟨hmd, hx, hb, hml, hown, hts, hlk, henv, hmc, hms, hstk, hret, htab, hlv1, hlv2, hnm⟩ := F
  intro ad H locs cells slots ls Q hl kk
  refine W.objInit hx hb hown (hts _ hlnk) (hts _ hin) (hts _ hcod) rfl (by rw [hml]; exact hl.1) rfl d (by omega) ?_ (kk ls hl)
  have h0 : (F0 m pc ls ((vR (some a) :: st).map (cv ad))).monitorRoom = 0 := rfl
  have hcat2 : ((st.map (cv ad)).map fun v => v.category).sum ≤ 8 := by rw [cat_sum]; exact hcat
  omega
def cpI (h : MH) (r0 : Option Nat) (sp : Int32) (r1 : Option Nat) (dp n : Int32) (k : MH → Res) : Res := match r0 with
  | none => none
  | some a0 => match r1 with
    | none => none
    | some a1 => if (hk h a0 = 20 ∧ hk h a1 = 20) ∧ (0 ≤ sp ∧ 0 ≤ dp ∧ 0 ≤ n) ∧ sp.toNatClampNeg + n.toNatClampNeg ≤ hl h a0 ∧ dp.toNatClampNeg + n.toNatClampNeg ≤ hl h a1 then k (sIr h a1 (va_cpy (hi h a0) (hi h a1) sp.toNatClampNeg dp.toNatClampNeg n.toNatClampNeg)) else none
theorem V_cpI {K : CT} {cc : ByteArray} {own : String} {ret : Option FieldType} {hh : List (Nat × Nat × Nat × Nat)} {lvl md : Nat} (F : Fr K cc own ret hh lvl md) {pc : Nat} {L : List (Nat × MV)} {st : List MV} {h : MH} {r0 r1 : Option Nat} {sp dp n : Int32} {res : MH → Res} {idx : Nat} (hl1 : 1 ≤ lvl) (hlnk : Cond.methodLink own idx arraycopyName ∈ GW) (hnat : Cond.native arraycopyName ∈ GW) (hsta : Cond.static arraycopyName ∈ GW) (hini : Cond.initialized "java/lang/System" ∈ GW) (hcat : (st.map mcat).sum ≤ 8) (d : decode cc pc = .ok (.invokestatic idx, 3)) (kk : ∀ h', V K (pc + 3) L st h' (res h')) : V K pc L (vI n :: vI dp :: vR r1 :: vI sp :: vR r0 :: st) h (cpI h r0 sp r1 dp n res) := by
  cases r0 with
  | none => exact V_none
  | some a0 =>
    cases r1 with
    | none => exact V_none
    | some a1 =>
      unfold cpI
      dsimp only
      by_cases q : (hk h a0 = 20 ∧ hk h a1 = 20) ∧ (0 ≤ sp ∧ 0 ≤ dp ∧ 0 ≤ n) ∧ sp.toNatClampNeg + n.toNatClampNeg ≤ hl h a0 ∧ dp.toNatClampNeg + n.toNatClampNeg ≤ hl h a1
      · rw [if_pos q]
        obtain ⟨⟨q1, q2⟩, ⟨q3, q4, q5⟩, q6, q7⟩ := q
        intro r h' e9
        obtain ⟨a9, b9⟩ := kk _ r h' e9
        refine ⟨a9, ?_⟩
        rcases K with ⟨md1, nL, nm, _ | ⟨p, l, e, R, s, m, args, below, meth, c, D, cy, base, ad0, n0, mc, ms⟩⟩
        · exact True.intro
        obtain ⟨hmd, hx, hb, hml, hown, hts, hlk, henv, hmc, hms, hstk, hret, htab, hlv1, hlv2, hnm⟩ := F
        intro ad H locs cells slots ls w1 w2 w3 w4 w5 w6 w7
        obtain ⟨z0, hz0, rfl⟩ := w1.low q1 (by omega)
        obtain ⟨z1, hz1, rfl⟩ := w1.low q2 (by omega)
        have he0 := wsO_at (cy := cy) (ad := ad) hz0
        rw [clO_int q1 (by omega) (by omega)] at he0
        have he1 := wsO_at (cy := cy) (ad := ad) hz1
        rw [clO_int q2 (by omega) (by omega)] at he1
        obtain ⟨t0, ht0⟩ := TYL_at (cy := cy) (k := 20) (by decide)
        have hcat2 : ((st.map (cv ad)).map fun v => v.category).sum ≤ 8 := by rw [cat_sum]; exact hcat
        have hnf : nativeFrameWords "java/lang/System" "arraycopy" 5 = 7 := by decide
        exact va_copyi hx hb (hml.trans w4.1.symm) hown (hts _ hlnk) (hts _ hnat) (hts _ hsta) (hts _ hini) henv.1 w1.1 w1.2.1 w2 z0 z1 t0 t0 he0 he1 ht0 ht0 rfl (Int32.not_lt.mpr q3) (Int32.not_lt.mpr q4) (Int32.not_lt.mpr q5) q6 q7 (fun _ _ => rfl) (by omega) (by rw [hnf]; omega) d
          (fun H1 locs1 hP hD hS => b9 ad H1 locs1 cells slots ls (w1.sIa hz1 q2 (by omega) (by omega) hP hD rfl) hS w3 w4 (ok_pop (ok_pop (ok_pop (ok_pop (ok_pop w5))))) w6 w7)
      · rw [if_neg q]; exact V_none
def okr (h : MH) (r : Option Nat) : Bool := match r with
  | none => true
  | some a => decide (hk h a < 40)
def acq (h : MH) (x y : Option Nat) (A B : Res) : Res := if okr h x = true ∧ okr h y = true then (if x = y then A else B) else none
theorem ad_inj {D : va_G} {cy : Nat → ClassId} {base : Nat} {ad : Nat → Nat} {h : MH} {H : Heap} (w : Wld D cy base ad h H) {x y : Option Nat} (hx : okr h x = true) (hy : okr h y = true) (e : x.map ad = y.map ad) : x = y := by
  cases x with
  | none =>
    cases y with
    | none => rfl
    | some b => cases e
  | some a =>
    cases y with
    | none => cases e
    | some b =>
      have e1 : ad a = ad b := Option.some.inj e
      have h1 : hk h a < 40 := of_decide_eq_true hx
      have h2 : hk h b < 40 := of_decide_eq_true hy
      obtain ⟨p, hp, rfl⟩ := w.inb h1
      obtain ⟨q, hq, rfl⟩ := w.inb h2
      have := w.2.1.1 p q _ _ (wsO_at hp) (wsO_at hq) e1
      rw [this]
theorem V_acq {K : CT} {cc : ByteArray} {own : String} {ret : Option FieldType} {hh : List (Nat × Nat × Nat × Nat)} {lvl md : Nat} (F : Fr K cc own ret hh lvl md) {pc : Nat} {L : List (Nat × MV)} {st : List MV} {h : MH} {x y : Option Nat} {A B : Res} {off : Int} (tgt : Nat) (d : decode cc pc = .ok (.if_acmp .eq off, 3)) (ht : (pc : Int) + off = (tgt : Int)) (kt : V K tgt L st h A) (kf : V K (pc + 3) L st h B) : V K pc L (vR y :: vR x :: st) h (acq h x y A B) := by
  unfold acq
  by_cases q : okr h x = true ∧ okr h y = true
  · rw [if_pos q]
    by_cases exy : x = y
    · rw [if_pos exy]
      intro r h' e9
      obtain ⟨a9, b9⟩ := kt r h' e9
      refine ⟨a9, ?_⟩
      rcases K with ⟨md1, nL, nm, _ | ⟨p, l, e, R, s, m, args, below, meth, c, D, cy, base, ad0, n0, mc, ms⟩⟩
      · exact True.intro
      obtain ⟨hmd, hx, hb, hml, hown, hts, hlk, henv, hmc, hms, hstk, hret, htab, hlv1, hlv2, hnm⟩ := F
      intro ad H locs cells slots ls w1 w2 w3 w4 w5 w6 w7
      exact lv_acmp_eq (rx := x.map ad) (ry := y.map ad) hx hb d ht (fun _ => b9 ad H locs cells slots ls w1 w2 w3 w4 (ok_pop (ok_pop w5)) w6 w7) (fun z => absurd (by rw [exy]) z)
    · rw [if_neg exy]
      intro r h' e9
      obtain ⟨a9, b9⟩ := kf r h' e9
      refine ⟨a9, ?_⟩
      rcases K with ⟨md1, nL, nm, _ | ⟨p, l, e, R, s, m, args, below, meth, c, D, cy, base, ad0, n0, mc, ms⟩⟩
      · exact True.intro
      obtain ⟨hmd, hx, hb, hml, hown, hts, hlk, henv, hmc, hms, hstk, hret, htab, hlv1, hlv2, hnm⟩ := F
      intro ad H locs cells slots ls w1 w2 w3 w4 w5 w6 w7
      exact lv_acmp_eq (rx := x.map ad) (ry := y.map ad) hx hb d ht (fun z => absurd (ad_inj w1 q.1 q.2 z) exy) (fun _ => b9 ad H locs cells slots ls w1 w2 w3 w4 (ok_pop (ok_pop w5)) w6 w7)
  · rw [if_neg q]; exact V_none
theorem V_mmin {K : CT} {cc : ByteArray} {own : String} {ret : Option FieldType} {hh : List (Nat × Nat × Nat × Nat)} {lvl md : Nat} (F : Fr K cc own ret hh lvl md) {pc : Nat} {L : List (Nat × MV)} {st : List MV} {h : MH} {x y : Int32} {res : Int32 → Res} {idx : Nat} (hl1 : 1 ≤ lvl) (hlnk : Cond.methodLink own idx Lib.Math.min.name ∈ GW) (hsta : Cond.static Lib.Math.min.name ∈ GW) (hini : Cond.initialized "java/lang/Math" ∈ GW) (hcod : Cond.code Lib.Math.min.name Lib.Math.min.code 2 (some .int) ∈ GW) (hcat : (st.map mcat).sum ≤ 8) (d : decode cc pc = .ok (.invokestatic idx, 3)) (n : ∀ z, V K (pc + 3) L (vI z :: st) h (res z)) : V K pc L (vI y :: vI x :: st) h (bnd (if y < x then y else x) res) := by
  intro r h' e9
  obtain ⟨a1, b1⟩ := n _ r h' e9
  refine ⟨a1, ?_⟩
  rcases K with ⟨md1, nL, nm, _ | ⟨p, l, e, R, s, m, args, below, meth, c, D, cy, base, ad0, n0, mc, ms⟩⟩
  · exact True.intro
  obtain ⟨hmd, hx, hb, hml, hown, hts, hlk, henv, hmc, hms, hstk, hret, htab, hlv1, hlv2, hnm⟩ := F
  intro ad H locs cells slots ls w1 w2 w3 w4 w5 w6 w7
  have hcat2 : ((st.map (cv ad)).map fun v => v.category).sum ≤ 8 := by rw [cat_sum]; exact hcat
  exact va_mmin hx hb (hml.trans w4.1.symm) hown (hts _ hlnk) (hts _ hsta) (hts _ hini) (hts _ hcod) (by omega) (by omega) (by omega) (by omega) d (b1 ad H locs cells slots ls w1 w2 w3 w4 (ok_psh okv_I (ok_pop (ok_pop w5))) w6 w7)
theorem V_mmax {K : CT} {cc : ByteArray} {own : String} {ret : Option FieldType} {hh : List (Nat × Nat × Nat × Nat)} {lvl md : Nat} (F : Fr K cc own ret hh lvl md) {pc : Nat} {L : List (Nat × MV)} {st : List MV} {h : MH} {x y : Int32} {res : Int32 → Res} {idx : Nat} (hl1 : 1 ≤ lvl) (hlnk : Cond.methodLink own idx Lib.Math.max.name ∈ GW) (hsta : Cond.static Lib.Math.max.name ∈ GW) (hini : Cond.initialized "java/lang/Math" ∈ GW) (hcod : Cond.code Lib.Math.max.name Lib.Math.max.code 2 (some .int) ∈ GW) (hcat : (st.map mcat).sum ≤ 8) (d : decode cc pc = .ok (.invokestatic idx, 3)) (n : ∀ z, V K (pc + 3) L (vI z :: st) h (res z)) : V K pc L (vI y :: vI x :: st) h (bnd (if x < y then y else x) res) := by
  intro r h' e9
  obtain ⟨a1, b1⟩ := n _ r h' e9
  refine ⟨a1, ?_⟩
  rcases K with ⟨md1, nL, nm, _ | ⟨p, l, e, R, s, m, args, below, meth, c, D, cy, base, ad0, n0, mc, ms⟩⟩
  · exact True.intro
  obtain ⟨hmd, hx, hb, hml, hown, hts, hlk, henv, hmc, hms, hstk, hret, htab, hlv1, hlv2, hnm⟩ := F
  intro ad H locs cells slots ls w1 w2 w3 w4 w5 w6 w7
  have hcat2 : ((st.map (cv ad)).map fun v => v.category).sum ≤ 8 := by rw [cat_sum]; exact hcat
  exact va_mmax hx hb (hml.trans w4.1.symm) hown (hts _ hlnk) (hts _ hsta) (hts _ hini) (hts _ hcod) (by omega) (by omega) (by omega) (by omega) d (b1 ad H locs cells slots ls w1 w2 w3 w4 (ok_psh okv_I (ok_pop (ok_pop w5))) w6 w7)
theorem V_mabs {K : CT} {cc : ByteArray} {own : String} {ret : Option FieldType} {hh : List (Nat × Nat × Nat × Nat)} {lvl md : Nat} (F : Fr K cc own ret hh lvl md) {pc : Nat} {L : List (Nat × MV)} {st : List MV} {h : MH} {x : Int32} {res : Int32 → Res} {idx : Nat} (hl1 : 1 ≤ lvl) (hlnk : Cond.methodLink own idx Lib.Math.abs.name ∈ GW) (hsta : Cond.static Lib.Math.abs.name ∈ GW) (hini : Cond.initialized "java/lang/Math" ∈ GW) (hcod : Cond.code Lib.Math.abs.name Lib.Math.abs.code 1 (some .int) ∈ GW) (hcat : (st.map mcat).sum ≤ 8) (d : decode cc pc = .ok (.invokestatic idx, 3)) (n : ∀ z, V K (pc + 3) L (vI z :: st) h (res z)) : V K pc L (vI x :: st) h (bnd (if 0 ≤ x then x else 0 - x) res) := by
  intro r h' e9
  obtain ⟨a1, b1⟩ := n _ r h' e9
  refine ⟨a1, ?_⟩
  rcases K with ⟨md1, nL, nm, _ | ⟨p, l, e, R, s, m, args, below, meth, c, D, cy, base, ad0, n0, mc, ms⟩⟩
  · exact True.intro
  obtain ⟨hmd, hx, hb, hml, hown, hts, hlk, henv, hmc, hms, hstk, hret, htab, hlv1, hlv2, hnm⟩ := F
  intro ad H locs cells slots ls w1 w2 w3 w4 w5 w6 w7
  have hcat2 : ((st.map (cv ad)).map fun v => v.category).sum ≤ 8 := by rw [cat_sum]; exact hcat
  exact va_mabs hx hb (hml.trans w4.1.symm) hown (hts _ hlnk) (hts _ hsta) (hts _ hini) (hts _ hcod) (by omega) (by omega) (by omega) (by omega) d (b1 ad H locs cells slots ls w1 w2 w3 w4 (ok_psh okv_I (ok_pop w5)) w6 w7)
/-! the law itself -/
/-- the script lies where address 0 leads -/
def XS (K : CT) (Ls : Nat) (xs : Nat → Int32) : Prop := match K.2.2.2 with
  | none => True
  | some (_, _, _, _, s, _, _, _, _, _, _, _, base, ad0, n0, _, _) => va_X (ad0 0) Ls xs s s.heap ∧ ad0 0 < base ∧ base ≤ s.heap.size ∧ 1 ≤ n0
def XL (K : CT) (Ls : Nat) (xs : Nat → Int32) : Prop := XS K Ls xs ∧ match K.2.2.2 with
  | none => True
  | some (_, _, _, R, s, _, args, _, _, _, _, _, base, ad0, _, mc, ms) => base = s.heap.size ∧ R = room_1 ∧ mc = 601788 ∧ ms = 7296259 ∧ args = #[Value.ref (ad0 0)]
def sld (Ls : Nat) (xs : Nat → Int32) (i : Int32) (k : Int32 → Res) : Res := if 0 ≤ i ∧ i.toNatClampNeg < Ls then k (xs i.toNatClampNeg) else none
theorem V_sld {K : CT} {cc : ByteArray} {own : String} {ret : Option FieldType} {hh : List (Nat × Nat × Nat × Nat)} {lvl md : Nat} (F : Fr K cc own ret hh lvl md) {pc : Nat} {L : List (Nat × MV)} {st : List MV} {h : MH} {Ls : Nat} {xs : Nat → Int32} (XF : XS K Ls xs) {i : Int32} {res : Int32 → Res} (d : decode cc pc = .ok (.iaload, 1)) (n : ∀ z, V K (pc + 1) L (vI z :: st) h (res z)) : V K pc L (vI i :: vR (some 0) :: st) h (sld Ls xs i res) := by
  unfold sld
  by_cases q : 0 ≤ i ∧ i.toNatClampNeg < Ls
  · rw [if_pos q]
    obtain ⟨q2, q3⟩ := q
    intro r h' e9
    obtain ⟨a1, b1⟩ := n _ r h' e9
    refine ⟨a1, ?_⟩
    rcases K with ⟨md1, nL, nm, _ | ⟨p, l, e, R, s, m, args, below, meth, c, D, cy, base, ad0, n0, mc, ms⟩⟩
    · exact True.intro
    obtain ⟨hmd, hx, hb, hml, hown, hts, hlk, henv, hmc, hms, hstk, hret, htab, hlv1, hlv2, hnm⟩ := F
    obtain ⟨x1, x2, x3, x4⟩ := XF
    intro ad H locs cells slots ls w1 w2 w3 w4 w5 w6 w7
    have e0 : ad 0 = ad0 0 := w3.1 0 (by omega)
    have k9 := va_sld hx hb (A := bA base) x1 (by omega) (by show ¬ base ≤ ad0 0; omega) w2 (vpin q2 q3) d (b1 ad H locs cells slots ls w1 w2 w3 w4 (ok_psh okv_I (ok_pop (ok_pop w5))) w6 w7)
    rw [← e0] at k9
    exact k9
  · rw [if_neg q]; exact V_none
theorem V_slen {K : CT} {cc : ByteArray} {own : String} {ret : Option FieldType} {hh : List (Nat × Nat × Nat × Nat)} {lvl md : Nat} (F : Fr K cc own ret hh lvl md) {pc : Nat} {L : List (Nat × MV)} {st : List MV} {h : MH} {Ls : Nat} {xs : Nat → Int32} (XF : XS K Ls xs) {res : Int32 → Res} (d : decode cc pc = .ok (.arraylength, 1)) (n : ∀ z, V K (pc + 1) L (vI z :: st) h (res z)) : V K pc L (vR (some 0) :: st) h (bnd (Int32.ofNat Ls) res) := by
  intro r h' e9
  obtain ⟨a1, b1⟩ := n _ r h' e9
  refine ⟨a1, ?_⟩
  rcases K with ⟨md1, nL, nm, _ | ⟨p, l, e, R, s, m, args, below, meth, c, D, cy, base, ad0, n0, mc, ms⟩⟩
  · exact True.intro
  obtain ⟨hmd, hx, hb, hml, hown, hts, hlk, henv, hmc, hms, hstk, hret, htab, hlv1, hlv2, hnm⟩ := F
  obtain ⟨x1, x2, x3, x4⟩ := XF
  intro ad H locs cells slots ls w1 w2 w3 w4 w5 w6 w7
  have e0 : ad 0 = ad0 0 := w3.1 0 (by omega)
  have k9 := va_slen hx hb (A := bA base) x1 (by omega) (by show ¬ base ≤ ad0 0; omega) w2 d (b1 ad H locs cells slots ls w1 w2 w3 w4 (ok_psh okv_I (ok_pop w5)) w6 w7)
  rw [← e0] at k9
  exact k9
def rtL (x : Int32) (h : MH) : Res := if x = 1 then some (.inl (some (vI x)), h) else none
theorem V_lawret {K : CT} {own : String} {hh : List (Nat × Nat × Nat × Nat)} {lvl : Nat} (F : Fr K code own Jvm.Pilot.CGyreWatchLaw_law_r6608_32e876.ret hh lvl 2) {Ls : Nat} {xs : Nat → Int32} (XF : XL K Ls xs) {pc : Nat} {L : List (Nat × MV)} {h : MH} {x : Int32} (d : decode code pc = .ok (.ireturn, 1)) : V K pc L [vI x] h (rtL x h) := by
  unfold rtL
  by_cases q : x = 1
  · rw [if_pos q]
    have hm1 : K.1 = 2 := F.1
    intro r h' e9
    cases e9
    refine ⟨⟨Hle.rf, fun z => by omega⟩, ?_⟩
    rcases K with ⟨md1, nL, nm, _ | ⟨p, l, e, R, s, m, args, below, meth, c, D, cy, base, ad0, n0, mc, ms⟩⟩
    · exact True.intro
    obtain ⟨hmd, hx, hb, hml, hown, hts, hlk, henv, hmc, hms, hstk, hret, htab, hlv1, hlv2, hnm⟩ := F
    obtain ⟨-, x3, rfl, rfl, rfl, rfl⟩ := XF
    have hm2 : md1 = 2 := hm1
    subst hm2
    subst q
    intro ad H locs cells slots ls w1 w2 w3 w4 w5 w6 w7
    refine va_forget (fun q hq => by have := w2.2.2 q hq; rw [← x3]; exact this) ?_
    refine W.widen (k := 601788) (n := 7296259) (by omega) (by omega) ?_
    exact lw_ret hx hb hret hlk d
  · rw [if_neg q]; exact V_none
/-! a call that is given the script -/
def PcS (D : va_G) (cy : Nat → ClassId) (base : Nat) (ad0 : Nat → Nat) (vs : List MV) (h : MH) (Ls : Nat) (xs : Nat → Int32) : Array Value → State → Prop := fun a U => PcF D cy base ad0 vs h a U ∧ va_X (ad0 0) Ls xs U U.heap ∧ ad0 0 < base
theorem PcS.blind {D : va_G} {cy : Nat → ClassId} {base : Nat} {ad0 : Nat → Nat} {vs : List MV} {h : MH} {Ls : Nat} {xs : Nat → Int32} : FrameBlind (PcS D cy base ad0 vs h Ls xs) :=
  fun a U g mk q => ⟨PcF.blind a U g mk q.1, va_X.moved (u := U) (U := U.calling g mk a) (State.WarmedH.refl U).alike q.2.1, q.2.2⟩
def CtrS (y : MethodName) (ws : List Cond) (lvl : Nat) (vs : List MV) (h : MH) (Ls : Nat) (xs : Nat → Int32) (res : Res) : Prop :=
  ∀ (r : MR) (h' : MH), res = some (r, h') → Hle h h' ∧ (∃ v, r = .inl v) ∧ ∀ (l : Launch) (D : va_G) (cy : Nat → ClassId) (base : Nat) (ad0 : Nat → Nat), l.stackTraces = false →
    Met l y ws (RM lvl (hc h' - hc h) (hs h' - hs h)) (PcS D cy base ad0 vs h Ls xs) (QcF D cy base ad0 (hn h + 1) r h') (hc h' - hc h) (hs h' - hs h) (bA base)
theorem CtrS_of {y : MethodName} {b : ByteArray} {maxL lvl : Nat} {rt : Option FieldType} {vs : List MV} {h : MH} {Ls : Nat} {xs : Nat → Int32} {res : Res} (hy : plainName y.cls = true) (hlen : (vs.map mcat).sum ≤ maxL)
    (body : ∀ K : CT, Fr K b y.cls rt [] lvl 0 → mxL K = maxL → nmK K y.name → XS K Ls xs → V K 0 (margs 0 vs) [] h res) : CtrS y (WSm y b maxL rt) lvl vs h Ls xs res := by
  intro r h' e9
  have gk := (body (0, maxL, y.name, none) ⟨rfl, True.intro⟩ rfl rfl True.intro r h' e9).1
  refine ⟨gk.1, gk.2 rfl, fun l D cy base ad0 hstk => ?_⟩
  refine Met.ofW (cc := b) (maxL := maxL) (ret := rt) hy rfl ?_
  intro p e s m args below meth c s₁ B hml hv
  obtain ⟨⟨rfl, henv, w1, hok⟩, x1, x2⟩ := hv
  have hts := atoms_spec (ws := WSm y b maxL rt) B.pre
  exact entry_V hlen (body (0, maxL, y.name, some (p, l, e, (headSpec (WSm y b maxL rt) (RM lvl (hc h' - hc h) (hs h' - hs h))).room, s, m, _, below, meth, c, D, cy, base, ad0, hn h + 1, hc h' - hc h, hs h' - hs h))
    ⟨rfl, B.exec, B.bytes, hml, findClass_of_methodNamed B.named, fun w hw => hts w (List.mem_cons_of_mem _ hw), B.notSynchronized, henv, Nat.le_refl _, Nat.le_refl _, hstk, B.returns, (fun q => by omega), Nat.le_refl _, Nat.le_refl _, (name_of_methodNamed B.named B.method).1⟩ rfl rfl ⟨x1, x2, henv.2.2.2.2.2.2.2.2, Nat.succ_le_succ (Nat.zero_le _)⟩) e9 w1 hok (Nat.le_refl _) (Nat.le_refl _)
theorem noXS {y : MethodName} {ws : List Cond} {lv : Nat} {vs : List MV} {h : MH} {Ls : Nat} {xs : Nat → Int32} {res : Res} (hC : CtrS y ws lv vs h Ls xs res) : ∀ x h1, res = some (.inr x, h1) → False := by
  intro x h1 e
  obtain ⟨-, ⟨v, ev⟩, -⟩ := hC _ _ e
  cases ev
theorem run_SS {K : CT} {cc : ByteArray} {own : String} {ret : Option FieldType} {hh : List (Nat × Nat × Nat × Nat)} {lvl md : Nat} (F : Fr K cc own ret hh lvl md) {pc : Nat} {L : List (Nat × MV)} {h : MH} {Ls : Nat} {xs : Nat → Int32} (XF : XS K Ls xs) {st0 as rest : List MV} {res : Res} {y : MethodName} {b : ByteArray} {maxL lv n idx : Nat} {rt : Option FieldType} (hC : CtrS y (WSm y b maxL rt) lv as h Ls xs res) (hw : CWm y b maxL rt n) (hsta : Cond.static y ∈ GW) (hlnk : Cond.methodLink own idx y ∈ GW) (hlv : lv < lvl) (hst0 : st0 = as.reverse ++ rest) (hn : as.length = n) (hcat : (rest.map mcat).sum ≤ 8) (d : decode cc pc = .ok (.invokestatic idx, 3)) : RunX K pc L st0 rest h res := by
  subst hst0
  intro r h' e9
  obtain ⟨g1, -, g2⟩ := hC r h' e9
  refine ⟨g1, ?_⟩
  rcases K with ⟨md1, nL, nm, _ | ⟨p, l, e, R, s, m, args, below, meth, c, D, cy, base, ad0, n0, mc, ms⟩⟩
  · exact True.intro
  obtain ⟨hmd, hx, hb, hml, hown, hts, hlk, henv, hmc, hms, hstk, hret, htab, hlv1, hlv2, hnm⟩ := F
  obtain ⟨x1, x2, x3, x4⟩ := XF
  intro ad H locs cells slots ls w1 w2 w3 w4 w5 w7
  have e0 : ad 0 = ad0 0 := w3.1 0 (by omega)
  refine run_of_va ?_
  have cb := callB_of (R := R) (own := own) (index := idx) (rm := RM lv (hc h' - hc h) (hs h' - hs h)) n hts (GWm hw.1) rfl rfl rfl (hts _ hw.2.1) (hts _ hlnk) hw.2.2.1 (rm_ok hlv hlv1 hlv2 hw.2.2.2)
  have pcs : ∀ U : State, U.heap = H → s.WarmedH U.vm → PcS D cy base ad as h Ls xs (as.map (cv ad)).toArray U := by
    intro U hU hW
    refine ⟨PcF_go henv w2 w1 (fun v hv => w5 v (List.mem_append_left _ (List.mem_reverse.mpr hv))) rfl U hU hW, ?_, by omega⟩
    rw [e0]
    exact (va_X.moved hW.alike x1).kept (by rw [hU]; exact w2.2.1 (ad0 0) (by omega) (by show ¬ base ≤ ad0 0; omega))
  exact va_runS (As := as.map (cv ad)) ⟨hx, hb, hml, hown, hts⟩ (g2 l D cy base ad hstk) ⟨cb, hts _ hsta⟩ ⟨PcS.blind, pcs⟩ rfl (by rw [List.length_map]; exact hn) w4.1
    (by rw [List.map_append, List.map_reverse]) (lv_room (m := m) (pc := pc) (ls := ls) (rest := []) (by rw [cat_sum]; exact hcat)) d ⟨by omega, by omega⟩
theorem V_cSS {K : CT} {cc : ByteArray} {own : String} {ret : Option FieldType} {hh : List (Nat × Nat × Nat × Nat)} {lvl md : Nat} (F : Fr K cc own ret hh lvl md) {pc : Nat} {L : List (Nat × MV)} {h : MH} {Ls : Nat} {xs : Nat → Int32} (XF : XS K Ls xs) {st0 as rest : List MV} {res : Res} {k : Option MV → MH → Res} {kx : Nat → MH → Res} {y : MethodName} {b : ByteArray} {maxL lv n idx : Nat} {rt : Option FieldType} (hC : CtrS y (WSm y b maxL rt) lv as h Ls xs res) (hw : CWm y b maxL rt n) (hsta : Cond.static y ∈ GW) (hlnk : Cond.methodLink own idx y ∈ GW) (hlv : lv < lvl) (hst0 : st0 = as.reverse ++ rest) (hn : as.length = n) (hcat : (rest.map mcat).sum ≤ 8) (d : decode cc pc = .ok (.invokestatic idx, 3))
    (kk : ∀ v h1, V K (pc + 3) L (v.toList ++ rest) h1 (k v h1)) : V K pc L st0 h (calG res k kx) :=
  V_calG (run_SS F XF hC hw hsta hlnk hlv hst0 hn hcat d) (by subst hst0; exact fun v hv => List.mem_append_right _ hv) kk (fun x h1 e => (noXS hC x h1 e).elim)
end
section
def fuel : Nat := 1000
def calNI (res : Res) (k : Int32 → MH → Res) : Res := calG res (toI k) (fun _ _ => none)
theorem lt_mx {K : CT} {i n : Nat} (hm : mxL K = n) (h : i < n) : i < mxL K := by rw [hm]; exact h
theorem g_ml_RX1_3 : Cond.methodLink RX1 3 objectInit ∈ GW := GW_of (List.mem_of_getElem? (i := 51) (by decide +kernel)) rfl
theorem g_in_obj : Cond.instanceMethod objectInit ∈ GW := GW_of (List.mem_of_getElem? (i := 38) (by decide +kernel)) rfl
theorem g_cw_obj : Cond.code objectInit ⟨#[0xb1]⟩ 1 none ∈ GW := GW_of (List.mem_of_getElem? (i := 39) (by decide +kernel)) rfl
theorem g_arr_20 : Cond.arrayClass (tyK 20) ∈ GW := GW_of (List.mem_of_getElem? (i := 66) (by decide +kernel)) rfl
theorem g_fl_RX1_9 : Cond.fieldLink RX1 9 ((TN 1) 0).1 ((TN 1) 0).2.1 ((TN 1) 0).2.2.1 ∈ GW := GW_of (List.mem_of_getElem? (i := 55) (by decide +kernel)) rfl
theorem g_fl_RX1_15 : Cond.fieldLink RX1 15 ((TN 1) 1).1 ((TN 1) 1).2.1 ((TN 1) 1).2.2.1 ∈ GW := GW_of (List.mem_of_getElem? (i := 58) (by decide +kernel)) rfl
theorem g_cw_J7_fill_53178 : Cond.code yJ7_fill_53178 cJ7_fill_53178 4 none ∈ GW := GW_of (List.mem_of_getElem? (i := 54) (by decide +kernel)) rfl
theorem g_ini_java_util_Arrays : Cond.initialized RJ7 ∈ GW := GW_of (List.mem_of_getElem? (i := 18) (by decide +kernel)) rfl
theorem w_J7_fill_53178 : CWm yJ7_fill_53178 cJ7_fill_53178 4 none 2 := ⟨g_cw_J7_fill_53178, g_ini_java_util_Arrays, ⟨by decide +kernel, by decide +kernel, by decide +kernel⟩, by decide⟩
theorem g_ml_RX1_18 : Cond.methodLink RX1 18 yJ7_fill_53178 ∈ GW := GW_of (List.mem_of_getElem? (i := 52) (by decide +kernel)) rfl
theorem g_st_J7_fill_53178 : Cond.static yJ7_fill_53178 ∈ GW := GW_of (List.mem_of_getElem? (i := 53) (by decide +kernel)) rfl
theorem g_ml_RX5_3 : Cond.methodLink RX5 3 objectInit ∈ GW := GW_of (List.mem_of_getElem? (i := 45) (by decide +kernel)) rfl
theorem g_inst_1 : Cond.instantiable (RN 1) (nF 1) ∈ GW := GW_of (List.mem_of_getElem? (i := 47) (by decide +kernel)) rfl
theorem g_iniN_1 : Cond.initialized (RN 1) ∈ GW := GW_of (List.mem_of_getElem? (i := 17) (by decide +kernel)) rfl
theorem g_clN_RX5_9 : Cond.classLink RX5 9 (RN 1) ∈ GW := GW_of (List.mem_of_getElem? (i := 46) (by decide +kernel)) rfl
theorem g_cw_X1_init : Cond.code yX1_init cX1_init 3 none ∈ GW := GW_of (List.mem_of_getElem? (i := 50) (by decide +kernel)) rfl
theorem g_ini_GyreWatch_Layer : Cond.initialized RX1 ∈ GW := GW_of (List.mem_of_getElem? (i := 17) (by decide +kernel)) rfl
theorem w_X1_init : CWm yX1_init cX1_init 3 none 2 := ⟨g_cw_X1_init, g_ini_GyreWatch_Layer, ⟨by decide +kernel, by decide +kernel, by decide +kernel⟩, by decide⟩
theorem g_in_X1_init : Cond.instanceMethod yX1_init ∈ GW := GW_of (List.mem_of_getElem? (i := 49) (by decide +kernel)) rfl
theorem g_ml_RX5_11 : Cond.methodLink RX5 11 yX1_init ∈ GW := GW_of (List.mem_of_getElem? (i := 48) (by decide +kernel)) rfl
theorem g_fl_RX5_14 : Cond.fieldLink RX5 14 ((TN 5) 0).1 ((TN 5) 0).2.1 ((TN 5) 0).2.2.1 ∈ GW := GW_of (List.mem_of_getElem? (i := 67) (by decide +kernel)) rfl
theorem g_fl_RX5_20 : Cond.fieldLink RX5 20 ((TN 5) 1).1 ((TN 5) 1).2.1 ((TN 5) 1).2.2.1 ∈ GW := GW_of (List.mem_of_getElem? (i := 69) (by decide +kernel)) rfl
theorem g_fl_RX5_23 : Cond.fieldLink RX5 23 ((TN 5) 2).1 ((TN 5) 2).2.1 ((TN 5) 2).2.2.1 ∈ GW := GW_of (List.mem_of_getElem? (i := 71) (by decide +kernel)) rfl
theorem g_fl_RX5_27 : Cond.fieldLink RX5 27 ((TN 5) 3).1 ((TN 5) 3).2.1 ((TN 5) 3).2.2.1 ∈ GW := GW_of (List.mem_of_getElem? (i := 73) (by decide +kernel)) rfl
theorem g_arr_21 : Cond.arrayClass (tyK 21) ∈ GW := GW_of (List.mem_of_getElem? (i := 97) (by decide +kernel)) rfl
theorem g_fl_RX5_30 : Cond.fieldLink RX5 30 ((TN 5) 5).1 ((TN 5) 5).2.1 ((TN 5) 5).2.2.1 ∈ GW := GW_of (List.mem_of_getElem? (i := 77) (by decide +kernel)) rfl
theorem g_fl_RX5_34 : Cond.fieldLink RX5 34 ((TN 5) 6).1 ((TN 5) 6).2.1 ((TN 5) 6).2.2.1 ∈ GW := GW_of (List.mem_of_getElem? (i := 78) (by decide +kernel)) rfl
theorem g_ml_RX2_3 : Cond.methodLink RX2 3 objectInit ∈ GW := GW_of (List.mem_of_getElem? (i := 105) (by decide +kernel)) rfl
theorem g_clA_RX2_9 : Cond.classLink RX2 9 (RN (coK 24)) ∈ GW := GW_of (List.mem_of_getElem? (i := 106) (by decide +kernel)) rfl
theorem g_fl_RX2_11 : Cond.fieldLink RX2 11 ((TN 2) 0).1 ((TN 2) 0).2.1 ((TN 2) 0).2.2.1 ∈ GW := GW_of (List.mem_of_getElem? (i := 108) (by decide +kernel)) rfl
theorem g_fl_RX2_17 : Cond.fieldLink RX2 17 ((TN 2) 2).1 ((TN 2) 2).2.1 ((TN 2) 2).2.2.1 ∈ GW := GW_of (List.mem_of_getElem? (i := 112) (by decide +kernel)) rfl
theorem g_ml_RX7_3 : Cond.methodLink RX7 3 objectInit ∈ GW := GW_of (List.mem_of_getElem? (i := 126) (by decide +kernel)) rfl
theorem g_fl_RX7_9 : Cond.fieldLink RX7 9 ((TN 7) 1).1 ((TN 7) 1).2.1 ((TN 7) 1).2.2.1 ∈ GW := GW_of (List.mem_of_getElem? (i := 129) (by decide +kernel)) rfl
theorem g_fl_RX7_15 : Cond.fieldLink RX7 15 ((TN 7) 2).1 ((TN 7) 2).2.1 ((TN 7) 2).2.2.1 ∈ GW := GW_of (List.mem_of_getElem? (i := 130) (by decide +kernel)) rfl
theorem g_fl_RX7_18 : Cond.fieldLink RX7 18 ((TN 7) 3).1 ((TN 7) 3).2.1 ((TN 7) 3).2.2.1 ∈ GW := GW_of (List.mem_of_getElem? (i := 131) (by decide +kernel)) rfl
theorem g_ml_RX8_3 : Cond.methodLink RX8 3 objectInit ∈ GW := GW_of (List.mem_of_getElem? (i := 37) (by decide +kernel)) rfl
theorem g_inst_5 : Cond.instantiable (RN 5) (nF 5) ∈ GW := GW_of (List.mem_of_getElem? (i := 41) (by decide +kernel)) rfl
theorem g_iniN_5 : Cond.initialized (RN 5) ∈ GW := GW_of (List.mem_of_getElem? (i := 16) (by decide +kernel)) rfl
theorem g_clN_RX8_9 : Cond.classLink RX8 9 (RN 5) ∈ GW := GW_of (List.mem_of_getElem? (i := 40) (by decide +kernel)) rfl
theorem g_cw_X5_init : Cond.code yX5_init cX5_init 1 none ∈ GW := GW_of (List.mem_of_getElem? (i := 44) (by decide +kernel)) rfl
theorem g_ini_GyreWatch_Sea : Cond.initialized RX5 ∈ GW := GW_of (List.mem_of_getElem? (i := 16) (by decide +kernel)) rfl
theorem w_X5_init : CWm yX5_init cX5_init 1 none 0 := ⟨g_cw_X5_init, g_ini_GyreWatch_Sea, ⟨by decide +kernel, by decide +kernel, by decide +kernel⟩, by decide⟩
theorem g_in_X5_init : Cond.instanceMethod yX5_init ∈ GW := GW_of (List.mem_of_getElem? (i := 43) (by decide +kernel)) rfl
theorem g_fl_RX8_12 : Cond.fieldLink RX8 12 ((TN 8) 0).1 ((TN 8) 0).2.1 ((TN 8) 0).2.2.1 ∈ GW := GW_of (List.mem_of_getElem? (i := 148) (by decide +kernel)) rfl
theorem g_clA_RX8_16 : Cond.classLink RX8 16 (RN (coK 22)) ∈ GW := GW_of (List.mem_of_getElem? (i := 98) (by decide +kernel)) rfl
theorem g_fl_RX8_18 : Cond.fieldLink RX8 18 ((TN 8) 1).1 ((TN 8) 1).2.1 ((TN 8) 1).2.2.1 ∈ GW := GW_of (List.mem_of_getElem? (i := 149) (by decide +kernel)) rfl
theorem g_inst_2 : Cond.instantiable (RN 2) (nF 2) ∈ GW := GW_of (List.mem_of_getElem? (i := 101) (by decide +kernel)) rfl
theorem g_iniN_2 : Cond.initialized (RN 2) ∈ GW := GW_of (List.mem_of_getElem? (i := 19) (by decide +kernel)) rfl
theorem g_clN_RX8_22 : Cond.classLink RX8 22 (RN 2) ∈ GW := GW_of (List.mem_of_getElem? (i := 100) (by decide +kernel)) rfl
theorem g_cw_X2_init : Cond.code yX2_init cX2_init 1 none ∈ GW := GW_of (List.mem_of_getElem? (i := 104) (by decide +kernel)) rfl
theorem g_ini_GyreWatch_Log : Cond.initialized RX2 ∈ GW := GW_of (List.mem_of_getElem? (i := 19) (by decide +kernel)) rfl
theorem w_X2_init : CWm yX2_init cX2_init 1 none 0 := ⟨g_cw_X2_init, g_ini_GyreWatch_Log, ⟨by decide +kernel, by decide +kernel, by decide +kernel⟩, by decide⟩
theorem g_in_X2_init : Cond.instanceMethod yX2_init ∈ GW := GW_of (List.mem_of_getElem? (i := 103) (by decide +kernel)) rfl
theorem g_fl_RX8_25 : Cond.fieldLink RX8 25 ((TN 8) 2).1 ((TN 8) 2).2.1 ((TN 8) 2).2.2.1 ∈ GW := GW_of (List.mem_of_getElem? (i := 150) (by decide +kernel)) rfl
theorem g_inst_7 : Cond.instantiable (RN 7) (nF 7) ∈ GW := GW_of (List.mem_of_getElem? (i := 122) (by decide +kernel)) rfl
theorem g_iniN_7 : Cond.initialized (RN 7) ∈ GW := GW_of (List.mem_of_getElem? (i := 20) (by decide +kernel)) rfl
theorem g_clN_RX8_29 : Cond.classLink RX8 29 (RN 7) ∈ GW := GW_of (List.mem_of_getElem? (i := 121) (by decide +kernel)) rfl
theorem g_cw_X7_init : Cond.code yX7_init cX7_init 1 none ∈ GW := GW_of (List.mem_of_getElem? (i := 125) (by decide +kernel)) rfl
theorem g_ini_GyreWatch_Ships : Cond.initialized RX7 ∈ GW := GW_of (List.mem_of_getElem? (i := 20) (by decide +kernel)) rfl
theorem w_X7_init : CWm yX7_init cX7_init 1 none 0 := ⟨g_cw_X7_init, g_ini_GyreWatch_Ships, ⟨by decide +kernel, by decide +kernel, by decide +kernel⟩, by decide⟩
theorem g_in_X7_init : Cond.instanceMethod yX7_init ∈ GW := GW_of (List.mem_of_getElem? (i := 124) (by decide +kernel)) rfl
theorem g_fl_RX8_32 : Cond.fieldLink RX8 32 ((TN 8) 3).1 ((TN 8) 3).2.1 ((TN 8) 3).2.2.1 ∈ GW := GW_of (List.mem_of_getElem? (i := 151) (by decide +kernel)) rfl
theorem g_clA_RX8_36 : Cond.classLink RX8 36 (RN (coK 25)) ∈ GW := GW_of (List.mem_of_getElem? (i := 144) (by decide +kernel)) rfl
theorem g_fl_RX8_38 : Cond.fieldLink RX8 38 ((TN 8) 4).1 ((TN 8) 4).2.1 ((TN 8) 4).2.2.1 ∈ GW := GW_of (List.mem_of_getElem? (i := 152) (by decide +kernel)) rfl
theorem g_clA_RX8_42 : Cond.classLink RX8 42 (RN (coK 23)) ∈ GW := GW_of (List.mem_of_getElem? (i := 146) (by decide +kernel)) rfl
theorem g_fl_RX8_44 : Cond.fieldLink RX8 44 ((TN 8) 5).1 ((TN 8) 5).2.1 ((TN 8) 5).2.2.1 ∈ GW := GW_of (List.mem_of_getElem? (i := 153) (by decide +kernel)) rfl
theorem g_co_RL_7 : Cond.constant RL 7 (51343 : Int32) ∈ GW := GW_of (List.mem_of_getElem? (i := 416) (by decide +kernel)) rfl
theorem g_co_RL_8 : Cond.constant RL 8 (3087197 : Int32) ∈ GW := GW_of (List.mem_of_getElem? (i := 417) (by decide +kernel)) rfl
theorem g_co_RL_9 : Cond.constant RL 9 (2147483647 : Int32) ∈ GW := GW_of (List.mem_of_getElem? (i := 421) (by decide +kernel)) rfl
theorem g_cw_X8_isCell : Cond.code yX8_isCell cX8_isCell 1 (some .boolean) ∈ GW := GW_of (List.mem_of_getElem? (i := 293) (by decide +kernel)) rfl
theorem g_ini_GyreWatch : Cond.initialized RX8 ∈ GW := GW_of (List.mem_of_getElem? (i := 15) (by decide +kernel)) rfl
theorem w_X8_isCell : CWm yX8_isCell cX8_isCell 1 (some .boolean) 1 := ⟨g_cw_X8_isCell, g_ini_GyreWatch, ⟨by decide +kernel, by decide +kernel, by decide +kernel⟩, by decide⟩
theorem g_ml_RX8_276 : Cond.methodLink RX8 276 yX8_isCell ∈ GW := GW_of (List.mem_of_getElem? (i := 475) (by decide +kernel)) rfl
theorem g_st_X8_isCell : Cond.static yX8_isCell ∈ GW := GW_of (List.mem_of_getElem? (i := 292) (by decide +kernel)) rfl
theorem g_ata_RX8_283_279 : ∀ w ∈ (vx_atS RX8 283 (exN 1) XNm).filter goodWord, w ∈ lw_tbl := by decide +kernel
theorem g_atb_RX8_283_279 : ∀ w ∈ (vx_atS RX8 283 (exN 1) XNm).filter (fun w => !goodWord w), w ∈ Cond.castable (exN 1) (exN 1) :: NDL.map Cond.declares := by decide +kernel
theorem g_atc_RX8_283_279 : ∀ w ∈ Cond.classLink RX8 279 (exN 1) :: Cond.initialized (exN 1) :: vx_atS RX8 283 (exN 1) XNm, vx_ot w = true := by decide +kernel
theorem g_cl_RX8_279 : Cond.classLink RX8 279 (exN 1) ∈ GW := GW_of (List.mem_of_getElem? (i := 476) (by decide +kernel)) rfl
theorem g_ini_java_lang_IndexOutOfBoundsException : Cond.initialized (exN 1) ∈ GW := GW_of (List.mem_of_getElem? (i := 24) (by decide +kernel)) rfl
theorem g_cw_X8_isIndex : Cond.code yX8_isIndex cX8_isIndex 2 (some .boolean) ∈ GW := GW_of (List.mem_of_getElem? (i := 300) (by decide +kernel)) rfl
theorem w_X8_isIndex : CWm yX8_isIndex cX8_isIndex 2 (some .boolean) 2 := ⟨g_cw_X8_isIndex, g_ini_GyreWatch, ⟨by decide +kernel, by decide +kernel, by decide +kernel⟩, by decide⟩
theorem g_st_X8_isIndex : Cond.static yX8_isIndex ∈ GW := GW_of (List.mem_of_getElem? (i := 299) (by decide +kernel)) rfl
theorem g_fl_RX7_29 : Cond.fieldLink RX7 29 ((TN 7) 0).1 ((TN 7) 0).2.1 ((TN 7) 0).2.2.1 ∈ GW := GW_of (List.mem_of_getElem? (i := 127) (by decide +kernel)) rfl
theorem g_cw_X7_cellOf : Cond.code yX7_cellOf cX7_cellOf 2 (some .int) ∈ GW := GW_of (List.mem_of_getElem? (i := 406) (by decide +kernel)) rfl
theorem w_X7_cellOf : CWm yX7_cellOf cX7_cellOf 2 (some .int) 1 := ⟨g_cw_X7_cellOf, g_ini_GyreWatch_Ships, ⟨by decide +kernel, by decide +kernel, by decide +kernel⟩, by decide⟩
theorem g_in_X7_cellOf : Cond.instanceMethod yX7_cellOf ∈ GW := GW_of (List.mem_of_getElem? (i := 404) (by decide +kernel)) rfl
theorem g_se_X7_cellOf : Cond.selects (RN 7) yX7_cellOf yX7_cellOf ∈ GW := GW_of (List.mem_of_getElem? (i := 405) (by decide +kernel)) rfl
theorem g_ml_RX7_33 : Cond.methodLink RX7 33 yX7_cellOf ∈ GW := GW_of (List.mem_of_getElem? (i := 592) (by decide +kernel)) rfl
theorem g_fl_RX8_215 : Cond.fieldLink RX8 215 ((TN 0) 3).1 ((TN 0) 3).2.1 ((TN 0) 3).2.2.1 ∈ GW := GW_of (List.mem_of_getElem? (i := 696) (by decide +kernel)) rfl
theorem g_cw_X7_hasStationIn : Cond.code yX7_hasStationIn cX7_hasStationIn 3 (some .boolean) ∈ GW := GW_of (List.mem_of_getElem? (i := 591) (by decide +kernel)) rfl
theorem w_X7_hasStationIn : CWm yX7_hasStationIn cX7_hasStationIn 3 (some .boolean) 1 := ⟨g_cw_X7_hasStationIn, g_ini_GyreWatch_Ships, ⟨by decide +kernel, by decide +kernel, by decide +kernel⟩, by decide⟩
theorem g_in_X7_hasStationIn : Cond.instanceMethod yX7_hasStationIn ∈ GW := GW_of (List.mem_of_getElem? (i := 589) (by decide +kernel)) rfl
theorem g_se_X7_hasStationIn : Cond.selects (RN 7) yX7_hasStationIn yX7_hasStationIn ∈ GW := GW_of (List.mem_of_getElem? (i := 590) (by decide +kernel)) rfl
theorem g_ml_RX8_304 : Cond.methodLink RX8 304 yX7_hasStationIn ∈ GW := GW_of (List.mem_of_getElem? (i := 588) (by decide +kernel)) rfl
theorem g_fl_RX8_301 : Cond.fieldLink RX8 301 ((TN 6) 0).1 ((TN 6) 0).2.1 ((TN 6) 0).2.2.1 ∈ GW := GW_of (List.mem_of_getElem? (i := 668) (by decide +kernel)) rfl
theorem g_fl_RX5_44 : Cond.fieldLink RX5 44 ((TN 5) 7).1 ((TN 5) 7).2.1 ((TN 5) 7).2.2.1 ∈ GW := GW_of (List.mem_of_getElem? (i := 79) (by decide +kernel)) rfl
theorem g_cw_X1_emptyAt : Cond.code yX1_emptyAt cX1_emptyAt 2 none ∈ GW := GW_of (List.mem_of_getElem? (i := 601) (by decide +kernel)) rfl
theorem w_X1_emptyAt : CWm yX1_emptyAt cX1_emptyAt 2 none 1 := ⟨g_cw_X1_emptyAt, g_ini_GyreWatch_Layer, ⟨by decide +kernel, by decide +kernel, by decide +kernel⟩, by decide⟩
theorem g_in_X1_emptyAt : Cond.instanceMethod yX1_emptyAt ∈ GW := GW_of (List.mem_of_getElem? (i := 599) (by decide +kernel)) rfl
theorem g_se_X1_emptyAt : Cond.selects (RN 1) yX1_emptyAt yX1_emptyAt ∈ GW := GW_of (List.mem_of_getElem? (i := 600) (by decide +kernel)) rfl
theorem g_ml_RX5_48 : Cond.methodLink RX5 48 yX1_emptyAt ∈ GW := GW_of (List.mem_of_getElem? (i := 598) (by decide +kernel)) rfl
theorem g_cw_X8_needCell : Cond.code yX8_needCell cX8_needCell 1 none ∈ GW := GW_of (List.mem_of_getElem? (i := 474) (by decide +kernel)) rfl
theorem w_X8_needCell : CWm yX8_needCell cX8_needCell 1 none 1 := ⟨g_cw_X8_needCell, g_ini_GyreWatch, ⟨by decide +kernel, by decide +kernel, by decide +kernel⟩, by decide⟩
theorem g_ml_RX8_48 : Cond.methodLink RX8 48 yX8_needCell ∈ GW := GW_of (List.mem_of_getElem? (i := 472) (by decide +kernel)) rfl
theorem g_st_X8_needCell : Cond.static yX8_needCell ∈ GW := GW_of (List.mem_of_getElem? (i := 473) (by decide +kernel)) rfl
theorem g_fl_RX8_52 : Cond.fieldLink RX8 52 ((TN 8) 9).1 ((TN 8) 9).2.1 ((TN 8) 9).2.2.1 ∈ GW := GW_of (List.mem_of_getElem? (i := 156) (by decide +kernel)) rfl
theorem g_ata_RX8_67_63 : ∀ w ∈ (vx_atS RX8 67 (exN 3) XNm).filter goodWord, w ∈ lw_tbl := by decide +kernel
theorem g_atb_RX8_67_63 : ∀ w ∈ (vx_atS RX8 67 (exN 3) XNm).filter (fun w => !goodWord w), w ∈ Cond.castable (exN 3) (exN 3) :: NDL.map Cond.declares := by decide +kernel
theorem g_atc_RX8_67_63 : ∀ w ∈ Cond.classLink RX8 63 (exN 3) :: Cond.initialized (exN 3) :: vx_atS RX8 67 (exN 3) XNm, vx_ot w = true := by decide +kernel
theorem g_cl_RX8_63 : Cond.classLink RX8 63 (exN 3) ∈ GW := GW_of (List.mem_of_getElem? (i := 253) (by decide +kernel)) rfl
theorem g_ini_java_lang_IllegalStateException : Cond.initialized (exN 3) ∈ GW := GW_of (List.mem_of_getElem? (i := 25) (by decide +kernel)) rfl
theorem g_cw_X5_isLand : Cond.code yX5_isLand cX5_isLand 2 (some .boolean) ∈ GW := GW_of (List.mem_of_getElem? (i := 583) (by decide +kernel)) rfl
theorem w_X5_isLand : CWm yX5_isLand cX5_isLand 2 (some .boolean) 1 := ⟨g_cw_X5_isLand, g_ini_GyreWatch_Sea, ⟨by decide +kernel, by decide +kernel, by decide +kernel⟩, by decide⟩
theorem g_in_X5_isLand : Cond.instanceMethod yX5_isLand ∈ GW := GW_of (List.mem_of_getElem? (i := 581) (by decide +kernel)) rfl
theorem g_se_X5_isLand : Cond.selects (RN 5) yX5_isLand yX5_isLand ∈ GW := GW_of (List.mem_of_getElem? (i := 582) (by decide +kernel)) rfl
theorem g_ml_RX8_56 : Cond.methodLink RX8 56 yX5_isLand ∈ GW := GW_of (List.mem_of_getElem? (i := 580) (by decide +kernel)) rfl
theorem g_cw_X8_isTaken : Cond.code yX8_isTaken cX8_isTaken 6 (some .boolean) ∈ GW := GW_of (List.mem_of_getElem? (i := 587) (by decide +kernel)) rfl
theorem w_X8_isTaken : CWm yX8_isTaken cX8_isTaken 6 (some .boolean) 1 := ⟨g_cw_X8_isTaken, g_ini_GyreWatch, ⟨by decide +kernel, by decide +kernel, by decide +kernel⟩, by decide⟩
theorem g_in_X8_isTaken : Cond.instanceMethod yX8_isTaken ∈ GW := GW_of (List.mem_of_getElem? (i := 586) (by decide +kernel)) rfl
theorem g_se_X8_isTaken : Cond.selects (RN 8) yX8_isTaken yX8_isTaken ∈ GW := GW_of (List.mem_of_getElem? (i := 10) (by decide +kernel)) rfl
theorem g_ml_RX8_60 : Cond.methodLink RX8 60 yX8_isTaken ∈ GW := GW_of (List.mem_of_getElem? (i := 584) (by decide +kernel)) rfl
theorem g_cw_X5_makeLand : Cond.code yX5_makeLand cX5_makeLand 2 (some .int) ∈ GW := GW_of (List.mem_of_getElem? (i := 597) (by decide +kernel)) rfl
theorem w_X5_makeLand : CWm yX5_makeLand cX5_makeLand 2 (some .int) 1 := ⟨g_cw_X5_makeLand, g_ini_GyreWatch_Sea, ⟨by decide +kernel, by decide +kernel, by decide +kernel⟩, by decide⟩
theorem g_in_X5_makeLand : Cond.instanceMethod yX5_makeLand ∈ GW := GW_of (List.mem_of_getElem? (i := 595) (by decide +kernel)) rfl
theorem g_se_X5_makeLand : Cond.selects (RN 5) yX5_makeLand yX5_makeLand ∈ GW := GW_of (List.mem_of_getElem? (i := 596) (by decide +kernel)) rfl
theorem g_ml_RX8_70 : Cond.methodLink RX8 70 yX5_makeLand ∈ GW := GW_of (List.mem_of_getElem? (i := 594) (by decide +kernel)) rfl
theorem g_ata_RX8_288_284 : ∀ w ∈ (vx_atS RX8 288 (exN 2) XNm).filter goodWord, w ∈ lw_tbl := by decide +kernel
theorem g_atb_RX8_288_284 : ∀ w ∈ (vx_atS RX8 288 (exN 2) XNm).filter (fun w => !goodWord w), w ∈ Cond.castable (exN 2) (exN 2) :: NDL.map Cond.declares := by decide +kernel
theorem g_atc_RX8_288_284 : ∀ w ∈ Cond.classLink RX8 284 (exN 2) :: Cond.initialized (exN 2) :: vx_atS RX8 288 (exN 2) XNm, vx_ot w = true := by decide +kernel
theorem g_cl_RX8_284 : Cond.classLink RX8 284 (exN 2) ∈ GW := GW_of (List.mem_of_getElem? (i := 185) (by decide +kernel)) rfl
theorem g_ini_java_lang_IllegalArgumentException : Cond.initialized (exN 2) ∈ GW := GW_of (List.mem_of_getElem? (i := 26) (by decide +kernel)) rfl
theorem g_cw_X7_stationOf : Cond.code yX7_stationOf cX7_stationOf 2 (some .int) ∈ GW := GW_of (List.mem_of_getElem? (i := 612) (by decide +kernel)) rfl
theorem w_X7_stationOf : CWm yX7_stationOf cX7_stationOf 2 (some .int) 2 := ⟨g_cw_X7_stationOf, g_ini_GyreWatch_Ships, ⟨by decide +kernel, by decide +kernel, by decide +kernel⟩, by decide⟩
theorem g_ml_RX7_25 : Cond.methodLink RX7 25 yX7_stationOf ∈ GW := GW_of (List.mem_of_getElem? (i := 610) (by decide +kernel)) rfl
theorem g_st_X7_stationOf : Cond.static yX7_stationOf ∈ GW := GW_of (List.mem_of_getElem? (i := 611) (by decide +kernel)) rfl
theorem g_cw_X7_areAllStationsTold : Cond.code yX7_areAllStationsTold cX7_areAllStationsTold 1 (some .boolean) ∈ GW := GW_of (List.mem_of_getElem? (i := 616) (by decide +kernel)) rfl
theorem w_X7_areAllStationsTold : CWm yX7_areAllStationsTold cX7_areAllStationsTold 1 (some .boolean) 0 := ⟨g_cw_X7_areAllStationsTold, g_ini_GyreWatch_Ships, ⟨by decide +kernel, by decide +kernel, by decide +kernel⟩, by decide⟩
theorem g_in_X7_areAllStationsTold : Cond.instanceMethod yX7_areAllStationsTold ∈ GW := GW_of (List.mem_of_getElem? (i := 614) (by decide +kernel)) rfl
theorem g_se_X7_areAllStationsTold : Cond.selects (RN 7) yX7_areAllStationsTold yX7_areAllStationsTold ∈ GW := GW_of (List.mem_of_getElem? (i := 615) (by decide +kernel)) rfl
theorem g_ml_RX7_37 : Cond.methodLink RX7 37 yX7_areAllStationsTold ∈ GW := GW_of (List.mem_of_getElem? (i := 622) (by decide +kernel)) rfl
theorem g_cw_X8_needRange : Cond.code yX8_needRange cX8_needRange 3 none ∈ GW := GW_of (List.mem_of_getElem? (i := 184) (by decide +kernel)) rfl
theorem w_X8_needRange : CWm yX8_needRange cX8_needRange 3 none 3 := ⟨g_cw_X8_needRange, g_ini_GyreWatch, ⟨by decide +kernel, by decide +kernel, by decide +kernel⟩, by decide⟩
theorem g_ml_RX8_74 : Cond.methodLink RX8 74 yX8_needRange ∈ GW := GW_of (List.mem_of_getElem? (i := 182) (by decide +kernel)) rfl
theorem g_st_X8_needRange : Cond.static yX8_needRange ∈ GW := GW_of (List.mem_of_getElem? (i := 183) (by decide +kernel)) rfl
theorem g_cw_X7_hasStation : Cond.code yX7_hasStation cX7_hasStation 5 (some .boolean) ∈ GW := GW_of (List.mem_of_getElem? (i := 609) (by decide +kernel)) rfl
theorem w_X7_hasStation : CWm yX7_hasStation cX7_hasStation 5 (some .boolean) 2 := ⟨g_cw_X7_hasStation, g_ini_GyreWatch_Ships, ⟨by decide +kernel, by decide +kernel, by decide +kernel⟩, by decide⟩
theorem g_in_X7_hasStation : Cond.instanceMethod yX7_hasStation ∈ GW := GW_of (List.mem_of_getElem? (i := 607) (by decide +kernel)) rfl
theorem g_se_X7_hasStation : Cond.selects (RN 7) yX7_hasStation yX7_hasStation ∈ GW := GW_of (List.mem_of_getElem? (i := 608) (by decide +kernel)) rfl
theorem g_ml_RX8_102 : Cond.methodLink RX8 102 yX7_hasStation ∈ GW := GW_of (List.mem_of_getElem? (i := 606) (by decide +kernel)) rfl
theorem g_ml_RX8_105 : Cond.methodLink RX8 105 yX7_areAllStationsTold ∈ GW := GW_of (List.mem_of_getElem? (i := 613) (by decide +kernel)) rfl
theorem g_cw_X7_tellStation : Cond.code yX7_tellStation cX7_tellStation 5 (some .int) ∈ GW := GW_of (List.mem_of_getElem? (i := 621) (by decide +kernel)) rfl
theorem w_X7_tellStation : CWm yX7_tellStation cX7_tellStation 5 (some .int) 2 := ⟨g_cw_X7_tellStation, g_ini_GyreWatch_Ships, ⟨by decide +kernel, by decide +kernel, by decide +kernel⟩, by decide⟩
theorem g_in_X7_tellStation : Cond.instanceMethod yX7_tellStation ∈ GW := GW_of (List.mem_of_getElem? (i := 619) (by decide +kernel)) rfl
theorem g_se_X7_tellStation : Cond.selects (RN 7) yX7_tellStation yX7_tellStation ∈ GW := GW_of (List.mem_of_getElem? (i := 620) (by decide +kernel)) rfl
theorem g_ml_RX8_111 : Cond.methodLink RX8 111 yX7_tellStation ∈ GW := GW_of (List.mem_of_getElem? (i := 618) (by decide +kernel)) rfl
theorem g_fl_RX7_50 : Cond.fieldLink RX7 50 ((TN 7) 4).1 ((TN 7) 4).2.1 ((TN 7) 4).2.2.1 ∈ GW := GW_of (List.mem_of_getElem? (i := 132) (by decide +kernel)) rfl
theorem g_cw_X7_dayOf : Cond.code yX7_dayOf cX7_dayOf 1 (some .int) ∈ GW := GW_of (List.mem_of_getElem? (i := 402) (by decide +kernel)) rfl
theorem w_X7_dayOf : CWm yX7_dayOf cX7_dayOf 1 (some .int) 1 := ⟨g_cw_X7_dayOf, g_ini_GyreWatch_Ships, ⟨by decide +kernel, by decide +kernel, by decide +kernel⟩, by decide⟩
theorem g_ml_RX7_41 : Cond.methodLink RX7 41 yX7_dayOf ∈ GW := GW_of (List.mem_of_getElem? (i := 400) (by decide +kernel)) rfl
theorem g_st_X7_dayOf : Cond.static yX7_dayOf ∈ GW := GW_of (List.mem_of_getElem? (i := 401) (by decide +kernel)) rfl
theorem g_cw_X7_hasStorm : Cond.code yX7_hasStorm cX7_hasStorm 3 (some .boolean) ∈ GW := GW_of (List.mem_of_getElem? (i := 395) (by decide +kernel)) rfl
theorem w_X7_hasStorm : CWm yX7_hasStorm cX7_hasStorm 3 (some .boolean) 1 := ⟨g_cw_X7_hasStorm, g_ini_GyreWatch_Ships, ⟨by decide +kernel, by decide +kernel, by decide +kernel⟩, by decide⟩
theorem g_in_X7_hasStorm : Cond.instanceMethod yX7_hasStorm ∈ GW := GW_of (List.mem_of_getElem? (i := 393) (by decide +kernel)) rfl
theorem g_se_X7_hasStorm : Cond.selects (RN 7) yX7_hasStorm yX7_hasStorm ∈ GW := GW_of (List.mem_of_getElem? (i := 394) (by decide +kernel)) rfl
theorem g_ml_RX7_56 : Cond.methodLink RX7 56 yX7_hasStorm ∈ GW := GW_of (List.mem_of_getElem? (i := 636) (by decide +kernel)) rfl
theorem g_cw_X7_areAllStormsTold : Cond.code yX7_areAllStormsTold cX7_areAllStormsTold 1 (some .boolean) ∈ GW := GW_of (List.mem_of_getElem? (i := 630) (by decide +kernel)) rfl
theorem w_X7_areAllStormsTold : CWm yX7_areAllStormsTold cX7_areAllStormsTold 1 (some .boolean) 0 := ⟨g_cw_X7_areAllStormsTold, g_ini_GyreWatch_Ships, ⟨by decide +kernel, by decide +kernel, by decide +kernel⟩, by decide⟩
theorem g_in_X7_areAllStormsTold : Cond.instanceMethod yX7_areAllStormsTold ∈ GW := GW_of (List.mem_of_getElem? (i := 628) (by decide +kernel)) rfl
theorem g_se_X7_areAllStormsTold : Cond.selects (RN 7) yX7_areAllStormsTold yX7_areAllStormsTold ∈ GW := GW_of (List.mem_of_getElem? (i := 629) (by decide +kernel)) rfl
theorem g_ml_RX7_53 : Cond.methodLink RX7 53 yX7_areAllStormsTold ∈ GW := GW_of (List.mem_of_getElem? (i := 641) (by decide +kernel)) rfl
theorem g_ml_RX8_115 : Cond.methodLink RX8 115 yX7_areAllStormsTold ∈ GW := GW_of (List.mem_of_getElem? (i := 627) (by decide +kernel)) rfl
theorem g_cw_X7_calmStations : Cond.code yX7_calmStations cX7_calmStations 6 (some .int) ∈ GW := GW_of (List.mem_of_getElem? (i := 635) (by decide +kernel)) rfl
theorem w_X7_calmStations : CWm yX7_calmStations cX7_calmStations 6 (some .int) 2 := ⟨g_cw_X7_calmStations, g_ini_GyreWatch_Ships, ⟨by decide +kernel, by decide +kernel, by decide +kernel⟩, by decide⟩
theorem g_in_X7_calmStations : Cond.instanceMethod yX7_calmStations ∈ GW := GW_of (List.mem_of_getElem? (i := 633) (by decide +kernel)) rfl
theorem g_se_X7_calmStations : Cond.selects (RN 7) yX7_calmStations yX7_calmStations ∈ GW := GW_of (List.mem_of_getElem? (i := 634) (by decide +kernel)) rfl
theorem g_ml_RX8_120 : Cond.methodLink RX8 120 yX7_calmStations ∈ GW := GW_of (List.mem_of_getElem? (i := 632) (by decide +kernel)) rfl
theorem g_cw_X7_tellStorm : Cond.code yX7_tellStorm cX7_tellStorm 3 none ∈ GW := GW_of (List.mem_of_getElem? (i := 640) (by decide +kernel)) rfl
theorem w_X7_tellStorm : CWm yX7_tellStorm cX7_tellStorm 3 none 2 := ⟨g_cw_X7_tellStorm, g_ini_GyreWatch_Ships, ⟨by decide +kernel, by decide +kernel, by decide +kernel⟩, by decide⟩
theorem g_in_X7_tellStorm : Cond.instanceMethod yX7_tellStorm ∈ GW := GW_of (List.mem_of_getElem? (i := 638) (by decide +kernel)) rfl
theorem g_se_X7_tellStorm : Cond.selects (RN 7) yX7_tellStorm yX7_tellStorm ∈ GW := GW_of (List.mem_of_getElem? (i := 639) (by decide +kernel)) rfl
theorem g_ml_RX8_123 : Cond.methodLink RX8 123 yX7_tellStorm ∈ GW := GW_of (List.mem_of_getElem? (i := 637) (by decide +kernel)) rfl
theorem g_ml_RX8_93 : Cond.methodLink RX8 93 yX8_isIndex ∈ GW := GW_of (List.mem_of_getElem? (i := 501) (by decide +kernel)) rfl
theorem g_fl_RX4_15 : Cond.fieldLink RX4 15 ((TN 4) 0).1 ((TN 4) 0).2.1 ((TN 4) 0).2.2.1 ∈ GW := GW_of (List.mem_of_getElem? (i := 339) (by decide +kernel)) rfl
theorem g_ml_RX4_48 : Cond.methodLink RX4 48 Lib.Math.abs.name ∈ GW := GW_of (List.mem_of_getElem? (i := 654) (by decide +kernel)) rfl
theorem g_st_math_abs : Cond.static Lib.Math.abs.name ∈ GW := GW_of (List.mem_of_getElem? (i := 655) (by decide +kernel)) rfl
theorem g_ini_math : Cond.initialized "java/lang/Math" ∈ GW := GW_of (List.mem_of_getElem? (i := 27) (by decide +kernel)) rfl
theorem g_cw_math_abs : Cond.code Lib.Math.abs.name Lib.Math.abs.code 1 (some .int) ∈ GW := GW_of (List.mem_of_getElem? (i := 656) (by decide +kernel)) rfl
theorem g_fl_RX2_50 : Cond.fieldLink RX2 50 ((TN 4) 3).1 ((TN 4) 3).2.1 ((TN 4) 3).2.2.1 ∈ GW := GW_of (List.mem_of_getElem? (i := 348) (by decide +kernel)) rfl
theorem g_fl_RX2_54 : Cond.fieldLink RX2 54 ((TN 4) 1).1 ((TN 4) 1).2.1 ((TN 4) 1).2.2.1 ∈ GW := GW_of (List.mem_of_getElem? (i := 343) (by decide +kernel)) rfl
theorem g_fl_RX2_57 : Cond.fieldLink RX2 57 ((TN 4) 0).1 ((TN 4) 0).2.1 ((TN 4) 0).2.2.1 ∈ GW := GW_of (List.mem_of_getElem? (i := 340) (by decide +kernel)) rfl
theorem g_cw_X4_daysFrom : Cond.code yX4_daysFrom cX4_daysFrom 2 (some .int) ∈ GW := GW_of (List.mem_of_getElem? (i := 653) (by decide +kernel)) rfl
theorem g_ini_GyreWatch_Reading : Cond.initialized RX4 ∈ GW := GW_of (List.mem_of_getElem? (i := 31) (by decide +kernel)) rfl
theorem w_X4_daysFrom : CWm yX4_daysFrom cX4_daysFrom 2 (some .int) 1 := ⟨g_cw_X4_daysFrom, g_ini_GyreWatch_Reading, ⟨by decide +kernel, by decide +kernel, by decide +kernel⟩, by decide⟩
theorem g_in_X4_daysFrom : Cond.instanceMethod yX4_daysFrom ∈ GW := GW_of (List.mem_of_getElem? (i := 651) (by decide +kernel)) rfl
theorem g_se_X4_daysFrom : Cond.selects (RN 4) yX4_daysFrom yX4_daysFrom ∈ GW := GW_of (List.mem_of_getElem? (i := 652) (by decide +kernel)) rfl
theorem g_ml_RX2_60 : Cond.methodLink RX2 60 yX4_daysFrom ∈ GW := GW_of (List.mem_of_getElem? (i := 650) (by decide +kernel)) rfl
theorem g_cw_X8_buoyNumbered : Cond.code yX8_buoyNumbered cX8_buoyNumbered 3 (some (.object "GyreWatch$Buoy")) ∈ GW := GW_of (List.mem_of_getElem? (i := 500) (by decide +kernel)) rfl
theorem w_X8_buoyNumbered : CWm yX8_buoyNumbered cX8_buoyNumbered 3 (some (.object "GyreWatch$Buoy")) 1 := ⟨g_cw_X8_buoyNumbered, g_ini_GyreWatch, ⟨by decide +kernel, by decide +kernel, by decide +kernel⟩, by decide⟩
theorem g_in_X8_buoyNumbered : Cond.instanceMethod yX8_buoyNumbered ∈ GW := GW_of (List.mem_of_getElem? (i := 499) (by decide +kernel)) rfl
theorem g_se_X8_buoyNumbered : Cond.selects (RN 8) yX8_buoyNumbered yX8_buoyNumbered ∈ GW := GW_of (List.mem_of_getElem? (i := 6) (by decide +kernel)) rfl
theorem g_ml_RX8_127 : Cond.methodLink RX8 127 yX8_buoyNumbered ∈ GW := GW_of (List.mem_of_getElem? (i := 497) (by decide +kernel)) rfl
theorem g_fl_RX8_131 : Cond.fieldLink RX8 131 ((TN 0) 8).1 ((TN 0) 8).2.1 ((TN 0) 8).2.2.1 ∈ GW := GW_of (List.mem_of_getElem? (i := 706) (by decide +kernel)) rfl
theorem g_cw_X2_nearestOfShip : Cond.code yX2_nearestOfShip cX2_nearestOfShip 8 (some (.object "GyreWatch$Reading")) ∈ GW := GW_of (List.mem_of_getElem? (i := 649) (by decide +kernel)) rfl
theorem w_X2_nearestOfShip : CWm yX2_nearestOfShip cX2_nearestOfShip 8 (some (.object "GyreWatch$Reading")) 1 := ⟨g_cw_X2_nearestOfShip, g_ini_GyreWatch_Log, ⟨by decide +kernel, by decide +kernel, by decide +kernel⟩, by decide⟩
theorem g_in_X2_nearestOfShip : Cond.instanceMethod yX2_nearestOfShip ∈ GW := GW_of (List.mem_of_getElem? (i := 647) (by decide +kernel)) rfl
theorem g_se_X2_nearestOfShip : Cond.selects (RN 2) yX2_nearestOfShip yX2_nearestOfShip ∈ GW := GW_of (List.mem_of_getElem? (i := 648) (by decide +kernel)) rfl
theorem g_ml_RX8_135 : Cond.methodLink RX8 135 yX2_nearestOfShip ∈ GW := GW_of (List.mem_of_getElem? (i := 646) (by decide +kernel)) rfl
theorem g_fl_RX8_147 : Cond.fieldLink RX8 147 ((TN 4) 5).1 ((TN 4) 5).2.1 ((TN 4) 5).2.2.1 ∈ GW := GW_of (List.mem_of_getElem? (i := 354) (by decide +kernel)) rfl
theorem g_fl_RX8_139 : Cond.fieldLink RX8 139 ((TN 4) 2).1 ((TN 4) 2).2.1 ((TN 4) 2).2.2.1 ∈ GW := GW_of (List.mem_of_getElem? (i := 346) (by decide +kernel)) rfl
theorem g_fl_RX8_144 : Cond.fieldLink RX8 144 ((TN 0) 6).1 ((TN 0) 6).2.1 ((TN 0) 6).2.2.1 ∈ GW := GW_of (List.mem_of_getElem? (i := 702) (by decide +kernel)) rfl
theorem g_ml_RX6_3 : Cond.methodLink RX6 3 objectInit ∈ GW := GW_of (List.mem_of_getElem? (i := 666) (by decide +kernel)) rfl
theorem g_fl_RX6_9 : Cond.fieldLink RX6 9 ((TN 6) 1).1 ((TN 6) 1).2.1 ((TN 6) 1).2.2.1 ∈ GW := GW_of (List.mem_of_getElem? (i := 669) (by decide +kernel)) rfl
theorem g_fl_RX6_15 : Cond.fieldLink RX6 15 ((TN 6) 2).1 ((TN 6) 2).2.1 ((TN 6) 2).2.2.1 ∈ GW := GW_of (List.mem_of_getElem? (i := 671) (by decide +kernel)) rfl
theorem g_fl_RX6_18 : Cond.fieldLink RX6 18 ((TN 6) 0).1 ((TN 6) 0).2.1 ((TN 6) 0).2.2.1 ∈ GW := GW_of (List.mem_of_getElem? (i := 667) (by decide +kernel)) rfl
theorem g_fl_RX8_165 : Cond.fieldLink RX8 165 ((TN 8) 7).1 ((TN 8) 7).2.1 ((TN 8) 7).2.2.1 ∈ GW := GW_of (List.mem_of_getElem? (i := 155) (by decide +kernel)) rfl
theorem g_inst_6 : Cond.instantiable (RN 6) (nF 6) ∈ GW := GW_of (List.mem_of_getElem? (i := 384) (by decide +kernel)) rfl
theorem g_iniN_6 : Cond.initialized (RN 6) ∈ GW := GW_of (List.mem_of_getElem? (i := 28) (by decide +kernel)) rfl
theorem g_clN_RX8_36 : Cond.classLink RX8 36 (RN 6) ∈ GW := GW_of (List.mem_of_getElem? (i := 144) (by decide +kernel)) rfl
theorem g_cw_X6_init : Cond.code yX6_init cX6_init 2 none ∈ GW := GW_of (List.mem_of_getElem? (i := 665) (by decide +kernel)) rfl
theorem g_ini_GyreWatch_Search : Cond.initialized RX6 ∈ GW := GW_of (List.mem_of_getElem? (i := 28) (by decide +kernel)) rfl
theorem w_X6_init : CWm yX6_init cX6_init 2 none 1 := ⟨g_cw_X6_init, g_ini_GyreWatch_Search, ⟨by decide +kernel, by decide +kernel, by decide +kernel⟩, by decide⟩
theorem g_in_X6_init : Cond.instanceMethod yX6_init ∈ GW := GW_of (List.mem_of_getElem? (i := 664) (by decide +kernel)) rfl
theorem g_ml_RX8_170 : Cond.methodLink RX8 170 yX6_init ∈ GW := GW_of (List.mem_of_getElem? (i := 663) (by decide +kernel)) rfl
theorem g_ml_RX0_1 : Cond.methodLink RX0 1 objectInit ∈ GW := GW_of (List.mem_of_getElem? (i := 688) (by decide +kernel)) rfl
theorem g_fl_RX0_7 : Cond.fieldLink RX0 7 ((TN 0) 0).1 ((TN 0) 0).2.1 ((TN 0) 0).2.2.1 ∈ GW := GW_of (List.mem_of_getElem? (i := 689) (by decide +kernel)) rfl
theorem g_fl_RX0_13 : Cond.fieldLink RX0 13 ((TN 0) 3).1 ((TN 0) 3).2.1 ((TN 0) 3).2.2.1 ∈ GW := GW_of (List.mem_of_getElem? (i := 695) (by decide +kernel)) rfl
theorem g_fl_RX0_16 : Cond.fieldLink RX0 16 ((TN 0) 1).1 ((TN 0) 1).2.1 ((TN 0) 1).2.2.1 ∈ GW := GW_of (List.mem_of_getElem? (i := 691) (by decide +kernel)) rfl
theorem g_fl_RX0_19 : Cond.fieldLink RX0 19 ((TN 0) 4).1 ((TN 0) 4).2.1 ((TN 0) 4).2.2.1 ∈ GW := GW_of (List.mem_of_getElem? (i := 697) (by decide +kernel)) rfl
theorem g_fl_RX0_22 : Cond.fieldLink RX0 22 ((TN 0) 5).1 ((TN 0) 5).2.1 ((TN 0) 5).2.2.1 ∈ GW := GW_of (List.mem_of_getElem? (i := 699) (by decide +kernel)) rfl
theorem g_fl_RX0_25 : Cond.fieldLink RX0 25 ((TN 0) 2).1 ((TN 0) 2).2.1 ((TN 0) 2).2.2.1 ∈ GW := GW_of (List.mem_of_getElem? (i := 693) (by decide +kernel)) rfl
theorem g_fl_RX8_90 : Cond.fieldLink RX8 90 ((TN 8) 6).1 ((TN 8) 6).2.1 ((TN 8) 6).2.2.1 ∈ GW := GW_of (List.mem_of_getElem? (i := 154) (by decide +kernel)) rfl
theorem g_inst_0 : Cond.instantiable (RN 0) (nF 0) ∈ GW := GW_of (List.mem_of_getElem? (i := 684) (by decide +kernel)) rfl
theorem g_iniN_0 : Cond.initialized (RN 0) ∈ GW := GW_of (List.mem_of_getElem? (i := 29) (by decide +kernel)) rfl
theorem g_clN_RX8_16 : Cond.classLink RX8 16 (RN 0) ∈ GW := GW_of (List.mem_of_getElem? (i := 98) (by decide +kernel)) rfl
theorem g_cw_X0_init : Cond.code yX0_init cX0_init 6 none ∈ GW := GW_of (List.mem_of_getElem? (i := 687) (by decide +kernel)) rfl
theorem g_ini_GyreWatch_Buoy : Cond.initialized RX0 ∈ GW := GW_of (List.mem_of_getElem? (i := 29) (by decide +kernel)) rfl
theorem w_X0_init : CWm yX0_init cX0_init 6 none 5 := ⟨g_cw_X0_init, g_ini_GyreWatch_Buoy, ⟨by decide +kernel, by decide +kernel, by decide +kernel⟩, by decide⟩
theorem g_in_X0_init : Cond.instanceMethod yX0_init ∈ GW := GW_of (List.mem_of_getElem? (i := 686) (by decide +kernel)) rfl
theorem g_ml_RX8_99 : Cond.methodLink RX8 99 yX0_init ∈ GW := GW_of (List.mem_of_getElem? (i := 685) (by decide +kernel)) rfl
theorem g_fl_RX4_24 : Cond.fieldLink RX4 24 ((TN 4) 3).1 ((TN 4) 3).2.1 ((TN 4) 3).2.2.1 ∈ GW := GW_of (List.mem_of_getElem? (i := 347) (by decide +kernel)) rfl
theorem g_fl_RX4_21 : Cond.fieldLink RX4 21 ((TN 4) 2).1 ((TN 4) 2).2.1 ((TN 4) 2).2.2.1 ∈ GW := GW_of (List.mem_of_getElem? (i := 345) (by decide +kernel)) rfl
theorem g_fl_RX4_28 : Cond.fieldLink RX4 28 ((TN 0) 6).1 ((TN 0) 6).2.1 ((TN 0) 6).2.2.1 ∈ GW := GW_of (List.mem_of_getElem? (i := 701) (by decide +kernel)) rfl
theorem g_fl_RX4_37 : Cond.fieldLink RX4 37 ((TN 4) 5).1 ((TN 4) 5).2.1 ((TN 4) 5).2.2.1 ∈ GW := GW_of (List.mem_of_getElem? (i := 353) (by decide +kernel)) rfl
theorem g_fl_RX4_41 : Cond.fieldLink RX4 41 ((TN 4) 6).1 ((TN 4) 6).2.1 ((TN 4) 6).2.2.1 ∈ GW := GW_of (List.mem_of_getElem? (i := 356) (by decide +kernel)) rfl
theorem g_cw_X4_corrected : Cond.code yX4_corrected cX4_corrected 1 (some .int) ∈ GW := GW_of (List.mem_of_getElem? (i := 550) (by decide +kernel)) rfl
theorem w_X4_corrected : CWm yX4_corrected cX4_corrected 1 (some .int) 0 := ⟨g_cw_X4_corrected, g_ini_GyreWatch_Reading, ⟨by decide +kernel, by decide +kernel, by decide +kernel⟩, by decide⟩
theorem g_in_X4_corrected : Cond.instanceMethod yX4_corrected ∈ GW := GW_of (List.mem_of_getElem? (i := 548) (by decide +kernel)) rfl
theorem g_se_X4_corrected : Cond.selects (RN 4) yX4_corrected yX4_corrected ∈ GW := GW_of (List.mem_of_getElem? (i := 549) (by decide +kernel)) rfl
theorem g_ml_RX4_44 : Cond.methodLink RX4 44 yX4_corrected ∈ GW := GW_of (List.mem_of_getElem? (i := 559) (by decide +kernel)) rfl
theorem g_fl_RX4_9 : Cond.fieldLink RX4 9 ((TN 4) 4).1 ((TN 4) 4).2.1 ((TN 4) 4).2.2.1 ∈ GW := GW_of (List.mem_of_getElem? (i := 350) (by decide +kernel)) rfl
theorem g_cw_X4_isSpike : Cond.code yX4_isSpike cX4_isSpike 4 (some .boolean) ∈ GW := GW_of (List.mem_of_getElem? (i := 558) (by decide +kernel)) rfl
theorem w_X4_isSpike : CWm yX4_isSpike cX4_isSpike 4 (some .boolean) 1 := ⟨g_cw_X4_isSpike, g_ini_GyreWatch_Reading, ⟨by decide +kernel, by decide +kernel, by decide +kernel⟩, by decide⟩
theorem g_in_X4_isSpike : Cond.instanceMethod yX4_isSpike ∈ GW := GW_of (List.mem_of_getElem? (i := 557) (by decide +kernel)) rfl
theorem g_se_X4_isSpike : Cond.selects (RN 4) yX4_isSpike yX4_isSpike ∈ GW := GW_of (List.mem_of_getElem? (i := 9) (by decide +kernel)) rfl
theorem g_ml_RX4_33 : Cond.methodLink RX4 33 yX4_isSpike ∈ GW := GW_of (List.mem_of_getElem? (i := 555) (by decide +kernel)) rfl
theorem g_cw_X4_flagBy : Cond.code yX4_flagBy cX4_flagBy 2 (some .int) ∈ GW := GW_of (List.mem_of_getElem? (i := 554) (by decide +kernel)) rfl
theorem w_X4_flagBy : CWm yX4_flagBy cX4_flagBy 2 (some .int) 1 := ⟨g_cw_X4_flagBy, g_ini_GyreWatch_Reading, ⟨by decide +kernel, by decide +kernel, by decide +kernel⟩, by decide⟩
theorem g_in_X4_flagBy : Cond.instanceMethod yX4_flagBy ∈ GW := GW_of (List.mem_of_getElem? (i := 552) (by decide +kernel)) rfl
theorem g_se_X4_flagBy : Cond.selects (RN 4) yX4_flagBy yX4_flagBy ∈ GW := GW_of (List.mem_of_getElem? (i := 553) (by decide +kernel)) rfl
theorem g_ml_RX2_75 : Cond.methodLink RX2 75 yX4_flagBy ∈ GW := GW_of (List.mem_of_getElem? (i := 750) (by decide +kernel)) rfl
theorem g_fl_RX4_18 : Cond.fieldLink RX4 18 ((TN 4) 1).1 ((TN 4) 1).2.1 ((TN 4) 1).2.2.1 ∈ GW := GW_of (List.mem_of_getElem? (i := 342) (by decide +kernel)) rfl
theorem g_ml_RX4_54 : Cond.methodLink RX4 54 Lib.Math.max.name ∈ GW := GW_of (List.mem_of_getElem? (i := 755) (by decide +kernel)) rfl
theorem g_st_math_max : Cond.static Lib.Math.max.name ∈ GW := GW_of (List.mem_of_getElem? (i := 306) (by decide +kernel)) rfl
theorem g_cw_math_max : Cond.code Lib.Math.max.name Lib.Math.max.code 2 (some .int) ∈ GW := GW_of (List.mem_of_getElem? (i := 307) (by decide +kernel)) rfl
theorem g_cw_X2_isInSpan : Cond.code yX2_isInSpan cX2_isInSpan 4 (some .boolean) ∈ GW := GW_of (List.mem_of_getElem? (i := 749) (by decide +kernel)) rfl
theorem w_X2_isInSpan : CWm yX2_isInSpan cX2_isInSpan 4 (some .boolean) 3 := ⟨g_cw_X2_isInSpan, g_ini_GyreWatch_Log, ⟨by decide +kernel, by decide +kernel, by decide +kernel⟩, by decide⟩
theorem g_in_X2_isInSpan : Cond.instanceMethod yX2_isInSpan ∈ GW := GW_of (List.mem_of_getElem? (i := 748) (by decide +kernel)) rfl
theorem g_se_X2_isInSpan : Cond.selects (RN 2) yX2_isInSpan yX2_isInSpan ∈ GW := GW_of (List.mem_of_getElem? (i := 13) (by decide +kernel)) rfl
theorem g_ml_RX2_64 : Cond.methodLink RX2 64 yX2_isInSpan ∈ GW := GW_of (List.mem_of_getElem? (i := 746) (by decide +kernel)) rfl
theorem g_cw_X4_weightIn : Cond.code yX4_weightIn cX4_weightIn 3 (some .int) ∈ GW := GW_of (List.mem_of_getElem? (i := 754) (by decide +kernel)) rfl
theorem w_X4_weightIn : CWm yX4_weightIn cX4_weightIn 3 (some .int) 1 := ⟨g_cw_X4_weightIn, g_ini_GyreWatch_Reading, ⟨by decide +kernel, by decide +kernel, by decide +kernel⟩, by decide⟩
theorem g_in_X4_weightIn : Cond.instanceMethod yX4_weightIn ∈ GW := GW_of (List.mem_of_getElem? (i := 752) (by decide +kernel)) rfl
theorem g_se_X4_weightIn : Cond.selects (RN 4) yX4_weightIn yX4_weightIn ∈ GW := GW_of (List.mem_of_getElem? (i := 753) (by decide +kernel)) rfl
theorem g_ml_RX2_68 : Cond.methodLink RX2 68 yX4_weightIn ∈ GW := GW_of (List.mem_of_getElem? (i := 751) (by decide +kernel)) rfl
theorem g_ml_RX2_71 : Cond.methodLink RX2 71 yX4_corrected ∈ GW := GW_of (List.mem_of_getElem? (i := 761) (by decide +kernel)) rfl
theorem g_cw_X2_weightsWithout : Cond.code yX2_weightsWithout cX2_weightsWithout 10 (some .int) ∈ GW := GW_of (List.mem_of_getElem? (i := 745) (by decide +kernel)) rfl
theorem w_X2_weightsWithout : CWm yX2_weightsWithout cX2_weightsWithout 10 (some .int) 4 := ⟨g_cw_X2_weightsWithout, g_ini_GyreWatch_Log, ⟨by decide +kernel, by decide +kernel, by decide +kernel⟩, by decide⟩
theorem g_in_X2_weightsWithout : Cond.instanceMethod yX2_weightsWithout ∈ GW := GW_of (List.mem_of_getElem? (i := 743) (by decide +kernel)) rfl
theorem g_se_X2_weightsWithout : Cond.selects (RN 2) yX2_weightsWithout yX2_weightsWithout ∈ GW := GW_of (List.mem_of_getElem? (i := 744) (by decide +kernel)) rfl
theorem g_ml_RX8_258 : Cond.methodLink RX8 258 yX2_weightsWithout ∈ GW := GW_of (List.mem_of_getElem? (i := 742) (by decide +kernel)) rfl
theorem g_cw_X2_weighedValuesWithout : Cond.code yX2_weighedValuesWithout cX2_weighedValuesWithout 11 (some .long) ∈ GW := GW_of (List.mem_of_getElem? (i := 760) (by decide +kernel)) rfl
theorem w_X2_weighedValuesWithout : CWm yX2_weighedValuesWithout cX2_weighedValuesWithout 11 (some .long) 4 := ⟨g_cw_X2_weighedValuesWithout, g_ini_GyreWatch_Log, ⟨by decide +kernel, by decide +kernel, by decide +kernel⟩, by decide⟩
theorem g_in_X2_weighedValuesWithout : Cond.instanceMethod yX2_weighedValuesWithout ∈ GW := GW_of (List.mem_of_getElem? (i := 758) (by decide +kernel)) rfl
theorem g_se_X2_weighedValuesWithout : Cond.selects (RN 2) yX2_weighedValuesWithout yX2_weighedValuesWithout ∈ GW := GW_of (List.mem_of_getElem? (i := 759) (by decide +kernel)) rfl
theorem g_ml_RX8_309 : Cond.methodLink RX8 309 yX2_weighedValuesWithout ∈ GW := GW_of (List.mem_of_getElem? (i := 757) (by decide +kernel)) rfl
theorem g_cw_X8_needMap : Cond.code yX8_needMap cX8_needMap 3 none ∈ GW := GW_of (List.mem_of_getElem? (i := 732) (by decide +kernel)) rfl
theorem w_X8_needMap : CWm yX8_needMap cX8_needMap 3 none 3 := ⟨g_cw_X8_needMap, g_ini_GyreWatch, ⟨by decide +kernel, by decide +kernel, by decide +kernel⟩, by decide⟩
theorem g_ml_RX8_248 : Cond.methodLink RX8 248 yX8_needMap ∈ GW := GW_of (List.mem_of_getElem? (i := 730) (by decide +kernel)) rfl
theorem g_st_X8_needMap : Cond.static yX8_needMap ∈ GW := GW_of (List.mem_of_getElem? (i := 731) (by decide +kernel)) rfl
theorem g_cw_X8_needSea : Cond.code yX8_needSea cX8_needSea 2 none ∈ GW := GW_of (List.mem_of_getElem? (i := 736) (by decide +kernel)) rfl
theorem w_X8_needSea : CWm yX8_needSea cX8_needSea 2 none 1 := ⟨g_cw_X8_needSea, g_ini_GyreWatch, ⟨by decide +kernel, by decide +kernel, by decide +kernel⟩, by decide⟩
theorem g_in_X8_needSea : Cond.instanceMethod yX8_needSea ∈ GW := GW_of (List.mem_of_getElem? (i := 735) (by decide +kernel)) rfl
theorem g_se_X8_needSea : Cond.selects (RN 8) yX8_needSea yX8_needSea ∈ GW := GW_of (List.mem_of_getElem? (i := 11) (by decide +kernel)) rfl
theorem g_ml_RX8_251 : Cond.methodLink RX8 251 yX8_needSea ∈ GW := GW_of (List.mem_of_getElem? (i := 733) (by decide +kernel)) rfl
theorem g_cw_X8_meanWithout : Cond.code yX8_meanWithout cX8_meanWithout 6 (some .int) ∈ GW := GW_of (List.mem_of_getElem? (i := 741) (by decide +kernel)) rfl
theorem w_X8_meanWithout : CWm yX8_meanWithout cX8_meanWithout 6 (some .int) 4 := ⟨g_cw_X8_meanWithout, g_ini_GyreWatch, ⟨by decide +kernel, by decide +kernel, by decide +kernel⟩, by decide⟩
theorem g_in_X8_meanWithout : Cond.instanceMethod yX8_meanWithout ∈ GW := GW_of (List.mem_of_getElem? (i := 740) (by decide +kernel)) rfl
theorem g_se_X8_meanWithout : Cond.selects (RN 8) yX8_meanWithout yX8_meanWithout ∈ GW := GW_of (List.mem_of_getElem? (i := 12) (by decide +kernel)) rfl
theorem g_ml_RX8_254 : Cond.methodLink RX8 254 yX8_meanWithout ∈ GW := GW_of (List.mem_of_getElem? (i := 738) (by decide +kernel)) rfl
theorem g_fl_RX8_293 : Cond.fieldLink RX8 293 ((TN 2) 0).1 ((TN 2) 0).2.1 ((TN 2) 0).2.2.1 ∈ GW := GW_of (List.mem_of_getElem? (i := 109) (by decide +kernel)) rfl
theorem g_cw_X8_readingNumbered : Cond.code yX8_readingNumbered cX8_readingNumbered 3 (some (.object "GyreWatch$Reading")) ∈ GW := GW_of (List.mem_of_getElem? (i := 545) (by decide +kernel)) rfl
theorem w_X8_readingNumbered : CWm yX8_readingNumbered cX8_readingNumbered 3 (some (.object "GyreWatch$Reading")) 1 := ⟨g_cw_X8_readingNumbered, g_ini_GyreWatch, ⟨by decide +kernel, by decide +kernel, by decide +kernel⟩, by decide⟩
theorem g_in_X8_readingNumbered : Cond.instanceMethod yX8_readingNumbered ∈ GW := GW_of (List.mem_of_getElem? (i := 544) (by decide +kernel)) rfl
theorem g_se_X8_readingNumbered : Cond.selects (RN 8) yX8_readingNumbered yX8_readingNumbered ∈ GW := GW_of (List.mem_of_getElem? (i := 8) (by decide +kernel)) rfl
theorem g_ml_RX8_152 : Cond.methodLink RX8 152 yX8_readingNumbered ∈ GW := GW_of (List.mem_of_getElem? (i := 542) (by decide +kernel)) rfl
theorem g_ml_RX8_237 : Cond.methodLink RX8 237 yX4_corrected ∈ GW := GW_of (List.mem_of_getElem? (i := 547) (by decide +kernel)) rfl
theorem g_fl_RX8_236 : Cond.fieldLink RX8 236 ((TN 4) 1).1 ((TN 4) 1).2.1 ((TN 4) 1).2.2.1 ∈ GW := GW_of (List.mem_of_getElem? (i := 344) (by decide +kernel)) rfl
theorem g_fl_RX8_233 : Cond.fieldLink RX8 233 ((TN 4) 0).1 ((TN 4) 0).2.1 ((TN 4) 0).2.2.1 ∈ GW := GW_of (List.mem_of_getElem? (i := 341) (by decide +kernel)) rfl
theorem g_cw_X8_residual : Cond.code yX8_residual cX8_residual 4 (some .int) ∈ GW := GW_of (List.mem_of_getElem? (i := 769) (by decide +kernel)) rfl
theorem w_X8_residual : CWm yX8_residual cX8_residual 4 (some .int) 2 := ⟨g_cw_X8_residual, g_ini_GyreWatch, ⟨by decide +kernel, by decide +kernel, by decide +kernel⟩, by decide⟩
theorem g_in_X8_residual : Cond.instanceMethod yX8_residual ∈ GW := GW_of (List.mem_of_getElem? (i := 767) (by decide +kernel)) rfl
theorem g_se_X8_residual : Cond.selects (RN 8) yX8_residual yX8_residual ∈ GW := GW_of (List.mem_of_getElem? (i := 768) (by decide +kernel)) rfl
theorem g_ml_RL_45 : Cond.methodLink RL 45 yX8_residual ∈ GW := GW_of (List.mem_of_getElem? (i := 766) (by decide +kernel)) rfl
theorem g_co_RL_50 : Cond.constant RL 50 (-2000000003 : Int32) ∈ GW := GW_of (List.mem_of_getElem? (i := 770) (by decide +kernel)) rfl
theorem g_cl_RL_48 : Cond.classLink RL 48 (exN 3) ∈ GW := GW_of (List.mem_of_getElem? (i := 575) (by decide +kernel)) rfl
theorem g_cw_X8_error : Cond.code yX8_error cX8_error 5 (some .int) ∈ GW := GW_of (List.mem_of_getElem? (i := 765) (by decide +kernel)) rfl
theorem w_X8_error : CWm yX8_error cX8_error 5 (some .int) 3 := ⟨g_cw_X8_error, g_ini_GyreWatch, ⟨by decide +kernel, by decide +kernel, by decide +kernel⟩, by decide⟩
theorem g_in_X8_error : Cond.instanceMethod yX8_error ∈ GW := GW_of (List.mem_of_getElem? (i := 763) (by decide +kernel)) rfl
theorem g_se_X8_error : Cond.selects (RN 8) yX8_error yX8_error ∈ GW := GW_of (List.mem_of_getElem? (i := 764) (by decide +kernel)) rfl
theorem g_ml_RL_42 : Cond.methodLink RL 42 yX8_error ∈ GW := GW_of (List.mem_of_getElem? (i := 762) (by decide +kernel)) rfl
theorem g_cw_X8_mean : Cond.code yX8_mean cX8_mean 4 (some .int) ∈ GW := GW_of (List.mem_of_getElem? (i := 729) (by decide +kernel)) rfl
theorem w_X8_mean : CWm yX8_mean cX8_mean 4 (some .int) 3 := ⟨g_cw_X8_mean, g_ini_GyreWatch, ⟨by decide +kernel, by decide +kernel, by decide +kernel⟩, by decide⟩
theorem g_in_X8_mean : Cond.instanceMethod yX8_mean ∈ GW := GW_of (List.mem_of_getElem? (i := 727) (by decide +kernel)) rfl
theorem g_se_X8_mean : Cond.selects (RN 8) yX8_mean yX8_mean ∈ GW := GW_of (List.mem_of_getElem? (i := 728) (by decide +kernel)) rfl
theorem g_ml_RL_38 : Cond.methodLink RL 38 yX8_mean ∈ GW := GW_of (List.mem_of_getElem? (i := 726) (by decide +kernel)) rfl
theorem g_cw_L_low : Cond.code yL_low cL_low 2 (some .int) ∈ GW := GW_of (List.mem_of_getElem? (i := 420) (by decide +kernel)) rfl
theorem g_ini_GyreWatchLaw : Cond.initialized RL ∈ GW := GW_of (List.mem_of_getElem? (i := 14) (by decide +kernel)) rfl
theorem w_L_low : CWm yL_low cL_low 2 (some .int) 2 := ⟨g_cw_L_low, g_ini_GyreWatchLaw, ⟨by decide +kernel, by decide +kernel, by decide +kernel⟩, by decide⟩
theorem g_ml_RL_29 : Cond.methodLink RL 29 yL_low ∈ GW := GW_of (List.mem_of_getElem? (i := 418) (by decide +kernel)) rfl
theorem g_st_L_low : Cond.static yL_low ∈ GW := GW_of (List.mem_of_getElem? (i := 419) (by decide +kernel)) rfl
theorem g_cw_X8_lay : Cond.code yX8_lay cX8_lay 6 (some .int) ∈ GW := GW_of (List.mem_of_getElem? (i := 682) (by decide +kernel)) rfl
theorem w_X8_lay : CWm yX8_lay cX8_lay 6 (some .int) 4 := ⟨g_cw_X8_lay, g_ini_GyreWatch, ⟨by decide +kernel, by decide +kernel, by decide +kernel⟩, by decide⟩
theorem g_in_X8_lay : Cond.instanceMethod yX8_lay ∈ GW := GW_of (List.mem_of_getElem? (i := 680) (by decide +kernel)) rfl
theorem g_se_X8_lay : Cond.selects (RN 8) yX8_lay yX8_lay ∈ GW := GW_of (List.mem_of_getElem? (i := 681) (by decide +kernel)) rfl
theorem g_ml_RL_34 : Cond.methodLink RL 34 yX8_lay ∈ GW := GW_of (List.mem_of_getElem? (i := 679) (by decide +kernel)) rfl
theorem g_cw_X8_search : Cond.code yX8_search cX8_search 3 (some .int) ∈ GW := GW_of (List.mem_of_getElem? (i := 661) (by decide +kernel)) rfl
theorem w_X8_search : CWm yX8_search cX8_search 3 (some .int) 1 := ⟨g_cw_X8_search, g_ini_GyreWatch, ⟨by decide +kernel, by decide +kernel, by decide +kernel⟩, by decide⟩
theorem g_in_X8_search : Cond.instanceMethod yX8_search ∈ GW := GW_of (List.mem_of_getElem? (i := 659) (by decide +kernel)) rfl
theorem g_se_X8_search : Cond.selects (RN 8) yX8_search yX8_search ∈ GW := GW_of (List.mem_of_getElem? (i := 660) (by decide +kernel)) rfl
theorem g_ml_RL_26 : Cond.methodLink RL 26 yX8_search ∈ GW := GW_of (List.mem_of_getElem? (i := 658) (by decide +kernel)) rfl
theorem g_cw_X8_calibrate : Cond.code yX8_calibrate cX8_calibrate 5 (some .int) ∈ GW := GW_of (List.mem_of_getElem? (i := 645) (by decide +kernel)) rfl
theorem w_X8_calibrate : CWm yX8_calibrate cX8_calibrate 5 (some .int) 1 := ⟨g_cw_X8_calibrate, g_ini_GyreWatch, ⟨by decide +kernel, by decide +kernel, by decide +kernel⟩, by decide⟩
theorem g_in_X8_calibrate : Cond.instanceMethod yX8_calibrate ∈ GW := GW_of (List.mem_of_getElem? (i := 643) (by decide +kernel)) rfl
theorem g_se_X8_calibrate : Cond.selects (RN 8) yX8_calibrate yX8_calibrate ∈ GW := GW_of (List.mem_of_getElem? (i := 644) (by decide +kernel)) rfl
theorem g_ml_RL_23 : Cond.methodLink RL 23 yX8_calibrate ∈ GW := GW_of (List.mem_of_getElem? (i := 642) (by decide +kernel)) rfl
theorem g_cw_X8_storm : Cond.code yX8_storm cX8_storm 4 (some .int) ∈ GW := GW_of (List.mem_of_getElem? (i := 626) (by decide +kernel)) rfl
theorem w_X8_storm : CWm yX8_storm cX8_storm 4 (some .int) 2 := ⟨g_cw_X8_storm, g_ini_GyreWatch, ⟨by decide +kernel, by decide +kernel, by decide +kernel⟩, by decide⟩
theorem g_in_X8_storm : Cond.instanceMethod yX8_storm ∈ GW := GW_of (List.mem_of_getElem? (i := 624) (by decide +kernel)) rfl
theorem g_se_X8_storm : Cond.selects (RN 8) yX8_storm yX8_storm ∈ GW := GW_of (List.mem_of_getElem? (i := 625) (by decide +kernel)) rfl
theorem g_ml_RL_20 : Cond.methodLink RL 20 yX8_storm ∈ GW := GW_of (List.mem_of_getElem? (i := 623) (by decide +kernel)) rfl
theorem g_cw_X8_station : Cond.code yX8_station cX8_station 3 (some .int) ∈ GW := GW_of (List.mem_of_getElem? (i := 605) (by decide +kernel)) rfl
theorem w_X8_station : CWm yX8_station cX8_station 3 (some .int) 2 := ⟨g_cw_X8_station, g_ini_GyreWatch, ⟨by decide +kernel, by decide +kernel, by decide +kernel⟩, by decide⟩
theorem g_in_X8_station : Cond.instanceMethod yX8_station ∈ GW := GW_of (List.mem_of_getElem? (i := 603) (by decide +kernel)) rfl
theorem g_se_X8_station : Cond.selects (RN 8) yX8_station yX8_station ∈ GW := GW_of (List.mem_of_getElem? (i := 604) (by decide +kernel)) rfl
theorem g_ml_RL_16 : Cond.methodLink RL 16 yX8_station ∈ GW := GW_of (List.mem_of_getElem? (i := 602) (by decide +kernel)) rfl
theorem g_cw_X8_land : Cond.code yX8_land cX8_land 2 (some .int) ∈ GW := GW_of (List.mem_of_getElem? (i := 579) (by decide +kernel)) rfl
theorem w_X8_land : CWm yX8_land cX8_land 2 (some .int) 1 := ⟨g_cw_X8_land, g_ini_GyreWatch, ⟨by decide +kernel, by decide +kernel, by decide +kernel⟩, by decide⟩
theorem g_in_X8_land : Cond.instanceMethod yX8_land ∈ GW := GW_of (List.mem_of_getElem? (i := 577) (by decide +kernel)) rfl
theorem g_se_X8_land : Cond.selects (RN 8) yX8_land yX8_land ∈ GW := GW_of (List.mem_of_getElem? (i := 578) (by decide +kernel)) rfl
theorem g_ml_RL_10 : Cond.methodLink RL 10 yX8_land ∈ GW := GW_of (List.mem_of_getElem? (i := 576) (by decide +kernel)) rfl
theorem g_fl_RX8_78 : Cond.fieldLink RX8 78 ((TN 5) 2).1 ((TN 5) 2).2.1 ((TN 5) 2).2.2.1 ∈ GW := GW_of (List.mem_of_getElem? (i := 72) (by decide +kernel)) rfl
theorem g_fl_RX8_82 : Cond.fieldLink RX8 82 ((TN 5) 3).1 ((TN 5) 3).2.1 ((TN 5) 3).2.2.1 ∈ GW := GW_of (List.mem_of_getElem? (i := 74) (by decide +kernel)) rfl
theorem g_cw_X8_searchNumbered : Cond.code yX8_searchNumbered cX8_searchNumbered 3 (some (.object "GyreWatch$Search")) ∈ GW := GW_of (List.mem_of_getElem? (i := 516) (by decide +kernel)) rfl
theorem w_X8_searchNumbered : CWm yX8_searchNumbered cX8_searchNumbered 3 (some (.object "GyreWatch$Search")) 1 := ⟨g_cw_X8_searchNumbered, g_ini_GyreWatch, ⟨by decide +kernel, by decide +kernel, by decide +kernel⟩, by decide⟩
theorem g_in_X8_searchNumbered : Cond.instanceMethod yX8_searchNumbered ∈ GW := GW_of (List.mem_of_getElem? (i := 515) (by decide +kernel)) rfl
theorem g_se_X8_searchNumbered : Cond.selects (RN 8) yX8_searchNumbered yX8_searchNumbered ∈ GW := GW_of (List.mem_of_getElem? (i := 7) (by decide +kernel)) rfl
theorem g_ml_RX8_172 : Cond.methodLink RX8 172 yX8_searchNumbered ∈ GW := GW_of (List.mem_of_getElem? (i := 513) (by decide +kernel)) rfl
theorem g_fl_RX8_176 : Cond.fieldLink RX8 176 ((TN 6) 1).1 ((TN 6) 1).2.1 ((TN 6) 1).2.2.1 ∈ GW := GW_of (List.mem_of_getElem? (i := 670) (by decide +kernel)) rfl
theorem g_cw_X6_lookAt : Cond.code yX6_lookAt cX6_lookAt 4 (some .int) ∈ GW := GW_of (List.mem_of_getElem? (i := 532) (by decide +kernel)) rfl
theorem w_X6_lookAt : CWm yX6_lookAt cX6_lookAt 4 (some .int) 3 := ⟨g_cw_X6_lookAt, g_ini_GyreWatch_Search, ⟨by decide +kernel, by decide +kernel, by decide +kernel⟩, by decide⟩
theorem g_ml_RX8_179 : Cond.methodLink RX8 179 yX6_lookAt ∈ GW := GW_of (List.mem_of_getElem? (i := 786) (by decide +kernel)) rfl
theorem g_st_X6_lookAt : Cond.static yX6_lookAt ∈ GW := GW_of (List.mem_of_getElem? (i := 531) (by decide +kernel)) rfl
theorem g_fl_RX8_156 : Cond.fieldLink RX8 156 ((TN 2) 2).1 ((TN 2) 2).2.1 ((TN 2) 2).2.2.1 ∈ GW := GW_of (List.mem_of_getElem? (i := 113) (by decide +kernel)) rfl
theorem g_cw_L_apart : Cond.code yL_apart cL_apart 2 (some .int) ∈ GW := GW_of (List.mem_of_getElem? (i := 571) (by decide +kernel)) rfl
theorem w_L_apart : CWm yL_apart cL_apart 2 (some .int) 2 := ⟨g_cw_L_apart, g_ini_GyreWatchLaw, ⟨by decide +kernel, by decide +kernel, by decide +kernel⟩, by decide⟩
theorem g_ml_RL_78 : Cond.methodLink RL 78 yL_apart ∈ GW := GW_of (List.mem_of_getElem? (i := 569) (by decide +kernel)) rfl
theorem g_st_L_apart : Cond.static yL_apart ∈ GW := GW_of (List.mem_of_getElem? (i := 570) (by decide +kernel)) rfl
theorem g_ml_RX8_159 : Cond.methodLink RX8 159 yX4_flagBy ∈ GW := GW_of (List.mem_of_getElem? (i := 551) (by decide +kernel)) rfl
theorem g_fl_RX8_162 : Cond.fieldLink RX8 162 ((TN 4) 4).1 ((TN 4) 4).2.1 ((TN 4) 4).2.2.1 ∈ GW := GW_of (List.mem_of_getElem? (i := 351) (by decide +kernel)) rfl
theorem g_cw_L_flag : Cond.code yL_flag cL_flag 8 (some .int) ∈ GW := GW_of (List.mem_of_getElem? (i := 565) (by decide +kernel)) rfl
theorem w_L_flag : CWm yL_flag cL_flag 8 (some .int) 4 := ⟨g_cw_L_flag, g_ini_GyreWatchLaw, ⟨by decide +kernel, by decide +kernel, by decide +kernel⟩, by decide⟩
theorem g_ml_RL_81 : Cond.methodLink RL 81 yL_flag ∈ GW := GW_of (List.mem_of_getElem? (i := 563) (by decide +kernel)) rfl
theorem g_st_L_flag : Cond.static yL_flag ∈ GW := GW_of (List.mem_of_getElem? (i := 564) (by decide +kernel)) rfl
theorem g_cw_X8_flag : Cond.code yX8_flag cX8_flag 5 (some .int) ∈ GW := GW_of (List.mem_of_getElem? (i := 797) (by decide +kernel)) rfl
theorem w_X8_flag : CWm yX8_flag cX8_flag 5 (some .int) 2 := ⟨g_cw_X8_flag, g_ini_GyreWatch, ⟨by decide +kernel, by decide +kernel, by decide +kernel⟩, by decide⟩
theorem g_in_X8_flag : Cond.instanceMethod yX8_flag ∈ GW := GW_of (List.mem_of_getElem? (i := 795) (by decide +kernel)) rfl
theorem g_se_X8_flag : Cond.selects (RN 8) yX8_flag yX8_flag ∈ GW := GW_of (List.mem_of_getElem? (i := 796) (by decide +kernel)) rfl
theorem g_ml_RL_150 : Cond.methodLink RL 150 yX8_flag ∈ GW := GW_of (List.mem_of_getElem? (i := 794) (by decide +kernel)) rfl
theorem g_cw_L_calibrated : Cond.code yL_calibrated cL_calibrated 8 (some .int) ∈ GW := GW_of (List.mem_of_getElem? (i := 793) (by decide +kernel)) rfl
theorem w_L_calibrated : CWm yL_calibrated cL_calibrated 8 (some .int) 5 := ⟨g_cw_L_calibrated, g_ini_GyreWatchLaw, ⟨by decide +kernel, by decide +kernel, by decide +kernel⟩, by decide⟩
theorem g_ml_RL_146 : Cond.methodLink RL 146 yL_calibrated ∈ GW := GW_of (List.mem_of_getElem? (i := 791) (by decide +kernel)) rfl
theorem g_st_L_calibrated : Cond.static yL_calibrated ∈ GW := GW_of (List.mem_of_getElem? (i := 792) (by decide +kernel)) rfl
theorem g_cw_L_best : Cond.code yL_best cL_best 3 (some .int) ∈ GW := GW_of (List.mem_of_getElem? (i := 508) (by decide +kernel)) rfl
theorem w_L_best : CWm yL_best cL_best 3 (some .int) 1 := ⟨g_cw_L_best, g_ini_GyreWatchLaw, ⟨by decide +kernel, by decide +kernel, by decide +kernel⟩, by decide⟩
theorem g_ml_RL_88 : Cond.methodLink RL 88 yL_best ∈ GW := GW_of (List.mem_of_getElem? (i := 506) (by decide +kernel)) rfl
theorem g_st_L_best : Cond.static yL_best ∈ GW := GW_of (List.mem_of_getElem? (i := 507) (by decide +kernel)) rfl
theorem g_cw_L_calls : Cond.codeWith yL_calls cL_calls 6 (some .int) [(0, 141, 142, 48)] ∈ GW := GW_of (List.mem_of_getElem? (i := 574) (by decide +kernel)) rfl
theorem w_L_calls : CWw yL_calls cL_calls 6 (some .int) [(0, 141, 142, 48)] 5 := ⟨g_cw_L_calls, g_ini_GyreWatchLaw, ⟨by decide +kernel, by decide +kernel, by decide +kernel⟩, by decide⟩
theorem g_ml_RL_130 : Cond.methodLink RL 130 yL_calls ∈ GW := GW_of (List.mem_of_getElem? (i := 572) (by decide +kernel)) rfl
theorem g_st_L_calls : Cond.static yL_calls ∈ GW := GW_of (List.mem_of_getElem? (i := 573) (by decide +kernel)) rfl
theorem g_cw_X8_sun : Cond.code yX8_sun cX8_sun 4 (some .int) ∈ GW := GW_of (List.mem_of_getElem? (i := 781) (by decide +kernel)) rfl
theorem w_X8_sun : CWm yX8_sun cX8_sun 4 (some .int) 2 := ⟨g_cw_X8_sun, g_ini_GyreWatch, ⟨by decide +kernel, by decide +kernel, by decide +kernel⟩, by decide⟩
theorem g_in_X8_sun : Cond.instanceMethod yX8_sun ∈ GW := GW_of (List.mem_of_getElem? (i := 779) (by decide +kernel)) rfl
theorem g_se_X8_sun : Cond.selects (RN 8) yX8_sun yX8_sun ∈ GW := GW_of (List.mem_of_getElem? (i := 780) (by decide +kernel)) rfl
theorem g_ml_RL_137 : Cond.methodLink RL 137 yX8_sun ∈ GW := GW_of (List.mem_of_getElem? (i := 778) (by decide +kernel)) rfl
theorem g_cw_X8_current : Cond.code yX8_current cX8_current 4 (some .int) ∈ GW := GW_of (List.mem_of_getElem? (i := 777) (by decide +kernel)) rfl
theorem w_X8_current : CWm yX8_current cX8_current 4 (some .int) 2 := ⟨g_cw_X8_current, g_ini_GyreWatch, ⟨by decide +kernel, by decide +kernel, by decide +kernel⟩, by decide⟩
theorem g_in_X8_current : Cond.instanceMethod yX8_current ∈ GW := GW_of (List.mem_of_getElem? (i := 775) (by decide +kernel)) rfl
theorem g_se_X8_current : Cond.selects (RN 8) yX8_current yX8_current ∈ GW := GW_of (List.mem_of_getElem? (i := 776) (by decide +kernel)) rfl
theorem g_ml_RL_134 : Cond.methodLink RL 134 yX8_current ∈ GW := GW_of (List.mem_of_getElem? (i := 774) (by decide +kernel)) rfl
theorem g_cw_L_isStorm : Cond.code yL_isStorm cL_isStorm 5 (some .boolean) ∈ GW := GW_of (List.mem_of_getElem? (i := 445) (by decide +kernel)) rfl
theorem w_L_isStorm : CWm yL_isStorm cL_isStorm 5 (some .boolean) 3 := ⟨g_cw_L_isStorm, g_ini_GyreWatchLaw, ⟨by decide +kernel, by decide +kernel, by decide +kernel⟩, by decide⟩
theorem g_ml_RL_74 : Cond.methodLink RL 74 yL_isStorm ∈ GW := GW_of (List.mem_of_getElem? (i := 443) (by decide +kernel)) rfl
theorem g_st_L_isStorm : Cond.static yL_isStorm ∈ GW := GW_of (List.mem_of_getElem? (i := 444) (by decide +kernel)) rfl
theorem g_cw_X8_leg : Cond.code yX8_leg cX8_leg 5 (some .int) ∈ GW := GW_of (List.mem_of_getElem? (i := 785) (by decide +kernel)) rfl
theorem w_X8_leg : CWm yX8_leg cX8_leg 5 (some .int) 3 := ⟨g_cw_X8_leg, g_ini_GyreWatch, ⟨by decide +kernel, by decide +kernel, by decide +kernel⟩, by decide⟩
theorem g_in_X8_leg : Cond.instanceMethod yX8_leg ∈ GW := GW_of (List.mem_of_getElem? (i := 783) (by decide +kernel)) rfl
theorem g_se_X8_leg : Cond.selects (RN 8) yX8_leg yX8_leg ∈ GW := GW_of (List.mem_of_getElem? (i := 784) (by decide +kernel)) rfl
theorem g_ml_RL_140 : Cond.methodLink RL 140 yX8_leg ∈ GW := GW_of (List.mem_of_getElem? (i := 782) (by decide +kernel)) rfl
theorem g_cw_X8_bound : Cond.code yX8_bound cX8_bound 3 (some .int) ∈ GW := GW_of (List.mem_of_getElem? (i := 790) (by decide +kernel)) rfl
theorem w_X8_bound : CWm yX8_bound cX8_bound 3 (some .int) 1 := ⟨g_cw_X8_bound, g_ini_GyreWatch, ⟨by decide +kernel, by decide +kernel, by decide +kernel⟩, by decide⟩
theorem g_in_X8_bound : Cond.instanceMethod yX8_bound ∈ GW := GW_of (List.mem_of_getElem? (i := 788) (by decide +kernel)) rfl
theorem g_se_X8_bound : Cond.selects (RN 8) yX8_bound yX8_bound ∈ GW := GW_of (List.mem_of_getElem? (i := 789) (by decide +kernel)) rfl
theorem g_ml_RL_143 : Cond.methodLink RL 143 yX8_bound ∈ GW := GW_of (List.mem_of_getElem? (i := 787) (by decide +kernel)) rfl
theorem g_cw_L_way : Cond.code yL_way cL_way 7 (some .int) ∈ GW := GW_of (List.mem_of_getElem? (i := 433) (by decide +kernel)) rfl
theorem w_L_way : CWm yL_way cL_way 7 (some .int) 3 := ⟨g_cw_L_way, g_ini_GyreWatchLaw, ⟨by decide +kernel, by decide +kernel, by decide +kernel⟩, by decide⟩
theorem g_ml_RL_51 : Cond.methodLink RL 51 yL_way ∈ GW := GW_of (List.mem_of_getElem? (i := 431) (by decide +kernel)) rfl
theorem g_st_L_way : Cond.static yL_way ∈ GW := GW_of (List.mem_of_getElem? (i := 432) (by decide +kernel)) rfl
theorem g_cw_L_leads : Cond.code yL_leads cL_leads 2 (some .int) ∈ GW := GW_of (List.mem_of_getElem? (i := 430) (by decide +kernel)) rfl
theorem w_L_leads : CWm yL_leads cL_leads 2 (some .int) 2 := ⟨g_cw_L_leads, g_ini_GyreWatchLaw, ⟨by decide +kernel, by decide +kernel, by decide +kernel⟩, by decide⟩
theorem g_ml_RL_55 : Cond.methodLink RL 55 yL_leads ∈ GW := GW_of (List.mem_of_getElem? (i := 428) (by decide +kernel)) rfl
theorem g_st_L_leads : Cond.static yL_leads ∈ GW := GW_of (List.mem_of_getElem? (i := 429) (by decide +kernel)) rfl
theorem g_cw_L_copies : Cond.code yL_copies cL_copies 3 none ∈ GW := GW_of (List.mem_of_getElem? (i := 436) (by decide +kernel)) rfl
theorem w_L_copies : CWm yL_copies cL_copies 3 none 2 := ⟨g_cw_L_copies, g_ini_GyreWatchLaw, ⟨by decide +kernel, by decide +kernel, by decide +kernel⟩, by decide⟩
theorem g_ml_RL_63 : Cond.methodLink RL 63 yL_copies ∈ GW := GW_of (List.mem_of_getElem? (i := 434) (by decide +kernel)) rfl
theorem g_st_L_copies : Cond.static yL_copies ∈ GW := GW_of (List.mem_of_getElem? (i := 435) (by decide +kernel)) rfl
theorem g_cw_L_flowed : Cond.code yL_flowed cL_flowed 6 (some .int) ∈ GW := GW_of (List.mem_of_getElem? (i := 427) (by decide +kernel)) rfl
theorem w_L_flowed : CWm yL_flowed cL_flowed 6 (some .int) 3 := ⟨g_cw_L_flowed, g_ini_GyreWatchLaw, ⟨by decide +kernel, by decide +kernel, by decide +kernel⟩, by decide⟩
theorem g_ml_RL_59 : Cond.methodLink RL 59 yL_flowed ∈ GW := GW_of (List.mem_of_getElem? (i := 425) (by decide +kernel)) rfl
theorem g_st_L_flowed : Cond.static yL_flowed ∈ GW := GW_of (List.mem_of_getElem? (i := 426) (by decide +kernel)) rfl
theorem g_cw_L_reads : Cond.code yL_reads cL_reads 7 none ∈ GW := GW_of (List.mem_of_getElem? (i := 439) (by decide +kernel)) rfl
theorem w_L_reads : CWm yL_reads cL_reads 7 none 7 := ⟨g_cw_L_reads, g_ini_GyreWatchLaw, ⟨by decide +kernel, by decide +kernel, by decide +kernel⟩, by decide⟩
theorem g_ml_RL_67 : Cond.methodLink RL 67 yL_reads ∈ GW := GW_of (List.mem_of_getElem? (i := 437) (by decide +kernel)) rfl
theorem g_st_L_reads : Cond.static yL_reads ∈ GW := GW_of (List.mem_of_getElem? (i := 438) (by decide +kernel)) rfl
theorem g_cw_L_drifted : Cond.code yL_drifted cL_drifted 6 (some .int) ∈ GW := GW_of (List.mem_of_getElem? (i := 442) (by decide +kernel)) rfl
theorem w_L_drifted : CWm yL_drifted cL_drifted 6 (some .int) 3 := ⟨g_cw_L_drifted, g_ini_GyreWatchLaw, ⟨by decide +kernel, by decide +kernel, by decide +kernel⟩, by decide⟩
theorem g_ml_RL_71 : Cond.methodLink RL 71 yL_drifted ∈ GW := GW_of (List.mem_of_getElem? (i := 440) (by decide +kernel)) rfl
theorem g_st_L_drifted : Cond.static yL_drifted ∈ GW := GW_of (List.mem_of_getElem? (i := 441) (by decide +kernel)) rfl
theorem g_cw_X5_seaBeside : Cond.code yX5_seaBeside cX5_seaBeside 6 (some .int) ∈ GW := GW_of (List.mem_of_getElem? (i := 297) (by decide +kernel)) rfl
theorem w_X5_seaBeside : CWm yX5_seaBeside cX5_seaBeside 6 (some .int) 2 := ⟨g_cw_X5_seaBeside, g_ini_GyreWatch_Sea, ⟨by decide +kernel, by decide +kernel, by decide +kernel⟩, by decide⟩
theorem g_in_X5_seaBeside : Cond.instanceMethod yX5_seaBeside ∈ GW := GW_of (List.mem_of_getElem? (i := 295) (by decide +kernel)) rfl
theorem g_se_X5_seaBeside : Cond.selects (RN 5) yX5_seaBeside yX5_seaBeside ∈ GW := GW_of (List.mem_of_getElem? (i := 296) (by decide +kernel)) rfl
theorem g_ml_RX5_56 : Cond.methodLink RX5 56 yX5_seaBeside ∈ GW := GW_of (List.mem_of_getElem? (i := 294) (by decide +kernel)) rfl
theorem g_ml_RX5_67 : Cond.methodLink RX5 67 Lib.Math.min.name ∈ GW := GW_of (List.mem_of_getElem? (i := 281) (by decide +kernel)) rfl
theorem g_st_math_min : Cond.static Lib.Math.min.name ∈ GW := GW_of (List.mem_of_getElem? (i := 282) (by decide +kernel)) rfl
theorem g_cw_math_min : Cond.code Lib.Math.min.name Lib.Math.min.code 2 (some .int) ∈ GW := GW_of (List.mem_of_getElem? (i := 283) (by decide +kernel)) rfl
theorem g_ml_RX5_72 : Cond.methodLink RX5 72 arraycopyName ∈ GW := GW_of (List.mem_of_getElem? (i := 284) (by decide +kernel)) rfl
theorem g_nat_cpy : Cond.native arraycopyName ∈ GW := GW_of (List.mem_of_getElem? (i := 286) (by decide +kernel)) rfl
theorem g_st_arraycopy : Cond.static arraycopyName ∈ GW := GW_of (List.mem_of_getElem? (i := 285) (by decide +kernel)) rfl
theorem g_ini_sys : Cond.initialized "java/lang/System" ∈ GW := GW_of (List.mem_of_getElem? (i := 30) (by decide +kernel)) rfl
theorem g_cw_X5_leadsTo : Cond.code yX5_leadsTo cX5_leadsTo 2 (some .int) ∈ GW := GW_of (List.mem_of_getElem? (i := 290) (by decide +kernel)) rfl
theorem w_X5_leadsTo : CWm yX5_leadsTo cX5_leadsTo 2 (some .int) 1 := ⟨g_cw_X5_leadsTo, g_ini_GyreWatch_Sea, ⟨by decide +kernel, by decide +kernel, by decide +kernel⟩, by decide⟩
theorem g_in_X5_leadsTo : Cond.instanceMethod yX5_leadsTo ∈ GW := GW_of (List.mem_of_getElem? (i := 288) (by decide +kernel)) rfl
theorem g_se_X5_leadsTo : Cond.selects (RN 5) yX5_leadsTo yX5_leadsTo ∈ GW := GW_of (List.mem_of_getElem? (i := 289) (by decide +kernel)) rfl
theorem g_ml_RX5_78 : Cond.methodLink RX5 78 yX5_leadsTo ∈ GW := GW_of (List.mem_of_getElem? (i := 287) (by decide +kernel)) rfl
theorem g_fl_RX5_41 : Cond.fieldLink RX5 41 ((TN 1) 0).1 ((TN 1) 0).2.1 ((TN 1) 0).2.2.1 ∈ GW := GW_of (List.mem_of_getElem? (i := 56) (by decide +kernel)) rfl
theorem g_cw_X5_carry : Cond.code yX5_carry cX5_carry 6 none ∈ GW := GW_of (List.mem_of_getElem? (i := 280) (by decide +kernel)) rfl
theorem w_X5_carry : CWm yX5_carry cX5_carry 6 none 1 := ⟨g_cw_X5_carry, g_ini_GyreWatch_Sea, ⟨by decide +kernel, by decide +kernel, by decide +kernel⟩, by decide⟩
theorem g_in_X5_carry : Cond.instanceMethod yX5_carry ∈ GW := GW_of (List.mem_of_getElem? (i := 279) (by decide +kernel)) rfl
theorem g_se_X5_carry : Cond.selects (RN 5) yX5_carry yX5_carry ∈ GW := GW_of (List.mem_of_getElem? (i := 2) (by decide +kernel)) rfl
theorem g_ml_RX5_60 : Cond.methodLink RX5 60 yX5_carry ∈ GW := GW_of (List.mem_of_getElem? (i := 277) (by decide +kernel)) rfl
theorem g_fl_RX5_64 : Cond.fieldLink RX5 64 ((TN 1) 1).1 ((TN 1) 1).2.1 ((TN 1) 1).2.2.1 ∈ GW := GW_of (List.mem_of_getElem? (i := 59) (by decide +kernel)) rfl
theorem g_ml_RX5_82 : Cond.methodLink RX5 82 Lib.Math.max.name ∈ GW := GW_of (List.mem_of_getElem? (i := 305) (by decide +kernel)) rfl
theorem g_fl_RX5_85 : Cond.fieldLink RX5 85 ((TN 5) 4).1 ((TN 5) 4).2.1 ((TN 5) 4).2.2.1 ∈ GW := GW_of (List.mem_of_getElem? (i := 75) (by decide +kernel)) rfl
theorem g_cw_X1_weightAt : Cond.code yX1_weightAt cX1_weightAt 2 (some .int) ∈ GW := GW_of (List.mem_of_getElem? (i := 315) (by decide +kernel)) rfl
theorem w_X1_weightAt : CWm yX1_weightAt cX1_weightAt 2 (some .int) 1 := ⟨g_cw_X1_weightAt, g_ini_GyreWatch_Layer, ⟨by decide +kernel, by decide +kernel, by decide +kernel⟩, by decide⟩
theorem g_in_X1_weightAt : Cond.instanceMethod yX1_weightAt ∈ GW := GW_of (List.mem_of_getElem? (i := 313) (by decide +kernel)) rfl
theorem g_se_X1_weightAt : Cond.selects (RN 1) yX1_weightAt yX1_weightAt ∈ GW := GW_of (List.mem_of_getElem? (i := 314) (by decide +kernel)) rfl
theorem g_ml_RX5_88 : Cond.methodLink RX5 88 yX1_weightAt ∈ GW := GW_of (List.mem_of_getElem? (i := 312) (by decide +kernel)) rfl
theorem g_cw_X5_share : Cond.code yX5_share cX5_share 4 none ∈ GW := GW_of (List.mem_of_getElem? (i := 319) (by decide +kernel)) rfl
theorem w_X5_share : CWm yX5_share cX5_share 4 none 3 := ⟨g_cw_X5_share, g_ini_GyreWatch_Sea, ⟨by decide +kernel, by decide +kernel, by decide +kernel⟩, by decide⟩
theorem g_ml_RX5_91 : Cond.methodLink RX5 91 yX5_share ∈ GW := GW_of (List.mem_of_getElem? (i := 317) (by decide +kernel)) rfl
theorem g_st_X5_share : Cond.static yX5_share ∈ GW := GW_of (List.mem_of_getElem? (i := 318) (by decide +kernel)) rfl
theorem g_ml_RX4_3 : Cond.methodLink RX4 3 objectInit ∈ GW := GW_of (List.mem_of_getElem? (i := 338) (by decide +kernel)) rfl
theorem g_fl_RX2_35 : Cond.fieldLink RX2 35 ((TN 0) 8).1 ((TN 0) 8).2.1 ((TN 0) 8).2.2.1 ∈ GW := GW_of (List.mem_of_getElem? (i := 705) (by decide +kernel)) rfl
theorem g_fl_RX2_41 : Cond.fieldLink RX2 41 ((TN 4) 5).1 ((TN 4) 5).2.1 ((TN 4) 5).2.2.1 ∈ GW := GW_of (List.mem_of_getElem? (i := 352) (by decide +kernel)) rfl
theorem g_fl_RX2_44 : Cond.fieldLink RX2 44 ((TN 4) 6).1 ((TN 4) 6).2.1 ((TN 4) 6).2.2.1 ∈ GW := GW_of (List.mem_of_getElem? (i := 355) (by decide +kernel)) rfl
theorem g_fl_RX2_47 : Cond.fieldLink RX2 47 ((TN 0) 7).1 ((TN 0) 7).2.1 ((TN 0) 7).2.2.1 ∈ GW := GW_of (List.mem_of_getElem? (i := 703) (by decide +kernel)) rfl
theorem g_fl_RX2_21 : Cond.fieldLink RX2 21 ((TN 2) 1).1 ((TN 2) 1).2.1 ((TN 2) 1).2.2.1 ∈ GW := GW_of (List.mem_of_getElem? (i := 110) (by decide +kernel)) rfl
theorem g_inst_4 : Cond.instantiable (RN 4) (nF 4) ∈ GW := GW_of (List.mem_of_getElem? (i := 334) (by decide +kernel)) rfl
theorem g_iniN_4 : Cond.initialized (RN 4) ∈ GW := GW_of (List.mem_of_getElem? (i := 31) (by decide +kernel)) rfl
theorem g_clN_RX2_9 : Cond.classLink RX2 9 (RN 4) ∈ GW := GW_of (List.mem_of_getElem? (i := 106) (by decide +kernel)) rfl
theorem g_cw_X4_init : Cond.code yX4_init cX4_init 5 none ∈ GW := GW_of (List.mem_of_getElem? (i := 337) (by decide +kernel)) rfl
theorem w_X4_init : CWm yX4_init cX4_init 5 none 4 := ⟨g_cw_X4_init, g_ini_GyreWatch_Reading, ⟨by decide +kernel, by decide +kernel, by decide +kernel⟩, by decide⟩
theorem g_in_X4_init : Cond.instanceMethod yX4_init ∈ GW := GW_of (List.mem_of_getElem? (i := 336) (by decide +kernel)) rfl
theorem g_ml_RX2_28 : Cond.methodLink RX2 28 yX4_init ∈ GW := GW_of (List.mem_of_getElem? (i := 335) (by decide +kernel)) rfl
theorem g_cw_X2_chain : Cond.code yX2_chain cX2_chain 2 none ∈ GW := GW_of (List.mem_of_getElem? (i := 374) (by decide +kernel)) rfl
theorem w_X2_chain : CWm yX2_chain cX2_chain 2 none 2 := ⟨g_cw_X2_chain, g_ini_GyreWatch_Log, ⟨by decide +kernel, by decide +kernel, by decide +kernel⟩, by decide⟩
theorem g_ml_RX2_31 : Cond.methodLink RX2 31 yX2_chain ∈ GW := GW_of (List.mem_of_getElem? (i := 372) (by decide +kernel)) rfl
theorem g_st_X2_chain : Cond.static yX2_chain ∈ GW := GW_of (List.mem_of_getElem? (i := 373) (by decide +kernel)) rfl
theorem g_fl_RX8_218 : Cond.fieldLink RX8 218 ((TN 0) 4).1 ((TN 0) 4).2.1 ((TN 0) 4).2.2.1 ∈ GW := GW_of (List.mem_of_getElem? (i := 698) (by decide +kernel)) rfl
theorem g_ml_RX8_336 : Cond.methodLink RX8 336 yX5_leadsTo ∈ GW := GW_of (List.mem_of_getElem? (i := 324) (by decide +kernel)) rfl
theorem g_cw_X5_upperHeat : Cond.code yX5_upperHeat cX5_upperHeat 2 (some .int) ∈ GW := GW_of (List.mem_of_getElem? (i := 328) (by decide +kernel)) rfl
theorem w_X5_upperHeat : CWm yX5_upperHeat cX5_upperHeat 2 (some .int) 1 := ⟨g_cw_X5_upperHeat, g_ini_GyreWatch_Sea, ⟨by decide +kernel, by decide +kernel, by decide +kernel⟩, by decide⟩
theorem g_in_X5_upperHeat : Cond.instanceMethod yX5_upperHeat ∈ GW := GW_of (List.mem_of_getElem? (i := 326) (by decide +kernel)) rfl
theorem g_se_X5_upperHeat : Cond.selects (RN 5) yX5_upperHeat yX5_upperHeat ∈ GW := GW_of (List.mem_of_getElem? (i := 327) (by decide +kernel)) rfl
theorem g_ml_RX8_339 : Cond.methodLink RX8 339 yX5_upperHeat ∈ GW := GW_of (List.mem_of_getElem? (i := 325) (by decide +kernel)) rfl
theorem g_fl_RX8_342 : Cond.fieldLink RX8 342 ((TN 0) 2).1 ((TN 0) 2).2.1 ((TN 0) 2).2.2.1 ∈ GW := GW_of (List.mem_of_getElem? (i := 694) (by decide +kernel)) rfl
theorem g_cw_X2_keep : Cond.code yX2_keep cX2_keep 6 none ∈ GW := GW_of (List.mem_of_getElem? (i := 332) (by decide +kernel)) rfl
theorem w_X2_keep : CWm yX2_keep cX2_keep 6 none 4 := ⟨g_cw_X2_keep, g_ini_GyreWatch_Log, ⟨by decide +kernel, by decide +kernel, by decide +kernel⟩, by decide⟩
theorem g_in_X2_keep : Cond.instanceMethod yX2_keep ∈ GW := GW_of (List.mem_of_getElem? (i := 330) (by decide +kernel)) rfl
theorem g_se_X2_keep : Cond.selects (RN 2) yX2_keep yX2_keep ∈ GW := GW_of (List.mem_of_getElem? (i := 331) (by decide +kernel)) rfl
theorem g_ml_RX8_345 : Cond.methodLink RX8 345 yX2_keep ∈ GW := GW_of (List.mem_of_getElem? (i := 329) (by decide +kernel)) rfl
theorem g_fl_RX8_221 : Cond.fieldLink RX8 221 ((TN 0) 5).1 ((TN 0) 5).2.1 ((TN 0) 5).2.2.1 ∈ GW := GW_of (List.mem_of_getElem? (i := 700) (by decide +kernel)) rfl
theorem g_fl_RX8_349 : Cond.fieldLink RX8 349 ((TN 0) 1).1 ((TN 0) 1).2.1 ((TN 0) 1).2.2.1 ∈ GW := GW_of (List.mem_of_getElem? (i := 692) (by decide +kernel)) rfl
theorem g_ml_RX6_26 : Cond.methodLink RX6 26 arraycopyName ∈ GW := GW_of (List.mem_of_getElem? (i := 379) (by decide +kernel)) rfl
theorem g_ml_RX6_42 : Cond.methodLink RX6 42 yX5_leadsTo ∈ GW := GW_of (List.mem_of_getElem? (i := 387) (by decide +kernel)) rfl
theorem g_cw_X6_give : Cond.code yX6_give cX6_give 4 none ∈ GW := GW_of (List.mem_of_getElem? (i := 385) (by decide +kernel)) rfl
theorem w_X6_give : CWm yX6_give cX6_give 4 none 3 := ⟨g_cw_X6_give, g_ini_GyreWatch_Search, ⟨by decide +kernel, by decide +kernel, by decide +kernel⟩, by decide⟩
theorem g_in_X6_give : Cond.instanceMethod yX6_give ∈ GW := GW_of (List.mem_of_getElem? (i := 383) (by decide +kernel)) rfl
theorem g_se_X6_give : Cond.selects (RN 6) yX6_give yX6_give ∈ GW := GW_of (List.mem_of_getElem? (i := 4) (by decide +kernel)) rfl
theorem g_ml_RX6_38 : Cond.methodLink RX6 38 yX6_give ∈ GW := GW_of (List.mem_of_getElem? (i := 381) (by decide +kernel)) rfl
theorem g_ml_RX6_32 : Cond.methodLink RX6 32 yX5_seaBeside ∈ GW := GW_of (List.mem_of_getElem? (i := 380) (by decide +kernel)) rfl
theorem g_ml_RX7_44 : Cond.methodLink RX7 44 arraycopyName ∈ GW := GW_of (List.mem_of_getElem? (i := 412) (by decide +kernel)) rfl
theorem g_ml_RX8_352 : Cond.methodLink RX8 352 yX7_hasStorm ∈ GW := GW_of (List.mem_of_getElem? (i := 392) (by decide +kernel)) rfl
theorem g_cw_X7_countDue : Cond.code yX7_countDue cX7_countDue 3 (some .int) ∈ GW := GW_of (List.mem_of_getElem? (i := 399) (by decide +kernel)) rfl
theorem w_X7_countDue : CWm yX7_countDue cX7_countDue 3 (some .int) 1 := ⟨g_cw_X7_countDue, g_ini_GyreWatch_Ships, ⟨by decide +kernel, by decide +kernel, by decide +kernel⟩, by decide⟩
theorem g_in_X7_countDue : Cond.instanceMethod yX7_countDue ∈ GW := GW_of (List.mem_of_getElem? (i := 397) (by decide +kernel)) rfl
theorem g_se_X7_countDue : Cond.selects (RN 7) yX7_countDue yX7_countDue ∈ GW := GW_of (List.mem_of_getElem? (i := 398) (by decide +kernel)) rfl
theorem g_ml_RX8_355 : Cond.methodLink RX8 355 yX7_countDue ∈ GW := GW_of (List.mem_of_getElem? (i := 396) (by decide +kernel)) rfl
theorem g_ml_RX8_358 : Cond.methodLink RX8 358 yX7_cellOf ∈ GW := GW_of (List.mem_of_getElem? (i := 403) (by decide +kernel)) rfl
theorem g_cw_X7_dropFirst : Cond.code yX7_dropFirst cX7_dropFirst 2 none ∈ GW := GW_of (List.mem_of_getElem? (i := 411) (by decide +kernel)) rfl
theorem w_X7_dropFirst : CWm yX7_dropFirst cX7_dropFirst 2 none 1 := ⟨g_cw_X7_dropFirst, g_ini_GyreWatch_Ships, ⟨by decide +kernel, by decide +kernel, by decide +kernel⟩, by decide⟩
theorem g_in_X7_dropFirst : Cond.instanceMethod yX7_dropFirst ∈ GW := GW_of (List.mem_of_getElem? (i := 409) (by decide +kernel)) rfl
theorem g_se_X7_dropFirst : Cond.selects (RN 7) yX7_dropFirst yX7_dropFirst ∈ GW := GW_of (List.mem_of_getElem? (i := 410) (by decide +kernel)) rfl
theorem g_ml_RX8_361 : Cond.methodLink RX8 361 yX7_dropFirst ∈ GW := GW_of (List.mem_of_getElem? (i := 408) (by decide +kernel)) rfl
theorem g_cw_X5_flow : Cond.code yX5_flow cX5_flow 1 none ∈ GW := GW_of (List.mem_of_getElem? (i := 276) (by decide +kernel)) rfl
theorem w_X5_flow : CWm yX5_flow cX5_flow 1 none 0 := ⟨g_cw_X5_flow, g_ini_GyreWatch_Sea, ⟨by decide +kernel, by decide +kernel, by decide +kernel⟩, by decide⟩
theorem g_in_X5_flow : Cond.instanceMethod yX5_flow ∈ GW := GW_of (List.mem_of_getElem? (i := 274) (by decide +kernel)) rfl
theorem g_se_X5_flow : Cond.selects (RN 5) yX5_flow yX5_flow ∈ GW := GW_of (List.mem_of_getElem? (i := 275) (by decide +kernel)) rfl
theorem g_ml_RX8_316 : Cond.methodLink RX8 316 yX5_flow ∈ GW := GW_of (List.mem_of_getElem? (i := 273) (by decide +kernel)) rfl
theorem g_cw_X5_shine : Cond.code yX5_shine cX5_shine 3 none ∈ GW := GW_of (List.mem_of_getElem? (i := 304) (by decide +kernel)) rfl
theorem w_X5_shine : CWm yX5_shine cX5_shine 3 none 0 := ⟨g_cw_X5_shine, g_ini_GyreWatch_Sea, ⟨by decide +kernel, by decide +kernel, by decide +kernel⟩, by decide⟩
theorem g_in_X5_shine : Cond.instanceMethod yX5_shine ∈ GW := GW_of (List.mem_of_getElem? (i := 302) (by decide +kernel)) rfl
theorem g_se_X5_shine : Cond.selects (RN 5) yX5_shine yX5_shine ∈ GW := GW_of (List.mem_of_getElem? (i := 303) (by decide +kernel)) rfl
theorem g_ml_RX8_319 : Cond.methodLink RX8 319 yX5_shine ∈ GW := GW_of (List.mem_of_getElem? (i := 301) (by decide +kernel)) rfl
theorem g_cw_X5_turnOver : Cond.code yX5_turnOver cX5_turnOver 2 none ∈ GW := GW_of (List.mem_of_getElem? (i := 311) (by decide +kernel)) rfl
theorem w_X5_turnOver : CWm yX5_turnOver cX5_turnOver 2 none 0 := ⟨g_cw_X5_turnOver, g_ini_GyreWatch_Sea, ⟨by decide +kernel, by decide +kernel, by decide +kernel⟩, by decide⟩
theorem g_in_X5_turnOver : Cond.instanceMethod yX5_turnOver ∈ GW := GW_of (List.mem_of_getElem? (i := 309) (by decide +kernel)) rfl
theorem g_se_X5_turnOver : Cond.selects (RN 5) yX5_turnOver yX5_turnOver ∈ GW := GW_of (List.mem_of_getElem? (i := 310) (by decide +kernel)) rfl
theorem g_ml_RX8_322 : Cond.methodLink RX8 322 yX5_turnOver ∈ GW := GW_of (List.mem_of_getElem? (i := 308) (by decide +kernel)) rfl
theorem g_cw_X8_letDrift : Cond.code yX8_letDrift cX8_letDrift 3 none ∈ GW := GW_of (List.mem_of_getElem? (i := 323) (by decide +kernel)) rfl
theorem w_X8_letDrift : CWm yX8_letDrift cX8_letDrift 3 none 1 := ⟨g_cw_X8_letDrift, g_ini_GyreWatch, ⟨by decide +kernel, by decide +kernel, by decide +kernel⟩, by decide⟩
theorem g_in_X8_letDrift : Cond.instanceMethod yX8_letDrift ∈ GW := GW_of (List.mem_of_getElem? (i := 322) (by decide +kernel)) rfl
theorem g_se_X8_letDrift : Cond.selects (RN 8) yX8_letDrift yX8_letDrift ∈ GW := GW_of (List.mem_of_getElem? (i := 3) (by decide +kernel)) rfl
theorem g_ml_RX8_325 : Cond.methodLink RX8 325 yX8_letDrift ∈ GW := GW_of (List.mem_of_getElem? (i := 320) (by decide +kernel)) rfl
theorem g_cw_X8_readAtStations : Cond.code yX8_readAtStations cX8_readAtStations 5 none ∈ GW := GW_of (List.mem_of_getElem? (i := 391) (by decide +kernel)) rfl
theorem w_X8_readAtStations : CWm yX8_readAtStations cX8_readAtStations 5 none 0 := ⟨g_cw_X8_readAtStations, g_ini_GyreWatch, ⟨by decide +kernel, by decide +kernel, by decide +kernel⟩, by decide⟩
theorem g_in_X8_readAtStations : Cond.instanceMethod yX8_readAtStations ∈ GW := GW_of (List.mem_of_getElem? (i := 390) (by decide +kernel)) rfl
theorem g_se_X8_readAtStations : Cond.selects (RN 8) yX8_readAtStations yX8_readAtStations ∈ GW := GW_of (List.mem_of_getElem? (i := 5) (by decide +kernel)) rfl
theorem g_ml_RX8_333 : Cond.methodLink RX8 333 yX8_readAtStations ∈ GW := GW_of (List.mem_of_getElem? (i := 388) (by decide +kernel)) rfl
theorem g_cw_X6_goOn : Cond.code yX6_goOn cX6_goOn 5 none ∈ GW := GW_of (List.mem_of_getElem? (i := 378) (by decide +kernel)) rfl
theorem w_X6_goOn : CWm yX6_goOn cX6_goOn 5 none 1 := ⟨g_cw_X6_goOn, g_ini_GyreWatch_Search, ⟨by decide +kernel, by decide +kernel, by decide +kernel⟩, by decide⟩
theorem g_in_X6_goOn : Cond.instanceMethod yX6_goOn ∈ GW := GW_of (List.mem_of_getElem? (i := 376) (by decide +kernel)) rfl
theorem g_se_X6_goOn : Cond.selects (RN 6) yX6_goOn yX6_goOn ∈ GW := GW_of (List.mem_of_getElem? (i := 377) (by decide +kernel)) rfl
theorem g_ml_RX8_329 : Cond.methodLink RX8 329 yX6_goOn ∈ GW := GW_of (List.mem_of_getElem? (i := 375) (by decide +kernel)) rfl
theorem g_cw_X8_passOneDay : Cond.code yX8_passOneDay cX8_passOneDay 5 none ∈ GW := GW_of (List.mem_of_getElem? (i := 272) (by decide +kernel)) rfl
theorem w_X8_passOneDay : CWm yX8_passOneDay cX8_passOneDay 5 none 0 := ⟨g_cw_X8_passOneDay, g_ini_GyreWatch, ⟨by decide +kernel, by decide +kernel, by decide +kernel⟩, by decide⟩
theorem g_in_X8_passOneDay : Cond.instanceMethod yX8_passOneDay ∈ GW := GW_of (List.mem_of_getElem? (i := 271) (by decide +kernel)) rfl
theorem g_se_X8_passOneDay : Cond.selects (RN 8) yX8_passOneDay yX8_passOneDay ∈ GW := GW_of (List.mem_of_getElem? (i := 1) (by decide +kernel)) rfl
theorem g_ml_RX8_87 : Cond.methodLink RX8 87 yX8_passOneDay ∈ GW := GW_of (List.mem_of_getElem? (i := 269) (by decide +kernel)) rfl
theorem g_fl_RX8_190 : Cond.fieldLink RX8 190 ((TN 5) 0).1 ((TN 5) 0).2.1 ((TN 5) 0).2.2.1 ∈ GW := GW_of (List.mem_of_getElem? (i := 68) (by decide +kernel)) rfl
theorem g_fl_RX8_197 : Cond.fieldLink RX8 197 ((TN 1) 0).1 ((TN 1) 0).2.1 ((TN 1) 0).2.2.1 ∈ GW := GW_of (List.mem_of_getElem? (i := 57) (by decide +kernel)) rfl
theorem g_cw_X8_sumOf : Cond.code yX8_sumOf cX8_sumOf 6 (some .int) ∈ GW := GW_of (List.mem_of_getElem? (i := 459) (by decide +kernel)) rfl
theorem w_X8_sumOf : CWm yX8_sumOf cX8_sumOf 6 (some .int) 1 := ⟨g_cw_X8_sumOf, g_ini_GyreWatch, ⟨by decide +kernel, by decide +kernel, by decide +kernel⟩, by decide⟩
theorem g_ml_RX8_208 : Cond.methodLink RX8 208 yX8_sumOf ∈ GW := GW_of (List.mem_of_getElem? (i := 457) (by decide +kernel)) rfl
theorem g_st_X8_sumOf : Cond.static yX8_sumOf ∈ GW := GW_of (List.mem_of_getElem? (i := 458) (by decide +kernel)) rfl
theorem g_fl_RX8_194 : Cond.fieldLink RX8 194 ((TN 5) 1).1 ((TN 5) 1).2.1 ((TN 5) 1).2.2.1 ∈ GW := GW_of (List.mem_of_getElem? (i := 70) (by decide +kernel)) rfl
theorem g_fl_RX8_202 : Cond.fieldLink RX8 202 ((TN 1) 1).1 ((TN 1) 1).2.1 ((TN 1) 1).2.2.1 ∈ GW := GW_of (List.mem_of_getElem? (i := 60) (by decide +kernel)) rfl
theorem g_fl_RX8_212 : Cond.fieldLink RX8 212 ((TN 5) 4).1 ((TN 5) 4).2.1 ((TN 5) 4).2.2.1 ∈ GW := GW_of (List.mem_of_getElem? (i := 76) (by decide +kernel)) rfl
theorem g_fl_RX8_227 : Cond.fieldLink RX8 227 ((TN 7) 0).1 ((TN 7) 0).2.1 ((TN 7) 0).2.2.1 ∈ GW := GW_of (List.mem_of_getElem? (i := 128) (by decide +kernel)) rfl
theorem g_fl_RX8_230 : Cond.fieldLink RX8 230 ((TN 2) 1).1 ((TN 2) 1).2.1 ((TN 2) 1).2.2.1 ∈ GW := GW_of (List.mem_of_getElem? (i := 111) (by decide +kernel)) rfl
theorem g_ml_RX8_205 : Cond.methodLink RX8 205 yX1_weightAt ∈ GW := GW_of (List.mem_of_getElem? (i := 492) (by decide +kernel)) rfl
theorem g_fl_RX8_224 : Cond.fieldLink RX8 224 ((TN 0) 7).1 ((TN 0) 7).2.1 ((TN 0) 7).2.2.1 ∈ GW := GW_of (List.mem_of_getElem? (i := 704) (by decide +kernel)) rfl
theorem g_cw_X6_bestOf : Cond.code yX6_bestOf cX6_bestOf 3 (some .int) ∈ GW := GW_of (List.mem_of_getElem? (i := 520) (by decide +kernel)) rfl
theorem w_X6_bestOf : CWm yX6_bestOf cX6_bestOf 3 (some .int) 1 := ⟨g_cw_X6_bestOf, g_ini_GyreWatch_Search, ⟨by decide +kernel, by decide +kernel, by decide +kernel⟩, by decide⟩
theorem g_ml_RX8_261 : Cond.methodLink RX8 261 yX6_bestOf ∈ GW := GW_of (List.mem_of_getElem? (i := 518) (by decide +kernel)) rfl
theorem g_st_X6_bestOf : Cond.static yX6_bestOf ∈ GW := GW_of (List.mem_of_getElem? (i := 519) (by decide +kernel)) rfl
theorem g_ml_RX6_46 : Cond.methodLink RX6 46 yX6_bestOf ∈ GW := GW_of (List.mem_of_getElem? (i := 529) (by decide +kernel)) rfl
theorem g_ml_RX6_50 : Cond.methodLink RX6 50 yX6_lookAt ∈ GW := GW_of (List.mem_of_getElem? (i := 530) (by decide +kernel)) rfl
theorem g_cw_X6_tryLegs : Cond.code yX6_tryLegs cX6_tryLegs 5 (some .int) ∈ GW := GW_of (List.mem_of_getElem? (i := 528) (by decide +kernel)) rfl
theorem w_X6_tryLegs : CWm yX6_tryLegs cX6_tryLegs 5 (some .int) 2 := ⟨g_cw_X6_tryLegs, g_ini_GyreWatch_Search, ⟨by decide +kernel, by decide +kernel, by decide +kernel⟩, by decide⟩
theorem g_in_X6_tryLegs : Cond.instanceMethod yX6_tryLegs ∈ GW := GW_of (List.mem_of_getElem? (i := 526) (by decide +kernel)) rfl
theorem g_se_X6_tryLegs : Cond.selects (RN 6) yX6_tryLegs yX6_tryLegs ∈ GW := GW_of (List.mem_of_getElem? (i := 527) (by decide +kernel)) rfl
theorem g_ml_RX8_264 : Cond.methodLink RX8 264 yX6_tryLegs ∈ GW := GW_of (List.mem_of_getElem? (i := 525) (by decide +kernel)) rfl
theorem g_cw_X8_best : Cond.code yX8_best cX8_best 2 (some .int) ∈ GW := GW_of (List.mem_of_getElem? (i := 512) (by decide +kernel)) rfl
theorem w_X8_best : CWm yX8_best cX8_best 2 (some .int) 1 := ⟨g_cw_X8_best, g_ini_GyreWatch, ⟨by decide +kernel, by decide +kernel, by decide +kernel⟩, by decide⟩
theorem g_in_X8_best : Cond.instanceMethod yX8_best ∈ GW := GW_of (List.mem_of_getElem? (i := 510) (by decide +kernel)) rfl
theorem g_se_X8_best : Cond.selects (RN 8) yX8_best yX8_best ∈ GW := GW_of (List.mem_of_getElem? (i := 511) (by decide +kernel)) rfl
theorem g_ml_RL_92 : Cond.methodLink RL 92 yX8_best ∈ GW := GW_of (List.mem_of_getElem? (i := 509) (by decide +kernel)) rfl
theorem g_cw_X8_plan : Cond.code yX8_plan cX8_plan 5 (some .int) ∈ GW := GW_of (List.mem_of_getElem? (i := 524) (by decide +kernel)) rfl
theorem w_X8_plan : CWm yX8_plan cX8_plan 5 (some .int) 3 := ⟨g_cw_X8_plan, g_ini_GyreWatch, ⟨by decide +kernel, by decide +kernel, by decide +kernel⟩, by decide⟩
theorem g_in_X8_plan : Cond.instanceMethod yX8_plan ∈ GW := GW_of (List.mem_of_getElem? (i := 522) (by decide +kernel)) rfl
theorem g_se_X8_plan : Cond.selects (RN 8) yX8_plan yX8_plan ∈ GW := GW_of (List.mem_of_getElem? (i := 523) (by decide +kernel)) rfl
theorem g_ml_RL_94 : Cond.methodLink RL 94 yX8_plan ∈ GW := GW_of (List.mem_of_getElem? (i := 521) (by decide +kernel)) rfl
theorem g_cw_X8_chance : Cond.code yX8_chance cX8_chance 4 (some .int) ∈ GW := GW_of (List.mem_of_getElem? (i := 537) (by decide +kernel)) rfl
theorem w_X8_chance : CWm yX8_chance cX8_chance 4 (some .int) 2 := ⟨g_cw_X8_chance, g_ini_GyreWatch, ⟨by decide +kernel, by decide +kernel, by decide +kernel⟩, by decide⟩
theorem g_in_X8_chance : Cond.instanceMethod yX8_chance ∈ GW := GW_of (List.mem_of_getElem? (i := 535) (by decide +kernel)) rfl
theorem g_se_X8_chance : Cond.selects (RN 8) yX8_chance yX8_chance ∈ GW := GW_of (List.mem_of_getElem? (i := 536) (by decide +kernel)) rfl
theorem g_ml_RL_97 : Cond.methodLink RL 97 yX8_chance ∈ GW := GW_of (List.mem_of_getElem? (i := 534) (by decide +kernel)) rfl
theorem g_fl_RX8_241 : Cond.fieldLink RX8 241 ((TN 4) 3).1 ((TN 4) 3).2.1 ((TN 4) 3).2.2.1 ∈ GW := GW_of (List.mem_of_getElem? (i := 349) (by decide +kernel)) rfl
theorem g_fl_RX8_245 : Cond.fieldLink RX8 245 ((TN 0) 0).1 ((TN 0) 0).2.1 ((TN 0) 0).2.2.1 ∈ GW := GW_of (List.mem_of_getElem? (i := 690) (by decide +kernel)) rfl
theorem g_cw_L_corrected : Cond.code yL_corrected cL_corrected 4 (some .int) ∈ GW := GW_of (List.mem_of_getElem? (i := 562) (by decide +kernel)) rfl
theorem w_L_corrected : CWm yL_corrected cL_corrected 4 (some .int) 4 := ⟨g_cw_L_corrected, g_ini_GyreWatchLaw, ⟨by decide +kernel, by decide +kernel, by decide +kernel⟩, by decide⟩
theorem g_ml_RL_85 : Cond.methodLink RL 85 yL_corrected ∈ GW := GW_of (List.mem_of_getElem? (i := 560) (by decide +kernel)) rfl
theorem g_st_L_corrected : Cond.static yL_corrected ∈ GW := GW_of (List.mem_of_getElem? (i := 561) (by decide +kernel)) rfl
theorem g_cw_X8_day : Cond.code yX8_day cX8_day 1 (some .int) ∈ GW := GW_of (List.mem_of_getElem? (i := 452) (by decide +kernel)) rfl
theorem w_X8_day : CWm yX8_day cX8_day 1 (some .int) 0 := ⟨g_cw_X8_day, g_ini_GyreWatch, ⟨by decide +kernel, by decide +kernel, by decide +kernel⟩, by decide⟩
theorem g_in_X8_day : Cond.instanceMethod yX8_day ∈ GW := GW_of (List.mem_of_getElem? (i := 450) (by decide +kernel)) rfl
theorem g_se_X8_day : Cond.selects (RN 8) yX8_day yX8_day ∈ GW := GW_of (List.mem_of_getElem? (i := 451) (by decide +kernel)) rfl
theorem g_ml_RL_100 : Cond.methodLink RL 100 yX8_day ∈ GW := GW_of (List.mem_of_getElem? (i := 449) (by decide +kernel)) rfl
theorem g_cw_X8_total : Cond.code yX8_total cX8_total 2 (some .int) ∈ GW := GW_of (List.mem_of_getElem? (i := 456) (by decide +kernel)) rfl
theorem w_X8_total : CWm yX8_total cX8_total 2 (some .int) 1 := ⟨g_cw_X8_total, g_ini_GyreWatch, ⟨by decide +kernel, by decide +kernel, by decide +kernel⟩, by decide⟩
theorem g_in_X8_total : Cond.instanceMethod yX8_total ∈ GW := GW_of (List.mem_of_getElem? (i := 454) (by decide +kernel)) rfl
theorem g_se_X8_total : Cond.selects (RN 8) yX8_total yX8_total ∈ GW := GW_of (List.mem_of_getElem? (i := 455) (by decide +kernel)) rfl
theorem g_ml_RL_104 : Cond.methodLink RL 104 yX8_total ∈ GW := GW_of (List.mem_of_getElem? (i := 453) (by decide +kernel)) rfl
theorem g_cw_X8_stations : Cond.code yX8_stations cX8_stations 1 (some .int) ∈ GW := GW_of (List.mem_of_getElem? (i := 463) (by decide +kernel)) rfl
theorem w_X8_stations : CWm yX8_stations cX8_stations 1 (some .int) 0 := ⟨g_cw_X8_stations, g_ini_GyreWatch, ⟨by decide +kernel, by decide +kernel, by decide +kernel⟩, by decide⟩
theorem g_in_X8_stations : Cond.instanceMethod yX8_stations ∈ GW := GW_of (List.mem_of_getElem? (i := 461) (by decide +kernel)) rfl
theorem g_se_X8_stations : Cond.selects (RN 8) yX8_stations yX8_stations ∈ GW := GW_of (List.mem_of_getElem? (i := 462) (by decide +kernel)) rfl
theorem g_ml_RL_107 : Cond.methodLink RL 107 yX8_stations ∈ GW := GW_of (List.mem_of_getElem? (i := 460) (by decide +kernel)) rfl
theorem g_cw_X8_readings : Cond.code yX8_readings cX8_readings 1 (some .int) ∈ GW := GW_of (List.mem_of_getElem? (i := 467) (by decide +kernel)) rfl
theorem w_X8_readings : CWm yX8_readings cX8_readings 1 (some .int) 0 := ⟨g_cw_X8_readings, g_ini_GyreWatch, ⟨by decide +kernel, by decide +kernel, by decide +kernel⟩, by decide⟩
theorem g_in_X8_readings : Cond.instanceMethod yX8_readings ∈ GW := GW_of (List.mem_of_getElem? (i := 465) (by decide +kernel)) rfl
theorem g_se_X8_readings : Cond.selects (RN 8) yX8_readings yX8_readings ∈ GW := GW_of (List.mem_of_getElem? (i := 466) (by decide +kernel)) rfl
theorem g_ml_RL_110 : Cond.methodLink RL 110 yX8_readings ∈ GW := GW_of (List.mem_of_getElem? (i := 464) (by decide +kernel)) rfl
theorem g_cw_X8_ofLayer : Cond.code yX8_ofLayer cX8_ofLayer 5 (some .int) ∈ GW := GW_of (List.mem_of_getElem? (i := 471) (by decide +kernel)) rfl
theorem w_X8_ofLayer : CWm yX8_ofLayer cX8_ofLayer 5 (some .int) 3 := ⟨g_cw_X8_ofLayer, g_ini_GyreWatch, ⟨by decide +kernel, by decide +kernel, by decide +kernel⟩, by decide⟩
theorem g_in_X8_ofLayer : Cond.instanceMethod yX8_ofLayer ∈ GW := GW_of (List.mem_of_getElem? (i := 469) (by decide +kernel)) rfl
theorem g_se_X8_ofLayer : Cond.selects (RN 8) yX8_ofLayer yX8_ofLayer ∈ GW := GW_of (List.mem_of_getElem? (i := 470) (by decide +kernel)) rfl
theorem g_ml_RL_113 : Cond.methodLink RL 113 yX8_ofLayer ∈ GW := GW_of (List.mem_of_getElem? (i := 468) (by decide +kernel)) rfl
theorem g_cw_X8_ofFloat : Cond.code yX8_ofFloat cX8_ofFloat 4 (some .int) ∈ GW := GW_of (List.mem_of_getElem? (i := 496) (by decide +kernel)) rfl
theorem w_X8_ofFloat : CWm yX8_ofFloat cX8_ofFloat 4 (some .int) 2 := ⟨g_cw_X8_ofFloat, g_ini_GyreWatch, ⟨by decide +kernel, by decide +kernel, by decide +kernel⟩, by decide⟩
theorem g_in_X8_ofFloat : Cond.instanceMethod yX8_ofFloat ∈ GW := GW_of (List.mem_of_getElem? (i := 494) (by decide +kernel)) rfl
theorem g_se_X8_ofFloat : Cond.selects (RN 8) yX8_ofFloat yX8_ofFloat ∈ GW := GW_of (List.mem_of_getElem? (i := 495) (by decide +kernel)) rfl
theorem g_ml_RL_116 : Cond.methodLink RL 116 yX8_ofFloat ∈ GW := GW_of (List.mem_of_getElem? (i := 493) (by decide +kernel)) rfl
theorem g_cw_L_searches : Cond.code yL_searches cL_searches 11 (some .boolean) ∈ GW := GW_of (List.mem_of_getElem? (i := 505) (by decide +kernel)) rfl
theorem w_L_searches : CWm yL_searches cL_searches 11 (some .boolean) 5 := ⟨g_cw_L_searches, g_ini_GyreWatchLaw, ⟨by decide +kernel, by decide +kernel, by decide +kernel⟩, by decide⟩
theorem g_ml_RL_119 : Cond.methodLink RL 119 yL_searches ∈ GW := GW_of (List.mem_of_getElem? (i := 503) (by decide +kernel)) rfl
theorem g_st_L_searches : Cond.static yL_searches ∈ GW := GW_of (List.mem_of_getElem? (i := 504) (by decide +kernel)) rfl
theorem g_cw_X8_ofReading : Cond.code yX8_ofReading cX8_ofReading 4 (some .int) ∈ GW := GW_of (List.mem_of_getElem? (i := 541) (by decide +kernel)) rfl
theorem w_X8_ofReading : CWm yX8_ofReading cX8_ofReading 4 (some .int) 2 := ⟨g_cw_X8_ofReading, g_ini_GyreWatch, ⟨by decide +kernel, by decide +kernel, by decide +kernel⟩, by decide⟩
theorem g_in_X8_ofReading : Cond.instanceMethod yX8_ofReading ∈ GW := GW_of (List.mem_of_getElem? (i := 539) (by decide +kernel)) rfl
theorem g_se_X8_ofReading : Cond.selects (RN 8) yX8_ofReading yX8_ofReading ∈ GW := GW_of (List.mem_of_getElem? (i := 540) (by decide +kernel)) rfl
theorem g_ml_RL_123 : Cond.methodLink RL 123 yX8_ofReading ∈ GW := GW_of (List.mem_of_getElem? (i := 538) (by decide +kernel)) rfl
theorem g_cw_L_map : Cond.code yL_map cL_map 12 none ∈ GW := GW_of (List.mem_of_getElem? (i := 568) (by decide +kernel)) rfl
theorem w_L_map : CWm yL_map cL_map 12 none 10 := ⟨g_cw_L_map, g_ini_GyreWatchLaw, ⟨by decide +kernel, by decide +kernel, by decide +kernel⟩, by decide⟩
theorem g_ml_RL_126 : Cond.methodLink RL 126 yL_map ∈ GW := GW_of (List.mem_of_getElem? (i := 566) (by decide +kernel)) rfl
theorem g_st_L_map : Cond.static yL_map ∈ GW := GW_of (List.mem_of_getElem? (i := 567) (by decide +kernel)) rfl
theorem g_inst_8 : Cond.instantiable (RN 8) (nF 8) ∈ GW := GW_of (List.mem_of_getElem? (i := 33) (by decide +kernel)) rfl
theorem g_iniN_8 : Cond.initialized (RN 8) ∈ GW := GW_of (List.mem_of_getElem? (i := 15) (by decide +kernel)) rfl
theorem g_clN_RL_11 : Cond.classLink RL 11 (RN 8) ∈ GW := GW_of (List.mem_of_getElem? (i := 32) (by decide +kernel)) rfl
theorem g_cw_X8_init : Cond.code yX8_init cX8_init 1 none ∈ GW := GW_of (List.mem_of_getElem? (i := 36) (by decide +kernel)) rfl
theorem w_X8_init : CWm yX8_init cX8_init 1 none 0 := ⟨g_cw_X8_init, g_ini_GyreWatch, ⟨by decide +kernel, by decide +kernel, by decide +kernel⟩, by decide⟩
theorem g_in_X8_init : Cond.instanceMethod yX8_init ∈ GW := GW_of (List.mem_of_getElem? (i := 35) (by decide +kernel)) rfl
theorem g_ml_RL_152 : Cond.methodLink RL 152 yX8_init ∈ GW := GW_of (List.mem_of_getElem? (i := 34) (by decide +kernel)) rfl
theorem g_cw_L_cell : Cond.code yL_cell cL_cell 2 (some .int) ∈ GW := GW_of (List.mem_of_getElem? (i := 415) (by decide +kernel)) rfl
theorem w_L_cell : CWm yL_cell cL_cell 2 (some .int) 2 := ⟨g_cw_L_cell, g_ini_GyreWatchLaw, ⟨by decide +kernel, by decide +kernel, by decide +kernel⟩, by decide⟩
theorem g_ml_RL_153 : Cond.methodLink RL 153 yL_cell ∈ GW := GW_of (List.mem_of_getElem? (i := 413) (by decide +kernel)) rfl
theorem g_st_L_cell : Cond.static yL_cell ∈ GW := GW_of (List.mem_of_getElem? (i := 414) (by decide +kernel)) rfl
theorem g_ml_RL_157 : Cond.methodLink RL 157 yL_tells ∈ GW := GW_of (List.mem_of_getElem? (i := 771) (by decide +kernel)) rfl
theorem g_st_L_tells : Cond.static yL_tells ∈ GW := GW_of (List.mem_of_getElem? (i := 772) (by decide +kernel)) rfl
theorem g_ml_RL_161 : Cond.methodLink RL 161 yL_passes ∈ GW := GW_of (List.mem_of_getElem? (i := 422) (by decide +kernel)) rfl
theorem g_st_L_passes : Cond.static yL_passes ∈ GW := GW_of (List.mem_of_getElem? (i := 423) (by decide +kernel)) rfl
theorem g_cw_X8_pass : Cond.code yX8_pass cX8_pass 3 (some .int) ∈ GW := GW_of (List.mem_of_getElem? (i := 181) (by decide +kernel)) rfl
theorem w_X8_pass : CWm yX8_pass cX8_pass 3 (some .int) 1 := ⟨g_cw_X8_pass, g_ini_GyreWatch, ⟨by decide +kernel, by decide +kernel, by decide +kernel⟩, by decide⟩
theorem g_in_X8_pass : Cond.instanceMethod yX8_pass ∈ GW := GW_of (List.mem_of_getElem? (i := 179) (by decide +kernel)) rfl
theorem g_se_X8_pass : Cond.selects (RN 8) yX8_pass yX8_pass ∈ GW := GW_of (List.mem_of_getElem? (i := 180) (by decide +kernel)) rfl
theorem g_ml_RL_165 : Cond.methodLink RL 165 yX8_pass ∈ GW := GW_of (List.mem_of_getElem? (i := 178) (by decide +kernel)) rfl
theorem g_co_RL_168 : Cond.constant RL 168 (8388607 : Int32) ∈ GW := GW_of (List.mem_of_getElem? (i := 798) (by decide +kernel)) rfl
theorem g_ml_RL_169 : Cond.methodLink RL 169 yL_same ∈ GW := GW_of (List.mem_of_getElem? (i := 446) (by decide +kernel)) rfl
theorem g_st_L_same : Cond.static yL_same ∈ GW := GW_of (List.mem_of_getElem? (i := 447) (by decide +kernel)) rfl
end
section
set_option maxRecDepth 100000 in
theorem g_cw_L_tells : Cond.code yL_tells cL_tells 22 (some .boolean) ∈ GW := GW_of (List.mem_of_getElem? (i := 773) rfl) rfl
theorem w_L_tells : CWm yL_tells cL_tells 22 (some .boolean) 17 := ⟨g_cw_L_tells, g_ini_GyreWatchLaw, ⟨by decide +kernel, by decide +kernel, by decide +kernel⟩, by decide⟩
set_option maxRecDepth 100000 in
theorem g_cw_L_passes : Cond.code yL_passes cL_passes 21 none ∈ GW := GW_of (List.mem_of_getElem? (i := 424) rfl) rfl
theorem w_L_passes : CWm yL_passes cL_passes 21 none 16 := ⟨g_cw_L_passes, g_ini_GyreWatchLaw, ⟨by decide +kernel, by decide +kernel, by decide +kernel⟩, by decide⟩
set_option maxRecDepth 100000 in
theorem g_cw_L_same : Cond.code yL_same cL_same 24 (some .boolean) ∈ GW := GW_of (List.mem_of_getElem? (i := 448) rfl) rfl
theorem w_L_same : CWm yL_same cL_same 24 (some .boolean) 16 := ⟨g_cw_L_same, g_ini_GyreWatchLaw, ⟨by decide +kernel, by decide +kernel, by decide +kernel⟩, by decide⟩
end
