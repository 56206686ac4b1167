section
-- ===== PART A: goes FIRST, ahead of the names: the tables' words, and 'selects' of the private methods out of them =====
/-- a private method of a class that the tables say can be made, by its rows of tables_1 -/
def lw_okq (q : MethodName × Nat) : Prop := (q.1.cls ≠ "java/lang/invoke/MethodHandle" ∧ q.1.cls ≠ "java/lang/invoke/VarHandle") ∧ Cond.instantiable q.1.cls q.2 ∈ tables_1 ∧ Cond.privateMethod q.1 ∈ tables_1 ∧ Cond.instanceMethod q.1 ∈ tables_1
theorem lw_p0 : lw_okq (⟨"java/lang/Throwable", "fillInStackTrace", "(I)Ljava/lang/Throwable;"⟩, 6) := ⟨⟨by decide +kernel, by decide +kernel⟩, List.mem_of_getElem? (i := 233) (by decide +kernel), List.mem_of_getElem? (i := 231) (by decide +kernel), List.mem_of_getElem? (i := 232) (by decide +kernel)⟩
theorem lw_p1 : lw_okq (⟨"GyreWatch", "isTaken", "(I)Z"⟩, 10) := ⟨⟨by decide +kernel, by decide +kernel⟩, List.mem_of_getElem? (i := 21) (by decide +kernel), List.mem_of_getElem? (i := 268) (by decide +kernel), List.mem_of_getElem? (i := 269) (by decide +kernel)⟩
theorem lw_p2 : lw_okq (⟨"GyreWatch", "passOneDay", "()V"⟩, 10) := ⟨⟨by decide +kernel, by decide +kernel⟩, List.mem_of_getElem? (i := 21) (by decide +kernel), List.mem_of_getElem? (i := 350) (by decide +kernel), List.mem_of_getElem? (i := 351) (by decide +kernel)⟩
theorem lw_p3 : lw_okq (⟨"GyreWatch$Sea", "carry", "([I)V"⟩, 8) := ⟨⟨by decide +kernel, by decide +kernel⟩, List.mem_of_getElem? (i := 29) (by decide +kernel), List.mem_of_getElem? (i := 358) (by decide +kernel), List.mem_of_getElem? (i := 359) (by decide +kernel)⟩
theorem lw_p4 : lw_okq (⟨"GyreWatch", "letDrift", "(LGyreWatch$Buoy;)V"⟩, 10) := ⟨⟨by decide +kernel, by decide +kernel⟩, List.mem_of_getElem? (i := 21) (by decide +kernel), List.mem_of_getElem? (i := 395) (by decide +kernel), List.mem_of_getElem? (i := 396) (by decide +kernel)⟩
theorem lw_p5 : lw_okq (⟨"GyreWatch$Search", "give", "(III)V"⟩, 3) := ⟨⟨by decide +kernel, by decide +kernel⟩, List.mem_of_getElem? (i := 458) (by decide +kernel), List.mem_of_getElem? (i := 456) (by decide +kernel), List.mem_of_getElem? (i := 457) (by decide +kernel)⟩
theorem lw_p6 : lw_okq (⟨"GyreWatch", "readAtStations", "()V"⟩, 10) := ⟨⟨by decide +kernel, by decide +kernel⟩, List.mem_of_getElem? (i := 21) (by decide +kernel), List.mem_of_getElem? (i := 463) (by decide +kernel), List.mem_of_getElem? (i := 464) (by decide +kernel)⟩
theorem lw_p7 : lw_okq (⟨"GyreWatch", "buoyNumbered", "(I)LGyreWatch$Buoy;"⟩, 10) := ⟨⟨by decide +kernel, by decide +kernel⟩, List.mem_of_getElem? (i := 21) (by decide +kernel), List.mem_of_getElem? (i := 588) (by decide +kernel), List.mem_of_getElem? (i := 589) (by decide +kernel)⟩
theorem lw_p8 : lw_okq (⟨"GyreWatch", "readingNumbered", "(I)LGyreWatch$Reading;"⟩, 10) := ⟨⟨by decide +kernel, by decide +kernel⟩, List.mem_of_getElem? (i := 21) (by decide +kernel), List.mem_of_getElem? (i := 612) (by decide +kernel), List.mem_of_getElem? (i := 613) (by decide +kernel)⟩
theorem lw_p9 : lw_okq (⟨"GyreWatch$Reading", "isSpike", "(I)Z"⟩, 7) := ⟨⟨by decide +kernel, by decide +kernel⟩, List.mem_of_getElem? (i := 408) (by decide +kernel), List.mem_of_getElem? (i := 621) (by decide +kernel), List.mem_of_getElem? (i := 622) (by decide +kernel)⟩
theorem lw_p10 : lw_okq (⟨"GyreWatch", "searchNumbered", "(I)LGyreWatch$Search;"⟩, 10) := ⟨⟨by decide +kernel, by decide +kernel⟩, List.mem_of_getElem? (i := 21) (by decide +kernel), List.mem_of_getElem? (i := 667) (by decide +kernel), List.mem_of_getElem? (i := 668) (by decide +kernel)⟩
theorem lw_p11 : lw_okq (⟨"GyreWatch", "needSea", "(I)V"⟩, 10) := ⟨⟨by decide +kernel, by decide +kernel⟩, List.mem_of_getElem? (i := 21) (by decide +kernel), List.mem_of_getElem? (i := 742) (by decide +kernel), List.mem_of_getElem? (i := 743) (by decide +kernel)⟩
theorem lw_p12 : lw_okq (⟨"GyreWatch", "meanWithout", "(LGyreWatch$Reading;III)I"⟩, 10) := ⟨⟨by decide +kernel, by decide +kernel⟩, List.mem_of_getElem? (i := 21) (by decide +kernel), List.mem_of_getElem? (i := 747) (by decide +kernel), List.mem_of_getElem? (i := 748) (by decide +kernel)⟩
theorem lw_p13 : lw_okq (⟨"GyreWatch$Log", "isInSpan", "(LGyreWatch$Reading;II)Z"⟩, 3) := ⟨⟨by decide +kernel, by decide +kernel⟩, List.mem_of_getElem? (i := 89) (by decide +kernel), List.mem_of_getElem? (i := 755) (by decide +kernel), List.mem_of_getElem? (i := 756) (by decide +kernel)⟩
theorem lw_p14 : lw_okq (⟨"GyreWatch", "tideAt", "(I)I"⟩, 10) := ⟨⟨by decide +kernel, by decide +kernel⟩, List.mem_of_getElem? (i := 21) (by decide +kernel), List.mem_of_getElem? (i := 823) (by decide +kernel), List.mem_of_getElem? (i := 824) (by decide +kernel)⟩
theorem lw_p15 : lw_okq (⟨"GyreWatchModel", "flows", "()V"⟩, 37) := ⟨⟨by decide +kernel, by decide +kernel⟩, List.mem_of_getElem? (i := 840) (by decide +kernel), List.mem_of_getElem? (i := 984) (by decide +kernel), List.mem_of_getElem? (i := 985) (by decide +kernel)⟩
def lw_privs_1 : List (MethodName × Nat) := [(⟨"java/lang/Throwable", "fillInStackTrace", "(I)Ljava/lang/Throwable;"⟩, 6), (⟨"GyreWatch", "isTaken", "(I)Z"⟩, 10), (⟨"GyreWatch", "passOneDay", "()V"⟩, 10), (⟨"GyreWatch$Sea", "carry", "([I)V"⟩, 8), (⟨"GyreWatch", "letDrift", "(LGyreWatch$Buoy;)V"⟩, 10), (⟨"GyreWatch$Search", "give", "(III)V"⟩, 3), (⟨"GyreWatch", "readAtStations", "()V"⟩, 10), (⟨"GyreWatch", "buoyNumbered", "(I)LGyreWatch$Buoy;"⟩, 10), (⟨"GyreWatch", "readingNumbered", "(I)LGyreWatch$Reading;"⟩, 10), (⟨"GyreWatch$Reading", "isSpike", "(I)Z"⟩, 7), (⟨"GyreWatch", "searchNumbered", "(I)LGyreWatch$Search;"⟩, 10), (⟨"GyreWatch", "needSea", "(I)V"⟩, 10), (⟨"GyreWatch", "meanWithout", "(LGyreWatch$Reading;III)I"⟩, 10), (⟨"GyreWatch$Log", "isInSpan", "(LGyreWatch$Reading;II)Z"⟩, 3), (⟨"GyreWatch", "tideAt", "(I)I"⟩, 10), (⟨"GyreWatchModel", "flows", "()V"⟩, 37)]
theorem lw_r1 : ∀ q ∈ lw_privs_1, lw_okq q := List.forall_mem_cons.mpr ⟨lw_p0, List.forall_mem_cons.mpr ⟨lw_p1, List.forall_mem_cons.mpr ⟨lw_p2, List.forall_mem_cons.mpr ⟨lw_p3, List.forall_mem_cons.mpr ⟨lw_p4, List.forall_mem_cons.mpr ⟨lw_p5, List.forall_mem_cons.mpr ⟨lw_p6, List.forall_mem_cons.mpr ⟨lw_p7, List.forall_mem_cons.mpr ⟨lw_p8, List.forall_mem_cons.mpr ⟨lw_p9, List.forall_mem_cons.mpr ⟨lw_p10, List.forall_mem_cons.mpr ⟨lw_p11, List.forall_mem_cons.mpr ⟨lw_p12, List.forall_mem_cons.mpr ⟨lw_p13, List.forall_mem_cons.mpr ⟨lw_p14, List.forall_mem_cons.mpr ⟨lw_p15, fun _ h => absurd h List.not_mem_nil⟩⟩⟩⟩⟩⟩⟩⟩⟩⟩⟩⟩⟩⟩⟩⟩
theorem lw_p16 : lw_okq (⟨"GyreWatchModel", "leads", "(I)I"⟩, 37) := ⟨⟨by decide +kernel, by decide +kernel⟩, List.mem_of_getElem? (i := 840) (by decide +kernel), List.mem_of_getElem? (i := 988) (by decide +kernel), List.mem_of_getElem? (i := 989) (by decide +kernel)⟩
theorem lw_p17 : lw_okq (⟨"GyreWatchModel", "beside", "(II)I"⟩, 37) := ⟨⟨by decide +kernel, by decide +kernel⟩, List.mem_of_getElem? (i := 840) (by decide +kernel), List.mem_of_getElem? (i := 992) (by decide +kernel), List.mem_of_getElem? (i := 993) (by decide +kernel)⟩
theorem lw_p18 : lw_okq (⟨"GyreWatchModel", "warmsAndTurns", "(I)V"⟩, 37) := ⟨⟨by decide +kernel, by decide +kernel⟩, List.mem_of_getElem? (i := 840) (by decide +kernel), List.mem_of_getElem? (i := 996) (by decide +kernel), List.mem_of_getElem? (i := 997) (by decide +kernel)⟩
theorem lw_p19 : lw_okq (⟨"GyreWatchModel", "parks", "(I)V"⟩, 37) := ⟨⟨by decide +kernel, by decide +kernel⟩, List.mem_of_getElem? (i := 840) (by decide +kernel), List.mem_of_getElem? (i := 1000) (by decide +kernel), List.mem_of_getElem? (i := 1001) (by decide +kernel)⟩
theorem lw_p20 : lw_okq (⟨"GyreWatchModel", "reads", "(III)V"⟩, 37) := ⟨⟨by decide +kernel, by decide +kernel⟩, List.mem_of_getElem? (i := 840) (by decide +kernel), List.mem_of_getElem? (i := 1004) (by decide +kernel), List.mem_of_getElem? (i := 1005) (by decide +kernel)⟩
theorem lw_p21 : lw_okq (⟨"GyreWatchModel", "drifts", "(I)V"⟩, 37) := ⟨⟨by decide +kernel, by decide +kernel⟩, List.mem_of_getElem? (i := 840) (by decide +kernel), List.mem_of_getElem? (i := 1008) (by decide +kernel), List.mem_of_getElem? (i := 1009) (by decide +kernel)⟩
theorem lw_p22 : lw_okq (⟨"GyreWatchModel", "ships", "()V"⟩, 37) := ⟨⟨by decide +kernel, by decide +kernel⟩, List.mem_of_getElem? (i := 840) (by decide +kernel), List.mem_of_getElem? (i := 1012) (by decide +kernel), List.mem_of_getElem? (i := 1013) (by decide +kernel)⟩
theorem lw_p23 : lw_okq (⟨"GyreWatchModel", "stationOf", "(II)I"⟩, 37) := ⟨⟨by decide +kernel, by decide +kernel⟩, List.mem_of_getElem? (i := 840) (by decide +kernel), List.mem_of_getElem? (i := 1016) (by decide +kernel), List.mem_of_getElem? (i := 1017) (by decide +kernel)⟩
theorem lw_p24 : lw_okq (⟨"GyreWatchModel", "isStorm", "(I)Z"⟩, 37) := ⟨⟨by decide +kernel, by decide +kernel⟩, List.mem_of_getElem? (i := 840) (by decide +kernel), List.mem_of_getElem? (i := 1020) (by decide +kernel), List.mem_of_getElem? (i := 1021) (by decide +kernel)⟩
theorem lw_p25 : lw_okq (⟨"GyreWatchModel", "isFloat", "(I)Z"⟩, 37) := ⟨⟨by decide +kernel, by decide +kernel⟩, List.mem_of_getElem? (i := 840) (by decide +kernel), List.mem_of_getElem? (i := 1040) (by decide +kernel), List.mem_of_getElem? (i := 1041) (by decide +kernel)⟩
theorem lw_p26 : lw_okq (⟨"GyreWatchModel", "shipFor", "(I)I"⟩, 37) := ⟨⟨by decide +kernel, by decide +kernel⟩, List.mem_of_getElem? (i := 840) (by decide +kernel), List.mem_of_getElem? (i := 1044) (by decide +kernel), List.mem_of_getElem? (i := 1045) (by decide +kernel)⟩
theorem lw_p27 : lw_okq (⟨"GyreWatchModel", "isReading", "(I)Z"⟩, 37) := ⟨⟨by decide +kernel, by decide +kernel⟩, List.mem_of_getElem? (i := 840) (by decide +kernel), List.mem_of_getElem? (i := 1055) (by decide +kernel), List.mem_of_getElem? (i := 1056) (by decide +kernel)⟩
theorem lw_p28 : lw_okq (⟨"GyreWatchModel", "flagOf", "(I)I"⟩, 37) := ⟨⟨by decide +kernel, by decide +kernel⟩, List.mem_of_getElem? (i := 840) (by decide +kernel), List.mem_of_getElem? (i := 1059) (by decide +kernel), List.mem_of_getElem? (i := 1060) (by decide +kernel)⟩
theorem lw_p29 : lw_okq (⟨"GyreWatchModel", "corrected", "(I)I"⟩, 37) := ⟨⟨by decide +kernel, by decide +kernel⟩, List.mem_of_getElem? (i := 840) (by decide +kernel), List.mem_of_getElem? (i := 1063) (by decide +kernel), List.mem_of_getElem? (i := 1064) (by decide +kernel)⟩
theorem lw_p30 : lw_okq (⟨"GyreWatchModel", "isSearch", "(I)Z"⟩, 37) := ⟨⟨by decide +kernel, by decide +kernel⟩, List.mem_of_getElem? (i := 840) (by decide +kernel), List.mem_of_getElem? (i := 1079) (by decide +kernel), List.mem_of_getElem? (i := 1080) (by decide +kernel)⟩
theorem lw_p31 : lw_okq (⟨"GyreWatchModel", "misses", "(III)I"⟩, 37) := ⟨⟨by decide +kernel, by decide +kernel⟩, List.mem_of_getElem? (i := 840) (by decide +kernel), List.mem_of_getElem? (i := 1119) (by decide +kernel), List.mem_of_getElem? (i := 1120) (by decide +kernel)⟩
def lw_privs_2 : List (MethodName × Nat) := [(⟨"GyreWatchModel", "leads", "(I)I"⟩, 37), (⟨"GyreWatchModel", "beside", "(II)I"⟩, 37), (⟨"GyreWatchModel", "warmsAndTurns", "(I)V"⟩, 37), (⟨"GyreWatchModel", "parks", "(I)V"⟩, 37), (⟨"GyreWatchModel", "reads", "(III)V"⟩, 37), (⟨"GyreWatchModel", "drifts", "(I)V"⟩, 37), (⟨"GyreWatchModel", "ships", "()V"⟩, 37), (⟨"GyreWatchModel", "stationOf", "(II)I"⟩, 37), (⟨"GyreWatchModel", "isStorm", "(I)Z"⟩, 37), (⟨"GyreWatchModel", "isFloat", "(I)Z"⟩, 37), (⟨"GyreWatchModel", "shipFor", "(I)I"⟩, 37), (⟨"GyreWatchModel", "isReading", "(I)Z"⟩, 37), (⟨"GyreWatchModel", "flagOf", "(I)I"⟩, 37), (⟨"GyreWatchModel", "corrected", "(I)I"⟩, 37), (⟨"GyreWatchModel", "isSearch", "(I)Z"⟩, 37), (⟨"GyreWatchModel", "misses", "(III)I"⟩, 37)]
theorem lw_r2 : ∀ q ∈ lw_privs_2, lw_okq q := List.forall_mem_cons.mpr ⟨lw_p16, List.forall_mem_cons.mpr ⟨lw_p17, List.forall_mem_cons.mpr ⟨lw_p18, List.forall_mem_cons.mpr ⟨lw_p19, List.forall_mem_cons.mpr ⟨lw_p20, List.forall_mem_cons.mpr ⟨lw_p21, List.forall_mem_cons.mpr ⟨lw_p22, List.forall_mem_cons.mpr ⟨lw_p23, List.forall_mem_cons.mpr ⟨lw_p24, List.forall_mem_cons.mpr ⟨lw_p25, List.forall_mem_cons.mpr ⟨lw_p26, List.forall_mem_cons.mpr ⟨lw_p27, List.forall_mem_cons.mpr ⟨lw_p28, List.forall_mem_cons.mpr ⟨lw_p29, List.forall_mem_cons.mpr ⟨lw_p30, List.forall_mem_cons.mpr ⟨lw_p31, fun _ h => absurd h List.not_mem_nil⟩⟩⟩⟩⟩⟩⟩⟩⟩⟩⟩⟩⟩⟩⟩⟩
theorem lw_p32 : lw_okq (⟨"GyreWatchModel", "weights", "(IIII)I"⟩, 37) := ⟨⟨by decide +kernel, by decide +kernel⟩, List.mem_of_getElem? (i := 840) (by decide +kernel), List.mem_of_getElem? (i := 1123) (by decide +kernel), List.mem_of_getElem? (i := 1124) (by decide +kernel)⟩
theorem lw_p33 : lw_okq (⟨"GyreWatchModel", "weight", "(IIII)I"⟩, 37) := ⟨⟨by decide +kernel, by decide +kernel⟩, List.mem_of_getElem? (i := 840) (by decide +kernel), List.mem_of_getElem? (i := 1127) (by decide +kernel), List.mem_of_getElem? (i := 1128) (by decide +kernel)⟩
theorem lw_p34 : lw_okq (⟨"GyreWatchModel", "meanOf", "(IIII)I"⟩, 37) := ⟨⟨by decide +kernel, by decide +kernel⟩, List.mem_of_getElem? (i := 840) (by decide +kernel), List.mem_of_getElem? (i := 1131) (by decide +kernel), List.mem_of_getElem? (i := 1132) (by decide +kernel)⟩
theorem lw_p35 : lw_okq (⟨"GyreWatchModel", "bestOf", "(I)I"⟩, 37) := ⟨⟨by decide +kernel, by decide +kernel⟩, List.mem_of_getElem? (i := 840) (by decide +kernel), List.mem_of_getElem? (i := 1151) (by decide +kernel), List.mem_of_getElem? (i := 1152) (by decide +kernel)⟩
theorem lw_p36 : lw_okq (⟨"GyreWatchModel", "tideAt", "(I)I"⟩, 37) := ⟨⟨by decide +kernel, by decide +kernel⟩, List.mem_of_getElem? (i := 840) (by decide +kernel), List.mem_of_getElem? (i := 1164) (by decide +kernel), List.mem_of_getElem? (i := 1165) (by decide +kernel)⟩
def lw_privs_3 : List (MethodName × Nat) := [(⟨"GyreWatchModel", "weights", "(IIII)I"⟩, 37), (⟨"GyreWatchModel", "weight", "(IIII)I"⟩, 37), (⟨"GyreWatchModel", "meanOf", "(IIII)I"⟩, 37), (⟨"GyreWatchModel", "bestOf", "(I)I"⟩, 37), (⟨"GyreWatchModel", "tideAt", "(I)I"⟩, 37)]
theorem lw_r3 : ∀ q ∈ lw_privs_3, lw_okq q := List.forall_mem_cons.mpr ⟨lw_p32, List.forall_mem_cons.mpr ⟨lw_p33, List.forall_mem_cons.mpr ⟨lw_p34, List.forall_mem_cons.mpr ⟨lw_p35, List.forall_mem_cons.mpr ⟨lw_p36, fun _ h => absurd h List.not_mem_nil⟩⟩⟩⟩⟩
def lw_privs : List (MethodName × Nat) := lw_privs_1 ++ (lw_privs_2 ++ (lw_privs_3))
def lw_tbl : List Cond := k2_sels lw_privs ++ tables_1
theorem lw_privs_ok : ∀ q ∈ lw_privs, lw_okq q := by
  show ∀ q ∈ lw_privs_1 ++ (lw_privs_2 ++ (lw_privs_3)), lw_okq q
  exact List.forall_mem_append.mpr ⟨lw_r1, List.forall_mem_append.mpr ⟨lw_r2, lw_r3⟩⟩
/-! ===== BEGIN words of one list among another's, by their places ===== -/
theorem goodIn_r {big : List Cond} (ws : List Cond) (ps : List Nat) (hp : ws = ps.filterMap (fun i => big[i]?)) (h : ws.all goodWord = true) : GoodIn big ws := by
  intro w hw
  have h1 := List.all_eq_true.mp h w hw
  rw [hp] at hw
  obtain ⟨i, -, hi⟩ := List.mem_filterMap.mp hw
  have hm : w ∈ big := by first | exact List.mem_of_getElem? hi | exact List.getElem?_mem hi
  exact ⟨hm, good_of_word h1⟩
theorem goodIn_app {big a b : List Cond} (ha : GoodIn big a) (hb : GoodIn big b) : GoodIn big (a ++ b) := fun w h => (List.mem_append.mp h).elim (ha w) (hb w)
theorem goodIn_ca {big a b : List Cond} {c : Cond} (ha : GoodIn big (c :: a)) (hb : GoodIn big b) : GoodIn big (c :: (a ++ b)) := fun w h => (List.mem_cons.mp h).elim (fun e => ha w (List.mem_cons.mpr (Or.inl e))) (fun h => (List.mem_append.mp h).elim (fun h => ha w (List.mem_cons.mpr (Or.inr h))) (hb w))
theorem goodIn_sub {big ws : List Cond} (hm : ∀ w ∈ ws, w ∈ big) (h : ws.all goodWord = true) : GoodIn big ws := fun w hw => ⟨hm w hw, good_of_word (List.all_eq_true.mp h w hw)⟩
/-! ===== END ===== -/

/-! ===== BEGIN exceptions that leave a method, and their catching by the caller (launches without stack traces) ===== -/
section VXA
/-! The laws vx_back, vx_callV, vx_callS, vx_callSW, vx_throw0, vx_throwS follow proofs of the library, with one case more: JvmDerived/Free/Laws.lean (Back.of_free), Shelf42/LK1.lean (callV, callS), Shelf/KitTraced.lean (throwNew0V, throwNewS). -/
/-- where a method has thrown q: the class by its name, the cell, what was written, the world -/
def vx_T (XC : String → State → State → Prop) (st : State) (q : Addr) (t : State) (mc ms : Nat) (free : Addr → Prop) : Prop :=
  ∃ (E : String) (ce : Cell) (L : List Loc), XC E st t ∧ t.heap[q]? = some ce ∧ ce.vm = .none ∧ st.vm.findClass E = some ce.cls ∧ st.WarmedH t.vm ∧ st.sameButNew ({ t with vm := st.vm } : State) L mc ms ∧ ∀ z ∈ L, free z.base
def vx_Q (Qc : Array Value → State → Outcome → State → Prop) (XC : String → State → State → Prop) (mc ms : Nat) (free : Addr → Prop) : Array Value → State → Outcome → State → Prop := fun a st o t =>
  (Qc a st o t ∧ ∃ L, FrameEnd st o t L mc ms ∧ ∀ q ∈ L, free q.base) ∨ ∃ q, o = .threw q ∧ vx_T XC st q t mc ms free
/-- a callee that returns or throws -/
def vx_Met (l : Launch) (y : MethodName) (ws : List Cond) (rm : Room) (Pc : Array Value → State → Prop) (Qc : Array Value → State → Outcome → State → Prop) (XC : String → State → State → Prop) (mc ms : Nat) (free : Addr → Prop) : Prop :=
  MetFree l y (headSpec ws rm) Pc (fun _ _ _ _ _ => True) (vx_Q Qc XC mc ms free)
def vx_Post (XC : String → State → State → Prop) (mc ms : Nat) (free : Addr → Prop) : Pt → Array Value → Addr → Pt → Prop := fun A a q B =>
  ∃ (g : JFrame) (mk : MethodId) (t : State) (L : List Loc) (E : String) (ce : Cell), B.U.heap = t.heap ∧ B.U.vm = t.vm ∧ XC E (A.U.calling g mk a) t ∧ t.heap[q]? = some ce ∧ ce.vm = .none ∧ A.U.vm.findClass E = some ce.cls ∧ B.locs = A.locs ++ L ∧ (∀ z ∈ L, free z.base) ∧ B.cells = A.cells + mc ∧ B.slots = A.slots + ms
def vx_Back (l : Launch) (R : Room) (p : Program) (e : Env) (below : List Frame) (s : State) (sargs : Array Value) (y : MethodName) (len W9 : Nat)
    (Pre : Pt → Array Value → Prop) (Post : Pt → Array Value → Option Value → Pt → Prop) (PostX : Pt → Array Value → Addr → Pt → Prop) : Prop :=
  ∀ (m : MethodId) (meth : Method) (c : Code) (A : Pt) (g : JFrame) (ig : Instr) (mk : MethodId) (a : Array Value),
    Stand p l e R s m sargs below meth c A.U A.locs A.cells A.slots → g.method = m → g.locals.size = c.maxLocals → decode c.code g.pc = .ok (ig, len) →
    2 * g.monitorRoom + (g.stack.map fun v => v.category).sum ≤ W9 → A.U.methodNamed? y = some mk → Pre A a →
    (∃ (v : Option Value) (B : Pt), Stand p l e R s m sargs below meth c B.U B.locs B.cells B.slots ∧ Post A a v B ∧
      Steps p.tables e below (doInvoke e (A.U.setTop g) [] mk a).1 (B.U.setTop { g with pc := g.pc + len, stack := v.toList ++ g.stack })) ∨
    (∃ (q : Addr) (B : Pt), Stand p l e R s m sargs below meth c B.U B.locs B.cells B.slots ∧ PostX A a q B ∧
      Steps p.tables e below (doInvoke e (A.U.setTop g) [] mk a).1 ((B.U.setTop g).pushFrame (.throwing q)))
section Payer
variable {l : Launch} {R : Room} {p : Program} {e : Env} {below : List Frame} {s : State} {sargs : Array Value} {y : MethodName} {len W9 : Nat}
theorem vx_back {ws : List Cond} {rm : Room} {Pc : Array Value → State → Prop} {Qc : Array Value → State → Outcome → State → Prop} {XC : String → State → State → Prop} {mc ms : Nat} {free : Addr → Prop} {bytes : ByteArray} {maxL : Nat} {ret : Option FieldType}
    (hM : vx_Met l y ws rm Pc Qc XC mc ms free) (hblind : FrameBlind Pc) (hrc : rm.cells = mc) (hrs : rm.slots = ms)
    (hframes : rm.frames + 1 ≤ R.frames) (hlocals : W9 + (maxL + 11) + rm.locals ≤ R.locals)
    (hws : ∀ w ∈ ws, ∀ a' U, s.WarmedH U.vm → w.before a' U = true) (hcode : Cond.code y bytes maxL ret ∈ ws) (hinit : ∀ a' U, s.WarmedH U.vm → (Cond.initialized y.cls).before a' U = true) :
    vx_Back l R p e below s sargs y len W9 (PreOf R mc ms Pc) (PostOf Qc mc ms free) (vx_Post XC mc ms free) := by
  intro m meth c A g ig mk a X hg hsize hdg hW hn hp
  have h1 : (headSpec ws rm).pre.before a A.U = true := atoms_intro fun w hw => hws w hw _ _ X.warmed
  have h2 : (Cond.code y bytes maxL ret).before a A.U = true := hws _ hcode _ _ X.warmed
  have h3 : (Cond.initialized y.cls).before a A.U = true := hinit _ _ X.warmed
  have h4 : A.cells + (headSpec ws rm).room.cells ≤ R.cells := by rw [show (headSpec ws rm).room.cells = mc from hrc]; exact hp.1
  have h5 : A.slots + (headSpec ws rm).room.slots ≤ R.slots := by rw [show (headSpec ws rm).room.slots = ms from hrs]; exact hp.2.1
  have hPc : Pc a (A.U.calling g mk a) := hblind _ _ _ _ hp.2.2
  obtain ⟨U, Ls, c0, s0⟩ := A
  dsimp only [Pt.U, Pt.locs, Pt.cells, Pt.slots] at h1 h2 h3 h4 h5 X hn hPc ⊢
  obtain ⟨methY, cY, hmY, hcY, -, hlY, -, -, -, -⟩ := Cond.code_spec hn h2
  obtain ⟨kY, hkY, -⟩ := className_of_methodNamed hn
  have hinitY : kY.init = .initialized := Cond.initialized_spec (findClass_of_methodNamed hn) hkY h3
  have h : At U g.method c below := by rw [hg]; exact X.here
  have hlocals9 : W9 + (maxL + 11) + (headSpec ws rm).room.locals ≤ R.locals := hlocals
  have happ : (headSpec ws rm).appliesLoose y e.platform (U.calling g mk a) = true :=
    Spec.appliesLoose_calling (g := g) h hdg hn hkY hinitY
      (X.room_calling (g := g) (R' := (headSpec ws rm).room) hsize hmY hcY hframes (by rw [hlY]; omega) h4 h5) h1
  obtain ⟨mid, hmid⟩ := h.above
  have hfr : (U.setTop g).frames = (.java g :: mid) ++ below := by rw [State.frames_setTop' g h.top, hmid]; rfl
  obtain ⟨o, s₂, hsteps, -, hend, hq⟩ := Steps.callFree hM p X.admits X.cas X.clock (acts := []) hfr happ hPc trivial
  have hq' : vx_Q Qc XC mc ms free a (U.calling g mk a) o s₂ := hq
  rw [State.frames_setTop' g h.top] at hend
  obtain ⟨g₀, hg0⟩ := Option.isSome_iff_exists.mp h.top
  obtain ⟨r, hr⟩ := State.topJava?_eq_some.mp hg0
  have hr' : (({ U with heap := s₂.heap, slotsUsed := s₂.slotsUsed } : State).setVm s₂.vm).frames = .java g₀ :: r := hr
  rcases hq' with ⟨hqc, L, hfe, hL⟩ | ⟨q, rfl, E, ce, L, hx, hce, hcv, hcl, hW₂, hsm, hL⟩
  · obtain ⟨⟨v, rfl⟩, hW₂, e2, q2, q3, q4, q5, q6⟩ := id hfe
    have e3 : s₂ = ({ (U.calling g mk a).setFrames s₂.frames with heap := s₂.heap, slotsUsed := s₂.slotsUsed } : State).setVm s₂.vm := by
      have : s₂ = ({ s₂ with vm := (U.calling g mk a).vm } : State).setVm s₂.vm := rfl
      rw [e2] at this
      exact this
    obtain ⟨c₂, i₂, len₂, hc₂, hd₂, hf₂⟩ := hend
    have hW' : U.WarmedH s₂.vm := hW₂
    have hcc : c₂ = c := by
      have h1 : s₂.code? g.method = U.code? g.method := by
        rw [State.code?_eq, State.code?_eq, hW'.alike.method?]
      exact Option.some.inj (hc₂.symm.trans (h1.trans h.code))
    subst hcc
    have hlen : len₂ = len := by rw [hdg] at hd₂; cases hd₂; rfl
    subst hlen
    have hs₂ : s₂ = (({ U with heap := s₂.heap, slotsUsed := s₂.slotsUsed } : State).setVm s₂.vm).setTop { g with pc := g.pc + len₂, stack := v.toList ++ g.stack } := by
      refine e3.trans ?_
      rw [hf₂, State.calling_eq h.top, State.setFrames_setFrames, State.setTop_of_frames _ hr', hr]
      rfl
    have hsame : U.sameButNew ({ U with heap := s₂.heap, slotsUsed := s₂.slotsUsed } : State) L mc ms := by
      refine ⟨?_, q2, q3, q4, q5, q6⟩
      obtain ⟨t, ht, -⟩ := State.frames_cons hr
      show ({ U with heap := s₂.heap, slotsUsed := s₂.slotsUsed } : State) = { U.setFrames U.frames with heap := s₂.heap, slotsUsed := s₂.slotsUsed }
      rw [State.setFrames_self ht]
    subst hg
    refine Or.inl ⟨v, ⟨(({ U with heap := s₂.heap, slotsUsed := s₂.slotsUsed } : State).setVm s₂.vm), Ls ++ L, c0 + mc, s0 + ms⟩,
      ⟨X.admits, X.cas, X.clock, X.frames, X.room, X.hears, X.method, X.code, (X.here.setHeapUsed s₂.heap s₂.slotsUsed).setVm hW'.alike, X.tail, State.WarmedH.trans X.warmed hW', X.limits, X.bytes, X.same.trans (hsame.setVm s.vm)⟩,
      ⟨g, mk, s₂, L, rfl, rfl, hqc, rfl, hL, rfl, rfl⟩, ?_⟩
    show Steps p.tables e below _ ((({ U with heap := s₂.heap, slotsUsed := s₂.slotsUsed } : State).setVm s₂.vm).setTop { g with pc := g.pc + len₂, stack := v.toList ++ g.stack })
    rw [← hs₂]
    exact hsteps
  · obtain ⟨e2, q2, q3, q4, q5, q6⟩ := id hsm
    have e3 : s₂ = ({ (U.calling g mk a).setFrames s₂.frames with heap := s₂.heap, slotsUsed := s₂.slotsUsed } : State).setVm s₂.vm := by
      have : s₂ = ({ s₂ with vm := (U.calling g mk a).vm } : State).setVm s₂.vm := rfl
      rw [e2] at this
      exact this
    have hf₂ : s₂.frames = .throwing q :: .java g :: U.frames.tail := hend
    have hW' : U.WarmedH s₂.vm := hW₂
    have hs₂ : s₂ = ((({ U with heap := s₂.heap, slotsUsed := s₂.slotsUsed } : State).setVm s₂.vm).setTop g).pushFrame (.throwing q) := by
      refine e3.trans ?_
      rw [hf₂, State.calling_eq h.top, State.setFrames_setFrames, State.pushFrame, State.frames_setTop _ hr', State.setTop_of_frames _ hr', State.setFrames_setFrames, hr]
      rfl
    have hsame : U.sameButNew ({ U with heap := s₂.heap, slotsUsed := s₂.slotsUsed } : State) L mc ms := by
      refine ⟨?_, q2, q3, q4, q5, q6⟩
      obtain ⟨t, ht, -⟩ := State.frames_cons hr
      show ({ U with heap := s₂.heap, slotsUsed := s₂.slotsUsed } : State) = { U.setFrames U.frames with heap := s₂.heap, slotsUsed := s₂.slotsUsed }
      rw [State.setFrames_self ht]
    subst hg
    refine Or.inr ⟨q, ⟨(({ U with heap := s₂.heap, slotsUsed := s₂.slotsUsed } : State).setVm s₂.vm), Ls ++ L, c0 + mc, s0 + ms⟩,
      ⟨X.admits, X.cas, X.clock, X.frames, X.room, X.hears, X.method, X.code, (X.here.setHeapUsed s₂.heap s₂.slotsUsed).setVm hW'.alike, X.tail, State.WarmedH.trans X.warmed hW', X.limits, X.bytes, X.same.trans (hsame.setVm s.vm)⟩,
      ⟨g, mk, s₂, L, E, ce, rfl, rfl, hx, hce, hcv, hcl, rfl, hL, rfl, rfl⟩, ?_⟩
    show Steps p.tables e below _ (((({ U with heap := s₂.heap, slotsUsed := s₂.slotsUsed } : State).setVm s₂.vm).setTop g).pushFrame (.throwing q))
    rw [← hs₂]
    exact hsteps
end Payer
section Calls
variable {p : Program} {l : Launch} {e : Env} {R : Room} {s : State} {m : MethodId} {args : Array Value} {below : List Frame} {meth : Method} {c : Code} {T : State} {locs : List Loc} {cells slots : Nat}
theorem vx_callV (X : Stand p l e R s m args below meth c T locs cells slots) (hexec : p.tables.exec = Jvm.exec) {own C : String} {index : Nat} {y : MethodName} {bytes : ByteArray} {maxL : Nat} {ret : Option FieldType}
    (hown : s.vm.findClass own = some m.cls) (hlink : (Cond.methodLink own index y).before args s = true) (hinst : (Cond.instanceMethod y).before args s = true) (hsel : (Cond.selects C y y).before args s = true)
    (hcode : (Cond.code y bytes maxL ret).before args s = true) (hy : y.cls ≠ "java/lang/invoke/MethodHandle" ∧ y.cls ≠ "java/lang/invoke/VarHandle")
    {W9 : Nat} {Pre : Pt → Array Value → Prop} {Post : Pt → Array Value → Option Value → Pt → Prop} {PostX : Pt → Array Value → Addr → Pt → Prop} (hK : vx_Back l R p e below s args y 3 W9 Pre Post PostX)
    {b : Addr} {cellB : Cell} (hcell : T.heap[b]? = some cellB) (hobj : cellB.vm.isStatics = false) (hcls : s.vm.findClass C = some cellB.cls)
    {g : JFrame} (hg : g.method = m) (hsize : g.locals.size = c.maxLocals) {argsL rest : List Value} (hlen : ∀ sig, parseMethodDescriptor y.desc = some sig → argsL.length = sig.parameters.length)
    (hstack : g.stack = argsL.reverse ++ .ref b :: rest) (hW : 2 * g.monitorRoom + (rest.map fun v => v.category).sum ≤ W9) (hdg : decode c.code g.pc = .ok (.invokevirtual index, 3))
    (hpre : ∀ vm₁, s.WarmedH vm₁ → Pre ⟨T.setVm vm₁, locs, cells, slots⟩ (Value.ref b :: argsL).toArray) :
    (∃ (v : Option Value) (vm₁ : Vm) (B : Pt), s.WarmedH vm₁ ∧ Stand p l e R s m args below meth c B.U B.locs B.cells B.slots ∧ Post ⟨T.setVm vm₁, locs, cells, slots⟩ (Value.ref b :: argsL).toArray v B ∧
      ∀ target, Steps p.tables e below (B.U.setTop { g with pc := g.pc + 3, stack := v.toList ++ rest }) target → Steps p.tables e below (T.setTop g) target) ∨
    (∃ (q : Addr) (vm₁ : Vm) (B : Pt), s.WarmedH vm₁ ∧ Stand p l e R s m args below meth c B.U B.locs B.cells B.slots ∧ PostX ⟨T.setVm vm₁, locs, cells, slots⟩ (Value.ref b :: argsL).toArray q B ∧
      Steps p.tables e below (T.setTop g) ((B.U.setTop { g with stack := rest }).pushFrame (.throwing q))) := by
  obtain ⟨mk, methM, hnamed, hmethM, hstM, habM⟩ := Cond.instanceMethod_spec hinst
  obtain ⟨methM', cM, hmethM', -, -, -, -, -, -, hsigM⟩ := Cond.code_spec hnamed hcode
  cases hmethM.symm.trans hmethM'
  obtain ⟨c2, r2, m2, q1, q2, q3, q4, kP, hkP, hkPi⟩ := Cond.selects_spec hsel
  cases hcls.symm.trans q1
  cases (State.methodFound?_of_named hnamed hy).symm.trans q2
  cases hnamed.symm.trans q3
  have hselP : selectMethod e.platform s.vm cellB.cls mk = .method mk := by rw [Launch.admits_selectMethod X.admits]; exact q4
  obtain ⟨vm₁, X₁, hstep₁⟩ := X.invokevirtual hexec hown hlink hnamed hmethM hstM hkP hkPi hy (a := b) (cell := cellB) hcell
    (fun z h => by rw [h] at hobj; cases hobj) hselP hmethM habM hkP hkPi (g := g) hg (argsL := argsL) (rest := rest) (hlen _ hsigM) hstack hdg
  rcases hK m meth c ⟨T.setVm vm₁, locs, cells, slots⟩ { g with stack := rest } (.invokevirtual index) mk (Value.ref b :: argsL).toArray X₁ hg hsize hdg hW (X₁.named hnamed) (hpre vm₁ X₁.warmed) with ⟨v, B, X', hpost, hsteps⟩ | ⟨q, B, X', hpost, hsteps⟩
  · exact Or.inl ⟨v, vm₁, B, X₁.warmed, X', hpost, fun target h => hstep₁ _ fun acts => by rw [doInvoke_state]; exact hsteps.trans h⟩
  · exact Or.inr ⟨q, vm₁, B, X₁.warmed, X', hpost, hstep₁ _ fun acts => by rw [doInvoke_state]; exact hsteps⟩
theorem vx_callS (X : Stand p l e R s m args below meth c T locs cells slots) (hexec : p.tables.exec = Jvm.exec) {own : String} {index : Nat} {y : MethodName} {bytes : ByteArray} {maxL : Nat} {ret : Option FieldType}
    (hown : s.vm.findClass own = some m.cls) (hlink : (Cond.methodLink own index y).before args s = true) (hstat : (Cond.static y).before args s = true) (hinit : (Cond.initialized y.cls).before args s = true)
    (hcode : (Cond.code y bytes maxL ret).before args s = true) (hy : y.cls ≠ "java/lang/invoke/MethodHandle" ∧ y.cls ≠ "java/lang/invoke/VarHandle")
    {W9 : Nat} {Pre : Pt → Array Value → Prop} {Post : Pt → Array Value → Option Value → Pt → Prop} {PostX : Pt → Array Value → Addr → Pt → Prop} (hK : vx_Back l R p e below s args y 3 W9 Pre Post PostX)
    {g : JFrame} (hg : g.method = m) (hsize : g.locals.size = c.maxLocals) {argsL rest : List Value} (hlen : ∀ sig, parseMethodDescriptor y.desc = some sig → argsL.length = sig.parameters.length)
    (hstack : g.stack = argsL.reverse ++ rest) (hW : 2 * g.monitorRoom + (rest.map fun v => v.category).sum ≤ W9) (hdg : decode c.code g.pc = .ok (.invokestatic index, 3))
    (hpre : ∀ vm₁, s.WarmedH vm₁ → Pre ⟨T.setVm vm₁, locs, cells, slots⟩ argsL.toArray) :
    (∃ (v : Option Value) (vm₁ : Vm) (B : Pt), s.WarmedH vm₁ ∧ Stand p l e R s m args below meth c B.U B.locs B.cells B.slots ∧ Post ⟨T.setVm vm₁, locs, cells, slots⟩ argsL.toArray v B ∧
      ∀ target, Steps p.tables e below (B.U.setTop { g with pc := g.pc + 3, stack := v.toList ++ rest }) target → Steps p.tables e below (T.setTop g) target) ∨
    (∃ (q : Addr) (vm₁ : Vm) (B : Pt), s.WarmedH vm₁ ∧ Stand p l e R s m args below meth c B.U B.locs B.cells B.slots ∧ PostX ⟨T.setVm vm₁, locs, cells, slots⟩ argsL.toArray q B ∧
      Steps p.tables e below (T.setTop g) ((B.U.setTop { g with stack := rest }).pushFrame (.throwing q))) := by
  obtain ⟨mk, hnamed⟩ := Cond.code_named hcode
  obtain ⟨methM, cM, hmethM, -, -, -, -, -, -, hsigM⟩ := Cond.code_spec hnamed hcode
  have hstatic : methM.isStatic = true := Cond.static_spec hnamed hmethM hstat
  obtain ⟨kP, hkP, -⟩ := className_of_methodNamed hnamed
  have hinitP : kP.init = .initialized := Cond.initialized_spec (findClass_of_methodNamed hnamed) hkP hinit
  obtain ⟨vm₁, X₁, hstep₁⟩ := X.invokestatic hexec hown hlink hnamed hmethM hstatic hkP hinitP hy (g := g) hg (argsL := argsL) (rest := rest) (hlen _ hsigM) hstack hdg
  rcases hK m meth c ⟨T.setVm vm₁, locs, cells, slots⟩ { g with stack := rest } (.invokestatic index) mk argsL.toArray X₁ hg hsize hdg hW (X₁.named hnamed) (hpre vm₁ X₁.warmed) with ⟨v, B, X', hpost, hsteps⟩ | ⟨q, B, X', hpost, hsteps⟩
  · exact Or.inl ⟨v, vm₁, B, X₁.warmed, X', hpost, fun target h => hstep₁ _ fun acts => by rw [doInvoke_state]; exact hsteps.trans h⟩
  · exact Or.inr ⟨q, vm₁, B, X₁.warmed, X', hpost, hstep₁ _ fun acts => by rw [doInvoke_state]; exact hsteps⟩
end Calls
theorem vx_cls {s : State} {T : State} {vm₁ : Vm} {E : String} {k : ClassId} (hW : s.WarmedH vm₁) (h : (T.setVm vm₁).vm.findClass E = some k) : s.vm.findClass E = some k := by
  have h1 : vm₁.findClass E = some k := h
  rw [hW.alike.findClass] at h1
  exact h1
/-- the method's frame g, with q thrown over it -/
def vx_W (p : Program) (l : Launch) (e : Env) (R : Room) (s : State) (m : MethodId) (args : Array Value) (below : List Frame) (meth : Method) (c : Code) (H : Heap) (locs : List Loc) (cells slots : Nat) (Q : State → Prop) (g : JFrame) (q : Addr) : Prop :=
  ∀ T : State, T.heap = H → Stand p l e R s m args below meth c T locs cells slots → ∃ t, Steps p.tables e below ((T.setTop g).pushFrame (.throwing q)) t ∧ Q t
def vx_Run (p : Program) (l : Launch) (e : Env) (R : Room) (s : State) (m : MethodId) (args : Array Value) (below : List Frame) (meth : Method) (c : Code) (H : Heap) (locs : List Loc) (cells slots mc ms : Nat) (g : JFrame) (rest : List Value) (Qa : State → Outcome → State → Prop) (XC : String → State → State → Prop) (free : Addr → Prop) : Prop :=
  ∀ T : State, T.heap = H → Stand p l e R s m args below meth c T locs cells slots →
    (∃ (v : Option Value) (st₀ t T' : State) (L : List Loc), st₀.heap = H ∧ Stand p l e R s m args below meth c T' (locs ++ L) (cells + mc) (slots + ms) ∧ (∀ q ∈ L, free q.base) ∧ T'.heap = t.heap ∧ T'.vm = t.vm ∧ Qa st₀ (.returned v) t ∧
      Goes p e below T g T' { g with pc := g.pc + 3, stack := v.toList ++ rest }) ∨
    (∃ (q : Addr) (st₀ t T' : State) (L : List Loc) (E : String) (ce : Cell), st₀.heap = H ∧ Stand p l e R s m args below meth c T' (locs ++ L) (cells + mc) (slots + ms) ∧ (∀ z ∈ L, free z.base) ∧ T'.heap = t.heap ∧ T'.vm = t.vm ∧ XC E st₀ t ∧ t.heap[q]? = some ce ∧ ce.vm = .none ∧ s.vm.findClass E = some ce.cls ∧
      Steps p.tables e below (T.setTop g) ((T'.setTop { g with stack := rest }).pushFrame (.throwing q)))
def vx_X {S : Type} (px : S → Prop) (B : String → S → State → Prop) (A : Nat → Prop) : String → State → State → Prop := fun E st t => ∃ u : S, px u ∧ B E u t ∧ va_F A st t
section Runs
variable {p : Program} {l : Launch} {e : Env} {R : Room} {s : State} {m : MethodId} {args : Array Value} {below : List Frame} {meth : Method} {c : Code} {H : Heap} {locs : List Loc} {cells slots : Nat}
variable {y : MethodName} {bytes cc : ByteArray} {maxL nL mc ms n index : Nat} {ret : Option FieldType} {ws : List Cond} {rm : Room} {Pc : Array Value → State → Prop} {Qc : Array Value → State → Outcome → State → Prop} {XC : String → State → State → Prop} {free : Addr → Prop} {Ts : List Cond} {own C : String} {b : Addr} {As rest : List Value} {g : JFrame}
theorem vx_callBack (cb : CallB R s args own index y bytes maxL ret ws rm mc ms n) (hM : vx_Met l y ws rm Pc Qc XC mc ms free) (hbl : FrameBlind Pc) : vx_Back l R p e below s args y 3 8 (PreOf R mc ms Pc) (PostOf Qc mc ms free) (vx_Post XC mc ms free) := by
  obtain ⟨hrc, hrs, hfr, hlo, hws, hcw, -, hini, -⟩ := cb
  exact vx_back (bytes := bytes) (maxL := maxL) (ret := ret) hM hbl hrc hrs hfr hlo hws hcw (fun a' U hW => word_at hW (Or.inl (by first | rfl | simp [Cond.onTables, Cond.keeps, Cond.steady])) hini)
theorem vx_runV (S : CallFix p m c cc nL s args Ts own) (hM : vx_Met l y ws rm Pc Qc XC mc ms free) (cw : CallW R s args own C index y bytes maxL ret ws rm mc ms n) (hp : PreV s H C b Pc As)
    (hg : g.method = m) (hn : As.length = n) (hsize : g.locals.size = nL) (hstack : g.stack = As.reverse ++ .ref b :: rest) (hW : 2 * g.monitorRoom + (rest.map fun v => v.category).sum ≤ 8) (hdg : decode cc g.pc = .ok (.invokevirtual index, 3)) (hf : cells + mc ≤ R.cells ∧ slots + ms ≤ R.slots) :
    vx_Run p l e R s m args below meth c H locs cells slots mc ms g rest (Qc (Value.ref b :: As).toArray) XC free := by
  have hK : vx_Back l R p e below s args y 3 8 (PreOf R mc ms Pc) (PostOf Qc mc ms free) (vx_Post XC mc ms free) := vx_callBack cw.1 hM hp.1
  obtain ⟨⟨-, -, -, -, -, -, hcode, -, hy, hlen, hl⟩, hin, hse⟩ := cw
  obtain ⟨hx, hb, hml, ho, -⟩ := S
  obtain ⟨-, ⟨cellB, hcB, hoB, hclB⟩, hPc⟩ := hp
  intro T hT X
  rcases vx_callV X hx (C := C) (bytes := bytes) (maxL := maxL) (ret := ret) ho hl hin hse hcode hy hK (by rw [hT]; exact hcB) hoB hclB hg (hsize.trans hml.symm) (argsL := As) (rest := rest) (fun sig h => hn.trans (hlen sig h)) hstack hW (by rw [hb]; exact hdg)
    (fun vm₁ hW₁ => ⟨hf.1, hf.2, hPc (T.setVm vm₁) hT hW₁⟩) with ⟨v, vm₁, ⟨U', l2, c2, s2⟩, hW₁, X', ⟨g', mk, t, L, e1, e2, hq, h1, hL, h2, h3⟩, st⟩ | ⟨q, vm₁, ⟨U', l2, c2, s2⟩, hW₁, X', ⟨g', mk, t, L, E, ce, e1, e2, hq, hce, hcv, hcl, h1, hL, h2, h3⟩, st⟩
  · dsimp only [Pt.U, Pt.locs, Pt.cells, Pt.slots] at X' e1 e2 h1 h2 h3 st
    subst h1; subst h2; subst h3
    exact Or.inl ⟨v, (T.setVm vm₁).calling g' mk (Value.ref b :: As).toArray, t, U', L, hT, X', hL, e1, e2, hq, st⟩
  · dsimp only [Pt.U, Pt.locs, Pt.cells, Pt.slots] at X' e1 e2 h1 h2 h3 st hcl
    subst h1; subst h2; subst h3
    exact Or.inr ⟨q, (T.setVm vm₁).calling g' mk (Value.ref b :: As).toArray, t, U', L, E, ce, hT, X', hL, e1, e2, hq, hce, hcv, vx_cls hW₁ hcl, st⟩
theorem vx_runS (S : CallFix p m c cc nL s args Ts own) (hM : vx_Met l y ws rm Pc Qc XC mc ms free) (cw : CallB R s args own index y bytes maxL ret ws rm mc ms n ∧ (Cond.static y).before args s = true) (hp : PreS s H Pc As)
    (hg : g.method = m) (hn : As.length = n) (hsize : g.locals.size = nL) (hstack : g.stack = As.reverse ++ rest) (hW : 2 * g.monitorRoom + (rest.map fun v => v.category).sum ≤ 8) (hdg : decode cc g.pc = .ok (.invokestatic index, 3)) (hf : cells + mc ≤ R.cells ∧ slots + ms ≤ R.slots) :
    vx_Run p l e R s m args below meth c H locs cells slots mc ms g rest (Qc As.toArray) XC free := by
  have hK : vx_Back l R p e below s args y 3 8 (PreOf R mc ms Pc) (PostOf Qc mc ms free) (vx_Post XC mc ms free) := vx_callBack cw.1 hM hp.1
  obtain ⟨⟨-, -, -, -, -, -, hcode, hini, hy, hlen, hl⟩, hstt⟩ := cw
  obtain ⟨hx, hb, hml, ho, -⟩ := S
  intro T hT X
  rcases vx_callS X hx (bytes := bytes) (maxL := maxL) (ret := ret) ho hl hstt hini hcode hy hK hg (hsize.trans hml.symm) (argsL := As) (rest := rest) (fun sig h => hn.trans (hlen sig h)) hstack hW (by rw [hb]; exact hdg)
    (fun vm₁ hW₁ => ⟨hf.1, hf.2, hp.2 (T.setVm vm₁) hT hW₁⟩) with ⟨v, vm₁, ⟨U', l2, c2, s2⟩, hW₁, X', ⟨g', mk, t, L, e1, e2, hq, h1, hL, h2, h3⟩, st⟩ | ⟨q, vm₁, ⟨U', l2, c2, s2⟩, hW₁, X', ⟨g', mk, t, L, E, ce, e1, e2, hq, hce, hcv, hcl, h1, hL, h2, h3⟩, st⟩
  · dsimp only [Pt.U, Pt.locs, Pt.cells, Pt.slots] at X' e1 e2 h1 h2 h3 st
    subst h1; subst h2; subst h3
    exact Or.inl ⟨v, (T.setVm vm₁).calling g' mk As.toArray, t, U', L, hT, X', hL, e1, e2, hq, st⟩
  · dsimp only [Pt.U, Pt.locs, Pt.cells, Pt.slots] at X' e1 e2 h1 h2 h3 st hcl
    subst h1; subst h2; subst h3
    exact Or.inr ⟨q, (T.setVm vm₁).calling g' mk As.toArray, t, U', L, E, ce, hT, X', hL, e1, e2, hq, hce, hcv, vx_cls hW₁ hcl, st⟩
end Runs
section Rows
variable {p : Program} {l : Launch} {e : Env} {R : Room} {s : State} {m : MethodId} {args : Array Value} {below : List Frame} {meth : Method} {c : Code} {H : Heap} {locs : List Loc} {cells slots : Nat} {Q : State → Prop}
variable {mc ms : Nat} {free : Addr → Prop} {A0 A1 : Nat → Prop} {H0 : Heap} {a : Array Value} {pc : Nat} {ls : Array Slot} {st0 rest : List Value}
theorem vx_keep {st₀ t T' : State} {L : List Loc} (h0 : st₀.heap = H) (e1 : T'.heap = t.heap) (hS : va_S A0 H0 H locs) (hA : ∀ q, q < H.size → A1 q → A0 q) (hf : ∀ q, free q → A0 q) (hL : ∀ q ∈ L, free q.base) (hF : va_F A1 st₀ t) :
    H.size ≤ T'.heap.size ∧ (∀ q : Nat, q < H.size → ¬ A1 q → T'.heap[q]? = H[q]?) ∧ va_S A0 H0 T'.heap (locs ++ L) := by
  obtain ⟨hz, hk⟩ := hF
  rw [h0] at hz hk
  exact ⟨by rw [e1]; exact hz, fun q h1 h2 => by rw [e1]; exact hk q h1 h2,
    ⟨Nat.le_trans hS.1 (by rw [e1]; exact hz), fun q h1 h2 => by rw [e1, hk q (Nat.lt_of_lt_of_le h1 hS.1) (fun z => h2 (hA q (Nat.lt_of_lt_of_le h1 hS.1) z))]; exact hS.2.1 q h1 h2, fun q hq => by
      rcases List.mem_append.mp hq with h | h
      · exact hS.2.2 q h
      · exact hf _ (hL q h)⟩⟩
theorem vx_calli {S SX : Type} {post : Int32 → S → Prop} {px : SX → Prop} {B : S → State → Prop} {BX : String → SX → State → Prop} {AX : Nat → Prop} (hr : vx_Run p l e R s m args below meth c H locs cells slots mc ms (F0 m pc ls st0) rest (va_Qi post B A1 a) (vx_X px BX AX) free) (hS : va_S A0 H0 H locs) (hA : ∀ q, q < H.size → A1 q → A0 q) (hf : ∀ q, free q → A0 q) (hAX : ∀ q, q < H.size → AX q → A0 q)
    (kx : ∀ (E : String) (ce : Cell) (q9 : Addr) (u : SX) (t : State) (H1 : Heap) (locs1 : List Loc), t.heap = H1 → s.vm.Alike t.vm → px u → BX E u t → H.size ≤ H1.size → (∀ q : Nat, q < H.size → ¬ AX q → H1[q]? = H[q]?) → va_S A0 H0 H1 locs1 → H1[q9]? = some ce → ce.vm = .none → s.vm.findClass E = some ce.cls → vx_W p l e R s m args below meth c H1 locs1 (cells + mc) (slots + ms) Q (F0 m pc ls rest) q9)
    (kk : ∀ (r : Int32) (u : S) (t : State) (H1 : Heap) (locs1 : List Loc), t.heap = H1 → s.vm.Alike t.vm → post r u → B u t → H.size ≤ H1.size → (∀ q : Nat, q < H.size → ¬ A1 q → H1[q]? = H[q]?) → va_S A0 H0 H1 locs1 → W p l e R s m args below meth c H1 locs1 (cells + mc) (slots + ms) Q (F0 m (pc + 3) ls (.int r :: rest))) : W p l e R s m args below meth c H locs cells slots Q (F0 m pc ls st0) := by
  intro T hT X
  rcases hr T hT X with ⟨v, st₀, t, T', L, h0, X', hL, e1, e2, ⟨⟨r, u, hv, hp, hb⟩, hF⟩, st⟩ | ⟨q, st₀, t, T', L, E, ce, h0, X', hL, e1, e2, ⟨u, hp, hb, hF⟩, hce, hcv, hcl, st⟩
  · cases hv
    obtain ⟨k1, k2, k3⟩ := vx_keep h0 e1 hS hA hf hL hF
    obtain ⟨t2, a1, b1⟩ := kk r u t T'.heap (locs ++ L) e1.symm (by rw [← e2]; exact X'.warmed.alike) hp hb k1 k2 k3 T' rfl X'
    exact ⟨t2, st t2 a1, b1⟩
  · obtain ⟨k1, k2, k3⟩ := vx_keep h0 e1 hS hAX hf hL hF
    obtain ⟨t2, a1, b1⟩ := kx E ce q u t T'.heap (locs ++ L) e1.symm (by rw [← e2]; exact X'.warmed.alike) hp hb k1 k2 k3 (by rw [e1]; exact hce) hcv hcl T' rfl X'
    exact ⟨t2, st.trans a1, b1⟩
theorem vx_calll {S SX : Type} {post : Int64 → S → Prop} {px : SX → Prop} {B : S → State → Prop} {BX : String → SX → State → Prop} {AX : Nat → Prop} (hr : vx_Run p l e R s m args below meth c H locs cells slots mc ms (F0 m pc ls st0) rest (va_Ql post B A1 a) (vx_X px BX AX) free) (hS : va_S A0 H0 H locs) (hA : ∀ q, q < H.size → A1 q → A0 q) (hf : ∀ q, free q → A0 q) (hAX : ∀ q, q < H.size → AX q → A0 q)
    (kx : ∀ (E : String) (ce : Cell) (q9 : Addr) (u : SX) (t : State) (H1 : Heap) (locs1 : List Loc), t.heap = H1 → s.vm.Alike t.vm → px u → BX E u t → H.size ≤ H1.size → (∀ q : Nat, q < H.size → ¬ AX q → H1[q]? = H[q]?) → va_S A0 H0 H1 locs1 → H1[q9]? = some ce → ce.vm = .none → s.vm.findClass E = some ce.cls → vx_W p l e R s m args below meth c H1 locs1 (cells + mc) (slots + ms) Q (F0 m pc ls rest) q9)
    (kk : ∀ (r : Int64) (u : S) (t : State) (H1 : Heap) (locs1 : List Loc), t.heap = H1 → s.vm.Alike t.vm → post r u → B u t → H.size ≤ H1.size → (∀ q : Nat, q < H.size → ¬ A1 q → H1[q]? = H[q]?) → va_S A0 H0 H1 locs1 → W p l e R s m args below meth c H1 locs1 (cells + mc) (slots + ms) Q (F0 m (pc + 3) ls (.long r :: rest))) : W p l e R s m args below meth c H locs cells slots Q (F0 m pc ls st0) := by
  intro T hT X
  rcases hr T hT X with ⟨v, st₀, t, T', L, h0, X', hL, e1, e2, ⟨⟨r, u, hv, hp, hb⟩, hF⟩, st⟩ | ⟨q, st₀, t, T', L, E, ce, h0, X', hL, e1, e2, ⟨u, hp, hb, hF⟩, hce, hcv, hcl, st⟩
  · cases hv
    obtain ⟨k1, k2, k3⟩ := vx_keep h0 e1 hS hA hf hL hF
    obtain ⟨t2, a1, b1⟩ := kk r u t T'.heap (locs ++ L) e1.symm (by rw [← e2]; exact X'.warmed.alike) hp hb k1 k2 k3 T' rfl X'
    exact ⟨t2, st t2 a1, b1⟩
  · obtain ⟨k1, k2, k3⟩ := vx_keep h0 e1 hS hAX hf hL hF
    obtain ⟨t2, a1, b1⟩ := kx E ce q u t T'.heap (locs ++ L) e1.symm (by rw [← e2]; exact X'.warmed.alike) hp hb k1 k2 k3 (by rw [e1]; exact hce) hcv hcl T' rfl X'
    exact ⟨t2, st.trans a1, b1⟩
theorem vx_callf {S SX : Type} {post : UInt32 → S → Prop} {px : SX → Prop} {B : S → State → Prop} {BX : String → SX → State → Prop} {AX : Nat → Prop} (hr : vx_Run p l e R s m args below meth c H locs cells slots mc ms (F0 m pc ls st0) rest (va_Qf post B A1 a) (vx_X px BX AX) free) (hS : va_S A0 H0 H locs) (hA : ∀ q, q < H.size → A1 q → A0 q) (hf : ∀ q, free q → A0 q) (hAX : ∀ q, q < H.size → AX q → A0 q)
    (kx : ∀ (E : String) (ce : Cell) (q9 : Addr) (u : SX) (t : State) (H1 : Heap) (locs1 : List Loc), t.heap = H1 → s.vm.Alike t.vm → px u → BX E u t → H.size ≤ H1.size → (∀ q : Nat, q < H.size → ¬ AX q → H1[q]? = H[q]?) → va_S A0 H0 H1 locs1 → H1[q9]? = some ce → ce.vm = .none → s.vm.findClass E = some ce.cls → vx_W p l e R s m args below meth c H1 locs1 (cells + mc) (slots + ms) Q (F0 m pc ls rest) q9)
    (kk : ∀ (r : UInt32) (u : S) (t : State) (H1 : Heap) (locs1 : List Loc), t.heap = H1 → s.vm.Alike t.vm → post r u → B u t → H.size ≤ H1.size → (∀ q : Nat, q < H.size → ¬ A1 q → H1[q]? = H[q]?) → va_S A0 H0 H1 locs1 → W p l e R s m args below meth c H1 locs1 (cells + mc) (slots + ms) Q (F0 m (pc + 3) ls (.float r :: rest))) : W p l e R s m args below meth c H locs cells slots Q (F0 m pc ls st0) := by
  intro T hT X
  rcases hr T hT X with ⟨v, st₀, t, T', L, h0, X', hL, e1, e2, ⟨⟨r, u, hv, hp, hb⟩, hF⟩, st⟩ | ⟨q, st₀, t, T', L, E, ce, h0, X', hL, e1, e2, ⟨u, hp, hb, hF⟩, hce, hcv, hcl, st⟩
  · cases hv
    obtain ⟨k1, k2, k3⟩ := vx_keep h0 e1 hS hA hf hL hF
    obtain ⟨t2, a1, b1⟩ := kk r u t T'.heap (locs ++ L) e1.symm (by rw [← e2]; exact X'.warmed.alike) hp hb k1 k2 k3 T' rfl X'
    exact ⟨t2, st t2 a1, b1⟩
  · obtain ⟨k1, k2, k3⟩ := vx_keep h0 e1 hS hAX hf hL hF
    obtain ⟨t2, a1, b1⟩ := kx E ce q u t T'.heap (locs ++ L) e1.symm (by rw [← e2]; exact X'.warmed.alike) hp hb k1 k2 k3 (by rw [e1]; exact hce) hcv hcl T' rfl X'
    exact ⟨t2, st.trans a1, b1⟩
theorem vx_calld {S SX : Type} {post : UInt64 → S → Prop} {px : SX → Prop} {B : S → State → Prop} {BX : String → SX → State → Prop} {AX : Nat → Prop} (hr : vx_Run p l e R s m args below meth c H locs cells slots mc ms (F0 m pc ls st0) rest (va_Qd post B A1 a) (vx_X px BX AX) free) (hS : va_S A0 H0 H locs) (hA : ∀ q, q < H.size → A1 q → A0 q) (hf : ∀ q, free q → A0 q) (hAX : ∀ q, q < H.size → AX q → A0 q)
    (kx : ∀ (E : String) (ce : Cell) (q9 : Addr) (u : SX) (t : State) (H1 : Heap) (locs1 : List Loc), t.heap = H1 → s.vm.Alike t.vm → px u → BX E u t → H.size ≤ H1.size → (∀ q : Nat, q < H.size → ¬ AX q → H1[q]? = H[q]?) → va_S A0 H0 H1 locs1 → H1[q9]? = some ce → ce.vm = .none → s.vm.findClass E = some ce.cls → vx_W p l e R s m args below meth c H1 locs1 (cells + mc) (slots + ms) Q (F0 m pc ls rest) q9)
    (kk : ∀ (r : UInt64) (u : S) (t : State) (H1 : Heap) (locs1 : List Loc), t.heap = H1 → s.vm.Alike t.vm → post r u → B u t → H.size ≤ H1.size → (∀ q : Nat, q < H.size → ¬ A1 q → H1[q]? = H[q]?) → va_S A0 H0 H1 locs1 → W p l e R s m args below meth c H1 locs1 (cells + mc) (slots + ms) Q (F0 m (pc + 3) ls (.double r :: rest))) : W p l e R s m args below meth c H locs cells slots Q (F0 m pc ls st0) := by
  intro T hT X
  rcases hr T hT X with ⟨v, st₀, t, T', L, h0, X', hL, e1, e2, ⟨⟨r, u, hv, hp, hb⟩, hF⟩, st⟩ | ⟨q, st₀, t, T', L, E, ce, h0, X', hL, e1, e2, ⟨u, hp, hb, hF⟩, hce, hcv, hcl, st⟩
  · cases hv
    obtain ⟨k1, k2, k3⟩ := vx_keep h0 e1 hS hA hf hL hF
    obtain ⟨t2, a1, b1⟩ := kk r u t T'.heap (locs ++ L) e1.symm (by rw [← e2]; exact X'.warmed.alike) hp hb k1 k2 k3 T' rfl X'
    exact ⟨t2, st t2 a1, b1⟩
  · obtain ⟨k1, k2, k3⟩ := vx_keep h0 e1 hS hAX hf hL hF
    obtain ⟨t2, a1, b1⟩ := kx E ce q u t T'.heap (locs ++ L) e1.symm (by rw [← e2]; exact X'.warmed.alike) hp hb k1 k2 k3 (by rw [e1]; exact hce) hcv hcl T' rfl X'
    exact ⟨t2, st.trans a1, b1⟩
theorem vx_callv {S SX : Type} {post : S → Prop} {px : SX → Prop} {B : S → State → Prop} {BX : String → SX → State → Prop} {AX : Nat → Prop} (hr : vx_Run p l e R s m args below meth c H locs cells slots mc ms (F0 m pc ls st0) rest (va_Qv post B A1 a) (vx_X px BX AX) free) (hS : va_S A0 H0 H locs) (hA : ∀ q, q < H.size → A1 q → A0 q) (hf : ∀ q, free q → A0 q) (hAX : ∀ q, q < H.size → AX q → A0 q)
    (kx : ∀ (E : String) (ce : Cell) (q9 : Addr) (u : SX) (t : State) (H1 : Heap) (locs1 : List Loc), t.heap = H1 → s.vm.Alike t.vm → px u → BX E u t → H.size ≤ H1.size → (∀ q : Nat, q < H.size → ¬ AX q → H1[q]? = H[q]?) → va_S A0 H0 H1 locs1 → H1[q9]? = some ce → ce.vm = .none → s.vm.findClass E = some ce.cls → vx_W p l e R s m args below meth c H1 locs1 (cells + mc) (slots + ms) Q (F0 m pc ls rest) q9)
    (kk : ∀ (u : S) (t : State) (H1 : Heap) (locs1 : List Loc), t.heap = H1 → s.vm.Alike t.vm → post u → B u t → H.size ≤ H1.size → (∀ q : Nat, q < H.size → ¬ A1 q → H1[q]? = H[q]?) → va_S A0 H0 H1 locs1 → W p l e R s m args below meth c H1 locs1 (cells + mc) (slots + ms) Q (F0 m (pc + 3) ls (rest))) : W p l e R s m args below meth c H locs cells slots Q (F0 m pc ls st0) := by
  intro T hT X
  rcases hr T hT X with ⟨v, st₀, t, T', L, h0, X', hL, e1, e2, ⟨⟨u, hv, hp, hb⟩, hF⟩, st⟩ | ⟨q, st₀, t, T', L, E, ce, h0, X', hL, e1, e2, ⟨u, hp, hb, hF⟩, hce, hcv, hcl, st⟩
  · cases hv
    obtain ⟨k1, k2, k3⟩ := vx_keep h0 e1 hS hA hf hL hF
    obtain ⟨t2, a1, b1⟩ := kk u t T'.heap (locs ++ L) e1.symm (by rw [← e2]; exact X'.warmed.alike) hp hb k1 k2 k3 T' rfl X'
    exact ⟨t2, st t2 a1, b1⟩
  · obtain ⟨k1, k2, k3⟩ := vx_keep h0 e1 hS hAX hf hL hF
    obtain ⟨t2, a1, b1⟩ := kx E ce q u t T'.heap (locs ++ L) e1.symm (by rw [← e2]; exact X'.warmed.alike) hp hb k1 k2 k3 (by rw [e1]; exact hce) hcv hcl T' rfl X'
    exact ⟨t2, st.trans a1, b1⟩
/-- caught by the row x of this method's table; the rows ahead don't take it -/
theorem vx_catch {own name : String} {E : String} {ce : Cell} {q : Addr} (hown : s.vm.findClass own = some m.cls) (pre : List ExceptionTableEntry) (x : ExceptionTableEntry) (suf : List ExceptionTableEntry) (hsplit : c.exceptionTable.toList = pre ++ x :: suf)
    (hpass : ∀ z ∈ pre, covers z pc = false ∨ (z.catchType ≠ 0 ∧ ∃ nm : String, (Cond.classLink own z.catchType nm).before args s = true ∧ va_Nc E nm s)) (hx : covers x pc = true) (h0 : x.catchType ≠ 0)
    (hlink : (Cond.classLink own x.catchType name).before args s = true) (hcast : (Cond.castable E name).before args s = true) (hcell : H[q]? = some ce) (hv : ce.vm = .none) (hcl : s.vm.findClass E = some ce.cls)
    (kk : W p l e R s m args below meth c H locs cells slots Q (F0 m x.handlerPc ls [.ref q])) : vx_W p l e R s m args below meth c H locs cells slots Q (F0 m pc ls rest) q := by
  intro T hT X
  have hpl : e.platform.magicAccessors = ({} : Platform).magicAccessors := by rw [X.admits.platform]
  obtain ⟨c3, c4, hc3, hc4, hasg⟩ := Cond.castable_spec hcast
  cases Option.some.inj (hc3.symm.trans hcl)
  obtain ⟨c5, hc5, hcl5⟩ := Cond.classLink_spec hown hlink e.platform hpl
  cases Option.some.inj (hc4.symm.trans hc5)
  obtain ⟨vm', X', st⟩ := X.thenCaughtThrough q (g := F0 m pc ls rest) rfl (Steps.refl _) (by rw [hT]; exact hcell) (by rw [hv]; rfl) (by obtain ⟨k9, h9, -⟩ := Vm.findClass_spec hcl; exact ⟨k9, h9⟩) pre x suf hsplit
    (fun z hz => by
      rcases hpass z hz with h | ⟨hz0, nm, hl1, hn1⟩
      · exact Or.inl h
      · obtain ⟨c6, hc6, hcl6⟩ := Cond.classLink_spec hown hl1 e.platform hpl
        obtain ⟨a8, b8, h1, h2, h3⟩ := hn1
        cases Option.some.inj (h1.symm.trans hcl)
        cases Option.some.inj (h2.symm.trans hc6)
        exact Or.inr ⟨hz0, _, hcl6, h3⟩) hx (Or.inr ⟨h0, c4, hcl5, hasg⟩)
  obtain ⟨t, a1, b1⟩ := kk (T.setVm vm') hT X'
  exact ⟨t, st.trans a1, b1⟩
end Rows
section Ends
variable {p : Program} {l : Launch} {e : Env} {R : Room} {s : State} {m : MethodId} {args : Array Value} {below : List Frame} {meth : Method} {c : Code} {H : Heap} {locs : List Loc} {cells slots : Nat} {Q : State → Prop}
variable {mc ms : Nat} {free : Addr → Prop} {A0 A1 : Nat → Prop} {H0 : Heap} {a : Array Value} {ls : Array Slot} {st0 rest : List Value}
variable {Qc : Array Value → State → Outcome → State → Prop} {XC : String → State → State → Prop}
/-- what a body that may throw owes at its end -/
def vx_MQ (below : List Frame) (Qc : Array Value → State → Outcome → State → Prop) (XC : String → State → State → Prop) (a : Array Value) (s : State) (mc ms : Nat) (free : Addr → Prop) : State → Prop := fun t =>
  ∃ o, t.status = .running ∧ Ended t below o ∧ vx_Q Qc XC mc ms free a s o t
theorem vx_ret {g : JFrame} {mc ms : Nat} (k : W p l e R s m args below meth c H locs cells slots (MQ below Qc args s mc ms free) g) : W p l e R s m args below meth c H locs cells slots (vx_MQ below Qc XC args s mc ms free) g := by
  intro T hT X
  obtain ⟨t, a1, o, b1, b2, b3, b4⟩ := k T hT X
  exact ⟨t, a1, o, b1, b2, Or.inl ⟨b3, b4⟩⟩
/-- not caught here: it goes on to the caller -/
theorem vx_widen {g : JFrame} {q : Addr} {k n : Nat} (h1 : cells ≤ k) (h2 : slots ≤ n) (kk : vx_W p l e R s m args below meth c H locs k n Q g q) : vx_W p l e R s m args below meth c H locs cells slots Q g q := fun T hT X => kk T hT (stand_widen X h1 h2)
theorem vx_out {pc : Nat} {E : String} {ce : Cell} {q : Addr} {mc ms : Nat} (hout : ∀ x ∈ c.exceptionTable.toList, covers x pc = false) (hlocks : meth.locks = false) (hcell : H[q]? = some ce) (hv : ce.vm = .none) (hcl : s.vm.findClass E = some ce.cls)
    (hx : ∀ t : State, t.heap = H → s.vm.Alike t.vm → XC E s t) (hf : ∀ z ∈ locs, free z.base) (hc : cells ≤ mc) (hs : slots ≤ ms) :
    vx_W p l e R s m args below meth c H locs cells slots (vx_MQ below Qc XC args s mc ms free) (F0 m pc ls rest) q := by
  intro T hT X
  obtain ⟨st1, hrun, hend, hW, hsm⟩ := X.leaveThrown q (g := F0 m pc ls rest) rfl rfl rfl hout hlocks
  have hcell9 : (T.setFrames (.throwing q :: below)).heap[q]? = some ce := by
    show T.heap[q]? = some ce
    rw [hT]; exact hcell
  exact ⟨_, st1, .threw q, hrun, hend, Or.inr ⟨q, rfl, E, ce, locs, hx _ hT hW.alike, hcell9, hv, hcl, hW, hsm.mono hc hs, hf⟩⟩
theorem vx_frame {U : State} {k n : Nat} (h : s.sameButNew ({ U with vm := s.vm } : State) locs k n) : s.heap.size ≤ U.heap.size ∧ ∀ q : Nat, q < s.heap.size → (∀ z ∈ locs, z.base ≠ q) → U.heap[q]? = s.heap[q]? := by
  obtain ⟨-, h2, -, -, -, h6⟩ := h
  refine ⟨h2, fun q hq hz => ?_⟩
  obtain ⟨c9, e1, e2, e3, e4⟩ := h6 q _ (Array.getElem?_eq_getElem hq)
  have hs : c9.slots = (s.heap[q]).slots := Array.ext_getElem? fun i => e4 i fun hm => hz _ hm rfl
  have h9 : c9 = s.heap[q] := by
    rw [hs] at e2
    exact e2
  have e5 : U.heap[q]? = some c9 := e1
  rw [e5, h9, Array.getElem?_eq_getElem hq]
/-- the words of a throw but the four that speak of the heap -/
def vx_no (w : Cond) : Bool := decide (w ≠ .isRef (.static Bundle.tN "UNASSIGNED_STACK" Bundle.steD)) && decide (w ≠ .isRef (.static Bundle.tN "SUPPRESSED_SENTINEL" Bundle.listD)) && decide (w ≠ .laysStatic Bundle.tN "UNASSIGNED_STACK" Bundle.steD) && decide (w ≠ .laysStatic Bundle.tN "SUPPRESSED_SENTINEL" Bundle.listD)
def vx_at0 (own : String) (ic : Nat) (X : String) (names : List String) : List Cond := (Bundle.ownAtoms0 own ic X names).filter vx_no
def vx_atS (own : String) (ic : Nat) (X : String) (names : List String) : List Cond := (Bundle.ownAtoms own ic X names).filter vx_no
/-- a word that the tables alone decide, or a good one -/
def vx_ot (w : Cond) : Bool := w.onTables || goodWord w
theorem vx_ot_at {args a' : Array Value} {s U : State} {w : Cond} (hW : s.WarmedH U.vm) (hvm : s.vm = U.vm) (hg : vx_ot w = true) (h : w.before args s = true) : w.before a' U = true := by
  simp only [vx_ot, Bool.or_eq_true] at hg
  rcases hg with hg | hg
  · exact va_tabs hg hvm h
  · exact word_at hW (good_of_word hg) h
/-- a list's words: the good ones out of the method's own list, the others by premises of their own -/
theorem vx_hat {args : Array Value} {s : State} {L B : List Cond} (h1 : ∀ w ∈ L.filter goodWord, w.before args s = true) (h2 : ∀ w ∈ L.filter (fun w => !goodWord w), w ∈ B) (h3 : ∀ w ∈ B, w.before args s = true) : ∀ w ∈ L, w.before args s = true := by
  intro w hw
  by_cases g : goodWord w = true
  · exact h1 w (List.mem_filter.mpr ⟨hw, g⟩)
  · refine h3 w (h2 w (List.mem_filter.mpr ⟨hw, ?_⟩))
    show (!goodWord w) = true
    cases hgw : goodWord w
    · rfl
    · exact absurd hgw g
theorem vx_c {args : Array Value} {s : State} {w : Cond} {B : List Cond} (h : w.before args s = true) (t : ∀ w ∈ B, w.before args s = true) : ∀ w' ∈ w :: B, w'.before args s = true := fun w' h' => (List.mem_cons.mp h').elim (fun e => by rw [e]; exact h) (t w')
theorem vx_n {args : Array Value} {s : State} : ∀ w ∈ ([] : List Cond), w.before args s = true := fun _ h => nomatch h
theorem vx_own {args : Array Value} {s : State} {L : List Cond} (h1 : ∀ w ∈ L.filter vx_no, w.before args s = true)
    (hU : (Cond.isRef (.static Bundle.tN "UNASSIGNED_STACK" Bundle.steD)).before args s = true) (hN : (Cond.isRef (.static Bundle.tN "SUPPRESSED_SENTINEL" Bundle.listD)).before args s = true)
    (lU : (Cond.laysStatic Bundle.tN "UNASSIGNED_STACK" Bundle.steD).before args s = true) (lN : (Cond.laysStatic Bundle.tN "SUPPRESSED_SENTINEL" Bundle.listD).before args s = true) : ∀ w ∈ L, w.before args s = true := by
  intro w hw
  by_cases e1 : w = .isRef (.static Bundle.tN "UNASSIGNED_STACK" Bundle.steD)
  · rw [e1]; exact hU
  · by_cases e2 : w = .isRef (.static Bundle.tN "SUPPRESSED_SENTINEL" Bundle.listD)
    · rw [e2]; exact hN
    · by_cases e3 : w = .laysStatic Bundle.tN "UNASSIGNED_STACK" Bundle.steD
      · rw [e3]; exact lU
      · by_cases e4 : w = .laysStatic Bundle.tN "SUPPRESSED_SENTINEL" Bundle.listD
        · rw [e4]; exact lN
        · exact h1 w (List.mem_filter.mpr ⟨hw, by unfold vx_no; rw [decide_eq_true e1, decide_eq_true e2, decide_eq_true e3, decide_eq_true e4]; rfl⟩)
/-- where a static field lies, its class's statics cell in H -/
def vx_L (C n d : String) (A : Nat → Prop) (U : State) (H : Heap) : Prop := ∃ (c : ClassId) (k : Class) (i : Nat) (f : Field) (a : Nat) (cell : Cell), U.vm.findClass C = some c ∧ U.fieldFound? C n d = some (c, k, i, f) ∧ f.isStatic = true ∧ k.statics = some a ∧ H[a]? = some cell ∧ cell.vm.isStatics = true ∧ cell.cls = c ∧ f.slot < cell.slots.size ∧ k.staticTypes[f.slot]? = some f.type ∧ ¬ A a
theorem vx_L.moved {C n d : String} {A : Nat → Prop} {u U : State} {H : Heap} (hvm : u.vm.Alike U.vm) (h : vx_L C n d A u H) : vx_L C n d A U H := by
  obtain ⟨c, k, i, f, a, cell, h1, h2, h3, h4, h5, h6, h7, h8, h9, h10⟩ := h
  obtain ⟨k', hi', he⟩ := State.fieldFound?_setVm hvm h2
  exact ⟨c, k', i, f, a, cell, by rw [hvm.findClass]; exact h1, hi', h3, by rw [he]; exact h4, h5, h6, h7, h8, by rw [he]; exact h9, h10⟩
theorem vx_L.kept {C n d : String} {A : Nat → Prop} {U : State} {H H1 : Heap} (h : vx_L C n d A U H) (hq : ∀ a : Nat, a < H.size → ¬ A a → H1[a]? = H[a]?) : vx_L C n d A U H1 := by
  obtain ⟨c, k, i, f, a, cell, h1, h2, h3, h4, h5, h6, h7, h8, h9, h10⟩ := h
  exact ⟨c, k, i, f, a, cell, h1, h2, h3, h4, by rw [hq a (Array.getElem?_eq_some_iff.mp h5).1 h10]; exact h5, h6, h7, h8, h9, h10⟩
theorem vx_L.narrow {C n d : String} {A B : Nat → Prop} {U : State} {H : Heap} (h : vx_L C n d A U H) (hAB : ∀ q, B q → A q) : vx_L C n d B U H := by
  obtain ⟨c, k, i, f, a, cell, h1, h2, h3, h4, h5, h6, h7, h8, h9, h10⟩ := h
  exact ⟨c, k, i, f, a, cell, h1, h2, h3, h4, h5, h6, h7, h8, h9, fun z => h10 (hAB _ z)⟩
theorem vx_L.word {C n d : String} {A : Nat → Prop} {s : State} {args : Array Value} (h : vx_L C n d A s s.heap) : (Cond.laysStatic C n d).before args s = true := by
  obtain ⟨c, k, i, f, a, cell, h1, h2, h3, h4, h5, h6, h7, h8, h9, -⟩ := h
  show (Cond.laysStatic C n d).holds args s none s [] = true
  exact Cond.laysStatic_of h1 h2 h3 h4 h5 h6 h7 h8 h9
/-- .. and what it holds: null or some reference -/
def vx_Zq (C n d : String) (A : Nat → Prop) (U : State) (H : Heap) : Prop := va_Zq C n d A U H ∧ vx_L C n d A U H
theorem vx_Zq.moved {C n d : String} {A : Nat → Prop} {u U : State} {H : Heap} (hvm : u.vm.Alike U.vm) (h : vx_Zq C n d A u H) : vx_Zq C n d A U H := ⟨va_Zq.moved hvm h.1, vx_L.moved hvm h.2⟩
theorem vx_Zq.kept {C n d : String} {A : Nat → Prop} {U : State} {H H1 : Heap} (h : vx_Zq C n d A U H) (hq : ∀ a : Nat, a < H.size → ¬ A a → H1[a]? = H[a]?) : vx_Zq C n d A U H1 := ⟨va_Zq.kept h.1 hq, vx_L.kept h.2 hq⟩
theorem vx_Zq.narrow {C n d : String} {A B : Nat → Prop} {U : State} {H : Heap} (h : vx_Zq C n d A U H) (hAB : ∀ q, B q → A q) : vx_Zq C n d B U H := ⟨va_Zq.narrow h.1 hAB, vx_L.narrow h.2 hAB⟩
theorem vx_Zqof {args : Array Value} {s : State} {C n d : String} {A : Nat → Prop} (hl : (Cond.laysStatic C n d).before args s = true) (hini : (Cond.initialized C).before args s = true) (h : (Cond.isRef (.static C n d)).before args s = true) (hA : ∀ a : Nat, a < s.heap.size → ¬ A a) : vx_Zq C n d A s s.heap := by
  refine ⟨va_Zqof hl hini h hA, ?_⟩
  obtain ⟨c, k, i, f, a, cell, h1, h2, h3, h4, h5, h6, h7, h8, h9⟩ := Cond.laysStatic_spec hl
  exact ⟨c, k, i, f, a, cell, h1, h2, h3, h4, h5, h6, h7, h8, h9, hA a (Array.getElem?_eq_some_iff.mp h5).1⟩
theorem vx_isRef {C n d : String} {v : Value} {A : Nat → Prop} {s : State} {args : Array Value} (h : va_Z C n d v A s s.heap) (hv : v.isRef = true) : (Cond.isRef (.static C n d)).before args s = true := by
  obtain ⟨cf, kf, fi, f, a, cell, h1, h2, h3, h4, h5, h6, h7, -⟩ := h
  have he : (Term.static C n d).eval args s none [] s = some v := by
    simp [Term.eval, State.fieldNamed?, h1, h2, h4, h5, h6, h7]
  simp only [Cond.before, Cond.holds, Cond.value, he]
  cases v <;> simp_all [Value.isRef]
theorem vx_isRefq {C n d : String} {A : Nat → Prop} {s : State} {args : Array Value} (h : va_Zq C n d A s s.heap) : (Cond.isRef (.static C n d)).before args s = true := by
  rcases h with h | ⟨t, h⟩
  · exact vx_isRef h rfl
  · exact vx_isRef h rfl
/-- the same frame, seen from here: as if the method were called anew in this heap -/
theorem vx_rebase {T : State} (X : Stand p l e R s m args below meth c T locs cells slots) {R' : Room} (hf : R'.frames ≤ R.frames) (hl : R'.locals ≤ R.locals) (hc : cells + R'.cells ≤ R.cells) (hs : slots + R'.slots ≤ R.slots) :
    Stand p l e R' ((T.setVm s.vm).setFrames (.invoking m args :: below)) m args below meth c T [] 0 0 := by
  have htop : (T.setVm s.vm).topJava?.isSome := X.here.top
  have hF : ((T.setVm s.vm).setFrames (.invoking m args :: below)).frames = .invoking m args :: below := State.frames_setFrames _ (State.cur_lt_of_top htop)
  obtain ⟨g₀, hg0⟩ := Option.isSome_iff_exists.mp htop
  obtain ⟨r, hr⟩ := State.topJava?_eq_some.mp hg0
  have hl9 : e.platform.stackLimits (T.setVm s.vm).me = e.platform.stackLimits s.me := X.limits
  have hb9 : (T.setVm s.vm).me.stackBytes = s.me.stackBytes := X.bytes
  refine ⟨X.admits, X.cas, X.clock, hF, ?_, X.hears, X.method, X.code, X.here, X.tail, X.warmed, ?_, ?_, ?_⟩
  · have h := X.room
    have hU : ((T.setVm s.vm).setFrames (.invoking m args :: below)).localsInUse = s.localsInUse := by
      rw [State.localsInUse_invoking hF (meth := meth) (c := c) X.method X.code, State.localsInUse_invoking X.frames X.method X.code]
    simp only [State.hasRoom, Bool.and_eq_true, decide_eq_true_eq] at h ⊢
    obtain ⟨⟨⟨⟨h1, h2, h3, h4, h5, h6⟩, h7⟩, h8⟩, h9⟩ := h
    rw [X.frames, List.length_cons] at h2 h3
    have q1 := X.heapSize
    have q2 := X.used
    simp only [hF, hU, List.length_cons, State.stackLimits_setFrames, State.stackBytes_setFrames, hl9, hb9]
    refine ⟨⟨⟨⟨by omega, by omega, by omega, by omega, by omega, h6⟩, ?_⟩, ?_⟩, X.book⟩
    · show T.heap.size + R'.cells ≤ e.platform.maxCells
      omega
    · show T.slotsUsed + R'.slots ≤ e.platform.maxSlots
      omega
  · rw [State.stackLimits_setFrames]; rfl
  · rw [State.stackBytes_setFrames]; rfl
  · refine ⟨?_, Nat.le_refl _, Nat.le_refl _, ?_, ?_, fun a c9 h9 => ⟨c9, h9, rfl, rfl, fun _ _ => rfl⟩⟩
    · obtain ⟨t, ht, -⟩ := State.frames_cons hr
      show T.setVm s.vm = { ((T.setVm s.vm).setFrames (.invoking m args :: below)).setFrames (T.setVm s.vm).frames with heap := T.heap, slotsUsed := T.slotsUsed }
      rw [State.setFrames_setFrames, State.setFrames_self ht]
      rfl
    · show T.slotsUsed = T.slotsUsed + ((T.heap.toList.drop T.heap.size).map (·.slots.size)).sum
      rw [List.drop_eq_nil_of_le (Nat.le_of_eq Array.length_toList)]
      rfl
    · show ((T.heap.toList.drop T.heap.size).map (·.slots.size)).sum ≤ 0
      rw [List.drop_eq_nil_of_le (Nat.le_of_eq Array.length_toList)]
      exact Nat.le_refl _
/-- 'throw new E()': new; dup; invokespecial; athrow -/
theorem vx_throw0 {cc : ByteArray} {pc : Nat} (hexec : p.tables.exec = Jvm.exec) (hb : c.code = cc) (hl : l.stackTraces = false) {own cls : String} {names : List String} {ik ic mc ms : Nat} {A : Nat → Prop}
    (hown : s.vm.findClass own = some m.cls) (hcls : Bundle.fit cls = true) (hnames : ∀ n ∈ names, Bundle.fit n = true)
    (hk : (Cond.classLink own ik cls).before args s = true) (hini : (Cond.initialized cls).before args s = true) (hat : ∀ w ∈ vx_at0 own ic cls names, w.before args s = true)
    (hgood : ∀ w ∈ Cond.classLink own ik cls :: Cond.initialized cls :: vx_at0 own ic cls names, vx_ot w = true)
    (hU : vx_Zq Bundle.tN "UNASSIGNED_STACK" Bundle.steD A s s.heap) (hN : vx_Zq Bundle.tN "SUPPRESSED_SENTINEL" Bundle.listD A s s.heap) (hS : va_S A s.heap H locs) (hsize : ls.size = c.maxLocals)
    (d0 : decode cc pc = .ok (.new ik, 3)) (d3 : decode cc (pc + 3) = .ok (.dup, 1)) (d4 : decode cc (pc + 4) = .ok (.invokespecial ic, 3)) (d7 : decode cc (pc + 7) = .ok (.athrow, 1))
    (hout : ∀ x ∈ c.exceptionTable.toList, covers x (pc + 7) = false)
    (hRframes : names.length + 3 < R.frames) (hRlocals : (rest.map fun v => v.category).sum + (13 * (names.length + 1) + 42) ≤ R.locals) (hRcells : cells + 1 ≤ R.cells) (hRslots : slots + 6 ≤ R.slots) (hlocks : meth.locks = false)
    (hx : ∀ t : State, s.vm.Alike t.vm → H.size ≤ t.heap.size → (∀ q : Nat, q < H.size → t.heap[q]? = H[q]?) → XC cls s t)
    (hf : ∀ z ∈ locs, free z.base) (hc : cells + 1 ≤ mc) (hs : slots + 6 ≤ ms) :
    W p l e R s m args below meth c H locs cells slots (vx_MQ below Qc XC args s mc ms free) (F0 m pc ls rest) := by
  intro T hT X
  have htr : e.platform.stackTraces = false := (show e.platform.stackTraces = l.stackTraces by rw [X.admits.platform]).trans hl
  have Y := vx_rebase X (R' := { frames := R.frames, locals := R.locals, cells := 1, slots := 6 }) (Nat.le_refl _) (Nat.le_refl _) hRcells hRslots
  obtain ⟨s', hA⟩ : ∃ z, z = (T.setVm s.vm).setFrames (.invoking m args :: below) := ⟨_, rfl⟩
  rw [← hA] at Y
  have hvm : s'.vm = s.vm := by rw [hA]; rfl
  have hhp : s'.heap = H := by rw [hA]; exact hT
  have hW0 : s.WarmedH s'.vm := by rw [hvm]; exact State.WarmedH.refl s
  have hat' : ∀ w ∈ vx_at0 own ic cls names, w.before args s' = true := fun w hw => vx_ot_at hW0 hvm.symm (hgood w (List.mem_cons_of_mem _ (List.mem_cons_of_mem _ hw))) (hat w hw)
  have hk' : (Cond.classLink own ik cls).before args s' = true := vx_ot_at hW0 hvm.symm (hgood _ List.mem_cons_self) hk
  have hini' : (Cond.initialized cls).before args s' = true := vx_ot_at hW0 hvm.symm (hgood _ (List.mem_cons_of_mem _ List.mem_cons_self)) hini
  have hU' : vx_Zq Bundle.tN "UNASSIGNED_STACK" Bundle.steD A s' s'.heap := by rw [hhp]; exact vx_Zq.moved hW0.alike (hU.kept hS.2.1)
  have hN' : vx_Zq Bundle.tN "SUPPRESSED_SENTINEL" Bundle.listD A s' s'.heap := by rw [hhp]; exact vx_Zq.moved hW0.alike (hN.kept hS.2.1)
  have h : ∀ w ∈ Bundle.ownAtoms0 own ic cls names, w.before args s' = true := vx_own hat' (vx_isRefq hU'.1) (vx_isRefq hN'.1) hU'.2.word hN'.2.word
  have hown' : s'.vm.findClass own = some m.cls := by rw [hvm]; exact hown
  have hins : (Cond.instantiable cls 6).before args s' = true := h _ (by simp [Bundle.ownAtoms0])
  obtain ⟨vm₁, cX, kX, hfX, hkX, -, -, X₁, st1⟩ := Y.newCold hexec (own := own) (C := cls) (index := ik) (n := 6) hown' hk' hins hini'
    (g := F0 m pc ls rest) rfl (by rw [hb]; exact d0) (Nat.le_refl _) (Nat.le_refl _)
  generalize hT1 : (T.setVm vm₁).pushCell { cls := cX, slots := kX.instanceTypes.map defaultValue, vm := .none } = T1 at X₁ st1
  have hcat : (Value.ref T.heap.size).category = 1 := rfl
  have hcellA : T1.heap[T.heap.size]? = some (freshCell cX kX) := by rw [← hT1]; exact State.heap_pushCell_size _ _
  have d3' : decode c.code (pc + 3) = .ok (.dup, 1) := by rw [hb]; exact d3
  obtain ⟨U, hsteps, hrun, hend, hW, hsame, ce, hce, hO⟩ := X₁.ctorThrow0 hexec htr (own := own) (cls := cls) (names := names) (ic := ic) hown' hcls hnames h (fun x hx => nomatch hx) hfX hkX hcellA (by rw [hhp, hT]; exact Nat.le_refl _)
    (g := { method := m, pc := pc + 4, locals := ls, stack := .ref T.heap.size :: .ref T.heap.size :: rest, locked := none }) rfl hsize rfl rfl (rest := rest) rfl
    (by rw [hb]; exact d4) (by rw [hb]; exact d7) hout hRframes (by simp only [List.map_cons, List.sum_cons, hcat]; omega) hlocks
  obtain ⟨f1, f2⟩ := vx_frame hsame
  rw [hhp] at f1 f2
  have hWs : s.WarmedH U.vm := State.WarmedH.trans hW0 hW
  have hcl : s.vm.findClass cls = some ce.cls := by
    have h9 := hO.cls
    rw [hvm] at h9
    exact h9
  have hall : s.sameButNew ({ U with vm := s.vm } : State) locs mc ms := by
    subst hA
    obtain ⟨e1, e2⟩ := hsame
    rw [State.setFrames_setFrames] at e1
    have h2 : (T.setVm s.vm).sameButNew ({ U with vm := s.vm } : State) [] (0 + 1) (0 + 6) := ⟨e1, e2⟩
    have h3 := X.same.trans h2
    rw [List.append_nil] at h3
    exact h3.mono hc hs
  refine ⟨U, ?_, .threw T.heap.size, hrun, hend, Or.inr ⟨T.heap.size, rfl, cls, ce, locs, hx U hWs.alike f1 (fun q hq => f2 q hq (fun z hz => nomatch hz)), hce, hO.vm, hcl, hWs, hall, hf⟩⟩
  refine st1 _ ?_
  show Steps p.tables e below (T1.setTop { method := m, pc := pc + 3, locals := ls, stack := .ref T.heap.size :: rest, locked := none }) _
  jvm_step X₁.here [X₁.here.top, hexec, d3', Value.category]
  exact hsteps
/-- 'throw new E("text")': new; dup; ldc; invokespecial; athrow -/
theorem vx_throwS {cc : ByteArray} {pc : Nat} (hexec : p.tables.exec = Jvm.exec) (hb : c.code = cc) (hl : l.stackTraces = false) {own cls text : String} {names : List String} {ik is ic mc ms sa : Nat} {A : Nat → Prop}
    (hown : s.vm.findClass own = some m.cls) (hcls : Bundle.fit cls = true) (hnames : ∀ n ∈ names, Bundle.fit n = true)
    (hk : (Cond.classLink own ik cls).before args s = true) (hini : (Cond.initialized cls).before args s = true) (hstr : vk_R own is text sa s) (hat : ∀ w ∈ vx_atS own ic cls names, w.before args s = true)
    (hgood : ∀ w ∈ Cond.classLink own ik cls :: Cond.initialized cls :: vx_atS own ic cls names, vx_ot w = true)
    (hU : vx_Zq Bundle.tN "UNASSIGNED_STACK" Bundle.steD A s s.heap) (hN : vx_Zq Bundle.tN "SUPPRESSED_SENTINEL" Bundle.listD A s s.heap) (hS : va_S A s.heap H locs) (hsize : ls.size = c.maxLocals)
    (d0 : decode cc pc = .ok (.new ik, 3)) (d3 : decode cc (pc + 3) = .ok (.dup, 1)) (d4 : decode cc (pc + 4) = .ok (.ldc is, 2)) (d6 : decode cc (pc + 6) = .ok (.invokespecial ic, 3)) (d9 : decode cc (pc + 9) = .ok (.athrow, 1))
    (hout : ∀ x ∈ c.exceptionTable.toList, covers x (pc + 9) = false)
    (hRframes : names.length + 3 < R.frames) (hRlocals : (rest.map fun v => v.category).sum + (13 * (names.length + 1) + 43) ≤ R.locals) (hRcells : cells + 1 ≤ R.cells) (hRslots : slots + 6 ≤ R.slots) (hlocks : meth.locks = false)
    (hx : ∀ t : State, s.vm.Alike t.vm → H.size ≤ t.heap.size → (∀ q : Nat, q < H.size → t.heap[q]? = H[q]?) → XC cls s t)
    (hf : ∀ z ∈ locs, free z.base) (hc : cells + 1 ≤ mc) (hs : slots + 6 ≤ ms) :
    W p l e R s m args below meth c H locs cells slots (vx_MQ below Qc XC args s mc ms free) (F0 m pc ls rest) := by
  intro T hT X
  have htr : e.platform.stackTraces = false := (show e.platform.stackTraces = l.stackTraces by rw [X.admits.platform]).trans hl
  have Y := vx_rebase X (R' := { frames := R.frames, locals := R.locals, cells := 1, slots := 6 }) (Nat.le_refl _) (Nat.le_refl _) hRcells hRslots
  obtain ⟨s', hA⟩ : ∃ z, z = (T.setVm s.vm).setFrames (.invoking m args :: below) := ⟨_, rfl⟩
  rw [← hA] at Y
  have hvm : s'.vm = s.vm := by rw [hA]; rfl
  have hhp : s'.heap = H := by rw [hA]; exact hT
  have hW0 : s.WarmedH s'.vm := by rw [hvm]; exact State.WarmedH.refl s
  have hat' : ∀ w ∈ vx_atS own ic cls names, w.before args s' = true := fun w hw => vx_ot_at hW0 hvm.symm (hgood w (List.mem_cons_of_mem _ (List.mem_cons_of_mem _ hw))) (hat w hw)
  have hk' : (Cond.classLink own ik cls).before args s' = true := vx_ot_at hW0 hvm.symm (hgood _ List.mem_cons_self) hk
  have hini' : (Cond.initialized cls).before args s' = true := vx_ot_at hW0 hvm.symm (hgood _ (List.mem_cons_of_mem _ List.mem_cons_self)) hini
  have hU' : vx_Zq Bundle.tN "UNASSIGNED_STACK" Bundle.steD A s' s'.heap := by rw [hhp]; exact vx_Zq.moved hW0.alike (hU.kept hS.2.1)
  have hN' : vx_Zq Bundle.tN "SUPPRESSED_SENTINEL" Bundle.listD A s' s'.heap := by rw [hhp]; exact vx_Zq.moved hW0.alike (hN.kept hS.2.1)
  have h : ∀ w ∈ Bundle.ownAtoms own ic cls names, w.before args s' = true := vx_own hat' (vx_isRefq hU'.1) (vx_isRefq hN'.1) hU'.2.word hN'.2.word
  have hown' : s'.vm.findClass own = some m.cls := by rw [hvm]; exact hown
  have hins : (Cond.instantiable cls 6).before args s' = true := h _ (by simp [Bundle.ownAtoms])
  obtain ⟨vm₁, cX, kX, hfX, hkX, -, -, X₁, st1⟩ := Y.newCold hexec (own := own) (C := cls) (index := ik) (n := 6) hown' hk' hins hini'
    (g := F0 m pc ls rest) rfl (by rw [hb]; exact d0) (Nat.le_refl _) (Nat.le_refl _)
  generalize hT1 : (T.setVm vm₁).pushCell { cls := cX, slots := kX.instanceTypes.map defaultValue, vm := .none } = T1 at X₁ st1
  have hcat : (Value.ref T.heap.size).category = 1 := rfl
  have hcellA : T1.heap[T.heap.size]? = some (freshCell cX kX) := by rw [← hT1]; exact State.heap_pushCell_size _ _
  have d3' : decode c.code (pc + 3) = .ok (.dup, 1) := by rw [hb]; exact d3
  have d4' : decode c.code (pc + 4) = .ok (.ldc is, 2) := by rw [hb]; exact d4
  have hstr' : vk_R own is text sa s' := vk_R.warm hW0 hstr
  obtain ⟨U, hsteps, hrun, hend, hW, hsame, ce, hce, hO⟩ := X₁.ctorThrowS hexec htr (own := own) (cls := cls) (names := names) (ic := ic) hown' hcls hnames h (fun x hx => nomatch hx) hfX hkX hcellA (by rw [hhp, hT]; exact Nat.le_refl _) (msg := .ref sa) rfl
    (g := { method := m, pc := pc + 6, locals := ls, stack := .ref sa :: .ref T.heap.size :: .ref T.heap.size :: rest, locked := none }) rfl hsize rfl rfl (rest := rest) rfl
    (by rw [hb]; exact d6) (by rw [hb]; exact d9) hout hRframes (by simp only [List.map_cons, List.sum_cons, hcat]; omega) hlocks
  obtain ⟨f1, f2⟩ := vx_frame hsame
  rw [hhp] at f1 f2
  have hWs : s.WarmedH U.vm := State.WarmedH.trans hW0 hW
  have hcl : s.vm.findClass cls = some ce.cls := by
    have h9 := hO.cls
    rw [hvm] at h9
    exact h9
  have hall : s.sameButNew ({ U with vm := s.vm } : State) locs mc ms := by
    subst hA
    obtain ⟨e1, e2⟩ := hsame
    rw [State.setFrames_setFrames] at e1
    have h2 : (T.setVm s.vm).sameButNew ({ U with vm := s.vm } : State) [] (0 + 1) (0 + 6) := ⟨e1, e2⟩
    have h3 := X.same.trans h2
    rw [List.append_nil] at h3
    exact h3.mono hc hs
  refine ⟨U, ?_, .threw T.heap.size, hrun, hend, Or.inr ⟨T.heap.size, rfl, cls, ce, locs, hx U hWs.alike f1 (fun q hq => f2 q hq (fun z hz => nomatch hz)), hce, hO.vm, hcl, hWs, hall, hf⟩⟩
  refine st1 _ ?_
  show Steps p.tables e below (T1.setTop { method := m, pc := pc + 3, locals := ls, stack := .ref T.heap.size :: rest, locked := none }) _
  jvm_step X₁.here [X₁.here.top, hexec, d3', Value.category]
  exact X₁.ldcString hexec (own := own) (text := text) (index := is) (a := sa) hown' hstr'.1 hstr'.2
    (g := { method := m, pc := pc + 4, locals := ls, stack := .ref T.heap.size :: .ref T.heap.size :: rest, locked := none }) rfl d4' _ hsteps
/-- 'throw new E("text")', the text by a wide index -/
theorem vx_throwSW {cc : ByteArray} {pc : Nat} (hexec : p.tables.exec = Jvm.exec) (hb : c.code = cc) (hl : l.stackTraces = false) {own cls text : String} {names : List String} {ik is ic mc ms sa : Nat} {A : Nat → Prop}
    (hown : s.vm.findClass own = some m.cls) (hcls : Bundle.fit cls = true) (hnames : ∀ n ∈ names, Bundle.fit n = true)
    (hk : (Cond.classLink own ik cls).before args s = true) (hini : (Cond.initialized cls).before args s = true) (hstr : vk_R own is text sa s) (hat : ∀ w ∈ vx_atS own ic cls names, w.before args s = true)
    (hgood : ∀ w ∈ Cond.classLink own ik cls :: Cond.initialized cls :: vx_atS own ic cls names, vx_ot w = true)
    (hU : vx_Zq Bundle.tN "UNASSIGNED_STACK" Bundle.steD A s s.heap) (hN : vx_Zq Bundle.tN "SUPPRESSED_SENTINEL" Bundle.listD A s s.heap) (hS : va_S A s.heap H locs) (hsize : ls.size = c.maxLocals)
    (d0 : decode cc pc = .ok (.new ik, 3)) (d3 : decode cc (pc + 3) = .ok (.dup, 1)) (d4 : decode cc (pc + 4) = .ok (.ldc_w is, 3)) (d7 : decode cc (pc + 7) = .ok (.invokespecial ic, 3)) (d10 : decode cc (pc + 10) = .ok (.athrow, 1))
    (hout : ∀ x ∈ c.exceptionTable.toList, covers x (pc + 10) = false)
    (hRframes : names.length + 3 < R.frames) (hRlocals : (rest.map fun v => v.category).sum + (13 * (names.length + 1) + 43) ≤ R.locals) (hRcells : cells + 1 ≤ R.cells) (hRslots : slots + 6 ≤ R.slots) (hlocks : meth.locks = false)
    (hx : ∀ t : State, s.vm.Alike t.vm → H.size ≤ t.heap.size → (∀ q : Nat, q < H.size → t.heap[q]? = H[q]?) → XC cls s t)
    (hf : ∀ z ∈ locs, free z.base) (hc : cells + 1 ≤ mc) (hs : slots + 6 ≤ ms) :
    W p l e R s m args below meth c H locs cells slots (vx_MQ below Qc XC args s mc ms free) (F0 m pc ls rest) := by
  intro T hT X
  have htr : e.platform.stackTraces = false := (show e.platform.stackTraces = l.stackTraces by rw [X.admits.platform]).trans hl
  have Y := vx_rebase X (R' := { frames := R.frames, locals := R.locals, cells := 1, slots := 6 }) (Nat.le_refl _) (Nat.le_refl _) hRcells hRslots
  obtain ⟨s', hA⟩ : ∃ z, z = (T.setVm s.vm).setFrames (.invoking m args :: below) := ⟨_, rfl⟩
  rw [← hA] at Y
  have hvm : s'.vm = s.vm := by rw [hA]; rfl
  have hhp : s'.heap = H := by rw [hA]; exact hT
  have hW0 : s.WarmedH s'.vm := by rw [hvm]; exact State.WarmedH.refl s
  have hat' : ∀ w ∈ vx_atS own ic cls names, w.before args s' = true := fun w hw => vx_ot_at hW0 hvm.symm (hgood w (List.mem_cons_of_mem _ (List.mem_cons_of_mem _ hw))) (hat w hw)
  have hk' : (Cond.classLink own ik cls).before args s' = true := vx_ot_at hW0 hvm.symm (hgood _ List.mem_cons_self) hk
  have hini' : (Cond.initialized cls).before args s' = true := vx_ot_at hW0 hvm.symm (hgood _ (List.mem_cons_of_mem _ List.mem_cons_self)) hini
  have hU' : vx_Zq Bundle.tN "UNASSIGNED_STACK" Bundle.steD A s' s'.heap := by rw [hhp]; exact vx_Zq.moved hW0.alike (hU.kept hS.2.1)
  have hN' : vx_Zq Bundle.tN "SUPPRESSED_SENTINEL" Bundle.listD A s' s'.heap := by rw [hhp]; exact vx_Zq.moved hW0.alike (hN.kept hS.2.1)
  have h : ∀ w ∈ Bundle.ownAtoms own ic cls names, w.before args s' = true := vx_own hat' (vx_isRefq hU'.1) (vx_isRefq hN'.1) hU'.2.word hN'.2.word
  have hown' : s'.vm.findClass own = some m.cls := by rw [hvm]; exact hown
  have hins : (Cond.instantiable cls 6).before args s' = true := h _ (by simp [Bundle.ownAtoms])
  obtain ⟨vm₁, cX, kX, hfX, hkX, -, -, X₁, st1⟩ := Y.newCold hexec (own := own) (C := cls) (index := ik) (n := 6) hown' hk' hins hini'
    (g := F0 m pc ls rest) rfl (by rw [hb]; exact d0) (Nat.le_refl _) (Nat.le_refl _)
  generalize hT1 : (T.setVm vm₁).pushCell { cls := cX, slots := kX.instanceTypes.map defaultValue, vm := .none } = T1 at X₁ st1
  have hcat : (Value.ref T.heap.size).category = 1 := rfl
  have hcellA : T1.heap[T.heap.size]? = some (freshCell cX kX) := by rw [← hT1]; exact State.heap_pushCell_size _ _
  have d3' : decode c.code (pc + 3) = .ok (.dup, 1) := by rw [hb]; exact d3
  have d4' : decode c.code (pc + 4) = .ok (.ldc_w is, 3) := by rw [hb]; exact d4
  have hstr' : vk_R own is text sa s' := vk_R.warm hW0 hstr
  obtain ⟨U, hsteps, hrun, hend, hW, hsame, ce, hce, hO⟩ := X₁.ctorThrowS hexec htr (own := own) (cls := cls) (names := names) (ic := ic) hown' hcls hnames h (fun x hx => nomatch hx) hfX hkX hcellA (by rw [hhp, hT]; exact Nat.le_refl _) (msg := .ref sa) rfl
    (g := { method := m, pc := pc + 7, locals := ls, stack := .ref sa :: .ref T.heap.size :: .ref T.heap.size :: rest, locked := none }) rfl hsize rfl rfl (rest := rest) rfl
    (by rw [hb]; exact d7) (by rw [hb]; exact d10) hout hRframes (by simp only [List.map_cons, List.sum_cons, hcat]; omega) hlocks
  obtain ⟨f1, f2⟩ := vx_frame hsame
  rw [hhp] at f1 f2
  have hWs : s.WarmedH U.vm := State.WarmedH.trans hW0 hW
  have hcl : s.vm.findClass cls = some ce.cls := by
    have h9 := hO.cls
    rw [hvm] at h9
    exact h9
  have hall : s.sameButNew ({ U with vm := s.vm } : State) locs mc ms := by
    subst hA
    obtain ⟨e1, e2⟩ := hsame
    rw [State.setFrames_setFrames] at e1
    have h2 : (T.setVm s.vm).sameButNew ({ U with vm := s.vm } : State) [] (0 + 1) (0 + 6) := ⟨e1, e2⟩
    have h3 := X.same.trans h2
    rw [List.append_nil] at h3
    exact h3.mono hc hs
  refine ⟨U, ?_, .threw T.heap.size, hrun, hend, Or.inr ⟨T.heap.size, rfl, cls, ce, locs, hx U hWs.alike f1 (fun q hq => f2 q hq (fun z hz => nomatch hz)), hce, hO.vm, hcl, hWs, hall, hf⟩⟩
  refine st1 _ ?_
  show Steps p.tables e below (T1.setTop { method := m, pc := pc + 3, locals := ls, stack := .ref T.heap.size :: rest, locked := none }) _
  jvm_step X₁.here [X₁.here.top, hexec, d3', Value.category]
  exact X₁.ldcStringW hexec (own := own) (text := text) (index := is) (a := sa) hown' hstr'.1 hstr'.2
    (g := { method := m, pc := pc + 4, locals := ls, stack := .ref T.heap.size :: .ref T.heap.size :: rest, locked := none }) rfl d4' _ hsteps
end Ends
section Bodies
variable {l : Launch}
theorem vx_ofW {y : MethodName} {ws ws' : List Cond} {rm : Room} {Pc : Array Value → State → Prop} {Qc : Array Value → State → Outcome → State → Prop} {XC : String → State → State → Prop} {mc ms : Nat} {free : Addr → Prop} {cc : ByteArray} {maxL : Nat} {ret : Option FieldType}
    (hy : plainName y.cls = true) (hw : ws = Cond.code y cc maxL ret :: ws')
    (body : ∀ p e s m args below meth c s₁, BodyLoose p l y (headSpec ws rm) cc maxL ret e s m args below meth c s₁ → c.maxLocals = maxL → (∀ x ∈ c.exceptionTable.toList, False) → Pc args s →
      W p l e (headSpec ws rm).room s m args below meth c s.heap [] 0 0 (vx_MQ below Qc XC args s mc ms free) (entryFrame m args maxL)) : vx_Met l y ws rm Pc Qc XC mc ms free := by
  refine MetFree.of_bodyS (code := cc) (maxLocals := maxL) (ret := ret) hy ?_ ?_
  · intro args s m h hn
    obtain ⟨meth, c, h1, h2, h3, h4, h5, h6, -, -⟩ := Cond.code_spec hn (atoms_spec (ws := ws) h _ (by rw [hw]; exact List.mem_cons_self))
    exact ⟨meth, c, h1, h2, h3, h4, h5, h6⟩
  · intro p e s m args below meth c s₁ B hml hP _
    have hh0 : s₁.heap = s.heap := by rw [B.state]; rfl
    have ht : ∀ x ∈ c.exceptionTable.toList, False := by
      obtain ⟨meth9, c9, h1, h2, -, -, -, -, h7, -⟩ := Cond.code_spec B.named (atoms_spec (ws := ws) B.pre _ (by rw [hw]; exact List.mem_cons_self))
      cases Option.some.inj (h1.symm.trans B.method)
      cases Option.some.inj (h2.symm.trans (Stand.of_body B).code)
      intro x hx
      rw [Array.isEmpty_iff.mp h7] at hx
      cases hx
    obtain ⟨t, a1, o, b1, b2, b3⟩ := body p e s m args below meth c s₁ B hml ht hP s₁ hh0 (Stand.of_body B)
    exact ⟨t, o, a1, b1, b2, b3⟩
/-- the table of a body with handlers -/
theorem vx_table {p : Program} {x y : MethodName} {S : Spec} {cc bytes : ByteArray} {maxL maxL' : Nat} {ret ret' : Option FieldType} {e : Env} {s s₁ : State} {m : MethodId} {args : Array Value} {below : List Frame} {meth : Method} {c : Code} {hh : List (Nat × Nat × Nat × Nat)}
    (B : BodyLoose p l y S cc maxL ret e s m args below meth c s₁) (h : (Cond.codeWith y bytes maxL' ret' hh).before args s = true) : c.exceptionTable.toList = tableOf hh := by
  obtain ⟨m9, meth9, c9, hn9, h1, h2, -, -, h6, -⟩ := Cond.codeWith_spec h
  cases Option.some.inj (hn9.symm.trans B.named)
  cases Option.some.inj (h1.symm.trans B.method)
  cases Option.some.inj (h2.symm.trans (Stand.of_body B).code)
  rw [← h6, table_eq]
end Bodies
end VXA
/-! ===== END ===== -/
/-! ===== BEGIN a static call of a method with an exception table ===== -/
section VXS
variable {p : Program} {l : Launch} {e : Env} {R : Room} {s : State} {m : MethodId} {args : Array Value} {below : List Frame} {meth : Method} {c : Code} {T : State} {H : Heap} {locs : List Loc} {cells slots : Nat}
abbrev vx_CSW (R : Room) (s : State) (args : Array Value) (own : String) (index : Nat) (y : MethodName) (bytes : ByteArray) (maxL : Nat) (ret : Option FieldType) (hh : List (Nat × Nat × Nat × Nat)) (ws : List Cond) (rm : Room) (mc ms n : Nat) : Prop :=
  (rm.cells = mc ∧ rm.slots = ms ∧ rm.frames + 1 ≤ R.frames ∧ 8 + (maxL + 11) + rm.locals ≤ R.locals ∧ (∀ w ∈ ws, ∀ (a' : Array Value) (U : State), s.WarmedH U.vm → w.before a' U = true) ∧ Cond.codeWith y bytes maxL ret hh ∈ ws) ∧
  (Cond.codeWith y bytes maxL ret hh).before args s = true ∧ (Cond.initialized y.cls).before args s = true ∧ (y.cls ≠ "java/lang/invoke/MethodHandle" ∧ y.cls ≠ "java/lang/invoke/VarHandle") ∧
  (∀ sig, parseMethodDescriptor y.desc = some sig → n = sig.parameters.length) ∧ (Cond.methodLink own index y).before args s = true ∧ (Cond.static y).before args s = true
theorem vx_cwSW {own : String} {index maxL mc ms : Nat} {y : MethodName} {bytes : ByteArray} {ret : Option FieldType} {hh : List (Nat × Nat × Nat × Nat)} {Ts ws ws' : List Cond} {rm : Room} (n : Nat) (ht : ∀ w ∈ Ts, w.before args s = true) (hT : GoodIn Ts (va_wsS own index y ws)) (hw : ws = Cond.codeWith y bytes maxL ret hh :: ws') (hrc : rm.cells = mc) (hrs : rm.slots = ms)
    (hd : y.cls ≠ "java/lang/invoke/MethodHandle" ∧ y.cls ≠ "java/lang/invoke/VarHandle" ∧ (parseMethodDescriptor y.desc).map (fun d => d.parameters.length) = some n) (hR : rm.frames + 1 ≤ R.frames ∧ 8 + (maxL + 11) + rm.locals ≤ R.locals) :
    vx_CSW R s args own index y bytes maxL ret hh ws rm mc ms n := by
  have ok : ∀ w ∈ va_wsS own index y ws, w.before args s = true := fun w h => ht w (hT w h).1
  have hG : GoodIn Ts ws := fun w h => hT w (by unfold va_wsS; exact List.mem_append_right _ h)
  have hc : Cond.codeWith y bytes maxL ret hh ∈ ws := by rw [hw]; exact List.mem_cons_self
  refine ⟨⟨hrc, hrs, hR.1, hR.2, pay_in ht hG, hc⟩, ht _ (hG _ hc).1, ok _ (by simp [va_wsS]), ⟨hd.1, hd.2.1⟩, fun sig h => ?_, ok _ (by simp [va_wsS]), ok _ (by simp [va_wsS])⟩
  have h2 := hd.2.2
  rw [h] at h2
  exact (Option.some.inj h2).symm
theorem vx_callSW (X : Stand p l e R s m args below meth c T locs cells slots) (hexec : p.tables.exec = Jvm.exec) {own : String} {index : Nat} {y : MethodName} {bytes : ByteArray} {maxL : Nat} {ret : Option FieldType} {hh : List (Nat × Nat × Nat × Nat)}
    (hown : s.vm.findClass own = some m.cls) (hlink : (Cond.methodLink own index y).before args s = true) (hstat : (Cond.static y).before args s = true) (hinit : (Cond.initialized y.cls).before args s = true)
    (hcode : (Cond.codeWith y bytes maxL ret hh).before args s = true) (hy : y.cls ≠ "java/lang/invoke/MethodHandle" ∧ y.cls ≠ "java/lang/invoke/VarHandle")
    {W9 : Nat} {Pre : Pt → Array Value → Prop} {Post : Pt → Array Value → Option Value → Pt → Prop} (hK : Back l R p e below s args y 3 W9 Pre Post)
    {g : JFrame} (hg : g.method = m) (hsize : g.locals.size = c.maxLocals) {argsL rest : List Value} (hlen : ∀ sig, parseMethodDescriptor y.desc = some sig → argsL.length = sig.parameters.length)
    (hstack : g.stack = argsL.reverse ++ rest) (hW : 2 * g.monitorRoom + (rest.map fun v => v.category).sum ≤ W9) (hdg : decode c.code g.pc = .ok (.invokestatic index, 3))
    (hpre : ∀ vm₁, s.WarmedH vm₁ → Pre ⟨T.setVm vm₁, locs, cells, slots⟩ argsL.toArray) :
    ∃ (v : Option Value) (vm₁ : Vm) (B : Pt), s.WarmedH vm₁ ∧ Stand p l e R s m args below meth c B.U B.locs B.cells B.slots ∧ Post ⟨T.setVm vm₁, locs, cells, slots⟩ argsL.toArray v B ∧
      ∀ target, Steps p.tables e below (B.U.setTop { g with pc := g.pc + 3, stack := v.toList ++ rest }) target → Steps p.tables e below (T.setTop g) target := by
  obtain ⟨mk, methM, cM, hnamed, hmethM, -, -, -, -, -, -, hsigM⟩ := Cond.codeWith_spec hcode
  have hstatic : methM.isStatic = true := Cond.static_spec hnamed hmethM hstat
  obtain ⟨kP, hkP, -⟩ := className_of_methodNamed hnamed
  have hinitP : kP.init = .initialized := Cond.initialized_spec (findClass_of_methodNamed hnamed) hkP hinit
  obtain ⟨vm₁, X₁, hstep₁⟩ := X.invokestatic hexec hown hlink hnamed hmethM hstatic hkP hinitP hy (g := g) hg (argsL := argsL) (rest := rest) (hlen _ hsigM) hstack hdg
  obtain ⟨v, B, X', hpost, hsteps⟩ := hK m meth c ⟨T.setVm vm₁, locs, cells, slots⟩ { g with stack := rest } (.invokestatic index) mk argsL.toArray X₁ hg hsize hdg hW (X₁.named hnamed) (hpre vm₁ X₁.warmed)
  exact ⟨v, vm₁, B, X₁.warmed, X', hpost, fun target h => hstep₁ _ fun acts => by rw [doInvoke_state]; exact hsteps.trans h⟩
theorem vx_runSW {y : MethodName} {bytes cc : ByteArray} {maxL nL mc ms n index : Nat} {ret : Option FieldType} {hh : List (Nat × Nat × Nat × Nat)} {ws : List Cond} {rm : Room} {Pc : Array Value → State → Prop} {Qc : Array Value → State → Outcome → State → Prop} {free : Addr → Prop} {Ts : List Cond} {own : String} {As rest : List Value} {g : JFrame}
    (S : CallFix p m c cc nL s args Ts own) (hM : Met l y ws rm Pc Qc mc ms free) (cw : vx_CSW R s args own index y bytes maxL ret hh ws rm mc ms n) (hp : PreS s H Pc As)
    (hg : g.method = m) (hn : As.length = n) (hsize : g.locals.size = nL) (hstack : g.stack = As.reverse ++ rest) (hW : 2 * g.monitorRoom + (rest.map fun v => v.category).sum ≤ 8) (hdg : decode cc g.pc = .ok (.invokestatic index, 3)) (hf : cells + mc ≤ R.cells ∧ slots + ms ≤ R.slots) :
    va_Run p l e R s m args below meth c H locs cells slots mc ms g rest (Qc As.toArray) (free) := by
  obtain ⟨⟨hrc, hrs, hfr, hlo, hws, hcw⟩, hcode, hini, hy, hlen, hl, hstt⟩ := cw
  have hK : Back l R p e below s args y 3 8 (PreOf R mc ms Pc) (PostOf Qc mc ms free) := va_backW (hh := hh) (bytes := bytes) (maxL := maxL) (ret := ret) hM hp.1 hrc hrs hfr hlo hws hcw (fun a' U hW => word_at hW (Or.inl (by first | rfl | simp [Cond.onTables, Cond.keeps, Cond.steady])) hini)
  obtain ⟨hx, hb, hml, ho, -⟩ := S
  intro T hT X
  obtain ⟨v, vm₁, ⟨U', l2, c2, s2⟩, hW₁, X', ⟨g', mk, t, L, e1, e2, hq, h1, hL, h2, h3⟩, st⟩ := vx_callSW X hx (hh := hh) (bytes := bytes) (maxL := maxL) (ret := ret) ho hl hstt hini hcode hy hK hg (hsize.trans hml.symm) (argsL := As) (rest := rest) (fun sig h => hn.trans (hlen sig h)) hstack hW (by rw [hb]; exact hdg)
    (fun vm₁ hW₁ => ⟨hf.1, hf.2, hp.2 (T.setVm vm₁) hT hW₁⟩)
  dsimp only [Pt.U, Pt.locs, Pt.cells, Pt.slots] at X' e1 e2 h1 h2 h3 st
  subst h1; subst h2; subst h3
  exact ⟨v, (T.setVm vm₁).calling g' mk As.toArray, t, U', L, hT, X', hL, e1, e2, hq, st⟩
/-- not caught here, past rows that name other classes: it goes on to the caller -/
theorem vx_outP {p : Program} {l : Launch} {e : Env} {R : Room} {s : State} {m : MethodId} {args : Array Value} {below : List Frame} {meth : Method} {c : Code} {H : Heap} {locs : List Loc} {cells slots : Nat} {free : Addr → Prop} {ls : Array Slot} {rest : List Value} {Qc : Array Value → State → Outcome → State → Prop} {XC : String → State → State → Prop}
    {pc : Nat} {own E : String} {ce : Cell} {q : Addr} {mc ms : Nat} (hown : s.vm.findClass own = some m.cls) (hlocks : meth.locks = false)
    (hpass : ∀ z ∈ c.exceptionTable.toList, covers z pc = false ∨ (z.catchType ≠ 0 ∧ ∃ nm : String, (Cond.classLink own z.catchType nm).before args s = true ∧ va_Nc E nm s)) (hcell : H[q]? = some ce) (hv : ce.vm = .none) (hcl : s.vm.findClass E = some ce.cls)
    (hx : ∀ t : State, t.heap = H → s.vm.Alike t.vm → XC E s t) (hf : ∀ z ∈ locs, free z.base) (hc : cells ≤ mc) (hs : slots ≤ ms) :
    vx_W p l e R s m args below meth c H locs cells slots (vx_MQ below Qc XC args s mc ms free) (F0 m pc ls rest) q := by
  intro T hT X
  have hpl : e.platform.magicAccessors = ({} : Platform).magicAccessors := by rw [X.admits.platform]
  obtain ⟨vm', hW', X', st⟩ := X.outThrough hlocks q (g := F0 m pc ls rest) rfl rfl rfl (cell := ce) (by rw [hT]; exact hcell) (by rw [hv]; rfl)
    (by obtain ⟨k9, h9, -⟩ := Vm.findClass_spec hcl; exact ⟨k9, h9⟩) (fun z hz => by
      rcases hpass z hz with h | ⟨hz0, nm, hl1, hn1⟩
      · exact Or.inl h
      · obtain ⟨c6, hc6, hcl6⟩ := Cond.classLink_spec hown hl1 e.platform hpl
        obtain ⟨a8, b8, h1, h2, h3⟩ := hn1
        cases Option.some.inj (h1.symm.trans hcl)
        cases Option.some.inj (h2.symm.trans hc6)
        exact Or.inr ⟨hz0, _, hcl6, h3⟩)
  obtain ⟨g₀, hfr⟩ := X'.frames_eq
  have hcell9 : ((T.setVm vm').setFrames (.throwing q :: below)).heap[q]? = some ce := by
    show T.heap[q]? = some ce
    rw [hT]; exact hcell
  have hend : Ended ((T.setVm vm').setFrames (.throwing q :: below)) below (.threw q) := State.frames_setFrames _ (State.cur_lt_of_frames hfr)
  refine ⟨(T.setVm vm').setFrames (.throwing q :: below), ?_, .threw q, X'.here.running, hend, Or.inr ⟨q, rfl, E, ce, locs, hx _ hT (X'.ends _).1.alike, hcell9, hv, hcl, (X'.ends _).1, (X'.ends _).2.mono hc hs, hf⟩⟩
  rw [X.pushThrowing_eq]
  exact st
/-- a thing of a world lies in the heap -/
theorem vx_lt {D : va_G} {cl : List vw_C} {ws : va_W} {H1 : Heap} (h : va_P D cl ws H1) {k : Nat} {q : Nat × va_E} (hk : ws[k]? = some q) : q.1 < H1.size := (h k q hk).lt
end VXS
/-! ===== END ===== -/
/-! ===== BEGIN methods with a table of their own: called by a name, returning or throwing ===== -/
section VXH
/-! vx_backW, vx_callVX, vx_callSX, vx_callVW, vx_runVW, vx_runVX, vx_runSX, vx_ofWH follow the same proofs as their sisters above (Free/Laws.lean, Shelf42/LK1.lean); vx_outP calls Shelf42/NT130.lean (outThrough). -/
section
variable {l : Launch} {R : Room} {p : Program} {e : Env} {below : List Frame} {s : State} {sargs : Array Value} {y : MethodName} {len W9 : Nat}
theorem vx_backW {ws : List Cond} {rm : Room} {Pc : Array Value → State → Prop} {Qc : Array Value → State → Outcome → State → Prop} {XC : String → State → State → Prop} {mc ms : Nat} {free : Addr → Prop} {bytes : ByteArray} {maxL : Nat} {ret : Option FieldType} {hh : List (Nat × Nat × Nat × Nat)}
    (hM : vx_Met l y ws rm Pc Qc XC mc ms free) (hblind : FrameBlind Pc) (hrc : rm.cells = mc) (hrs : rm.slots = ms)
    (hframes : rm.frames + 1 ≤ R.frames) (hlocals : W9 + (maxL + 11) + rm.locals ≤ R.locals)
    (hws : ∀ w ∈ ws, ∀ a' U, s.WarmedH U.vm → w.before a' U = true) (hcode : Cond.codeWith y bytes maxL ret hh ∈ ws) (hinit : ∀ a' U, s.WarmedH U.vm → (Cond.initialized y.cls).before a' U = true) :
    vx_Back l R p e below s sargs y len W9 (PreOf R mc ms Pc) (PostOf Qc mc ms free) (vx_Post XC mc ms free) := by
  intro m meth c A g ig mk a X hg hsize hdg hW hn hp
  have h1 : (headSpec ws rm).pre.before a A.U = true := atoms_intro fun w hw => hws w hw _ _ X.warmed
  have h2 : (Cond.codeWith y bytes maxL ret hh).before a A.U = true := hws _ hcode _ _ X.warmed
  have h3 : (Cond.initialized y.cls).before a A.U = true := hinit _ _ X.warmed
  have h4 : A.cells + (headSpec ws rm).room.cells ≤ R.cells := by rw [show (headSpec ws rm).room.cells = mc from hrc]; exact hp.1
  have h5 : A.slots + (headSpec ws rm).room.slots ≤ R.slots := by rw [show (headSpec ws rm).room.slots = ms from hrs]; exact hp.2.1
  have hPc : Pc a (A.U.calling g mk a) := hblind _ _ _ _ hp.2.2
  obtain ⟨U, Ls, c0, s0⟩ := A
  dsimp only [Pt.U, Pt.locs, Pt.cells, Pt.slots] at h1 h2 h3 h4 h5 X hn hPc ⊢
  obtain ⟨m9, methY, cY, hn9, hmY, hcY, -, hlY, -⟩ := Cond.codeWith_spec h2
  cases Option.some.inj (hn9.symm.trans hn)
  obtain ⟨kY, hkY, -⟩ := className_of_methodNamed hn
  have hinitY : kY.init = .initialized := Cond.initialized_spec (findClass_of_methodNamed hn) hkY h3
  have h : At U g.method c below := by rw [hg]; exact X.here
  have hlocals9 : W9 + (maxL + 11) + (headSpec ws rm).room.locals ≤ R.locals := hlocals
  have happ : (headSpec ws rm).appliesLoose y e.platform (U.calling g mk a) = true :=
    Spec.appliesLoose_calling (g := g) h hdg hn hkY hinitY
      (X.room_calling (g := g) (R' := (headSpec ws rm).room) hsize hmY hcY hframes (by rw [hlY]; omega) h4 h5) h1
  obtain ⟨mid, hmid⟩ := h.above
  have hfr : (U.setTop g).frames = (.java g :: mid) ++ below := by rw [State.frames_setTop' g h.top, hmid]; rfl
  obtain ⟨o, s₂, hsteps, -, hend, hq⟩ := Steps.callFree hM p X.admits X.cas X.clock (acts := []) hfr happ hPc trivial
  have hq' : vx_Q Qc XC mc ms free a (U.calling g mk a) o s₂ := hq
  rw [State.frames_setTop' g h.top] at hend
  obtain ⟨g₀, hg0⟩ := Option.isSome_iff_exists.mp h.top
  obtain ⟨r, hr⟩ := State.topJava?_eq_some.mp hg0
  have hr' : (({ U with heap := s₂.heap, slotsUsed := s₂.slotsUsed } : State).setVm s₂.vm).frames = .java g₀ :: r := hr
  rcases hq' with ⟨hqc, L, hfe, hL⟩ | ⟨q, rfl, E, ce, L, hx, hce, hcv, hcl, hW₂, hsm, hL⟩
  · obtain ⟨⟨v, rfl⟩, hW₂, e2, q2, q3, q4, q5, q6⟩ := id hfe
    have e3 : s₂ = ({ (U.calling g mk a).setFrames s₂.frames with heap := s₂.heap, slotsUsed := s₂.slotsUsed } : State).setVm s₂.vm := by
      have : s₂ = ({ s₂ with vm := (U.calling g mk a).vm } : State).setVm s₂.vm := rfl
      rw [e2] at this
      exact this
    obtain ⟨c₂, i₂, len₂, hc₂, hd₂, hf₂⟩ := hend
    have hW' : U.WarmedH s₂.vm := hW₂
    have hcc : c₂ = c := by
      have h1 : s₂.code? g.method = U.code? g.method := by
        rw [State.code?_eq, State.code?_eq, hW'.alike.method?]
      exact Option.some.inj (hc₂.symm.trans (h1.trans h.code))
    subst hcc
    have hlen : len₂ = len := by rw [hdg] at hd₂; cases hd₂; rfl
    subst hlen
    have hs₂ : s₂ = (({ U with heap := s₂.heap, slotsUsed := s₂.slotsUsed } : State).setVm s₂.vm).setTop { g with pc := g.pc + len₂, stack := v.toList ++ g.stack } := by
      refine e3.trans ?_
      rw [hf₂, State.calling_eq h.top, State.setFrames_setFrames, State.setTop_of_frames _ hr', hr]
      rfl
    have hsame : U.sameButNew ({ U with heap := s₂.heap, slotsUsed := s₂.slotsUsed } : State) L mc ms := by
      refine ⟨?_, q2, q3, q4, q5, q6⟩
      obtain ⟨t, ht, -⟩ := State.frames_cons hr
      show ({ U with heap := s₂.heap, slotsUsed := s₂.slotsUsed } : State) = { U.setFrames U.frames with heap := s₂.heap, slotsUsed := s₂.slotsUsed }
      rw [State.setFrames_self ht]
    subst hg
    refine Or.inl ⟨v, ⟨(({ U with heap := s₂.heap, slotsUsed := s₂.slotsUsed } : State).setVm s₂.vm), Ls ++ L, c0 + mc, s0 + ms⟩,
      ⟨X.admits, X.cas, X.clock, X.frames, X.room, X.hears, X.method, X.code, (X.here.setHeapUsed s₂.heap s₂.slotsUsed).setVm hW'.alike, X.tail, State.WarmedH.trans X.warmed hW', X.limits, X.bytes, X.same.trans (hsame.setVm s.vm)⟩,
      ⟨g, mk, s₂, L, rfl, rfl, hqc, rfl, hL, rfl, rfl⟩, ?_⟩
    show Steps p.tables e below _ ((({ U with heap := s₂.heap, slotsUsed := s₂.slotsUsed } : State).setVm s₂.vm).setTop { g with pc := g.pc + len₂, stack := v.toList ++ g.stack })
    rw [← hs₂]
    exact hsteps
  · obtain ⟨e2, q2, q3, q4, q5, q6⟩ := id hsm
    have e3 : s₂ = ({ (U.calling g mk a).setFrames s₂.frames with heap := s₂.heap, slotsUsed := s₂.slotsUsed } : State).setVm s₂.vm := by
      have : s₂ = ({ s₂ with vm := (U.calling g mk a).vm } : State).setVm s₂.vm := rfl
      rw [e2] at this
      exact this
    have hf₂ : s₂.frames = .throwing q :: .java g :: U.frames.tail := hend
    have hW' : U.WarmedH s₂.vm := hW₂
    have hs₂ : s₂ = ((({ U with heap := s₂.heap, slotsUsed := s₂.slotsUsed } : State).setVm s₂.vm).setTop g).pushFrame (.throwing q) := by
      refine e3.trans ?_
      rw [hf₂, State.calling_eq h.top, State.setFrames_setFrames, State.pushFrame, State.frames_setTop _ hr', State.setTop_of_frames _ hr', State.setFrames_setFrames, hr]
      rfl
    have hsame : U.sameButNew ({ U with heap := s₂.heap, slotsUsed := s₂.slotsUsed } : State) L mc ms := by
      refine ⟨?_, q2, q3, q4, q5, q6⟩
      obtain ⟨t, ht, -⟩ := State.frames_cons hr
      show ({ U with heap := s₂.heap, slotsUsed := s₂.slotsUsed } : State) = { U.setFrames U.frames with heap := s₂.heap, slotsUsed := s₂.slotsUsed }
      rw [State.setFrames_self ht]
    subst hg
    refine Or.inr ⟨q, ⟨(({ U with heap := s₂.heap, slotsUsed := s₂.slotsUsed } : State).setVm s₂.vm), Ls ++ L, c0 + mc, s0 + ms⟩,
      ⟨X.admits, X.cas, X.clock, X.frames, X.room, X.hears, X.method, X.code, (X.here.setHeapUsed s₂.heap s₂.slotsUsed).setVm hW'.alike, X.tail, State.WarmedH.trans X.warmed hW', X.limits, X.bytes, X.same.trans (hsame.setVm s.vm)⟩,
      ⟨g, mk, s₂, L, E, ce, rfl, rfl, hx, hce, hcv, hcl, rfl, hL, rfl, rfl⟩, ?_⟩
    show Steps p.tables e below _ (((({ U with heap := s₂.heap, slotsUsed := s₂.slotsUsed } : State).setVm s₂.vm).setTop g).pushFrame (.throwing q))
    rw [← hs₂]
    exact hsteps
end
variable {p : Program} {l : Launch} {e : Env} {R : Room} {s : State} {m : MethodId} {args : Array Value} {below : List Frame} {meth : Method} {c : Code} {T : State} {H : Heap} {locs : List Loc} {cells slots : Nat}
theorem vx_callVX (X : Stand p l e R s m args below meth c T locs cells slots) (hexec : p.tables.exec = Jvm.exec) {own C : String} {index : Nat} {y : MethodName} {bytes : ByteArray} {maxL : Nat} {ret : Option FieldType} {hh : List (Nat × Nat × Nat × Nat)}
    (hown : s.vm.findClass own = some m.cls) (hlink : (Cond.methodLink own index y).before args s = true) (hinst : (Cond.instanceMethod y).before args s = true) (hsel : (Cond.selects C y y).before args s = true)
    (hcode : (Cond.codeWith y bytes maxL ret hh).before args s = true) (hy : y.cls ≠ "java/lang/invoke/MethodHandle" ∧ y.cls ≠ "java/lang/invoke/VarHandle")
    {W9 : Nat} {Pre : Pt → Array Value → Prop} {Post : Pt → Array Value → Option Value → Pt → Prop} {PostX : Pt → Array Value → Addr → Pt → Prop} (hK : vx_Back l R p e below s args y 3 W9 Pre Post PostX)
    {b : Addr} {cellB : Cell} (hcell : T.heap[b]? = some cellB) (hobj : cellB.vm.isStatics = false) (hcls : s.vm.findClass C = some cellB.cls)
    {g : JFrame} (hg : g.method = m) (hsize : g.locals.size = c.maxLocals) {argsL rest : List Value} (hlen : ∀ sig, parseMethodDescriptor y.desc = some sig → argsL.length = sig.parameters.length)
    (hstack : g.stack = argsL.reverse ++ .ref b :: rest) (hW : 2 * g.monitorRoom + (rest.map fun v => v.category).sum ≤ W9) (hdg : decode c.code g.pc = .ok (.invokevirtual index, 3))
    (hpre : ∀ vm₁, s.WarmedH vm₁ → Pre ⟨T.setVm vm₁, locs, cells, slots⟩ (Value.ref b :: argsL).toArray) :
    (∃ (v : Option Value) (vm₁ : Vm) (B : Pt), s.WarmedH vm₁ ∧ Stand p l e R s m args below meth c B.U B.locs B.cells B.slots ∧ Post ⟨T.setVm vm₁, locs, cells, slots⟩ (Value.ref b :: argsL).toArray v B ∧
      ∀ target, Steps p.tables e below (B.U.setTop { g with pc := g.pc + 3, stack := v.toList ++ rest }) target → Steps p.tables e below (T.setTop g) target) ∨
    (∃ (q : Addr) (vm₁ : Vm) (B : Pt), s.WarmedH vm₁ ∧ Stand p l e R s m args below meth c B.U B.locs B.cells B.slots ∧ PostX ⟨T.setVm vm₁, locs, cells, slots⟩ (Value.ref b :: argsL).toArray q B ∧
      Steps p.tables e below (T.setTop g) ((B.U.setTop { g with stack := rest }).pushFrame (.throwing q))) := by
  obtain ⟨mk, methM, hnamed, hmethM, hstM, habM⟩ := Cond.instanceMethod_spec hinst
  obtain ⟨m8, methM', cM, hn8, hmethM', -, -, -, -, -, -, hsigM⟩ := Cond.codeWith_spec hcode
  cases Option.some.inj (hn8.symm.trans hnamed)
  cases hmethM.symm.trans hmethM'
  obtain ⟨c2, r2, m2, q1, q2, q3, q4, kP, hkP, hkPi⟩ := Cond.selects_spec hsel
  cases hcls.symm.trans q1
  cases (State.methodFound?_of_named hnamed hy).symm.trans q2
  cases hnamed.symm.trans q3
  have hselP : selectMethod e.platform s.vm cellB.cls mk = .method mk := by rw [Launch.admits_selectMethod X.admits]; exact q4
  obtain ⟨vm₁, X₁, hstep₁⟩ := X.invokevirtual hexec hown hlink hnamed hmethM hstM hkP hkPi hy (a := b) (cell := cellB) hcell
    (fun z h => by rw [h] at hobj; cases hobj) hselP hmethM habM hkP hkPi (g := g) hg (argsL := argsL) (rest := rest) (hlen _ hsigM) hstack hdg
  rcases hK m meth c ⟨T.setVm vm₁, locs, cells, slots⟩ { g with stack := rest } (.invokevirtual index) mk (Value.ref b :: argsL).toArray X₁ hg hsize hdg hW (X₁.named hnamed) (hpre vm₁ X₁.warmed) with ⟨v, B, X', hpost, hsteps⟩ | ⟨q, B, X', hpost, hsteps⟩
  · exact Or.inl ⟨v, vm₁, B, X₁.warmed, X', hpost, fun target h => hstep₁ _ fun acts => by rw [doInvoke_state]; exact hsteps.trans h⟩
  · exact Or.inr ⟨q, vm₁, B, X₁.warmed, X', hpost, hstep₁ _ fun acts => by rw [doInvoke_state]; exact hsteps⟩
theorem vx_callSX (X : Stand p l e R s m args below meth c T locs cells slots) (hexec : p.tables.exec = Jvm.exec) {own : String} {index : Nat} {y : MethodName} {bytes : ByteArray} {maxL : Nat} {ret : Option FieldType} {hh : List (Nat × Nat × Nat × Nat)}
    (hown : s.vm.findClass own = some m.cls) (hlink : (Cond.methodLink own index y).before args s = true) (hstat : (Cond.static y).before args s = true) (hinit : (Cond.initialized y.cls).before args s = true)
    (hcode : (Cond.codeWith y bytes maxL ret hh).before args s = true) (hy : y.cls ≠ "java/lang/invoke/MethodHandle" ∧ y.cls ≠ "java/lang/invoke/VarHandle")
    {W9 : Nat} {Pre : Pt → Array Value → Prop} {Post : Pt → Array Value → Option Value → Pt → Prop} {PostX : Pt → Array Value → Addr → Pt → Prop} (hK : vx_Back l R p e below s args y 3 W9 Pre Post PostX)
    {g : JFrame} (hg : g.method = m) (hsize : g.locals.size = c.maxLocals) {argsL rest : List Value} (hlen : ∀ sig, parseMethodDescriptor y.desc = some sig → argsL.length = sig.parameters.length)
    (hstack : g.stack = argsL.reverse ++ rest) (hW : 2 * g.monitorRoom + (rest.map fun v => v.category).sum ≤ W9) (hdg : decode c.code g.pc = .ok (.invokestatic index, 3))
    (hpre : ∀ vm₁, s.WarmedH vm₁ → Pre ⟨T.setVm vm₁, locs, cells, slots⟩ argsL.toArray) :
    (∃ (v : Option Value) (vm₁ : Vm) (B : Pt), s.WarmedH vm₁ ∧ Stand p l e R s m args below meth c B.U B.locs B.cells B.slots ∧ Post ⟨T.setVm vm₁, locs, cells, slots⟩ argsL.toArray v B ∧
      ∀ target, Steps p.tables e below (B.U.setTop { g with pc := g.pc + 3, stack := v.toList ++ rest }) target → Steps p.tables e below (T.setTop g) target) ∨
    (∃ (q : Addr) (vm₁ : Vm) (B : Pt), s.WarmedH vm₁ ∧ Stand p l e R s m args below meth c B.U B.locs B.cells B.slots ∧ PostX ⟨T.setVm vm₁, locs, cells, slots⟩ argsL.toArray q B ∧
      Steps p.tables e below (T.setTop g) ((B.U.setTop { g with stack := rest }).pushFrame (.throwing q))) := by
  obtain ⟨mk, methM, cM, hnamed, hmethM, -, -, -, -, -, -, hsigM⟩ := Cond.codeWith_spec hcode
  have hstatic : methM.isStatic = true := Cond.static_spec hnamed hmethM hstat
  obtain ⟨kP, hkP, -⟩ := className_of_methodNamed hnamed
  have hinitP : kP.init = .initialized := Cond.initialized_spec (findClass_of_methodNamed hnamed) hkP hinit
  obtain ⟨vm₁, X₁, hstep₁⟩ := X.invokestatic hexec hown hlink hnamed hmethM hstatic hkP hinitP hy (g := g) hg (argsL := argsL) (rest := rest) (hlen _ hsigM) hstack hdg
  rcases hK m meth c ⟨T.setVm vm₁, locs, cells, slots⟩ { g with stack := rest } (.invokestatic index) mk argsL.toArray X₁ hg hsize hdg hW (X₁.named hnamed) (hpre vm₁ X₁.warmed) with ⟨v, B, X', hpost, hsteps⟩ | ⟨q, B, X', hpost, hsteps⟩
  · exact Or.inl ⟨v, vm₁, B, X₁.warmed, X', hpost, fun target h => hstep₁ _ fun acts => by rw [doInvoke_state]; exact hsteps.trans h⟩
  · exact Or.inr ⟨q, vm₁, B, X₁.warmed, X', hpost, hstep₁ _ fun acts => by rw [doInvoke_state]; exact hsteps⟩
theorem vx_callVW (X : Stand p l e R s m args below meth c T locs cells slots) (hexec : p.tables.exec = Jvm.exec) {own C : String} {index : Nat} {y : MethodName} {bytes : ByteArray} {maxL : Nat} {ret : Option FieldType} {hh : List (Nat × Nat × Nat × Nat)}
    (hown : s.vm.findClass own = some m.cls) (hlink : (Cond.methodLink own index y).before args s = true) (hinst : (Cond.instanceMethod y).before args s = true) (hsel : (Cond.selects C y y).before args s = true)
    (hcode : (Cond.codeWith y bytes maxL ret hh).before args s = true) (hy : y.cls ≠ "java/lang/invoke/MethodHandle" ∧ y.cls ≠ "java/lang/invoke/VarHandle")
    {W9 : Nat} {Pre : Pt → Array Value → Prop} {Post : Pt → Array Value → Option Value → Pt → Prop} (hK : Back l R p e below s args y 3 W9 Pre Post)
    {b : Addr} {cellB : Cell} (hcell : T.heap[b]? = some cellB) (hobj : cellB.vm.isStatics = false) (hcls : s.vm.findClass C = some cellB.cls)
    {g : JFrame} (hg : g.method = m) (hsize : g.locals.size = c.maxLocals) {argsL rest : List Value} (hlen : ∀ sig, parseMethodDescriptor y.desc = some sig → argsL.length = sig.parameters.length)
    (hstack : g.stack = argsL.reverse ++ .ref b :: rest) (hW : 2 * g.monitorRoom + (rest.map fun v => v.category).sum ≤ W9) (hdg : decode c.code g.pc = .ok (.invokevirtual index, 3))
    (hpre : ∀ vm₁, s.WarmedH vm₁ → Pre ⟨T.setVm vm₁, locs, cells, slots⟩ (Value.ref b :: argsL).toArray) :
    ∃ (v : Option Value) (vm₁ : Vm) (B : Pt), s.WarmedH vm₁ ∧ Stand p l e R s m args below meth c B.U B.locs B.cells B.slots ∧ Post ⟨T.setVm vm₁, locs, cells, slots⟩ (Value.ref b :: argsL).toArray v B ∧
      ∀ target, Steps p.tables e below (B.U.setTop { g with pc := g.pc + 3, stack := v.toList ++ rest }) target → Steps p.tables e below (T.setTop g) target := by
  obtain ⟨mk, methM, hnamed, hmethM, hstM, habM⟩ := Cond.instanceMethod_spec hinst
  obtain ⟨m8, methM', cM, hn8, hmethM', -, -, -, -, -, -, hsigM⟩ := Cond.codeWith_spec hcode
  cases Option.some.inj (hn8.symm.trans hnamed)
  cases hmethM.symm.trans hmethM'
  obtain ⟨c2, r2, m2, q1, q2, q3, q4, kP, hkP, hkPi⟩ := Cond.selects_spec hsel
  cases hcls.symm.trans q1
  cases (State.methodFound?_of_named hnamed hy).symm.trans q2
  cases hnamed.symm.trans q3
  have hselP : selectMethod e.platform s.vm cellB.cls mk = .method mk := by rw [Launch.admits_selectMethod X.admits]; exact q4
  obtain ⟨vm₁, X₁, hstep₁⟩ := X.invokevirtual hexec hown hlink hnamed hmethM hstM hkP hkPi hy (a := b) (cell := cellB) hcell
    (fun z h => by rw [h] at hobj; cases hobj) hselP hmethM habM hkP hkPi (g := g) hg (argsL := argsL) (rest := rest) (hlen _ hsigM) hstack hdg
  obtain ⟨v, B, X', hpost, hsteps⟩ := hK m meth c ⟨T.setVm vm₁, locs, cells, slots⟩ { g with stack := rest } (.invokevirtual index) mk (Value.ref b :: argsL).toArray X₁ hg hsize hdg hW (X₁.named hnamed) (hpre vm₁ X₁.warmed)
  exact ⟨v, vm₁, B, X₁.warmed, X', hpost, fun target h => hstep₁ _ fun acts => by rw [doInvoke_state]; exact hsteps.trans h⟩
abbrev vx_CVW (R : Room) (s : State) (args : Array Value) (own C : String) (index : Nat) (y : MethodName) (bytes : ByteArray) (maxL : Nat) (ret : Option FieldType) (hh : List (Nat × Nat × Nat × Nat)) (ws : List Cond) (rm : Room) (mc ms n : Nat) : Prop :=
  (rm.cells = mc ∧ rm.slots = ms ∧ rm.frames + 1 ≤ R.frames ∧ 8 + (maxL + 11) + rm.locals ≤ R.locals ∧ (∀ w ∈ ws, ∀ (a' : Array Value) (U : State), s.WarmedH U.vm → w.before a' U = true) ∧ Cond.codeWith y bytes maxL ret hh ∈ ws) ∧
  (Cond.codeWith y bytes maxL ret hh).before args s = true ∧ (Cond.initialized y.cls).before args s = true ∧ (y.cls ≠ "java/lang/invoke/MethodHandle" ∧ y.cls ≠ "java/lang/invoke/VarHandle") ∧
  (∀ sig, parseMethodDescriptor y.desc = some sig → n = sig.parameters.length) ∧ (Cond.methodLink own index y).before args s = true ∧ (Cond.instanceMethod y).before args s = true ∧ (Cond.selects C y y).before args s = true
theorem vx_cwVW {own C : String} {index maxL mc ms : Nat} {y : MethodName} {bytes : ByteArray} {ret : Option FieldType} {hh : List (Nat × Nat × Nat × Nat)} {Ts ws ws' : List Cond} {rm : Room} (n : Nat) (ht : ∀ w ∈ Ts, w.before args s = true) (hT : GoodIn Ts (wsV own index C y ws)) (hw : ws = Cond.codeWith y bytes maxL ret hh :: ws') (hrc : rm.cells = mc) (hrs : rm.slots = ms)
    (hd : y.cls = C ∧ y.cls ≠ "java/lang/invoke/MethodHandle" ∧ y.cls ≠ "java/lang/invoke/VarHandle" ∧ (parseMethodDescriptor y.desc).map (fun d => d.parameters.length) = some n) (hR : rm.frames + 1 ≤ R.frames ∧ 8 + (maxL + 11) + rm.locals ≤ R.locals) :
    vx_CVW R s args own C index y bytes maxL ret hh ws rm mc ms n := by
  obtain ⟨hC, hd⟩ := hd
  subst hC
  have ok : ∀ w ∈ wsV own index y.cls y ws, w.before args s = true := fun w h => ht w (hT w h).1
  have hG : GoodIn Ts ws := fun w h => hT w (by unfold wsV; exact List.mem_append_right _ h)
  have hc : Cond.codeWith y bytes maxL ret hh ∈ ws := by rw [hw]; exact List.mem_cons_self
  refine ⟨⟨hrc, hrs, hR.1, hR.2, pay_in ht hG, hc⟩, ht _ (hG _ hc).1, ok _ (by simp [wsV]), ⟨hd.1, hd.2.1⟩, fun sig h => ?_, ok _ (by simp [wsV]), ok _ (by simp [wsV]), ok _ (by simp [wsV])⟩
  have h2 := hd.2.2
  rw [h] at h2
  exact (Option.some.inj h2).symm
theorem vx_runVW {y : MethodName} {bytes cc : ByteArray} {maxL nL mc ms n index : Nat} {ret : Option FieldType} {hh : List (Nat × Nat × Nat × Nat)} {ws : List Cond} {rm : Room} {Pc : Array Value → State → Prop} {Qc : Array Value → State → Outcome → State → Prop} {free : Addr → Prop} {Ts : List Cond} {own C : String} {b : Addr} {As rest : List Value} {g : JFrame}
    (S : CallFix p m c cc nL s args Ts own) (hM : Met l y ws rm Pc Qc mc ms free) (cw : vx_CVW R s args own C index y bytes maxL ret hh ws rm mc ms n) (hp : PreV s H C b Pc As)
    (hg : g.method = m) (hn : As.length = n) (hsize : g.locals.size = nL) (hstack : g.stack = As.reverse ++ .ref b :: rest) (hW : 2 * g.monitorRoom + (rest.map fun v => v.category).sum ≤ 8) (hdg : decode cc g.pc = .ok (.invokevirtual index, 3)) (hf : cells + mc ≤ R.cells ∧ slots + ms ≤ R.slots) :
    va_Run p l e R s m args below meth c H locs cells slots mc ms g rest (Qc (Value.ref b :: As).toArray) free := by
  obtain ⟨⟨hrc, hrs, hfr, hlo, hws, hcw⟩, hcode, hini, hy, hlen, hl, hin, hse⟩ := cw
  have hK : Back l R p e below s args y 3 8 (PreOf R mc ms Pc) (PostOf Qc mc ms free) := va_backW (hh := hh) (bytes := bytes) (maxL := maxL) (ret := ret) hM hp.1 hrc hrs hfr hlo hws hcw (fun a' U hW => word_at hW (Or.inl (by first | rfl | simp [Cond.onTables, Cond.keeps, Cond.steady])) hini)
  obtain ⟨hx, hb, hml, ho, -⟩ := S
  obtain ⟨-, ⟨cellB, hcB, hoB, hclB⟩, hPc⟩ := hp
  intro T hT X
  obtain ⟨v, vm₁, ⟨U', l2, c2, s2⟩, hW₁, X', ⟨g', mk, t, L, e1, e2, hq, h1, hL, h2, h3⟩, st⟩ := vx_callVW X hx (C := C) (hh := hh) (bytes := bytes) (maxL := maxL) (ret := ret) ho hl hin hse hcode hy hK (by rw [hT]; exact hcB) hoB hclB hg (hsize.trans hml.symm) (argsL := As) (rest := rest) (fun sig h => hn.trans (hlen sig h)) hstack hW (by rw [hb]; exact hdg)
    (fun vm₁ hW₁ => ⟨hf.1, hf.2, hPc (T.setVm vm₁) hT hW₁⟩)
  dsimp only [Pt.U, Pt.locs, Pt.cells, Pt.slots] at X' e1 e2 h1 h2 h3 st
  subst h1; subst h2; subst h3
  exact ⟨v, (T.setVm vm₁).calling g' mk (Value.ref b :: As).toArray, t, U', L, hT, X', hL, e1, e2, hq, st⟩
section
variable {y : MethodName} {bytes cc : ByteArray} {maxL nL mc ms n index : Nat} {ret : Option FieldType} {ws : List Cond} {rm : Room} {Pc : Array Value → State → Prop} {Qc : Array Value → State → Outcome → State → Prop} {XC : String → State → State → Prop} {free : Addr → Prop} {Ts : List Cond} {own C : String} {b : Addr} {As rest : List Value} {g : JFrame}
theorem vx_runVX {hh : List (Nat × Nat × Nat × Nat)} (S : CallFix p m c cc nL s args Ts own) (hM : vx_Met l y ws rm Pc Qc XC mc ms free) (cw : vx_CVW R s args own C index y bytes maxL ret hh ws rm mc ms n) (hp : PreV s H C b Pc As)
    (hg : g.method = m) (hn : As.length = n) (hsize : g.locals.size = nL) (hstack : g.stack = As.reverse ++ .ref b :: rest) (hW : 2 * g.monitorRoom + (rest.map fun v => v.category).sum ≤ 8) (hdg : decode cc g.pc = .ok (.invokevirtual index, 3)) (hf : cells + mc ≤ R.cells ∧ slots + ms ≤ R.slots) :
    vx_Run p l e R s m args below meth c H locs cells slots mc ms g rest (Qc (Value.ref b :: As).toArray) XC free := by
  obtain ⟨⟨hrc, hrs, hfr, hlo, hws, hcw⟩, hcode, hini, hy, hlen, hl, hin, hse⟩ := cw
  have hK : vx_Back l R p e below s args y 3 8 (PreOf R mc ms Pc) (PostOf Qc mc ms free) (vx_Post XC mc ms free) := vx_backW (hh := hh) (bytes := bytes) (maxL := maxL) (ret := ret) hM hp.1 hrc hrs hfr hlo hws hcw (fun a' U hW => word_at hW (Or.inl (by first | rfl | simp [Cond.onTables, Cond.keeps, Cond.steady])) hini)
  obtain ⟨hx, hb, hml, ho, -⟩ := S
  obtain ⟨-, ⟨cellB, hcB, hoB, hclB⟩, hPc⟩ := hp
  intro T hT X
  rcases vx_callVX X hx (C := C) (hh := hh) (bytes := bytes) (maxL := maxL) (ret := ret) ho hl hin hse hcode hy hK (by rw [hT]; exact hcB) hoB hclB hg (hsize.trans hml.symm) (argsL := As) (rest := rest) (fun sig h => hn.trans (hlen sig h)) hstack hW (by rw [hb]; exact hdg)
    (fun vm₁ hW₁ => ⟨hf.1, hf.2, hPc (T.setVm vm₁) hT hW₁⟩) with ⟨v, vm₁, ⟨U', l2, c2, s2⟩, hW₁, X', ⟨g', mk, t, L, e1, e2, hq, h1, hL, h2, h3⟩, st⟩ | ⟨q, vm₁, ⟨U', l2, c2, s2⟩, hW₁, X', ⟨g', mk, t, L, E, ce, e1, e2, hq, hce, hcv, hcl, h1, hL, h2, h3⟩, st⟩
  · dsimp only [Pt.U, Pt.locs, Pt.cells, Pt.slots] at X' e1 e2 h1 h2 h3 st
    subst h1; subst h2; subst h3
    exact Or.inl ⟨v, (T.setVm vm₁).calling g' mk (Value.ref b :: As).toArray, t, U', L, hT, X', hL, e1, e2, hq, st⟩
  · dsimp only [Pt.U, Pt.locs, Pt.cells, Pt.slots] at X' e1 e2 h1 h2 h3 st hcl
    subst h1; subst h2; subst h3
    exact Or.inr ⟨q, (T.setVm vm₁).calling g' mk (Value.ref b :: As).toArray, t, U', L, E, ce, hT, X', hL, e1, e2, hq, hce, hcv, vx_cls hW₁ hcl, st⟩
theorem vx_runSX {hh : List (Nat × Nat × Nat × Nat)} (S : CallFix p m c cc nL s args Ts own) (hM : vx_Met l y ws rm Pc Qc XC mc ms free) (cw : vx_CSW R s args own index y bytes maxL ret hh ws rm mc ms n) (hp : PreS s H Pc As)
    (hg : g.method = m) (hn : As.length = n) (hsize : g.locals.size = nL) (hstack : g.stack = As.reverse ++ rest) (hW : 2 * g.monitorRoom + (rest.map fun v => v.category).sum ≤ 8) (hdg : decode cc g.pc = .ok (.invokestatic index, 3)) (hf : cells + mc ≤ R.cells ∧ slots + ms ≤ R.slots) :
    vx_Run p l e R s m args below meth c H locs cells slots mc ms g rest (Qc As.toArray) XC free := by
  obtain ⟨⟨hrc, hrs, hfr, hlo, hws, hcw⟩, hcode, hini, hy, hlen, hl, hstt⟩ := cw
  have hK : vx_Back l R p e below s args y 3 8 (PreOf R mc ms Pc) (PostOf Qc mc ms free) (vx_Post XC mc ms free) := vx_backW (hh := hh) (bytes := bytes) (maxL := maxL) (ret := ret) hM hp.1 hrc hrs hfr hlo hws hcw (fun a' U hW => word_at hW (Or.inl (by first | rfl | simp [Cond.onTables, Cond.keeps, Cond.steady])) hini)
  obtain ⟨hx, hb, hml, ho, -⟩ := S
  intro T hT X
  rcases vx_callSX X hx (hh := hh) (bytes := bytes) (maxL := maxL) (ret := ret) ho hl hstt hini hcode hy hK hg (hsize.trans hml.symm) (argsL := As) (rest := rest) (fun sig h => hn.trans (hlen sig h)) hstack hW (by rw [hb]; exact hdg)
    (fun vm₁ hW₁ => ⟨hf.1, hf.2, hp.2 (T.setVm vm₁) hT hW₁⟩) with ⟨v, vm₁, ⟨U', l2, c2, s2⟩, hW₁, X', ⟨g', mk, t, L, e1, e2, hq, h1, hL, h2, h3⟩, st⟩ | ⟨q, vm₁, ⟨U', l2, c2, s2⟩, hW₁, X', ⟨g', mk, t, L, E, ce, e1, e2, hq, hce, hcv, hcl, h1, hL, h2, h3⟩, st⟩
  · dsimp only [Pt.U, Pt.locs, Pt.cells, Pt.slots] at X' e1 e2 h1 h2 h3 st
    subst h1; subst h2; subst h3
    exact Or.inl ⟨v, (T.setVm vm₁).calling g' mk As.toArray, t, U', L, hT, X', hL, e1, e2, hq, st⟩
  · dsimp only [Pt.U, Pt.locs, Pt.cells, Pt.slots] at X' e1 e2 h1 h2 h3 st hcl
    subst h1; subst h2; subst h3
    exact Or.inr ⟨q, (T.setVm vm₁).calling g' mk As.toArray, t, U', L, E, ce, hT, X', hL, e1, e2, hq, hce, hcv, vx_cls hW₁ hcl, st⟩
end
end VXH
theorem vx_ofWH {l : Launch} {y : MethodName} {ws ws' : List Cond} {rm : Room} {Pc : Array Value → State → Prop} {Qc : Array Value → State → Outcome → State → Prop} {XC : String → State → State → Prop} {mc ms : Nat} {free : Addr → Prop} {cc : ByteArray} {maxL : Nat} {ret : Option FieldType} {hh : List (Nat × Nat × Nat × Nat)}
    (hy : plainName y.cls = true) (hw : ws = Cond.codeWith y cc maxL ret hh :: ws')
    (body : ∀ p e s m args below meth c s₁, BodyLoose p l y (headSpec ws rm) cc maxL ret e s m args below meth c s₁ → c.maxLocals = maxL → Pc args s →
      W p l e (headSpec ws rm).room s m args below meth c s.heap [] 0 0 (vx_MQ below Qc XC args s mc ms free) (entryFrame m args maxL)) : vx_Met l y ws rm Pc Qc XC mc ms free := by
  refine MetFree.of_bodyS (code := cc) (maxLocals := maxL) (ret := ret) hy ?_ ?_
  · intro args s m h hn
    obtain ⟨m9, meth, c, hn9, h1, h2, h3, h4, -, h5, h6, -⟩ := Cond.codeWith_spec (atoms_spec (ws := ws) h _ (by rw [hw]; exact List.mem_cons_self))
    cases hn.symm.trans hn9
    exact ⟨meth, c, h1, h2, h3, h4, h5, h6⟩
  · intro p e s m args below meth c s₁ B hml hP _
    have hh0 : s₁.heap = s.heap := by rw [B.state]; rfl
    obtain ⟨t, a1, o, b1, b2, b3⟩ := body p e s m args below meth c s₁ B hml hP s₁ hh0 (Stand.of_body B)
    exact ⟨t, o, a1, b1, b2, b3⟩
/-! ===== END ===== -/
end
section
def RX0 : String := "GyreWatch$Buoy"
def TX0 : u_T := fun k => match k with
  | 0 => ("GyreWatch$Buoy", "number", "I", true)
  | 1 => ("GyreWatch$Buoy", "parks", "I", true)
  | 2 => ("GyreWatch$Buoy", "bias", "I", true)
  | 3 => ("GyreWatch$Buoy", "cell", "I", false)
  | 4 => ("GyreWatch$Buoy", "daysLeft", "I", false)
  | 5 => ("GyreWatch$Buoy", "battery", "I", false)
  | 6 => ("GyreWatch$Buoy", "correction", "I", false)
  | 7 => ("GyreWatch$Buoy", "readingsKept", "I", false)
  | _ => ("GyreWatch$Buoy", "latest", "LGyreWatch$Reading;", false)
def tyX0 : Nat → FieldType := fun k => match k with
  | 0 => .int
  | 1 => .int
  | 2 => .int
  | 3 => .int
  | 4 => .int
  | 5 => .int
  | 6 => .int
  | 7 => .int
  | _ => .object "GyreWatch$Reading"
abbrev wsX00 : List Cond := u_ws RX0 TX0 9
theorem nmX0 : ∀ a, a < 9 → ∀ b, b < 9 → a ≠ b → (TX0 a).2.1 ≠ (TX0 b).2.1 := by decide +kernel
theorem tyX0_ok : ∀ k, k < 9 → parseFieldDescriptor (TX0 k).2.2.1 = some (tyX0 k) := by decide +kernel
abbrev cX0_init : ByteArray := prog_2_method_1_code
def yX0_init : MethodName := ⟨RX0, "<init>", "(IIIII)V"⟩
def RX1 : String := "GyreWatch$Layer"
def TX1 : u_T := fun k => match k with
  | 0 => ("GyreWatch$Layer", "heat", "[I", true)
  | _ => ("GyreWatch$Layer", "salt", "[I", true)
def tyX1 : Nat → FieldType := fun k => match k with
  | 0 => .array .int
  | _ => .array .int
abbrev wsX10 : List Cond := u_ws RX1 TX1 2
theorem nmX1 : ∀ a, a < 2 → ∀ b, b < 2 → a ≠ b → (TX1 a).2.1 ≠ (TX1 b).2.1 := by decide +kernel
theorem tyX1_ok : ∀ k, k < 2 → parseFieldDescriptor (TX1 k).2.2.1 = some (tyX1 k) := by decide +kernel
abbrev cX1_init : ByteArray := prog_3_method_1_code
def yX1_init : MethodName := ⟨RX1, "<init>", "(II)V"⟩
abbrev cX1_weightAt : ByteArray := prog_3_method_2_code
def yX1_weightAt : MethodName := ⟨RX1, "weightAt", "(I)I"⟩
abbrev cX1_emptyAt : ByteArray := prog_3_method_3_code
def yX1_emptyAt : MethodName := ⟨RX1, "emptyAt", "(I)V"⟩
def RX2 : String := "GyreWatch$Log"
def TX2 : u_T := fun k => match k with
  | 0 => ("GyreWatch$Log", "kept", "[LGyreWatch$Reading;", true)
  | 1 => ("GyreWatch$Log", "count", "I", false)
  | _ => ("GyreWatch$Log", "bound", "I", false)
def tyX2 : Nat → FieldType := fun k => match k with
  | 0 => .array (.object "GyreWatch$Reading")
  | 1 => .int
  | _ => .int
abbrev wsX20 : List Cond := u_ws RX2 TX2 3
theorem nmX2 : ∀ a, a < 3 → ∀ b, b < 3 → a ≠ b → (TX2 a).2.1 ≠ (TX2 b).2.1 := by decide +kernel
theorem tyX2_ok : ∀ k, k < 3 → parseFieldDescriptor (TX2 k).2.2.1 = some (tyX2 k) := by decide +kernel
abbrev cX2_init : ByteArray := prog_4_method_1_code
def yX2_init : MethodName := ⟨RX2, "<init>", "()V"⟩
abbrev cX2_keep : ByteArray := prog_4_method_2_code
def yX2_keep : MethodName := ⟨RX2, "keep", "(IIILGyreWatch$Buoy;)V"⟩
abbrev cX2_chain : ByteArray := prog_4_method_3_code
def yX2_chain : MethodName := ⟨RX2, "chain", "(LGyreWatch$Reading;LGyreWatch$Buoy;)V"⟩
abbrev cX2_nearestOfShip : ByteArray := prog_4_method_4_code
def yX2_nearestOfShip : MethodName := ⟨RX2, "nearestOfShip", "(LGyreWatch$Reading;)LGyreWatch$Reading;"⟩
abbrev cX2_weightsWithout : ByteArray := prog_4_method_5_code
def yX2_weightsWithout : MethodName := ⟨RX2, "weightsWithout", "(LGyreWatch$Reading;III)I"⟩
abbrev cX2_weighedValuesWithout : ByteArray := prog_4_method_6_code
def yX2_weighedValuesWithout : MethodName := ⟨RX2, "weighedValuesWithout", "(LGyreWatch$Reading;III)J"⟩
abbrev cX2_isInSpan : ByteArray := prog_4_method_7_code
def yX2_isInSpan : MethodName := ⟨RX2, "isInSpan", "(LGyreWatch$Reading;II)Z"⟩
def RX3 : String := "GyreWatch$Part"
def TX3 : u_T := fun k => match k with
  | 0 => ("GyreWatch$Part", "period", "I", true)
  | 1 => ("GyreWatch$Part", "height", "I", true)
  | _ => ("GyreWatch$Part", "phase", "I", true)
def tyX3 : Nat → FieldType := fun k => match k with
  | 0 => .int
  | 1 => .int
  | _ => .int
abbrev wsX30 : List Cond := u_ws RX3 TX3 3
theorem nmX3 : ∀ a, a < 3 → ∀ b, b < 3 → a ≠ b → (TX3 a).2.1 ≠ (TX3 b).2.1 := by decide +kernel
theorem tyX3_ok : ∀ k, k < 3 → parseFieldDescriptor (TX3 k).2.2.1 = some (tyX3 k) := by decide +kernel
abbrev cX3_init : ByteArray := prog_5_method_1_code
def yX3_init : MethodName := ⟨RX3, "<init>", "(III)V"⟩
abbrev cX3_heightAt : ByteArray := prog_5_method_2_code
def yX3_heightAt : MethodName := ⟨RX3, "heightAt", "(I)I"⟩
def RX4 : String := "GyreWatch$Reading"
def TX4 : u_T := fun k => match k with
  | 0 => ("GyreWatch$Reading", "day", "I", true)
  | 1 => ("GyreWatch$Reading", "cell", "I", true)
  | 2 => ("GyreWatch$Reading", "value", "I", true)
  | 3 => ("GyreWatch$Reading", "buoy", "LGyreWatch$Buoy;", true)
  | 4 => ("GyreWatch$Reading", "byHand", "I", false)
  | 5 => ("GyreWatch$Reading", "before", "LGyreWatch$Reading;", false)
  | _ => ("GyreWatch$Reading", "behind", "LGyreWatch$Reading;", false)
def tyX4 : Nat → FieldType := fun k => match k with
  | 0 => .int
  | 1 => .int
  | 2 => .int
  | 3 => .object "GyreWatch$Buoy"
  | 4 => .int
  | 5 => .object "GyreWatch$Reading"
  | _ => .object "GyreWatch$Reading"
abbrev wsX40 : List Cond := u_ws RX4 TX4 7
theorem nmX4 : ∀ a, a < 7 → ∀ b, b < 7 → a ≠ b → (TX4 a).2.1 ≠ (TX4 b).2.1 := by decide +kernel
theorem tyX4_ok : ∀ k, k < 7 → parseFieldDescriptor (TX4 k).2.2.1 = some (tyX4 k) := by decide +kernel
abbrev cX4_init : ByteArray := prog_6_method_1_code
def yX4_init : MethodName := ⟨RX4, "<init>", "(IIILGyreWatch$Buoy;)V"⟩
abbrev cX4_corrected : ByteArray := prog_6_method_2_code
def yX4_corrected : MethodName := ⟨RX4, "corrected", "()I"⟩
abbrev cX4_flagBy : ByteArray := prog_6_method_3_code
def yX4_flagBy : MethodName := ⟨RX4, "flagBy", "(I)I"⟩
abbrev cX4_isSpike : ByteArray := prog_6_method_4_code
def yX4_isSpike : MethodName := ⟨RX4, "isSpike", "(I)Z"⟩
abbrev cX4_daysFrom : ByteArray := prog_6_method_5_code
def yX4_daysFrom : MethodName := ⟨RX4, "daysFrom", "(I)I"⟩
abbrev cX4_weightIn : ByteArray := prog_6_method_6_code
def yX4_weightIn : MethodName := ⟨RX4, "weightIn", "(I)I"⟩
def RX5 : String := "GyreWatch$Sea"
def TX5 : u_T := fun k => match k with
  | 0 => ("GyreWatch$Sea", "upper", "LGyreWatch$Layer;", true)
  | 1 => ("GyreWatch$Sea", "lower", "LGyreWatch$Layer;", true)
  | 2 => ("GyreWatch$Sea", "currents", "[I", true)
  | 3 => ("GyreWatch$Sea", "suns", "[I", true)
  | 4 => ("GyreWatch$Sea", "gift", "I", false)
  | 5 => ("GyreWatch$Sea", "lands", "[Z", true)
  | 6 => ("GyreWatch$Sea", "ahead", "[I", true)
  | _ => ("GyreWatch$Sea", "landCount", "I", false)
def tyX5 : Nat → FieldType := fun k => match k with
  | 0 => .object "GyreWatch$Layer"
  | 1 => .object "GyreWatch$Layer"
  | 2 => .array .int
  | 3 => .array .int
  | 4 => .int
  | 5 => .array .boolean
  | 6 => .array .int
  | _ => .int
abbrev wsX50 : List Cond := u_ws RX5 TX5 8
theorem nmX5 : ∀ a, a < 8 → ∀ b, b < 8 → a ≠ b → (TX5 a).2.1 ≠ (TX5 b).2.1 := by decide +kernel
theorem tyX5_ok : ∀ k, k < 8 → parseFieldDescriptor (TX5 k).2.2.1 = some (tyX5 k) := by decide +kernel
abbrev cX5_init : ByteArray := prog_7_method_1_code
def yX5_init : MethodName := ⟨RX5, "<init>", "()V"⟩
abbrev cX5_isLand : ByteArray := prog_7_method_2_code
def yX5_isLand : MethodName := ⟨RX5, "isLand", "(I)Z"⟩
abbrev cX5_upperHeat : ByteArray := prog_7_method_3_code
def yX5_upperHeat : MethodName := ⟨RX5, "upperHeat", "(I)I"⟩
abbrev cX5_makeLand : ByteArray := prog_7_method_4_code
def yX5_makeLand : MethodName := ⟨RX5, "makeLand", "(I)I"⟩
abbrev cX5_seaBeside : ByteArray := prog_7_method_5_code
def yX5_seaBeside : MethodName := ⟨RX5, "seaBeside", "(II)I"⟩
abbrev cX5_leadsTo : ByteArray := prog_7_method_6_code
def yX5_leadsTo : MethodName := ⟨RX5, "leadsTo", "(I)I"⟩
abbrev cX5_flow : ByteArray := prog_7_method_7_code
def yX5_flow : MethodName := ⟨RX5, "flow", "()V"⟩
abbrev cX5_carry : ByteArray := prog_7_method_8_code
def yX5_carry : MethodName := ⟨RX5, "carry", "([I)V"⟩
abbrev cX5_shine : ByteArray := prog_7_method_9_code
def yX5_shine : MethodName := ⟨RX5, "shine", "()V"⟩
abbrev cX5_turnOver : ByteArray := prog_7_method_10_code
def yX5_turnOver : MethodName := ⟨RX5, "turnOver", "()V"⟩
abbrev cX5_share : ByteArray := prog_7_method_11_code
def yX5_share : MethodName := ⟨RX5, "share", "([I[II)V"⟩
def RX6 : String := "GyreWatch$Search"
def TX6 : u_T := fun k => match k with
  | 0 => ("GyreWatch$Search", "beginning", "I", true)
  | 1 => ("GyreWatch$Search", "chances", "[I", true)
  | _ => ("GyreWatch$Search", "copy", "[I", true)
def tyX6 : Nat → FieldType := fun k => match k with
  | 0 => .int
  | 1 => .array .int
  | _ => .array .int
abbrev wsX60 : List Cond := u_ws RX6 TX6 3
theorem nmX6 : ∀ a, a < 3 → ∀ b, b < 3 → a ≠ b → (TX6 a).2.1 ≠ (TX6 b).2.1 := by decide +kernel
theorem tyX6_ok : ∀ k, k < 3 → parseFieldDescriptor (TX6 k).2.2.1 = some (tyX6 k) := by decide +kernel
abbrev cX6_init : ByteArray := prog_8_method_1_code
def yX6_init : MethodName := ⟨RX6, "<init>", "(I)V"⟩
abbrev cX6_goOn : ByteArray := prog_8_method_2_code
def yX6_goOn : MethodName := ⟨RX6, "goOn", "(LGyreWatch$Sea;)V"⟩
abbrev cX6_give : ByteArray := prog_8_method_3_code
def yX6_give : MethodName := ⟨RX6, "give", "(III)V"⟩
abbrev cX6_tryLegs : ByteArray := prog_8_method_4_code
def yX6_tryLegs : MethodName := ⟨RX6, "tryLegs", "(II)I"⟩
abbrev cX6_lookAt : ByteArray := prog_8_method_5_code
def yX6_lookAt : MethodName := ⟨RX6, "lookAt", "([III)I"⟩
abbrev cX6_bestOf : ByteArray := prog_8_method_6_code
def yX6_bestOf : MethodName := ⟨RX6, "bestOf", "([I)I"⟩
def RX7 : String := "GyreWatch$Ships"
def TX7 : u_T := fun k => match k with
  | 0 => ("GyreWatch$Ships", "stationCount", "I", false)
  | 1 => ("GyreWatch$Ships", "stations", "[I", true)
  | 2 => ("GyreWatch$Ships", "stormFrom", "[I", true)
  | 3 => ("GyreWatch$Ships", "stormTo", "[I", true)
  | _ => ("GyreWatch$Ships", "stormCount", "I", false)
def tyX7 : Nat → FieldType := fun k => match k with
  | 0 => .int
  | 1 => .array .int
  | 2 => .array .int
  | 3 => .array .int
  | _ => .int
abbrev wsX70 : List Cond := u_ws RX7 TX7 5
theorem nmX7 : ∀ a, a < 5 → ∀ b, b < 5 → a ≠ b → (TX7 a).2.1 ≠ (TX7 b).2.1 := by decide +kernel
theorem tyX7_ok : ∀ k, k < 5 → parseFieldDescriptor (TX7 k).2.2.1 = some (tyX7 k) := by decide +kernel
abbrev cX7_init : ByteArray := prog_9_method_1_code
def yX7_init : MethodName := ⟨RX7, "<init>", "()V"⟩
abbrev cX7_stationOf : ByteArray := prog_9_method_2_code
def yX7_stationOf : MethodName := ⟨RX7, "stationOf", "(II)I"⟩
abbrev cX7_dayOf : ByteArray := prog_9_method_3_code
def yX7_dayOf : MethodName := ⟨RX7, "dayOf", "(I)I"⟩
abbrev cX7_cellOf : ByteArray := prog_9_method_4_code
def yX7_cellOf : MethodName := ⟨RX7, "cellOf", "(I)I"⟩
abbrev cX7_hasStation : ByteArray := prog_9_method_5_code
def yX7_hasStation : MethodName := ⟨RX7, "hasStation", "(II)Z"⟩
abbrev cX7_hasStationIn : ByteArray := prog_9_method_6_code
def yX7_hasStationIn : MethodName := ⟨RX7, "hasStationIn", "(I)Z"⟩
abbrev cX7_areAllStationsTold : ByteArray := prog_9_method_7_code
def yX7_areAllStationsTold : MethodName := ⟨RX7, "areAllStationsTold", "()Z"⟩
abbrev cX7_tellStation : ByteArray := prog_9_method_8_code
def yX7_tellStation : MethodName := ⟨RX7, "tellStation", "(II)I"⟩
abbrev cX7_countDue : ByteArray := prog_9_method_9_code
def yX7_countDue : MethodName := ⟨RX7, "countDue", "(I)I"⟩
abbrev cX7_dropFirst : ByteArray := prog_9_method_10_code
def yX7_dropFirst : MethodName := ⟨RX7, "dropFirst", "(I)V"⟩
abbrev cX7_areAllStormsTold : ByteArray := prog_9_method_11_code
def yX7_areAllStormsTold : MethodName := ⟨RX7, "areAllStormsTold", "()Z"⟩
abbrev cX7_tellStorm : ByteArray := prog_9_method_12_code
def yX7_tellStorm : MethodName := ⟨RX7, "tellStorm", "(II)V"⟩
abbrev cX7_hasStorm : ByteArray := prog_9_method_13_code
def yX7_hasStorm : MethodName := ⟨RX7, "hasStorm", "(I)Z"⟩
abbrev cX7_calmStations : ByteArray := prog_9_method_14_code
def yX7_calmStations : MethodName := ⟨RX7, "calmStations", "(II)I"⟩
def RX8 : String := "GyreWatch"
def TX8 : u_T := fun k => match k with
  | 0 => ("GyreWatch", "sea", "LGyreWatch$Sea;", true)
  | 1 => ("GyreWatch", "buoys", "[LGyreWatch$Buoy;", true)
  | 2 => ("GyreWatch", "log", "LGyreWatch$Log;", true)
  | 3 => ("GyreWatch", "ships", "LGyreWatch$Ships;", true)
  | 4 => ("GyreWatch", "searches", "[LGyreWatch$Search;", true)
  | 5 => ("GyreWatch", "parts", "[LGyreWatch$Part;", true)
  | 6 => ("GyreWatch", "buoyCount", "I", false)
  | 7 => ("GyreWatch", "searchCount", "I", false)
  | 8 => ("GyreWatch", "partCount", "I", false)
  | _ => ("GyreWatch", "today", "I", false)
def tyX8 : Nat → FieldType := fun k => match k with
  | 0 => .object "GyreWatch$Sea"
  | 1 => .array (.object "GyreWatch$Buoy")
  | 2 => .object "GyreWatch$Log"
  | 3 => .object "GyreWatch$Ships"
  | 4 => .array (.object "GyreWatch$Search")
  | 5 => .array (.object "GyreWatch$Part")
  | 6 => .int
  | 7 => .int
  | 8 => .int
  | _ => .int
abbrev wsX80 : List Cond := u_ws RX8 TX8 10
theorem nmX8 : ∀ a, a < 10 → ∀ b, b < 10 → a ≠ b → (TX8 a).2.1 ≠ (TX8 b).2.1 := by decide +kernel
theorem tyX8_ok : ∀ k, k < 10 → parseFieldDescriptor (TX8 k).2.2.1 = some (tyX8 k) := by decide +kernel
abbrev cX8_init : ByteArray := prog_1_method_1_code
def yX8_init : MethodName := ⟨RX8, "<init>", "()V"⟩
abbrev cX8_land : ByteArray := prog_1_method_2_code
def yX8_land : MethodName := ⟨RX8, "land", "(I)I"⟩
abbrev cX8_current : ByteArray := prog_1_method_3_code
def yX8_current : MethodName := ⟨RX8, "current", "(II)I"⟩
abbrev cX8_sun : ByteArray := prog_1_method_4_code
def yX8_sun : MethodName := ⟨RX8, "sun", "(II)I"⟩
abbrev cX8_pass : ByteArray := prog_1_method_5_code
def yX8_pass : MethodName := ⟨RX8, "pass", "(I)I"⟩
abbrev cX8_lay : ByteArray := prog_1_method_6_code
def yX8_lay : MethodName := ⟨RX8, "lay", "(IIII)I"⟩
abbrev cX8_station : ByteArray := prog_1_method_7_code
def yX8_station : MethodName := ⟨RX8, "station", "(II)I"⟩
abbrev cX8_storm : ByteArray := prog_1_method_8_code
def yX8_storm : MethodName := ⟨RX8, "storm", "(II)I"⟩
abbrev cX8_calibrate : ByteArray := prog_1_method_9_code
def yX8_calibrate : MethodName := ⟨RX8, "calibrate", "(I)I"⟩
abbrev cX8_flag : ByteArray := prog_1_method_10_code
def yX8_flag : MethodName := ⟨RX8, "flag", "(II)I"⟩
abbrev cX8_bound : ByteArray := prog_1_method_11_code
def yX8_bound : MethodName := ⟨RX8, "bound", "(I)I"⟩
abbrev cX8_search : ByteArray := prog_1_method_12_code
def yX8_search : MethodName := ⟨RX8, "search", "(I)I"⟩
abbrev cX8_leg : ByteArray := prog_1_method_13_code
def yX8_leg : MethodName := ⟨RX8, "leg", "(III)I"⟩
abbrev cX8_part : ByteArray := prog_1_method_14_code
def yX8_part : MethodName := ⟨RX8, "part", "(III)I"⟩
abbrev cX8_day : ByteArray := prog_1_method_15_code
def yX8_day : MethodName := ⟨RX8, "day", "()I"⟩
abbrev cX8_ofLayer : ByteArray := prog_1_method_16_code
def yX8_ofLayer : MethodName := ⟨RX8, "ofLayer", "(III)I"⟩
abbrev cX8_total : ByteArray := prog_1_method_17_code
def yX8_total : MethodName := ⟨RX8, "total", "(I)I"⟩
abbrev cX8_ofFloat : ByteArray := prog_1_method_18_code
def yX8_ofFloat : MethodName := ⟨RX8, "ofFloat", "(II)I"⟩
abbrev cX8_stations : ByteArray := prog_1_method_19_code
def yX8_stations : MethodName := ⟨RX8, "stations", "()I"⟩
abbrev cX8_readings : ByteArray := prog_1_method_20_code
def yX8_readings : MethodName := ⟨RX8, "readings", "()I"⟩
abbrev cX8_ofReading : ByteArray := prog_1_method_21_code
def yX8_ofReading : MethodName := ⟨RX8, "ofReading", "(II)I"⟩
abbrev cX8_mean : ByteArray := prog_1_method_22_code
def yX8_mean : MethodName := ⟨RX8, "mean", "(III)I"⟩
abbrev cX8_error : ByteArray := prog_1_method_23_code
def yX8_error : MethodName := ⟨RX8, "error", "(III)I"⟩
abbrev cX8_residual : ByteArray := prog_1_method_24_code
def yX8_residual : MethodName := ⟨RX8, "residual", "(II)I"⟩
abbrev cX8_chance : ByteArray := prog_1_method_25_code
def yX8_chance : MethodName := ⟨RX8, "chance", "(II)I"⟩
abbrev cX8_best : ByteArray := prog_1_method_26_code
def yX8_best : MethodName := ⟨RX8, "best", "(I)I"⟩
abbrev cX8_plan : ByteArray := prog_1_method_27_code
def yX8_plan : MethodName := ⟨RX8, "plan", "(III)I"⟩
abbrev cX8_tide : ByteArray := prog_1_method_28_code
def yX8_tide : MethodName := ⟨RX8, "tide", "(I)I"⟩
abbrev cX8_highest : ByteArray := prog_1_method_29_code
def yX8_highest : MethodName := ⟨RX8, "highest", "(II)I"⟩
abbrev cX8_isIndex : ByteArray := prog_1_method_30_code
def yX8_isIndex : MethodName := ⟨RX8, "isIndex", "(II)Z"⟩
abbrev cX8_isCell : ByteArray := prog_1_method_31_code
def yX8_isCell : MethodName := ⟨RX8, "isCell", "(I)Z"⟩
abbrev cX8_needCell : ByteArray := prog_1_method_32_code
def yX8_needCell : MethodName := ⟨RX8, "needCell", "(I)V"⟩
abbrev cX8_needRange : ByteArray := prog_1_method_33_code
def yX8_needRange : MethodName := ⟨RX8, "needRange", "(III)V"⟩
abbrev cX8_needMap : ByteArray := prog_1_method_34_code
def yX8_needMap : MethodName := ⟨RX8, "needMap", "(III)V"⟩
abbrev cX8_needSea : ByteArray := prog_1_method_35_code
def yX8_needSea : MethodName := ⟨RX8, "needSea", "(I)V"⟩
abbrev cX8_buoyNumbered : ByteArray := prog_1_method_36_code
def yX8_buoyNumbered : MethodName := ⟨RX8, "buoyNumbered", "(I)LGyreWatch$Buoy;"⟩
abbrev cX8_readingNumbered : ByteArray := prog_1_method_37_code
def yX8_readingNumbered : MethodName := ⟨RX8, "readingNumbered", "(I)LGyreWatch$Reading;"⟩
abbrev cX8_searchNumbered : ByteArray := prog_1_method_38_code
def yX8_searchNumbered : MethodName := ⟨RX8, "searchNumbered", "(I)LGyreWatch$Search;"⟩
abbrev cX8_sumOf : ByteArray := prog_1_method_39_code
def yX8_sumOf : MethodName := ⟨RX8, "sumOf", "([I)I"⟩
abbrev cX8_isTaken : ByteArray := prog_1_method_40_code
def yX8_isTaken : MethodName := ⟨RX8, "isTaken", "(I)Z"⟩
abbrev cX8_meanWithout : ByteArray := prog_1_method_41_code
def yX8_meanWithout : MethodName := ⟨RX8, "meanWithout", "(LGyreWatch$Reading;III)I"⟩
abbrev cX8_tideAt : ByteArray := prog_1_method_42_code
def yX8_tideAt : MethodName := ⟨RX8, "tideAt", "(I)I"⟩
abbrev cX8_passOneDay : ByteArray := prog_1_method_43_code
def yX8_passOneDay : MethodName := ⟨RX8, "passOneDay", "()V"⟩
abbrev cX8_letDrift : ByteArray := prog_1_method_44_code
def yX8_letDrift : MethodName := ⟨RX8, "letDrift", "(LGyreWatch$Buoy;)V"⟩
abbrev cX8_readAtStations : ByteArray := prog_1_method_45_code
def yX8_readAtStations : MethodName := ⟨RX8, "readAtStations", "()V"⟩
def RX9 : String := "GyreWatchModel"
def TX9 : u_T := fun k => match k with
  | 0 => ("GyreWatchModel", "thrown", "I", false)
  | 1 => ("GyreWatchModel", "day", "I", false)
  | 2 => ("GyreWatchModel", "gift", "I", false)
  | 3 => ("GyreWatchModel", "isLand", "[Z", true)
  | 4 => ("GyreWatchModel", "current", "[I", true)
  | 5 => ("GyreWatchModel", "sun", "[I", true)
  | 6 => ("GyreWatchModel", "heat", "[I", true)
  | 7 => ("GyreWatchModel", "salt", "[I", true)
  | 8 => ("GyreWatchModel", "comes", "[I", true)
  | 9 => ("GyreWatchModel", "comesToo", "[I", true)
  | 10 => ("GyreWatchModel", "floats", "I", false)
  | 11 => ("GyreWatchModel", "cellOf", "[I", true)
  | 12 => ("GyreWatchModel", "parks", "[I", true)
  | 13 => ("GyreWatchModel", "left", "[I", true)
  | 14 => ("GyreWatchModel", "battery", "[I", true)
  | 15 => ("GyreWatchModel", "bias", "[I", true)
  | 16 => ("GyreWatchModel", "correction", "[I", true)
  | 17 => ("GyreWatchModel", "stations", "I", false)
  | 18 => ("GyreWatchModel", "stationDay", "[I", true)
  | 19 => ("GyreWatchModel", "stationCell", "[I", true)
  | 20 => ("GyreWatchModel", "storms", "I", false)
  | 21 => ("GyreWatchModel", "from", "[I", true)
  | 22 => ("GyreWatchModel", "to", "[I", true)
  | 23 => ("GyreWatchModel", "readings", "I", false)
  | 24 => ("GyreWatchModel", "readOn", "[I", true)
  | 25 => ("GyreWatchModel", "readAt", "[I", true)
  | 26 => ("GyreWatchModel", "value", "[I", true)
  | 27 => ("GyreWatchModel", "readBy", "[I", true)
  | 28 => ("GyreWatchModel", "byHand", "[I", true)
  | 29 => ("GyreWatchModel", "bound", "I", false)
  | 30 => ("GyreWatchModel", "searches", "I", false)
  | 31 => ("GyreWatchModel", "began", "[I", true)
  | 32 => ("GyreWatchModel", "chance", "[I", true)
  | 33 => ("GyreWatchModel", "parts", "I", false)
  | 34 => ("GyreWatchModel", "period", "[I", true)
  | 35 => ("GyreWatchModel", "height", "[I", true)
  | _ => ("GyreWatchModel", "phase", "[I", true)
def tyX9 : Nat → FieldType := fun k => match k with
  | 0 => .int
  | 1 => .int
  | 2 => .int
  | 3 => .array .boolean
  | 4 => .array .int
  | 5 => .array .int
  | 6 => .array .int
  | 7 => .array .int
  | 8 => .array .int
  | 9 => .array .int
  | 10 => .int
  | 11 => .array .int
  | 12 => .array .int
  | 13 => .array .int
  | 14 => .array .int
  | 15 => .array .int
  | 16 => .array .int
  | 17 => .int
  | 18 => .array .int
  | 19 => .array .int
  | 20 => .int
  | 21 => .array .int
  | 22 => .array .int
  | 23 => .int
  | 24 => .array .int
  | 25 => .array .int
  | 26 => .array .int
  | 27 => .array .int
  | 28 => .array .int
  | 29 => .int
  | 30 => .int
  | 31 => .array .int
  | 32 => .array .int
  | 33 => .int
  | 34 => .array .int
  | 35 => .array .int
  | _ => .array .int
abbrev wsX90 : List Cond := u_ws RX9 TX9 37
theorem nmX9 : ∀ a, a < 37 → ∀ b, b < 37 → a ≠ b → (TX9 a).2.1 ≠ (TX9 b).2.1 := by decide +kernel
theorem tyX9_ok : ∀ k, k < 37 → parseFieldDescriptor (TX9 k).2.2.1 = some (tyX9 k) := by decide +kernel
abbrev cX9_init : ByteArray := prog_11_method_1_code
def yX9_init : MethodName := ⟨RX9, "<init>", "()V"⟩
abbrev cX9_thrown : ByteArray := prog_11_method_2_code
def yX9_thrown : MethodName := ⟨RX9, "thrown", "()I"⟩
abbrev cX9_in : ByteArray := prog_11_method_3_code
def yX9_in : MethodName := ⟨RX9, "in", "(III)Z"⟩
abbrev cX9_isCell : ByteArray := prog_11_method_4_code
def yX9_isCell : MethodName := ⟨RX9, "isCell", "(I)Z"⟩
abbrev cX9_isFloat : ByteArray := prog_11_method_5_code
def yX9_isFloat : MethodName := ⟨RX9, "isFloat", "(I)Z"⟩
abbrev cX9_isReading : ByteArray := prog_11_method_6_code
def yX9_isReading : MethodName := ⟨RX9, "isReading", "(I)Z"⟩
abbrev cX9_isSearch : ByteArray := prog_11_method_7_code
def yX9_isSearch : MethodName := ⟨RX9, "isSearch", "(I)Z"⟩
abbrev cX9_size : ByteArray := prog_11_method_8_code
def yX9_size : MethodName := ⟨RX9, "size", "(I)I"⟩
abbrev cX9_beside : ByteArray := prog_11_method_9_code
def yX9_beside : MethodName := ⟨RX9, "beside", "(II)I"⟩
abbrev cX9_leads : ByteArray := prog_11_method_10_code
def yX9_leads : MethodName := ⟨RX9, "leads", "(I)I"⟩
abbrev cX9_land : ByteArray := prog_11_method_11_code
def yX9_land : MethodName := ⟨RX9, "land", "(I)I"⟩
abbrev cX9_current : ByteArray := prog_11_method_12_code
def yX9_current : MethodName := ⟨RX9, "current", "(II)I"⟩
abbrev cX9_sun : ByteArray := prog_11_method_13_code
def yX9_sun : MethodName := ⟨RX9, "sun", "(II)I"⟩
abbrev cX9_flows : ByteArray := prog_11_method_14_code
def yX9_flows : MethodName := ⟨RX9, "flows", "()V"⟩
abbrev cX9_warmsAndTurns : ByteArray := prog_11_method_15_code
def yX9_warmsAndTurns : MethodName := ⟨RX9, "warmsAndTurns", "(I)V"⟩
abbrev cX9_reads : ByteArray := prog_11_method_16_code
def yX9_reads : MethodName := ⟨RX9, "reads", "(III)V"⟩
abbrev cX9_parks : ByteArray := prog_11_method_17_code
def yX9_parks : MethodName := ⟨RX9, "parks", "(I)V"⟩
abbrev cX9_drifts : ByteArray := prog_11_method_18_code
def yX9_drifts : MethodName := ⟨RX9, "drifts", "(I)V"⟩
abbrev cX9_isStorm : ByteArray := prog_11_method_19_code
def yX9_isStorm : MethodName := ⟨RX9, "isStorm", "(I)Z"⟩
abbrev cX9_stationOf : ByteArray := prog_11_method_20_code
def yX9_stationOf : MethodName := ⟨RX9, "stationOf", "(II)I"⟩
abbrev cX9_ships : ByteArray := prog_11_method_21_code
def yX9_ships : MethodName := ⟨RX9, "ships", "()V"⟩
abbrev cX9_pass : ByteArray := prog_11_method_22_code
def yX9_pass : MethodName := ⟨RX9, "pass", "(I)I"⟩
abbrev cX9_lay : ByteArray := prog_11_method_23_code
def yX9_lay : MethodName := ⟨RX9, "lay", "(IIII)I"⟩
abbrev cX9_station : ByteArray := prog_11_method_24_code
def yX9_station : MethodName := ⟨RX9, "station", "(II)I"⟩
abbrev cX9_storm : ByteArray := prog_11_method_25_code
def yX9_storm : MethodName := ⟨RX9, "storm", "(II)I"⟩
abbrev cX9_shipFor : ByteArray := prog_11_method_26_code
def yX9_shipFor : MethodName := ⟨RX9, "shipFor", "(I)I"⟩
abbrev cX9_calibrate : ByteArray := prog_11_method_27_code
def yX9_calibrate : MethodName := ⟨RX9, "calibrate", "(I)I"⟩
abbrev cX9_corrected : ByteArray := prog_11_method_28_code
def yX9_corrected : MethodName := ⟨RX9, "corrected", "(I)I"⟩
abbrev cX9_flagOf : ByteArray := prog_11_method_29_code
def yX9_flagOf : MethodName := ⟨RX9, "flagOf", "(I)I"⟩
abbrev cX9_flag : ByteArray := prog_11_method_30_code
def yX9_flag : MethodName := ⟨RX9, "flag", "(II)I"⟩
abbrev cX9_bound : ByteArray := prog_11_method_31_code
def yX9_bound : MethodName := ⟨RX9, "bound", "(I)I"⟩
abbrev cX9_search : ByteArray := prog_11_method_32_code
def yX9_search : MethodName := ⟨RX9, "search", "(I)I"⟩
abbrev cX9_leg : ByteArray := prog_11_method_33_code
def yX9_leg : MethodName := ⟨RX9, "leg", "(III)I"⟩
abbrev cX9_part : ByteArray := prog_11_method_34_code
def yX9_part : MethodName := ⟨RX9, "part", "(III)I"⟩
abbrev cX9_day : ByteArray := prog_11_method_35_code
def yX9_day : MethodName := ⟨RX9, "day", "()I"⟩
abbrev cX9_ofLayer : ByteArray := prog_11_method_36_code
def yX9_ofLayer : MethodName := ⟨RX9, "ofLayer", "(III)I"⟩
abbrev cX9_total : ByteArray := prog_11_method_37_code
def yX9_total : MethodName := ⟨RX9, "total", "(I)I"⟩
abbrev cX9_ofFloat : ByteArray := prog_11_method_38_code
def yX9_ofFloat : MethodName := ⟨RX9, "ofFloat", "(II)I"⟩
abbrev cX9_stations : ByteArray := prog_11_method_39_code
def yX9_stations : MethodName := ⟨RX9, "stations", "()I"⟩
abbrev cX9_readings : ByteArray := prog_11_method_40_code
def yX9_readings : MethodName := ⟨RX9, "readings", "()I"⟩
abbrev cX9_ofReading : ByteArray := prog_11_method_41_code
def yX9_ofReading : MethodName := ⟨RX9, "ofReading", "(II)I"⟩
abbrev cX9_weight : ByteArray := prog_11_method_42_code
def yX9_weight : MethodName := ⟨RX9, "weight", "(IIII)I"⟩
abbrev cX9_weights : ByteArray := prog_11_method_43_code
def yX9_weights : MethodName := ⟨RX9, "weights", "(IIII)I"⟩
abbrev cX9_meanOf : ByteArray := prog_11_method_44_code
def yX9_meanOf : MethodName := ⟨RX9, "meanOf", "(IIII)I"⟩
abbrev cX9_misses : ByteArray := prog_11_method_45_code
def yX9_misses : MethodName := ⟨RX9, "misses", "(III)I"⟩
abbrev cX9_mean : ByteArray := prog_11_method_46_code
def yX9_mean : MethodName := ⟨RX9, "mean", "(III)I"⟩
abbrev cX9_error : ByteArray := prog_11_method_47_code
def yX9_error : MethodName := ⟨RX9, "error", "(III)I"⟩
abbrev cX9_residual : ByteArray := prog_11_method_48_code
def yX9_residual : MethodName := ⟨RX9, "residual", "(II)I"⟩
abbrev cX9_chance : ByteArray := prog_11_method_49_code
def yX9_chance : MethodName := ⟨RX9, "chance", "(II)I"⟩
abbrev cX9_bestOf : ByteArray := prog_11_method_50_code
def yX9_bestOf : MethodName := ⟨RX9, "bestOf", "(I)I"⟩
abbrev cX9_best : ByteArray := prog_11_method_51_code
def yX9_best : MethodName := ⟨RX9, "best", "(I)I"⟩
abbrev cX9_plan : ByteArray := prog_11_method_52_code
def yX9_plan : MethodName := ⟨RX9, "plan", "(III)I"⟩
abbrev cX9_tideAt : ByteArray := prog_11_method_53_code
def yX9_tideAt : MethodName := ⟨RX9, "tideAt", "(I)I"⟩
abbrev cX9_tide : ByteArray := prog_11_method_54_code
def yX9_tide : MethodName := ⟨RX9, "tide", "(I)I"⟩
abbrev cX9_highest : ByteArray := prog_11_method_55_code
def yX9_highest : MethodName := ⟨RX9, "highest", "(II)I"⟩
def RJx145de : String := "java/io/Serializable"
def TJx145de : u_T := fun k => match k with
  | _ => ("", "", "", false)
def tyJx145de : Nat → FieldType := fun k => match k with
  | _ => .int
theorem nmJx145de : ∀ a, a < 0 → ∀ b, b < 0 → a ≠ b → (TJx145de a).2.1 ≠ (TJx145de b).2.1 := by decide +kernel
theorem tyJx145de_ok : ∀ k, k < 0 → parseFieldDescriptor (TJx145de k).2.2.1 = some (tyJx145de k) := by decide +kernel
def RJ9 : String := "java/lang/Math"
def TJ9 : u_T := fun k => match k with
  | _ => ("", "", "", false)
def tyJ9 : Nat → FieldType := fun k => match k with
  | _ => .int
theorem nmJ9 : ∀ a, a < 0 → ∀ b, b < 0 → a ≠ b → (TJ9 a).2.1 ≠ (TJ9 b).2.1 := by decide +kernel
theorem tyJ9_ok : ∀ k, k < 0 → parseFieldDescriptor (TJ9 k).2.2.1 = some (tyJ9 k) := by decide +kernel
abbrev cJ9_abs_0f7a4 : ByteArray := prog_16_method_59_code
def yJ9_abs_0f7a4 : MethodName := ⟨RJ9, "abs", "(I)I"⟩
abbrev cJ9_max_7cf53 : ByteArray := prog_16_method_65_code
def yJ9_max_7cf53 : MethodName := ⟨RJ9, "max", "(II)I"⟩
abbrev cJ9_min_7cf53 : ByteArray := prog_16_method_69_code
def yJ9_min_7cf53 : MethodName := ⟨RJ9, "min", "(II)I"⟩
def RJ0 : String := "java/lang/String"
def TJ0 : u_T := fun k => match k with
  | _ => ("", "", "", false)
def tyJ0 : Nat → FieldType := fun k => match k with
  | _ => .int
theorem nmJ0 : ∀ a, a < 0 → ∀ b, b < 0 → a ≠ b → (TJ0 a).2.1 ≠ (TJ0 b).2.1 := by decide +kernel
theorem tyJ0_ok : ∀ k, k < 0 → parseFieldDescriptor (TJ0 k).2.2.1 = some (tyJ0 k) := by decide +kernel
def RJ10 : String := "java/lang/System"
def TJ10 : u_T := fun k => match k with
  | _ => ("", "", "", false)
def tyJ10 : Nat → FieldType := fun k => match k with
  | _ => .int
theorem nmJ10 : ∀ a, a < 0 → ∀ b, b < 0 → a ≠ b → (TJ10 a).2.1 ≠ (TJ10 b).2.1 := by decide +kernel
theorem tyJ10_ok : ∀ k, k < 0 → parseFieldDescriptor (TJ10 k).2.2.1 = some (tyJ10 k) := by decide +kernel
def RJ7 : String := "java/util/Arrays"
def TJ7 : u_T := fun k => match k with
  | _ => ("", "", "", false)
def tyJ7 : Nat → FieldType := fun k => match k with
  | _ => .int
theorem nmJ7 : ∀ a, a < 0 → ∀ b, b < 0 → a ≠ b → (TJ7 a).2.1 ≠ (TJ7 b).2.1 := by decide +kernel
theorem tyJ7_ok : ∀ k, k < 0 → parseFieldDescriptor (TJ7 k).2.2.1 = some (tyJ7 k) := by decide +kernel
abbrev cJ7_fill_53178 : ByteArray := prog_21_method_103_code
def yJ7_fill_53178 : MethodName := ⟨RJ7, "fill", "([II)V"⟩
def RL : String := "GyreWatchLaw"
abbrev cL_land : ByteArray := method_3_code
def yL_land : MethodName := ⟨RL, "land", "(LGyreWatch;I[J)I"⟩
abbrev cL_current : ByteArray := method_4_code
def yL_current : MethodName := ⟨RL, "current", "(LGyreWatch;II[J)I"⟩
abbrev cL_sun : ByteArray := method_5_code
def yL_sun : MethodName := ⟨RL, "sun", "(LGyreWatch;II[J)I"⟩
abbrev cL_pass : ByteArray := method_6_code
def yL_pass : MethodName := ⟨RL, "pass", "(LGyreWatch;I[J)I"⟩
abbrev cL_lay : ByteArray := method_7_code
def yL_lay : MethodName := ⟨RL, "lay", "(LGyreWatch;IIII[J)I"⟩
abbrev cL_station : ByteArray := method_8_code
def yL_station : MethodName := ⟨RL, "station", "(LGyreWatch;II[J)I"⟩
abbrev cL_storm : ByteArray := method_9_code
def yL_storm : MethodName := ⟨RL, "storm", "(LGyreWatch;II[J)I"⟩
abbrev cL_calibrate : ByteArray := method_10_code
def yL_calibrate : MethodName := ⟨RL, "calibrate", "(LGyreWatch;I[J)I"⟩
abbrev cL_flag : ByteArray := method_11_code
def yL_flag : MethodName := ⟨RL, "flag", "(LGyreWatch;II[J)I"⟩
abbrev cL_bound : ByteArray := method_12_code
def yL_bound : MethodName := ⟨RL, "bound", "(LGyreWatch;I[J)I"⟩
abbrev cL_search : ByteArray := method_13_code
def yL_search : MethodName := ⟨RL, "search", "(LGyreWatch;I[J)I"⟩
abbrev cL_leg : ByteArray := method_14_code
def yL_leg : MethodName := ⟨RL, "leg", "(LGyreWatch;III[J)I"⟩
abbrev cL_part : ByteArray := method_15_code
def yL_part : MethodName := ⟨RL, "part", "(LGyreWatch;III[J)I"⟩
abbrev cL_ofLayer : ByteArray := method_16_code
def yL_ofLayer : MethodName := ⟨RL, "ofLayer", "(LGyreWatch;III[J)I"⟩
abbrev cL_total : ByteArray := method_17_code
def yL_total : MethodName := ⟨RL, "total", "(LGyreWatch;I[J)I"⟩
abbrev cL_ofFloat : ByteArray := method_18_code
def yL_ofFloat : MethodName := ⟨RL, "ofFloat", "(LGyreWatch;II[J)I"⟩
abbrev cL_ofReading : ByteArray := method_19_code
def yL_ofReading : MethodName := ⟨RL, "ofReading", "(LGyreWatch;II[J)I"⟩
abbrev cL_mean : ByteArray := method_20_code
def yL_mean : MethodName := ⟨RL, "mean", "(LGyreWatch;III[J)I"⟩
abbrev cL_error : ByteArray := method_21_code
def yL_error : MethodName := ⟨RL, "error", "(LGyreWatch;III[J)I"⟩
abbrev cL_residual : ByteArray := method_22_code
def yL_residual : MethodName := ⟨RL, "residual", "(LGyreWatch;II[J)I"⟩
abbrev cL_chance : ByteArray := method_23_code
def yL_chance : MethodName := ⟨RL, "chance", "(LGyreWatch;II[J)I"⟩
abbrev cL_best : ByteArray := method_24_code
def yL_best : MethodName := ⟨RL, "best", "(LGyreWatch;I[J)I"⟩
abbrev cL_plan : ByteArray := method_25_code
def yL_plan : MethodName := ⟨RL, "plan", "(LGyreWatch;III[J)I"⟩
abbrev cL_tide : ByteArray := method_26_code
def yL_tide : MethodName := ⟨RL, "tide", "(LGyreWatch;I[J)I"⟩
abbrev cL_highest : ByteArray := method_27_code
def yL_highest : MethodName := ⟨RL, "highest", "(LGyreWatch;II[J)I"⟩
abbrev cL_law : ByteArray := code
def yL_law : MethodName := ⟨RL, "law", "([I)Z"⟩
end
section
theorem dX0_init_0 : decode cX0_init 0 = .ok (.aload_n 0, 1) := by decide +kernel
theorem dX0_init_1 : decode cX0_init 1 = .ok (.invokespecial 1, 3) := by decide +kernel
theorem dX0_init_4 : decode cX0_init 4 = .ok (.aload_n 0, 1) := by decide +kernel
theorem dX0_init_5 : decode cX0_init 5 = .ok (.iload_n 1, 1) := by decide +kernel
theorem dX0_init_6 : decode cX0_init 6 = .ok (.putfield 7, 3) := by decide +kernel
theorem dX0_init_9 : decode cX0_init 9 = .ok (.aload_n 0, 1) := by decide +kernel
theorem dX0_init_10 : decode cX0_init 10 = .ok (.iload_n 2, 1) := by decide +kernel
theorem dX0_init_11 : decode cX0_init 11 = .ok (.putfield 13, 3) := by decide +kernel
theorem dX0_init_14 : decode cX0_init 14 = .ok (.aload_n 0, 1) := by decide +kernel
theorem dX0_init_15 : decode cX0_init 15 = .ok (.iload_n 3, 1) := by decide +kernel
theorem dX0_init_16 : decode cX0_init 16 = .ok (.putfield 16, 3) := by decide +kernel
theorem dX0_init_19 : decode cX0_init 19 = .ok (.aload_n 0, 1) := by decide +kernel
theorem dX0_init_20 : decode cX0_init 20 = .ok (.iload_n 3, 1) := by decide +kernel
theorem dX0_init_21 : decode cX0_init 21 = .ok (.putfield 19, 3) := by decide +kernel
theorem dX0_init_24 : decode cX0_init 24 = .ok (.aload_n 0, 1) := by decide +kernel
theorem dX0_init_25 : decode cX0_init 25 = .ok (.iload 4, 2) := by decide +kernel
theorem dX0_init_27 : decode cX0_init 27 = .ok (.putfield 22, 3) := by decide +kernel
theorem dX0_init_30 : decode cX0_init 30 = .ok (.aload_n 0, 1) := by decide +kernel
theorem dX0_init_31 : decode cX0_init 31 = .ok (.iload 5, 2) := by decide +kernel
theorem dX0_init_33 : decode cX0_init 33 = .ok (.putfield 25, 3) := by decide +kernel
theorem dX0_init_36 : decode cX0_init 36 = .ok (.return_, 1) := by decide +kernel
theorem dX1_init_0 : decode cX1_init 0 = .ok (.aload_n 0, 1) := by decide +kernel
theorem dX1_init_1 : decode cX1_init 1 = .ok (.invokespecial 3, 3) := by decide +kernel
theorem dX1_init_4 : decode cX1_init 4 = .ok (.aload_n 0, 1) := by decide +kernel
theorem dX1_init_5 : decode cX1_init 5 = .ok (.bipush 60, 2) := by decide +kernel
theorem dX1_init_7 : decode cX1_init 7 = .ok (.newarray .int, 2) := by decide +kernel
theorem dX1_init_9 : decode cX1_init 9 = .ok (.putfield 9, 3) := by decide +kernel
theorem dX1_init_12 : decode cX1_init 12 = .ok (.aload_n 0, 1) := by decide +kernel
theorem dX1_init_13 : decode cX1_init 13 = .ok (.bipush 60, 2) := by decide +kernel
theorem dX1_init_15 : decode cX1_init 15 = .ok (.newarray .int, 2) := by decide +kernel
theorem dX1_init_17 : decode cX1_init 17 = .ok (.putfield 15, 3) := by decide +kernel
theorem dX1_init_20 : decode cX1_init 20 = .ok (.aload_n 0, 1) := by decide +kernel
theorem dX1_init_21 : decode cX1_init 21 = .ok (.getfield 9, 3) := by decide +kernel
theorem dX1_init_24 : decode cX1_init 24 = .ok (.iload_n 1, 1) := by decide +kernel
theorem dX1_init_25 : decode cX1_init 25 = .ok (.invokestatic 18, 3) := by decide +kernel
theorem dX1_init_28 : decode cX1_init 28 = .ok (.aload_n 0, 1) := by decide +kernel
theorem dX1_init_29 : decode cX1_init 29 = .ok (.getfield 15, 3) := by decide +kernel
theorem dX1_init_32 : decode cX1_init 32 = .ok (.iload_n 2, 1) := by decide +kernel
theorem dX1_init_33 : decode cX1_init 33 = .ok (.invokestatic 18, 3) := by decide +kernel
theorem dX1_init_36 : decode cX1_init 36 = .ok (.return_, 1) := by decide +kernel
theorem dX1_weightAt_0 : decode cX1_weightAt 0 = .ok (.iload_n 1, 1) := by decide +kernel
theorem dX1_weightAt_1 : decode cX1_weightAt 1 = .ok (.invokestatic 24, 3) := by decide +kernel
theorem dX1_weightAt_4 : decode cX1_weightAt 4 = .ok (.ifCond .eq 21, 3) := by decide +kernel
theorem dX1_weightAt_7 : decode cX1_weightAt 7 = .ok (.iconst 5, 1) := by decide +kernel
theorem dX1_weightAt_8 : decode cX1_weightAt 8 = .ok (.aload_n 0, 1) := by decide +kernel
theorem dX1_weightAt_9 : decode cX1_weightAt 9 = .ok (.getfield 15, 3) := by decide +kernel
theorem dX1_weightAt_12 : decode cX1_weightAt 12 = .ok (.iload_n 1, 1) := by decide +kernel
theorem dX1_weightAt_13 : decode cX1_weightAt 13 = .ok (.iaload, 1) := by decide +kernel
theorem dX1_weightAt_14 : decode cX1_weightAt 14 = .ok (.imul, 1) := by decide +kernel
theorem dX1_weightAt_15 : decode cX1_weightAt 15 = .ok (.aload_n 0, 1) := by decide +kernel
theorem dX1_weightAt_16 : decode cX1_weightAt 16 = .ok (.getfield 9, 3) := by decide +kernel
theorem dX1_weightAt_19 : decode cX1_weightAt 19 = .ok (.iload_n 1, 1) := by decide +kernel
theorem dX1_weightAt_20 : decode cX1_weightAt 20 = .ok (.iaload, 1) := by decide +kernel
theorem dX1_weightAt_21 : decode cX1_weightAt 21 = .ok (.isub, 1) := by decide +kernel
theorem dX1_weightAt_22 : decode cX1_weightAt 22 = .ok (.goto 4, 3) := by decide +kernel
theorem dX1_weightAt_25 : decode cX1_weightAt 25 = .ok (.iconst 0, 1) := by decide +kernel
theorem dX1_weightAt_26 : decode cX1_weightAt 26 = .ok (.ireturn, 1) := by decide +kernel
theorem dX1_emptyAt_0 : decode cX1_emptyAt 0 = .ok (.iload_n 1, 1) := by decide +kernel
theorem dX1_emptyAt_1 : decode cX1_emptyAt 1 = .ok (.invokestatic 24, 3) := by decide +kernel
theorem dX1_emptyAt_4 : decode cX1_emptyAt 4 = .ok (.ifCond .eq 17, 3) := by decide +kernel
theorem dX1_emptyAt_7 : decode cX1_emptyAt 7 = .ok (.aload_n 0, 1) := by decide +kernel
theorem dX1_emptyAt_8 : decode cX1_emptyAt 8 = .ok (.getfield 9, 3) := by decide +kernel
theorem dX1_emptyAt_11 : decode cX1_emptyAt 11 = .ok (.iload_n 1, 1) := by decide +kernel
theorem dX1_emptyAt_12 : decode cX1_emptyAt 12 = .ok (.iconst 0, 1) := by decide +kernel
theorem dX1_emptyAt_13 : decode cX1_emptyAt 13 = .ok (.iastore, 1) := by decide +kernel
theorem dX1_emptyAt_14 : decode cX1_emptyAt 14 = .ok (.aload_n 0, 1) := by decide +kernel
theorem dX1_emptyAt_15 : decode cX1_emptyAt 15 = .ok (.getfield 15, 3) := by decide +kernel
theorem dX1_emptyAt_18 : decode cX1_emptyAt 18 = .ok (.iload_n 1, 1) := by decide +kernel
theorem dX1_emptyAt_19 : decode cX1_emptyAt 19 = .ok (.iconst 0, 1) := by decide +kernel
theorem dX1_emptyAt_20 : decode cX1_emptyAt 20 = .ok (.iastore, 1) := by decide +kernel
theorem dX1_emptyAt_21 : decode cX1_emptyAt 21 = .ok (.return_, 1) := by decide +kernel
theorem dX2_init_0 : decode cX2_init 0 = .ok (.aload_n 0, 1) := by decide +kernel
theorem dX2_init_1 : decode cX2_init 1 = .ok (.invokespecial 3, 3) := by decide +kernel
theorem dX2_init_4 : decode cX2_init 4 = .ok (.aload_n 0, 1) := by decide +kernel
theorem dX2_init_5 : decode cX2_init 5 = .ok (.bipush 100, 2) := by decide +kernel
theorem dX2_init_7 : decode cX2_init 7 = .ok (.anewarray 9, 3) := by decide +kernel
theorem dX2_init_10 : decode cX2_init 10 = .ok (.putfield 11, 3) := by decide +kernel
theorem dX2_init_13 : decode cX2_init 13 = .ok (.aload_n 0, 1) := by decide +kernel
theorem dX2_init_14 : decode cX2_init 14 = .ok (.bipush 100, 2) := by decide +kernel
theorem dX2_init_16 : decode cX2_init 16 = .ok (.putfield 17, 3) := by decide +kernel
theorem dX2_init_19 : decode cX2_init 19 = .ok (.return_, 1) := by decide +kernel
theorem dX2_keep_0 : decode cX2_keep 0 = .ok (.aload_n 0, 1) := by decide +kernel
theorem dX2_keep_1 : decode cX2_keep 1 = .ok (.getfield 21, 3) := by decide +kernel
theorem dX2_keep_4 : decode cX2_keep 4 = .ok (.aload_n 0, 1) := by decide +kernel
theorem dX2_keep_5 : decode cX2_keep 5 = .ok (.getfield 11, 3) := by decide +kernel
theorem dX2_keep_8 : decode cX2_keep 8 = .ok (.arraylength, 1) := by decide +kernel
theorem dX2_keep_9 : decode cX2_keep 9 = .ok (.invokestatic 24, 3) := by decide +kernel
theorem dX2_keep_12 : decode cX2_keep 12 = .ok (.ifCond .ne 4, 3) := by decide +kernel
theorem dX2_keep_15 : decode cX2_keep 15 = .ok (.return_, 1) := by decide +kernel
theorem dX2_keep_16 : decode cX2_keep 16 = .ok (.new 9, 3) := by decide +kernel
theorem dX2_keep_19 : decode cX2_keep 19 = .ok (.dup, 1) := by decide +kernel
theorem dX2_keep_20 : decode cX2_keep 20 = .ok (.iload_n 1, 1) := by decide +kernel
theorem dX2_keep_21 : decode cX2_keep 21 = .ok (.iload_n 2, 1) := by decide +kernel
theorem dX2_keep_22 : decode cX2_keep 22 = .ok (.iload_n 3, 1) := by decide +kernel
theorem dX2_keep_23 : decode cX2_keep 23 = .ok (.aload 4, 2) := by decide +kernel
theorem dX2_keep_25 : decode cX2_keep 25 = .ok (.invokespecial 28, 3) := by decide +kernel
theorem dX2_keep_28 : decode cX2_keep 28 = .ok (.astore 5, 2) := by decide +kernel
theorem dX2_keep_30 : decode cX2_keep 30 = .ok (.aload_n 0, 1) := by decide +kernel
theorem dX2_keep_31 : decode cX2_keep 31 = .ok (.getfield 11, 3) := by decide +kernel
theorem dX2_keep_34 : decode cX2_keep 34 = .ok (.aload_n 0, 1) := by decide +kernel
theorem dX2_keep_35 : decode cX2_keep 35 = .ok (.getfield 21, 3) := by decide +kernel
theorem dX2_keep_38 : decode cX2_keep 38 = .ok (.aload 5, 2) := by decide +kernel
theorem dX2_keep_40 : decode cX2_keep 40 = .ok (.aastore, 1) := by decide +kernel
theorem dX2_keep_41 : decode cX2_keep 41 = .ok (.aload_n 0, 1) := by decide +kernel
theorem dX2_keep_42 : decode cX2_keep 42 = .ok (.dup, 1) := by decide +kernel
theorem dX2_keep_43 : decode cX2_keep 43 = .ok (.getfield 21, 3) := by decide +kernel
theorem dX2_keep_46 : decode cX2_keep 46 = .ok (.iconst 1, 1) := by decide +kernel
theorem dX2_keep_47 : decode cX2_keep 47 = .ok (.iadd, 1) := by decide +kernel
theorem dX2_keep_48 : decode cX2_keep 48 = .ok (.putfield 21, 3) := by decide +kernel
theorem dX2_keep_51 : decode cX2_keep 51 = .ok (.aload 4, 2) := by decide +kernel
theorem dX2_keep_53 : decode cX2_keep 53 = .ok (.ifnull 10, 3) := by decide +kernel
theorem dX2_keep_56 : decode cX2_keep 56 = .ok (.aload 5, 2) := by decide +kernel
theorem dX2_keep_58 : decode cX2_keep 58 = .ok (.aload 4, 2) := by decide +kernel
theorem dX2_keep_60 : decode cX2_keep 60 = .ok (.invokestatic 31, 3) := by decide +kernel
theorem dX2_keep_63 : decode cX2_keep 63 = .ok (.return_, 1) := by decide +kernel
theorem dX2_chain_0 : decode cX2_chain 0 = .ok (.aload_n 0, 1) := by decide +kernel
theorem dX2_chain_1 : decode cX2_chain 1 = .ok (.aload_n 1, 1) := by decide +kernel
theorem dX2_chain_2 : decode cX2_chain 2 = .ok (.getfield 35, 3) := by decide +kernel
theorem dX2_chain_5 : decode cX2_chain 5 = .ok (.putfield 41, 3) := by decide +kernel
theorem dX2_chain_8 : decode cX2_chain 8 = .ok (.aload_n 1, 1) := by decide +kernel
theorem dX2_chain_9 : decode cX2_chain 9 = .ok (.getfield 35, 3) := by decide +kernel
theorem dX2_chain_12 : decode cX2_chain 12 = .ok (.ifnull 11, 3) := by decide +kernel
theorem dX2_chain_15 : decode cX2_chain 15 = .ok (.aload_n 1, 1) := by decide +kernel
theorem dX2_chain_16 : decode cX2_chain 16 = .ok (.getfield 35, 3) := by decide +kernel
theorem dX2_chain_19 : decode cX2_chain 19 = .ok (.aload_n 0, 1) := by decide +kernel
theorem dX2_chain_20 : decode cX2_chain 20 = .ok (.putfield 44, 3) := by decide +kernel
theorem dX2_chain_23 : decode cX2_chain 23 = .ok (.aload_n 1, 1) := by decide +kernel
theorem dX2_chain_24 : decode cX2_chain 24 = .ok (.aload_n 0, 1) := by decide +kernel
theorem dX2_chain_25 : decode cX2_chain 25 = .ok (.putfield 35, 3) := by decide +kernel
theorem dX2_chain_28 : decode cX2_chain 28 = .ok (.aload_n 1, 1) := by decide +kernel
theorem dX2_chain_29 : decode cX2_chain 29 = .ok (.dup, 1) := by decide +kernel
theorem dX2_chain_30 : decode cX2_chain 30 = .ok (.getfield 47, 3) := by decide +kernel
theorem dX2_chain_33 : decode cX2_chain 33 = .ok (.iconst 1, 1) := by decide +kernel
theorem dX2_chain_34 : decode cX2_chain 34 = .ok (.iadd, 1) := by decide +kernel
theorem dX2_chain_35 : decode cX2_chain 35 = .ok (.putfield 47, 3) := by decide +kernel
theorem dX2_chain_38 : decode cX2_chain 38 = .ok (.return_, 1) := by decide +kernel
theorem dX2_nearestOfShip_0 : decode cX2_nearestOfShip 0 = .ok (.aconst_null, 1) := by decide +kernel
theorem dX2_nearestOfShip_1 : decode cX2_nearestOfShip 1 = .ok (.astore_n 2, 1) := by decide +kernel
theorem dX2_nearestOfShip_2 : decode cX2_nearestOfShip 2 = .ok (.iconst 3, 1) := by decide +kernel
theorem dX2_nearestOfShip_3 : decode cX2_nearestOfShip 3 = .ok (.istore_n 3, 1) := by decide +kernel
theorem dX2_nearestOfShip_4 : decode cX2_nearestOfShip 4 = .ok (.aload_n 0, 1) := by decide +kernel
theorem dX2_nearestOfShip_5 : decode cX2_nearestOfShip 5 = .ok (.getfield 11, 3) := by decide +kernel
theorem dX2_nearestOfShip_8 : decode cX2_nearestOfShip 8 = .ok (.astore 4, 2) := by decide +kernel
theorem dX2_nearestOfShip_10 : decode cX2_nearestOfShip 10 = .ok (.aload 4, 2) := by decide +kernel
theorem dX2_nearestOfShip_12 : decode cX2_nearestOfShip 12 = .ok (.arraylength, 1) := by decide +kernel
theorem dX2_nearestOfShip_13 : decode cX2_nearestOfShip 13 = .ok (.istore 5, 2) := by decide +kernel
theorem dX2_nearestOfShip_15 : decode cX2_nearestOfShip 15 = .ok (.iconst 0, 1) := by decide +kernel
theorem dX2_nearestOfShip_16 : decode cX2_nearestOfShip 16 = .ok (.istore 6, 2) := by decide +kernel
theorem dX2_nearestOfShip_18 : decode cX2_nearestOfShip 18 = .ok (.iload 6, 2) := by decide +kernel
theorem dX2_nearestOfShip_20 : decode cX2_nearestOfShip 20 = .ok (.iload 5, 2) := by decide +kernel
theorem dX2_nearestOfShip_22 : decode cX2_nearestOfShip 22 = .ok (.if_icmp .ge 67, 3) := by decide +kernel
theorem dX2_nearestOfShip_25 : decode cX2_nearestOfShip 25 = .ok (.aload 4, 2) := by decide +kernel
theorem dX2_nearestOfShip_27 : decode cX2_nearestOfShip 27 = .ok (.iload 6, 2) := by decide +kernel
theorem dX2_nearestOfShip_29 : decode cX2_nearestOfShip 29 = .ok (.aaload, 1) := by decide +kernel
theorem dX2_nearestOfShip_30 : decode cX2_nearestOfShip 30 = .ok (.astore 7, 2) := by decide +kernel
theorem dX2_nearestOfShip_32 : decode cX2_nearestOfShip 32 = .ok (.aload 7, 2) := by decide +kernel
theorem dX2_nearestOfShip_34 : decode cX2_nearestOfShip 34 = .ok (.ifnull 49, 3) := by decide +kernel
theorem dX2_nearestOfShip_37 : decode cX2_nearestOfShip 37 = .ok (.aload 7, 2) := by decide +kernel
theorem dX2_nearestOfShip_39 : decode cX2_nearestOfShip 39 = .ok (.getfield 50, 3) := by decide +kernel
theorem dX2_nearestOfShip_42 : decode cX2_nearestOfShip 42 = .ok (.ifnonnull 41, 3) := by decide +kernel
theorem dX2_nearestOfShip_45 : decode cX2_nearestOfShip 45 = .ok (.aload 7, 2) := by decide +kernel
theorem dX2_nearestOfShip_47 : decode cX2_nearestOfShip 47 = .ok (.getfield 54, 3) := by decide +kernel
theorem dX2_nearestOfShip_50 : decode cX2_nearestOfShip 50 = .ok (.aload_n 1, 1) := by decide +kernel
theorem dX2_nearestOfShip_51 : decode cX2_nearestOfShip 51 = .ok (.getfield 54, 3) := by decide +kernel
theorem dX2_nearestOfShip_54 : decode cX2_nearestOfShip 54 = .ok (.if_icmp .ne 29, 3) := by decide +kernel
theorem dX2_nearestOfShip_57 : decode cX2_nearestOfShip 57 = .ok (.aload 7, 2) := by decide +kernel
theorem dX2_nearestOfShip_59 : decode cX2_nearestOfShip 59 = .ok (.aload_n 1, 1) := by decide +kernel
theorem dX2_nearestOfShip_60 : decode cX2_nearestOfShip 60 = .ok (.getfield 57, 3) := by decide +kernel
theorem dX2_nearestOfShip_63 : decode cX2_nearestOfShip 63 = .ok (.invokevirtual 60, 3) := by decide +kernel
theorem dX2_nearestOfShip_66 : decode cX2_nearestOfShip 66 = .ok (.iload_n 3, 1) := by decide +kernel
theorem dX2_nearestOfShip_67 : decode cX2_nearestOfShip 67 = .ok (.if_icmp .ge 16, 3) := by decide +kernel
theorem dX2_nearestOfShip_70 : decode cX2_nearestOfShip 70 = .ok (.aload 7, 2) := by decide +kernel
theorem dX2_nearestOfShip_72 : decode cX2_nearestOfShip 72 = .ok (.astore_n 2, 1) := by decide +kernel
theorem dX2_nearestOfShip_73 : decode cX2_nearestOfShip 73 = .ok (.aload 7, 2) := by decide +kernel
theorem dX2_nearestOfShip_75 : decode cX2_nearestOfShip 75 = .ok (.aload_n 1, 1) := by decide +kernel
theorem dX2_nearestOfShip_76 : decode cX2_nearestOfShip 76 = .ok (.getfield 57, 3) := by decide +kernel
theorem dX2_nearestOfShip_79 : decode cX2_nearestOfShip 79 = .ok (.invokevirtual 60, 3) := by decide +kernel
theorem dX2_nearestOfShip_82 : decode cX2_nearestOfShip 82 = .ok (.istore_n 3, 1) := by decide +kernel
theorem dX2_nearestOfShip_83 : decode cX2_nearestOfShip 83 = .ok (.iinc 6 1, 3) := by decide +kernel
theorem dX2_nearestOfShip_86 : decode cX2_nearestOfShip 86 = .ok (.goto (-68), 3) := by decide +kernel
theorem dX2_nearestOfShip_89 : decode cX2_nearestOfShip 89 = .ok (.aload_n 2, 1) := by decide +kernel
theorem dX2_nearestOfShip_90 : decode cX2_nearestOfShip 90 = .ok (.areturn, 1) := by decide +kernel
theorem dX2_weightsWithout_0 : decode cX2_weightsWithout 0 = .ok (.iconst 0, 1) := by decide +kernel
theorem dX2_weightsWithout_1 : decode cX2_weightsWithout 1 = .ok (.istore 5, 2) := by decide +kernel
theorem dX2_weightsWithout_3 : decode cX2_weightsWithout 3 = .ok (.aload_n 0, 1) := by decide +kernel
theorem dX2_weightsWithout_4 : decode cX2_weightsWithout 4 = .ok (.getfield 11, 3) := by decide +kernel
theorem dX2_weightsWithout_7 : decode cX2_weightsWithout 7 = .ok (.astore 6, 2) := by decide +kernel
theorem dX2_weightsWithout_9 : decode cX2_weightsWithout 9 = .ok (.aload 6, 2) := by decide +kernel
theorem dX2_weightsWithout_11 : decode cX2_weightsWithout 11 = .ok (.arraylength, 1) := by decide +kernel
theorem dX2_weightsWithout_12 : decode cX2_weightsWithout 12 = .ok (.istore 7, 2) := by decide +kernel
theorem dX2_weightsWithout_14 : decode cX2_weightsWithout 14 = .ok (.iconst 0, 1) := by decide +kernel
theorem dX2_weightsWithout_15 : decode cX2_weightsWithout 15 = .ok (.istore 8, 2) := by decide +kernel
theorem dX2_weightsWithout_17 : decode cX2_weightsWithout 17 = .ok (.iload 8, 2) := by decide +kernel
theorem dX2_weightsWithout_19 : decode cX2_weightsWithout 19 = .ok (.iload 7, 2) := by decide +kernel
theorem dX2_weightsWithout_21 : decode cX2_weightsWithout 21 = .ok (.if_icmp .ge 45, 3) := by decide +kernel
theorem dX2_weightsWithout_24 : decode cX2_weightsWithout 24 = .ok (.aload 6, 2) := by decide +kernel
theorem dX2_weightsWithout_26 : decode cX2_weightsWithout 26 = .ok (.iload 8, 2) := by decide +kernel
theorem dX2_weightsWithout_28 : decode cX2_weightsWithout 28 = .ok (.aaload, 1) := by decide +kernel
theorem dX2_weightsWithout_29 : decode cX2_weightsWithout 29 = .ok (.astore 9, 2) := by decide +kernel
theorem dX2_weightsWithout_31 : decode cX2_weightsWithout 31 = .ok (.aload 9, 2) := by decide +kernel
theorem dX2_weightsWithout_33 : decode cX2_weightsWithout 33 = .ok (.aload_n 1, 1) := by decide +kernel
theorem dX2_weightsWithout_34 : decode cX2_weightsWithout 34 = .ok (.if_acmp .eq 26, 3) := by decide +kernel
theorem dX2_weightsWithout_37 : decode cX2_weightsWithout 37 = .ok (.aload_n 0, 1) := by decide +kernel
theorem dX2_weightsWithout_38 : decode cX2_weightsWithout 38 = .ok (.aload 9, 2) := by decide +kernel
theorem dX2_weightsWithout_40 : decode cX2_weightsWithout 40 = .ok (.iload_n 3, 1) := by decide +kernel
theorem dX2_weightsWithout_41 : decode cX2_weightsWithout 41 = .ok (.iload 4, 2) := by decide +kernel
theorem dX2_weightsWithout_43 : decode cX2_weightsWithout 43 = .ok (.invokevirtual 64, 3) := by decide +kernel
theorem dX2_weightsWithout_46 : decode cX2_weightsWithout 46 = .ok (.ifCond .eq 14, 3) := by decide +kernel
theorem dX2_weightsWithout_49 : decode cX2_weightsWithout 49 = .ok (.iload 5, 2) := by decide +kernel
theorem dX2_weightsWithout_51 : decode cX2_weightsWithout 51 = .ok (.aload 9, 2) := by decide +kernel
theorem dX2_weightsWithout_53 : decode cX2_weightsWithout 53 = .ok (.iload_n 2, 1) := by decide +kernel
theorem dX2_weightsWithout_54 : decode cX2_weightsWithout 54 = .ok (.invokevirtual 68, 3) := by decide +kernel
theorem dX2_weightsWithout_57 : decode cX2_weightsWithout 57 = .ok (.iadd, 1) := by decide +kernel
theorem dX2_weightsWithout_58 : decode cX2_weightsWithout 58 = .ok (.istore 5, 2) := by decide +kernel
theorem dX2_weightsWithout_60 : decode cX2_weightsWithout 60 = .ok (.iinc 8 1, 3) := by decide +kernel
theorem dX2_weightsWithout_63 : decode cX2_weightsWithout 63 = .ok (.goto (-46), 3) := by decide +kernel
theorem dX2_weightsWithout_66 : decode cX2_weightsWithout 66 = .ok (.iload 5, 2) := by decide +kernel
theorem dX2_weightsWithout_68 : decode cX2_weightsWithout 68 = .ok (.ireturn, 1) := by decide +kernel
theorem dX2_weighedValuesWithout_0 : decode cX2_weighedValuesWithout 0 = .ok (.lconst 0, 1) := by decide +kernel
theorem dX2_weighedValuesWithout_1 : decode cX2_weighedValuesWithout 1 = .ok (.lstore 5, 2) := by decide +kernel
theorem dX2_weighedValuesWithout_3 : decode cX2_weighedValuesWithout 3 = .ok (.aload_n 0, 1) := by decide +kernel
theorem dX2_weighedValuesWithout_4 : decode cX2_weighedValuesWithout 4 = .ok (.getfield 11, 3) := by decide +kernel
theorem dX2_weighedValuesWithout_7 : decode cX2_weighedValuesWithout 7 = .ok (.astore 7, 2) := by decide +kernel
theorem dX2_weighedValuesWithout_9 : decode cX2_weighedValuesWithout 9 = .ok (.aload 7, 2) := by decide +kernel
theorem dX2_weighedValuesWithout_11 : decode cX2_weighedValuesWithout 11 = .ok (.arraylength, 1) := by decide +kernel
theorem dX2_weighedValuesWithout_12 : decode cX2_weighedValuesWithout 12 = .ok (.istore 8, 2) := by decide +kernel
theorem dX2_weighedValuesWithout_14 : decode cX2_weighedValuesWithout 14 = .ok (.iconst 0, 1) := by decide +kernel
theorem dX2_weighedValuesWithout_15 : decode cX2_weighedValuesWithout 15 = .ok (.istore 9, 2) := by decide +kernel
theorem dX2_weighedValuesWithout_17 : decode cX2_weighedValuesWithout 17 = .ok (.iload 9, 2) := by decide +kernel
theorem dX2_weighedValuesWithout_19 : decode cX2_weighedValuesWithout 19 = .ok (.iload 8, 2) := by decide +kernel
theorem dX2_weighedValuesWithout_21 : decode cX2_weighedValuesWithout 21 = .ok (.if_icmp .ge 53, 3) := by decide +kernel
theorem dX2_weighedValuesWithout_24 : decode cX2_weighedValuesWithout 24 = .ok (.aload 7, 2) := by decide +kernel
theorem dX2_weighedValuesWithout_26 : decode cX2_weighedValuesWithout 26 = .ok (.iload 9, 2) := by decide +kernel
theorem dX2_weighedValuesWithout_28 : decode cX2_weighedValuesWithout 28 = .ok (.aaload, 1) := by decide +kernel
theorem dX2_weighedValuesWithout_29 : decode cX2_weighedValuesWithout 29 = .ok (.astore 10, 2) := by decide +kernel
theorem dX2_weighedValuesWithout_31 : decode cX2_weighedValuesWithout 31 = .ok (.aload 10, 2) := by decide +kernel
theorem dX2_weighedValuesWithout_33 : decode cX2_weighedValuesWithout 33 = .ok (.aload_n 1, 1) := by decide +kernel
theorem dX2_weighedValuesWithout_34 : decode cX2_weighedValuesWithout 34 = .ok (.if_acmp .eq 34, 3) := by decide +kernel
theorem dX2_weighedValuesWithout_37 : decode cX2_weighedValuesWithout 37 = .ok (.aload_n 0, 1) := by decide +kernel
theorem dX2_weighedValuesWithout_38 : decode cX2_weighedValuesWithout 38 = .ok (.aload 10, 2) := by decide +kernel
theorem dX2_weighedValuesWithout_40 : decode cX2_weighedValuesWithout 40 = .ok (.iload_n 3, 1) := by decide +kernel
theorem dX2_weighedValuesWithout_41 : decode cX2_weighedValuesWithout 41 = .ok (.iload 4, 2) := by decide +kernel
theorem dX2_weighedValuesWithout_43 : decode cX2_weighedValuesWithout 43 = .ok (.invokevirtual 64, 3) := by decide +kernel
theorem dX2_weighedValuesWithout_46 : decode cX2_weighedValuesWithout 46 = .ok (.ifCond .eq 22, 3) := by decide +kernel
theorem dX2_weighedValuesWithout_49 : decode cX2_weighedValuesWithout 49 = .ok (.lload 5, 2) := by decide +kernel
theorem dX2_weighedValuesWithout_51 : decode cX2_weighedValuesWithout 51 = .ok (.aload 10, 2) := by decide +kernel
theorem dX2_weighedValuesWithout_53 : decode cX2_weighedValuesWithout 53 = .ok (.invokevirtual 71, 3) := by decide +kernel
theorem dX2_weighedValuesWithout_56 : decode cX2_weighedValuesWithout 56 = .ok (.i2l, 1) := by decide +kernel
theorem dX2_weighedValuesWithout_57 : decode cX2_weighedValuesWithout 57 = .ok (.aload 10, 2) := by decide +kernel
theorem dX2_weighedValuesWithout_59 : decode cX2_weighedValuesWithout 59 = .ok (.iload_n 2, 1) := by decide +kernel
theorem dX2_weighedValuesWithout_60 : decode cX2_weighedValuesWithout 60 = .ok (.invokevirtual 68, 3) := by decide +kernel
theorem dX2_weighedValuesWithout_63 : decode cX2_weighedValuesWithout 63 = .ok (.i2l, 1) := by decide +kernel
theorem dX2_weighedValuesWithout_64 : decode cX2_weighedValuesWithout 64 = .ok (.lmul, 1) := by decide +kernel
theorem dX2_weighedValuesWithout_65 : decode cX2_weighedValuesWithout 65 = .ok (.ladd, 1) := by decide +kernel
theorem dX2_weighedValuesWithout_66 : decode cX2_weighedValuesWithout 66 = .ok (.lstore 5, 2) := by decide +kernel
theorem dX2_weighedValuesWithout_68 : decode cX2_weighedValuesWithout 68 = .ok (.iinc 9 1, 3) := by decide +kernel
theorem dX2_weighedValuesWithout_71 : decode cX2_weighedValuesWithout 71 = .ok (.goto (-54), 3) := by decide +kernel
theorem dX2_weighedValuesWithout_74 : decode cX2_weighedValuesWithout 74 = .ok (.lload 5, 2) := by decide +kernel
theorem dX2_weighedValuesWithout_76 : decode cX2_weighedValuesWithout 76 = .ok (.lreturn, 1) := by decide +kernel
theorem dX2_isInSpan_0 : decode cX2_isInSpan 0 = .ok (.aload_n 1, 1) := by decide +kernel
theorem dX2_isInSpan_1 : decode cX2_isInSpan 1 = .ok (.ifnull 27, 3) := by decide +kernel
theorem dX2_isInSpan_4 : decode cX2_isInSpan 4 = .ok (.aload_n 1, 1) := by decide +kernel
theorem dX2_isInSpan_5 : decode cX2_isInSpan 5 = .ok (.iload_n 2, 1) := by decide +kernel
theorem dX2_isInSpan_6 : decode cX2_isInSpan 6 = .ok (.invokevirtual 60, 3) := by decide +kernel
theorem dX2_isInSpan_9 : decode cX2_isInSpan 9 = .ok (.iload_n 3, 1) := by decide +kernel
theorem dX2_isInSpan_10 : decode cX2_isInSpan 10 = .ok (.if_icmp .gt 18, 3) := by decide +kernel
theorem dX2_isInSpan_13 : decode cX2_isInSpan 13 = .ok (.aload_n 1, 1) := by decide +kernel
theorem dX2_isInSpan_14 : decode cX2_isInSpan 14 = .ok (.aload_n 0, 1) := by decide +kernel
theorem dX2_isInSpan_15 : decode cX2_isInSpan 15 = .ok (.getfield 17, 3) := by decide +kernel
theorem dX2_isInSpan_18 : decode cX2_isInSpan 18 = .ok (.invokevirtual 75, 3) := by decide +kernel
theorem dX2_isInSpan_21 : decode cX2_isInSpan 21 = .ok (.ifCond .ne 7, 3) := by decide +kernel
theorem dX2_isInSpan_24 : decode cX2_isInSpan 24 = .ok (.iconst 1, 1) := by decide +kernel
theorem dX2_isInSpan_25 : decode cX2_isInSpan 25 = .ok (.goto 4, 3) := by decide +kernel
theorem dX2_isInSpan_28 : decode cX2_isInSpan 28 = .ok (.iconst 0, 1) := by decide +kernel
theorem dX2_isInSpan_29 : decode cX2_isInSpan 29 = .ok (.ireturn, 1) := by decide +kernel
theorem dX3_init_0 : decode cX3_init 0 = .ok (.aload_n 0, 1) := by decide +kernel
theorem dX3_init_1 : decode cX3_init 1 = .ok (.invokespecial 1, 3) := by decide +kernel
theorem dX3_init_4 : decode cX3_init 4 = .ok (.aload_n 0, 1) := by decide +kernel
theorem dX3_init_5 : decode cX3_init 5 = .ok (.iload_n 1, 1) := by decide +kernel
theorem dX3_init_6 : decode cX3_init 6 = .ok (.putfield 7, 3) := by decide +kernel
theorem dX3_init_9 : decode cX3_init 9 = .ok (.aload_n 0, 1) := by decide +kernel
theorem dX3_init_10 : decode cX3_init 10 = .ok (.iload_n 2, 1) := by decide +kernel
theorem dX3_init_11 : decode cX3_init 11 = .ok (.putfield 13, 3) := by decide +kernel
theorem dX3_init_14 : decode cX3_init 14 = .ok (.aload_n 0, 1) := by decide +kernel
theorem dX3_init_15 : decode cX3_init 15 = .ok (.iload_n 3, 1) := by decide +kernel
theorem dX3_init_16 : decode cX3_init 16 = .ok (.putfield 16, 3) := by decide +kernel
theorem dX3_init_19 : decode cX3_init 19 = .ok (.return_, 1) := by decide +kernel
theorem dX3_heightAt_0 : decode cX3_heightAt 0 = .ok (.aload_n 0, 1) := by decide +kernel
theorem dX3_heightAt_1 : decode cX3_heightAt 1 = .ok (.getfield 7, 3) := by decide +kernel
theorem dX3_heightAt_4 : decode cX3_heightAt 4 = .ok (.ifCond .gt 5, 3) := by decide +kernel
theorem dX3_heightAt_7 : decode cX3_heightAt 7 = .ok (.iconst 0, 1) := by decide +kernel
theorem dX3_heightAt_8 : decode cX3_heightAt 8 = .ok (.ireturn, 1) := by decide +kernel
theorem dX3_heightAt_9 : decode cX3_heightAt 9 = .ok (.iload_n 1, 1) := by decide +kernel
theorem dX3_heightAt_10 : decode cX3_heightAt 10 = .ok (.aload_n 0, 1) := by decide +kernel
theorem dX3_heightAt_11 : decode cX3_heightAt 11 = .ok (.getfield 16, 3) := by decide +kernel
theorem dX3_heightAt_14 : decode cX3_heightAt 14 = .ok (.iadd, 1) := by decide +kernel
theorem dX3_heightAt_15 : decode cX3_heightAt 15 = .ok (.aload_n 0, 1) := by decide +kernel
theorem dX3_heightAt_16 : decode cX3_heightAt 16 = .ok (.getfield 7, 3) := by decide +kernel
theorem dX3_heightAt_19 : decode cX3_heightAt 19 = .ok (.irem, 1) := by decide +kernel
theorem dX3_heightAt_20 : decode cX3_heightAt 20 = .ok (.istore_n 2, 1) := by decide +kernel
theorem dX3_heightAt_21 : decode cX3_heightAt 21 = .ok (.aload_n 0, 1) := by decide +kernel
theorem dX3_heightAt_22 : decode cX3_heightAt 22 = .ok (.getfield 13, 3) := by decide +kernel
theorem dX3_heightAt_25 : decode cX3_heightAt 25 = .ok (.iconst 2, 1) := by decide +kernel
theorem dX3_heightAt_26 : decode cX3_heightAt 26 = .ok (.iconst 2, 1) := by decide +kernel
theorem dX3_heightAt_27 : decode cX3_heightAt 27 = .ok (.iload_n 2, 1) := by decide +kernel
theorem dX3_heightAt_28 : decode cX3_heightAt 28 = .ok (.imul, 1) := by decide +kernel
theorem dX3_heightAt_29 : decode cX3_heightAt 29 = .ok (.aload_n 0, 1) := by decide +kernel
theorem dX3_heightAt_30 : decode cX3_heightAt 30 = .ok (.getfield 7, 3) := by decide +kernel
theorem dX3_heightAt_33 : decode cX3_heightAt 33 = .ok (.isub, 1) := by decide +kernel
theorem dX3_heightAt_34 : decode cX3_heightAt 34 = .ok (.invokestatic 19, 3) := by decide +kernel
theorem dX3_heightAt_37 : decode cX3_heightAt 37 = .ok (.imul, 1) := by decide +kernel
theorem dX3_heightAt_38 : decode cX3_heightAt 38 = .ok (.aload_n 0, 1) := by decide +kernel
theorem dX3_heightAt_39 : decode cX3_heightAt 39 = .ok (.getfield 7, 3) := by decide +kernel
theorem dX3_heightAt_42 : decode cX3_heightAt 42 = .ok (.isub, 1) := by decide +kernel
theorem dX3_heightAt_43 : decode cX3_heightAt 43 = .ok (.imul, 1) := by decide +kernel
theorem dX3_heightAt_44 : decode cX3_heightAt 44 = .ok (.aload_n 0, 1) := by decide +kernel
theorem dX3_heightAt_45 : decode cX3_heightAt 45 = .ok (.getfield 7, 3) := by decide +kernel
theorem dX3_heightAt_48 : decode cX3_heightAt 48 = .ok (.idiv, 1) := by decide +kernel
theorem dX3_heightAt_49 : decode cX3_heightAt 49 = .ok (.ireturn, 1) := by decide +kernel
theorem dX4_init_0 : decode cX4_init 0 = .ok (.aload_n 0, 1) := by decide +kernel
theorem dX4_init_1 : decode cX4_init 1 = .ok (.invokespecial 3, 3) := by decide +kernel
theorem dX4_init_4 : decode cX4_init 4 = .ok (.aload_n 0, 1) := by decide +kernel
theorem dX4_init_5 : decode cX4_init 5 = .ok (.iconst (-1), 1) := by decide +kernel
theorem dX4_init_6 : decode cX4_init 6 = .ok (.putfield 9, 3) := by decide +kernel
theorem dX4_init_9 : decode cX4_init 9 = .ok (.aload_n 0, 1) := by decide +kernel
theorem dX4_init_10 : decode cX4_init 10 = .ok (.iload_n 1, 1) := by decide +kernel
theorem dX4_init_11 : decode cX4_init 11 = .ok (.putfield 15, 3) := by decide +kernel
theorem dX4_init_14 : decode cX4_init 14 = .ok (.aload_n 0, 1) := by decide +kernel
theorem dX4_init_15 : decode cX4_init 15 = .ok (.iload_n 2, 1) := by decide +kernel
theorem dX4_init_16 : decode cX4_init 16 = .ok (.putfield 18, 3) := by decide +kernel
theorem dX4_init_19 : decode cX4_init 19 = .ok (.aload_n 0, 1) := by decide +kernel
theorem dX4_init_20 : decode cX4_init 20 = .ok (.iload_n 3, 1) := by decide +kernel
theorem dX4_init_21 : decode cX4_init 21 = .ok (.putfield 21, 3) := by decide +kernel
theorem dX4_init_24 : decode cX4_init 24 = .ok (.aload_n 0, 1) := by decide +kernel
theorem dX4_init_25 : decode cX4_init 25 = .ok (.aload 4, 2) := by decide +kernel
theorem dX4_init_27 : decode cX4_init 27 = .ok (.putfield 24, 3) := by decide +kernel
theorem dX4_init_30 : decode cX4_init 30 = .ok (.return_, 1) := by decide +kernel
theorem dX4_corrected_0 : decode cX4_corrected 0 = .ok (.aload_n 0, 1) := by decide +kernel
theorem dX4_corrected_1 : decode cX4_corrected 1 = .ok (.getfield 24, 3) := by decide +kernel
theorem dX4_corrected_4 : decode cX4_corrected 4 = .ok (.ifnonnull 10, 3) := by decide +kernel
theorem dX4_corrected_7 : decode cX4_corrected 7 = .ok (.aload_n 0, 1) := by decide +kernel
theorem dX4_corrected_8 : decode cX4_corrected 8 = .ok (.getfield 21, 3) := by decide +kernel
theorem dX4_corrected_11 : decode cX4_corrected 11 = .ok (.goto 15, 3) := by decide +kernel
theorem dX4_corrected_14 : decode cX4_corrected 14 = .ok (.aload_n 0, 1) := by decide +kernel
theorem dX4_corrected_15 : decode cX4_corrected 15 = .ok (.getfield 21, 3) := by decide +kernel
theorem dX4_corrected_18 : decode cX4_corrected 18 = .ok (.aload_n 0, 1) := by decide +kernel
theorem dX4_corrected_19 : decode cX4_corrected 19 = .ok (.getfield 24, 3) := by decide +kernel
theorem dX4_corrected_22 : decode cX4_corrected 22 = .ok (.getfield 28, 3) := by decide +kernel
theorem dX4_corrected_25 : decode cX4_corrected 25 = .ok (.isub, 1) := by decide +kernel
theorem dX4_corrected_26 : decode cX4_corrected 26 = .ok (.ireturn, 1) := by decide +kernel
theorem dX4_flagBy_0 : decode cX4_flagBy 0 = .ok (.aload_n 0, 1) := by decide +kernel
theorem dX4_flagBy_1 : decode cX4_flagBy 1 = .ok (.getfield 9, 3) := by decide +kernel
theorem dX4_flagBy_4 : decode cX4_flagBy 4 = .ok (.iconst (-1), 1) := by decide +kernel
theorem dX4_flagBy_5 : decode cX4_flagBy 5 = .ok (.if_icmp .eq 8, 3) := by decide +kernel
theorem dX4_flagBy_8 : decode cX4_flagBy 8 = .ok (.aload_n 0, 1) := by decide +kernel
theorem dX4_flagBy_9 : decode cX4_flagBy 9 = .ok (.getfield 9, 3) := by decide +kernel
theorem dX4_flagBy_12 : decode cX4_flagBy 12 = .ok (.ireturn, 1) := by decide +kernel
theorem dX4_flagBy_13 : decode cX4_flagBy 13 = .ok (.aload_n 0, 1) := by decide +kernel
theorem dX4_flagBy_14 : decode cX4_flagBy 14 = .ok (.iload_n 1, 1) := by decide +kernel
theorem dX4_flagBy_15 : decode cX4_flagBy 15 = .ok (.invokevirtual 33, 3) := by decide +kernel
theorem dX4_flagBy_18 : decode cX4_flagBy 18 = .ok (.ifCond .eq 7, 3) := by decide +kernel
theorem dX4_flagBy_21 : decode cX4_flagBy 21 = .ok (.iconst 1, 1) := by decide +kernel
theorem dX4_flagBy_22 : decode cX4_flagBy 22 = .ok (.goto 4, 3) := by decide +kernel
theorem dX4_flagBy_25 : decode cX4_flagBy 25 = .ok (.iconst 0, 1) := by decide +kernel
theorem dX4_flagBy_26 : decode cX4_flagBy 26 = .ok (.ireturn, 1) := by decide +kernel
theorem dX4_isSpike_0 : decode cX4_isSpike 0 = .ok (.aload_n 0, 1) := by decide +kernel
theorem dX4_isSpike_1 : decode cX4_isSpike 1 = .ok (.getfield 37, 3) := by decide +kernel
theorem dX4_isSpike_4 : decode cX4_isSpike 4 = .ok (.ifnull 10, 3) := by decide +kernel
theorem dX4_isSpike_7 : decode cX4_isSpike 7 = .ok (.aload_n 0, 1) := by decide +kernel
theorem dX4_isSpike_8 : decode cX4_isSpike 8 = .ok (.getfield 41, 3) := by decide +kernel
theorem dX4_isSpike_11 : decode cX4_isSpike 11 = .ok (.ifnonnull 5, 3) := by decide +kernel
theorem dX4_isSpike_14 : decode cX4_isSpike 14 = .ok (.iconst 0, 1) := by decide +kernel
theorem dX4_isSpike_15 : decode cX4_isSpike 15 = .ok (.ireturn, 1) := by decide +kernel
theorem dX4_isSpike_16 : decode cX4_isSpike 16 = .ok (.aload_n 0, 1) := by decide +kernel
theorem dX4_isSpike_17 : decode cX4_isSpike 17 = .ok (.invokevirtual 44, 3) := by decide +kernel
theorem dX4_isSpike_20 : decode cX4_isSpike 20 = .ok (.aload_n 0, 1) := by decide +kernel
theorem dX4_isSpike_21 : decode cX4_isSpike 21 = .ok (.getfield 37, 3) := by decide +kernel
theorem dX4_isSpike_24 : decode cX4_isSpike 24 = .ok (.invokevirtual 44, 3) := by decide +kernel
theorem dX4_isSpike_27 : decode cX4_isSpike 27 = .ok (.isub, 1) := by decide +kernel
theorem dX4_isSpike_28 : decode cX4_isSpike 28 = .ok (.istore_n 2, 1) := by decide +kernel
theorem dX4_isSpike_29 : decode cX4_isSpike 29 = .ok (.aload_n 0, 1) := by decide +kernel
theorem dX4_isSpike_30 : decode cX4_isSpike 30 = .ok (.invokevirtual 44, 3) := by decide +kernel
theorem dX4_isSpike_33 : decode cX4_isSpike 33 = .ok (.aload_n 0, 1) := by decide +kernel
theorem dX4_isSpike_34 : decode cX4_isSpike 34 = .ok (.getfield 41, 3) := by decide +kernel
theorem dX4_isSpike_37 : decode cX4_isSpike 37 = .ok (.invokevirtual 44, 3) := by decide +kernel
theorem dX4_isSpike_40 : decode cX4_isSpike 40 = .ok (.isub, 1) := by decide +kernel
theorem dX4_isSpike_41 : decode cX4_isSpike 41 = .ok (.istore_n 3, 1) := by decide +kernel
theorem dX4_isSpike_42 : decode cX4_isSpike 42 = .ok (.iload_n 2, 1) := by decide +kernel
theorem dX4_isSpike_43 : decode cX4_isSpike 43 = .ok (.iload_n 1, 1) := by decide +kernel
theorem dX4_isSpike_44 : decode cX4_isSpike 44 = .ok (.if_icmp .le 8, 3) := by decide +kernel
theorem dX4_isSpike_47 : decode cX4_isSpike 47 = .ok (.iload_n 3, 1) := by decide +kernel
theorem dX4_isSpike_48 : decode cX4_isSpike 48 = .ok (.iload_n 1, 1) := by decide +kernel
theorem dX4_isSpike_49 : decode cX4_isSpike 49 = .ok (.if_icmp .gt 15, 3) := by decide +kernel
theorem dX4_isSpike_52 : decode cX4_isSpike 52 = .ok (.iload_n 2, 1) := by decide +kernel
theorem dX4_isSpike_53 : decode cX4_isSpike 53 = .ok (.iload_n 1, 1) := by decide +kernel
theorem dX4_isSpike_54 : decode cX4_isSpike 54 = .ok (.ineg, 1) := by decide +kernel
theorem dX4_isSpike_55 : decode cX4_isSpike 55 = .ok (.if_icmp .ge 13, 3) := by decide +kernel
theorem dX4_isSpike_58 : decode cX4_isSpike 58 = .ok (.iload_n 3, 1) := by decide +kernel
theorem dX4_isSpike_59 : decode cX4_isSpike 59 = .ok (.iload_n 1, 1) := by decide +kernel
theorem dX4_isSpike_60 : decode cX4_isSpike 60 = .ok (.ineg, 1) := by decide +kernel
theorem dX4_isSpike_61 : decode cX4_isSpike 61 = .ok (.if_icmp .ge 7, 3) := by decide +kernel
theorem dX4_isSpike_64 : decode cX4_isSpike 64 = .ok (.iconst 1, 1) := by decide +kernel
theorem dX4_isSpike_65 : decode cX4_isSpike 65 = .ok (.goto 4, 3) := by decide +kernel
theorem dX4_isSpike_68 : decode cX4_isSpike 68 = .ok (.iconst 0, 1) := by decide +kernel
theorem dX4_isSpike_69 : decode cX4_isSpike 69 = .ok (.ireturn, 1) := by decide +kernel
theorem dX4_daysFrom_0 : decode cX4_daysFrom 0 = .ok (.aload_n 0, 1) := by decide +kernel
theorem dX4_daysFrom_1 : decode cX4_daysFrom 1 = .ok (.getfield 15, 3) := by decide +kernel
theorem dX4_daysFrom_4 : decode cX4_daysFrom 4 = .ok (.iload_n 1, 1) := by decide +kernel
theorem dX4_daysFrom_5 : decode cX4_daysFrom 5 = .ok (.isub, 1) := by decide +kernel
theorem dX4_daysFrom_6 : decode cX4_daysFrom 6 = .ok (.invokestatic 48, 3) := by decide +kernel
theorem dX4_daysFrom_9 : decode cX4_daysFrom 9 = .ok (.ireturn, 1) := by decide +kernel
theorem dX4_weightIn_0 : decode cX4_weightIn 0 = .ok (.aload_n 0, 1) := by decide +kernel
theorem dX4_weightIn_1 : decode cX4_weightIn 1 = .ok (.getfield 18, 3) := by decide +kernel
theorem dX4_weightIn_4 : decode cX4_weightIn 4 = .ok (.bipush 10, 2) := by decide +kernel
theorem dX4_weightIn_6 : decode cX4_weightIn 6 = .ok (.irem, 1) := by decide +kernel
theorem dX4_weightIn_7 : decode cX4_weightIn 7 = .ok (.iload_n 1, 1) := by decide +kernel
theorem dX4_weightIn_8 : decode cX4_weightIn 8 = .ok (.bipush 10, 2) := by decide +kernel
theorem dX4_weightIn_10 : decode cX4_weightIn 10 = .ok (.irem, 1) := by decide +kernel
theorem dX4_weightIn_11 : decode cX4_weightIn 11 = .ok (.isub, 1) := by decide +kernel
theorem dX4_weightIn_12 : decode cX4_weightIn 12 = .ok (.invokestatic 48, 3) := by decide +kernel
theorem dX4_weightIn_15 : decode cX4_weightIn 15 = .ok (.aload_n 0, 1) := by decide +kernel
theorem dX4_weightIn_16 : decode cX4_weightIn 16 = .ok (.getfield 18, 3) := by decide +kernel
theorem dX4_weightIn_19 : decode cX4_weightIn 19 = .ok (.bipush 10, 2) := by decide +kernel
theorem dX4_weightIn_21 : decode cX4_weightIn 21 = .ok (.idiv, 1) := by decide +kernel
theorem dX4_weightIn_22 : decode cX4_weightIn 22 = .ok (.iload_n 1, 1) := by decide +kernel
theorem dX4_weightIn_23 : decode cX4_weightIn 23 = .ok (.bipush 10, 2) := by decide +kernel
theorem dX4_weightIn_25 : decode cX4_weightIn 25 = .ok (.idiv, 1) := by decide +kernel
theorem dX4_weightIn_26 : decode cX4_weightIn 26 = .ok (.isub, 1) := by decide +kernel
theorem dX4_weightIn_27 : decode cX4_weightIn 27 = .ok (.invokestatic 48, 3) := by decide +kernel
theorem dX4_weightIn_30 : decode cX4_weightIn 30 = .ok (.iadd, 1) := by decide +kernel
theorem dX4_weightIn_31 : decode cX4_weightIn 31 = .ok (.istore_n 2, 1) := by decide +kernel
theorem dX4_weightIn_32 : decode cX4_weightIn 32 = .ok (.iconst 0, 1) := by decide +kernel
theorem dX4_weightIn_33 : decode cX4_weightIn 33 = .ok (.bipush 8, 2) := by decide +kernel
theorem dX4_weightIn_35 : decode cX4_weightIn 35 = .ok (.iload_n 2, 1) := by decide +kernel
theorem dX4_weightIn_36 : decode cX4_weightIn 36 = .ok (.isub, 1) := by decide +kernel
theorem dX4_weightIn_37 : decode cX4_weightIn 37 = .ok (.invokestatic 54, 3) := by decide +kernel
theorem dX4_weightIn_40 : decode cX4_weightIn 40 = .ok (.ireturn, 1) := by decide +kernel
theorem dX5_init_0 : decode cX5_init 0 = .ok (.aload_n 0, 1) := by decide +kernel
theorem dX5_init_1 : decode cX5_init 1 = .ok (.invokespecial 3, 3) := by decide +kernel
theorem dX5_init_4 : decode cX5_init 4 = .ok (.aload_n 0, 1) := by decide +kernel
theorem dX5_init_5 : decode cX5_init 5 = .ok (.new 9, 3) := by decide +kernel
theorem dX5_init_8 : decode cX5_init 8 = .ok (.dup, 1) := by decide +kernel
theorem dX5_init_9 : decode cX5_init 9 = .ok (.sipush 1000, 3) := by decide +kernel
theorem dX5_init_12 : decode cX5_init 12 = .ok (.sipush 350, 3) := by decide +kernel
theorem dX5_init_15 : decode cX5_init 15 = .ok (.invokespecial 11, 3) := by decide +kernel
theorem dX5_init_18 : decode cX5_init 18 = .ok (.putfield 14, 3) := by decide +kernel
theorem dX5_init_21 : decode cX5_init 21 = .ok (.aload_n 0, 1) := by decide +kernel
theorem dX5_init_22 : decode cX5_init 22 = .ok (.new 9, 3) := by decide +kernel
theorem dX5_init_25 : decode cX5_init 25 = .ok (.dup, 1) := by decide +kernel
theorem dX5_init_26 : decode cX5_init 26 = .ok (.sipush 400, 3) := by decide +kernel
theorem dX5_init_29 : decode cX5_init 29 = .ok (.sipush 360, 3) := by decide +kernel
theorem dX5_init_32 : decode cX5_init 32 = .ok (.invokespecial 11, 3) := by decide +kernel
theorem dX5_init_35 : decode cX5_init 35 = .ok (.putfield 20, 3) := by decide +kernel
theorem dX5_init_38 : decode cX5_init 38 = .ok (.aload_n 0, 1) := by decide +kernel
theorem dX5_init_39 : decode cX5_init 39 = .ok (.bipush 60, 2) := by decide +kernel
theorem dX5_init_41 : decode cX5_init 41 = .ok (.newarray .int, 2) := by decide +kernel
theorem dX5_init_43 : decode cX5_init 43 = .ok (.putfield 23, 3) := by decide +kernel
theorem dX5_init_46 : decode cX5_init 46 = .ok (.aload_n 0, 1) := by decide +kernel
theorem dX5_init_47 : decode cX5_init 47 = .ok (.bipush 6, 2) := by decide +kernel
theorem dX5_init_49 : decode cX5_init 49 = .ok (.newarray .int, 2) := by decide +kernel
theorem dX5_init_51 : decode cX5_init 51 = .ok (.putfield 27, 3) := by decide +kernel
theorem dX5_init_54 : decode cX5_init 54 = .ok (.aload_n 0, 1) := by decide +kernel
theorem dX5_init_55 : decode cX5_init 55 = .ok (.bipush 60, 2) := by decide +kernel
theorem dX5_init_57 : decode cX5_init 57 = .ok (.newarray .boolean, 2) := by decide +kernel
theorem dX5_init_59 : decode cX5_init 59 = .ok (.putfield 30, 3) := by decide +kernel
theorem dX5_init_62 : decode cX5_init 62 = .ok (.aload_n 0, 1) := by decide +kernel
theorem dX5_init_63 : decode cX5_init 63 = .ok (.bipush 60, 2) := by decide +kernel
theorem dX5_init_65 : decode cX5_init 65 = .ok (.newarray .int, 2) := by decide +kernel
theorem dX5_init_67 : decode cX5_init 67 = .ok (.putfield 34, 3) := by decide +kernel
theorem dX5_init_70 : decode cX5_init 70 = .ok (.return_, 1) := by decide +kernel
theorem dX5_isLand_0 : decode cX5_isLand 0 = .ok (.iload_n 1, 1) := by decide +kernel
theorem dX5_isLand_1 : decode cX5_isLand 1 = .ok (.invokestatic 37, 3) := by decide +kernel
theorem dX5_isLand_4 : decode cX5_isLand 4 = .ok (.ifCond .eq 16, 3) := by decide +kernel
theorem dX5_isLand_7 : decode cX5_isLand 7 = .ok (.aload_n 0, 1) := by decide +kernel
theorem dX5_isLand_8 : decode cX5_isLand 8 = .ok (.getfield 30, 3) := by decide +kernel
theorem dX5_isLand_11 : decode cX5_isLand 11 = .ok (.iload_n 1, 1) := by decide +kernel
theorem dX5_isLand_12 : decode cX5_isLand 12 = .ok (.baload, 1) := by decide +kernel
theorem dX5_isLand_13 : decode cX5_isLand 13 = .ok (.ifCond .eq 7, 3) := by decide +kernel
theorem dX5_isLand_16 : decode cX5_isLand 16 = .ok (.iconst 1, 1) := by decide +kernel
theorem dX5_isLand_17 : decode cX5_isLand 17 = .ok (.goto 4, 3) := by decide +kernel
theorem dX5_isLand_20 : decode cX5_isLand 20 = .ok (.iconst 0, 1) := by decide +kernel
theorem dX5_isLand_21 : decode cX5_isLand 21 = .ok (.ireturn, 1) := by decide +kernel
theorem dX5_upperHeat_0 : decode cX5_upperHeat 0 = .ok (.iload_n 1, 1) := by decide +kernel
theorem dX5_upperHeat_1 : decode cX5_upperHeat 1 = .ok (.invokestatic 37, 3) := by decide +kernel
theorem dX5_upperHeat_4 : decode cX5_upperHeat 4 = .ok (.ifCond .eq 15, 3) := by decide +kernel
theorem dX5_upperHeat_7 : decode cX5_upperHeat 7 = .ok (.aload_n 0, 1) := by decide +kernel
theorem dX5_upperHeat_8 : decode cX5_upperHeat 8 = .ok (.getfield 14, 3) := by decide +kernel
theorem dX5_upperHeat_11 : decode cX5_upperHeat 11 = .ok (.getfield 41, 3) := by decide +kernel
theorem dX5_upperHeat_14 : decode cX5_upperHeat 14 = .ok (.iload_n 1, 1) := by decide +kernel
theorem dX5_upperHeat_15 : decode cX5_upperHeat 15 = .ok (.iaload, 1) := by decide +kernel
theorem dX5_upperHeat_16 : decode cX5_upperHeat 16 = .ok (.goto 4, 3) := by decide +kernel
theorem dX5_upperHeat_19 : decode cX5_upperHeat 19 = .ok (.iconst 0, 1) := by decide +kernel
theorem dX5_upperHeat_20 : decode cX5_upperHeat 20 = .ok (.ireturn, 1) := by decide +kernel
theorem dX5_makeLand_0 : decode cX5_makeLand 0 = .ok (.iload_n 1, 1) := by decide +kernel
theorem dX5_makeLand_1 : decode cX5_makeLand 1 = .ok (.invokestatic 37, 3) := by decide +kernel
theorem dX5_makeLand_4 : decode cX5_makeLand 4 = .ok (.ifCond .eq 45, 3) := by decide +kernel
theorem dX5_makeLand_7 : decode cX5_makeLand 7 = .ok (.aload_n 0, 1) := by decide +kernel
theorem dX5_makeLand_8 : decode cX5_makeLand 8 = .ok (.getfield 30, 3) := by decide +kernel
theorem dX5_makeLand_11 : decode cX5_makeLand 11 = .ok (.iload_n 1, 1) := by decide +kernel
theorem dX5_makeLand_12 : decode cX5_makeLand 12 = .ok (.baload, 1) := by decide +kernel
theorem dX5_makeLand_13 : decode cX5_makeLand 13 = .ok (.ifCond .ne 36, 3) := by decide +kernel
theorem dX5_makeLand_16 : decode cX5_makeLand 16 = .ok (.aload_n 0, 1) := by decide +kernel
theorem dX5_makeLand_17 : decode cX5_makeLand 17 = .ok (.getfield 30, 3) := by decide +kernel
theorem dX5_makeLand_20 : decode cX5_makeLand 20 = .ok (.iload_n 1, 1) := by decide +kernel
theorem dX5_makeLand_21 : decode cX5_makeLand 21 = .ok (.iconst 1, 1) := by decide +kernel
theorem dX5_makeLand_22 : decode cX5_makeLand 22 = .ok (.bastore, 1) := by decide +kernel
theorem dX5_makeLand_23 : decode cX5_makeLand 23 = .ok (.aload_n 0, 1) := by decide +kernel
theorem dX5_makeLand_24 : decode cX5_makeLand 24 = .ok (.dup, 1) := by decide +kernel
theorem dX5_makeLand_25 : decode cX5_makeLand 25 = .ok (.getfield 44, 3) := by decide +kernel
theorem dX5_makeLand_28 : decode cX5_makeLand 28 = .ok (.iconst 1, 1) := by decide +kernel
theorem dX5_makeLand_29 : decode cX5_makeLand 29 = .ok (.iadd, 1) := by decide +kernel
theorem dX5_makeLand_30 : decode cX5_makeLand 30 = .ok (.putfield 44, 3) := by decide +kernel
theorem dX5_makeLand_33 : decode cX5_makeLand 33 = .ok (.aload_n 0, 1) := by decide +kernel
theorem dX5_makeLand_34 : decode cX5_makeLand 34 = .ok (.getfield 14, 3) := by decide +kernel
theorem dX5_makeLand_37 : decode cX5_makeLand 37 = .ok (.iload_n 1, 1) := by decide +kernel
theorem dX5_makeLand_38 : decode cX5_makeLand 38 = .ok (.invokevirtual 48, 3) := by decide +kernel
theorem dX5_makeLand_41 : decode cX5_makeLand 41 = .ok (.aload_n 0, 1) := by decide +kernel
theorem dX5_makeLand_42 : decode cX5_makeLand 42 = .ok (.getfield 20, 3) := by decide +kernel
theorem dX5_makeLand_45 : decode cX5_makeLand 45 = .ok (.iload_n 1, 1) := by decide +kernel
theorem dX5_makeLand_46 : decode cX5_makeLand 46 = .ok (.invokevirtual 48, 3) := by decide +kernel
theorem dX5_makeLand_49 : decode cX5_makeLand 49 = .ok (.aload_n 0, 1) := by decide +kernel
theorem dX5_makeLand_50 : decode cX5_makeLand 50 = .ok (.getfield 44, 3) := by decide +kernel
theorem dX5_makeLand_53 : decode cX5_makeLand 53 = .ok (.ireturn, 1) := by decide +kernel
theorem dX5_seaBeside_0 : decode cX5_seaBeside 0 = .ok (.iload_n 1, 1) := by decide +kernel
theorem dX5_seaBeside_1 : decode cX5_seaBeside 1 = .ok (.invokestatic 37, 3) := by decide +kernel
theorem dX5_seaBeside_4 : decode cX5_seaBeside 4 = .ok (.ifCond .ne 5, 3) := by decide +kernel
theorem dX5_seaBeside_7 : decode cX5_seaBeside 7 = .ok (.iconst (-1), 1) := by decide +kernel
theorem dX5_seaBeside_8 : decode cX5_seaBeside 8 = .ok (.ireturn, 1) := by decide +kernel
theorem dX5_seaBeside_9 : decode cX5_seaBeside 9 = .ok (.iload_n 1, 1) := by decide +kernel
theorem dX5_seaBeside_10 : decode cX5_seaBeside 10 = .ok (.bipush 10, 2) := by decide +kernel
theorem dX5_seaBeside_12 : decode cX5_seaBeside 12 = .ok (.irem, 1) := by decide +kernel
theorem dX5_seaBeside_13 : decode cX5_seaBeside 13 = .ok (.istore_n 3, 1) := by decide +kernel
theorem dX5_seaBeside_14 : decode cX5_seaBeside 14 = .ok (.iload_n 1, 1) := by decide +kernel
theorem dX5_seaBeside_15 : decode cX5_seaBeside 15 = .ok (.bipush 10, 2) := by decide +kernel
theorem dX5_seaBeside_17 : decode cX5_seaBeside 17 = .ok (.idiv, 1) := by decide +kernel
theorem dX5_seaBeside_18 : decode cX5_seaBeside 18 = .ok (.istore 4, 2) := by decide +kernel
theorem dX5_seaBeside_20 : decode cX5_seaBeside 20 = .ok (.iload_n 2, 1) := by decide +kernel
theorem dX5_seaBeside_21 : decode cX5_seaBeside 21 = .ok (.tableswitch 55 1 4 #[31, 37, 43, 49], 31) := by decide +kernel
theorem dX5_seaBeside_52 : decode cX5_seaBeside 52 = .ok (.iinc 3 1, 3) := by decide +kernel
theorem dX5_seaBeside_55 : decode cX5_seaBeside 55 = .ok (.goto 23, 3) := by decide +kernel
theorem dX5_seaBeside_58 : decode cX5_seaBeside 58 = .ok (.iinc 3 (-1), 3) := by decide +kernel
theorem dX5_seaBeside_61 : decode cX5_seaBeside 61 = .ok (.goto 17, 3) := by decide +kernel
theorem dX5_seaBeside_64 : decode cX5_seaBeside 64 = .ok (.iinc 4 1, 3) := by decide +kernel
theorem dX5_seaBeside_67 : decode cX5_seaBeside 67 = .ok (.goto 11, 3) := by decide +kernel
theorem dX5_seaBeside_70 : decode cX5_seaBeside 70 = .ok (.iinc 4 (-1), 3) := by decide +kernel
theorem dX5_seaBeside_73 : decode cX5_seaBeside 73 = .ok (.goto 5, 3) := by decide +kernel
theorem dX5_seaBeside_76 : decode cX5_seaBeside 76 = .ok (.iconst (-1), 1) := by decide +kernel
theorem dX5_seaBeside_77 : decode cX5_seaBeside 77 = .ok (.ireturn, 1) := by decide +kernel
theorem dX5_seaBeside_78 : decode cX5_seaBeside 78 = .ok (.iload_n 3, 1) := by decide +kernel
theorem dX5_seaBeside_79 : decode cX5_seaBeside 79 = .ok (.bipush 10, 2) := by decide +kernel
theorem dX5_seaBeside_81 : decode cX5_seaBeside 81 = .ok (.invokestatic 52, 3) := by decide +kernel
theorem dX5_seaBeside_84 : decode cX5_seaBeside 84 = .ok (.ifCond .eq 13, 3) := by decide +kernel
theorem dX5_seaBeside_87 : decode cX5_seaBeside 87 = .ok (.iload 4, 2) := by decide +kernel
theorem dX5_seaBeside_89 : decode cX5_seaBeside 89 = .ok (.bipush 6, 2) := by decide +kernel
theorem dX5_seaBeside_91 : decode cX5_seaBeside 91 = .ok (.invokestatic 52, 3) := by decide +kernel
theorem dX5_seaBeside_94 : decode cX5_seaBeside 94 = .ok (.ifCond .ne 5, 3) := by decide +kernel
theorem dX5_seaBeside_97 : decode cX5_seaBeside 97 = .ok (.iconst (-1), 1) := by decide +kernel
theorem dX5_seaBeside_98 : decode cX5_seaBeside 98 = .ok (.ireturn, 1) := by decide +kernel
theorem dX5_seaBeside_99 : decode cX5_seaBeside 99 = .ok (.bipush 10, 2) := by decide +kernel
theorem dX5_seaBeside_101 : decode cX5_seaBeside 101 = .ok (.iload 4, 2) := by decide +kernel
theorem dX5_seaBeside_103 : decode cX5_seaBeside 103 = .ok (.imul, 1) := by decide +kernel
theorem dX5_seaBeside_104 : decode cX5_seaBeside 104 = .ok (.iload_n 3, 1) := by decide +kernel
theorem dX5_seaBeside_105 : decode cX5_seaBeside 105 = .ok (.iadd, 1) := by decide +kernel
theorem dX5_seaBeside_106 : decode cX5_seaBeside 106 = .ok (.istore 5, 2) := by decide +kernel
theorem dX5_seaBeside_108 : decode cX5_seaBeside 108 = .ok (.iload 5, 2) := by decide +kernel
theorem dX5_seaBeside_110 : decode cX5_seaBeside 110 = .ok (.invokestatic 37, 3) := by decide +kernel
theorem dX5_seaBeside_113 : decode cX5_seaBeside 113 = .ok (.ifCond .eq 18, 3) := by decide +kernel
theorem dX5_seaBeside_116 : decode cX5_seaBeside 116 = .ok (.aload_n 0, 1) := by decide +kernel
theorem dX5_seaBeside_117 : decode cX5_seaBeside 117 = .ok (.getfield 30, 3) := by decide +kernel
theorem dX5_seaBeside_120 : decode cX5_seaBeside 120 = .ok (.iload 5, 2) := by decide +kernel
theorem dX5_seaBeside_122 : decode cX5_seaBeside 122 = .ok (.baload, 1) := by decide +kernel
theorem dX5_seaBeside_123 : decode cX5_seaBeside 123 = .ok (.ifCond .ne 8, 3) := by decide +kernel
theorem dX5_seaBeside_126 : decode cX5_seaBeside 126 = .ok (.iload 5, 2) := by decide +kernel
theorem dX5_seaBeside_128 : decode cX5_seaBeside 128 = .ok (.goto 4, 3) := by decide +kernel
theorem dX5_seaBeside_131 : decode cX5_seaBeside 131 = .ok (.iconst (-1), 1) := by decide +kernel
theorem dX5_seaBeside_132 : decode cX5_seaBeside 132 = .ok (.ireturn, 1) := by decide +kernel
theorem dX5_leadsTo_0 : decode cX5_leadsTo 0 = .ok (.iload_n 1, 1) := by decide +kernel
theorem dX5_leadsTo_1 : decode cX5_leadsTo 1 = .ok (.invokestatic 37, 3) := by decide +kernel
theorem dX5_leadsTo_4 : decode cX5_leadsTo 4 = .ok (.ifCond .eq 17, 3) := by decide +kernel
theorem dX5_leadsTo_7 : decode cX5_leadsTo 7 = .ok (.aload_n 0, 1) := by decide +kernel
theorem dX5_leadsTo_8 : decode cX5_leadsTo 8 = .ok (.iload_n 1, 1) := by decide +kernel
theorem dX5_leadsTo_9 : decode cX5_leadsTo 9 = .ok (.aload_n 0, 1) := by decide +kernel
theorem dX5_leadsTo_10 : decode cX5_leadsTo 10 = .ok (.getfield 23, 3) := by decide +kernel
theorem dX5_leadsTo_13 : decode cX5_leadsTo 13 = .ok (.iload_n 1, 1) := by decide +kernel
theorem dX5_leadsTo_14 : decode cX5_leadsTo 14 = .ok (.iaload, 1) := by decide +kernel
theorem dX5_leadsTo_15 : decode cX5_leadsTo 15 = .ok (.invokevirtual 56, 3) := by decide +kernel
theorem dX5_leadsTo_18 : decode cX5_leadsTo 18 = .ok (.goto 4, 3) := by decide +kernel
theorem dX5_leadsTo_21 : decode cX5_leadsTo 21 = .ok (.iconst (-1), 1) := by decide +kernel
theorem dX5_leadsTo_22 : decode cX5_leadsTo 22 = .ok (.ireturn, 1) := by decide +kernel
theorem dX5_flow_0 : decode cX5_flow 0 = .ok (.aload_n 0, 1) := by decide +kernel
theorem dX5_flow_1 : decode cX5_flow 1 = .ok (.aload_n 0, 1) := by decide +kernel
theorem dX5_flow_2 : decode cX5_flow 2 = .ok (.getfield 14, 3) := by decide +kernel
theorem dX5_flow_5 : decode cX5_flow 5 = .ok (.getfield 41, 3) := by decide +kernel
theorem dX5_flow_8 : decode cX5_flow 8 = .ok (.invokevirtual 60, 3) := by decide +kernel
theorem dX5_flow_11 : decode cX5_flow 11 = .ok (.aload_n 0, 1) := by decide +kernel
theorem dX5_flow_12 : decode cX5_flow 12 = .ok (.aload_n 0, 1) := by decide +kernel
theorem dX5_flow_13 : decode cX5_flow 13 = .ok (.getfield 14, 3) := by decide +kernel
theorem dX5_flow_16 : decode cX5_flow 16 = .ok (.getfield 64, 3) := by decide +kernel
theorem dX5_flow_19 : decode cX5_flow 19 = .ok (.invokevirtual 60, 3) := by decide +kernel
theorem dX5_flow_22 : decode cX5_flow 22 = .ok (.return_, 1) := by decide +kernel
theorem dX5_carry_0 : decode cX5_carry 0 = .ok (.aload_n 1, 1) := by decide +kernel
theorem dX5_carry_1 : decode cX5_carry 1 = .ok (.arraylength, 1) := by decide +kernel
theorem dX5_carry_2 : decode cX5_carry 2 = .ok (.bipush 60, 2) := by decide +kernel
theorem dX5_carry_4 : decode cX5_carry 4 = .ok (.invokestatic 67, 3) := by decide +kernel
theorem dX5_carry_7 : decode cX5_carry 7 = .ok (.istore_n 2, 1) := by decide +kernel
theorem dX5_carry_8 : decode cX5_carry 8 = .ok (.aload_n 1, 1) := by decide +kernel
theorem dX5_carry_9 : decode cX5_carry 9 = .ok (.iconst 0, 1) := by decide +kernel
theorem dX5_carry_10 : decode cX5_carry 10 = .ok (.aload_n 0, 1) := by decide +kernel
theorem dX5_carry_11 : decode cX5_carry 11 = .ok (.getfield 34, 3) := by decide +kernel
theorem dX5_carry_14 : decode cX5_carry 14 = .ok (.iconst 0, 1) := by decide +kernel
theorem dX5_carry_15 : decode cX5_carry 15 = .ok (.iload_n 2, 1) := by decide +kernel
theorem dX5_carry_16 : decode cX5_carry 16 = .ok (.invokestatic 72, 3) := by decide +kernel
theorem dX5_carry_19 : decode cX5_carry 19 = .ok (.iconst 0, 1) := by decide +kernel
theorem dX5_carry_20 : decode cX5_carry 20 = .ok (.istore_n 3, 1) := by decide +kernel
theorem dX5_carry_21 : decode cX5_carry 21 = .ok (.iload_n 3, 1) := by decide +kernel
theorem dX5_carry_22 : decode cX5_carry 22 = .ok (.iload_n 2, 1) := by decide +kernel
theorem dX5_carry_23 : decode cX5_carry 23 = .ok (.if_icmp .ge 53, 3) := by decide +kernel
theorem dX5_carry_26 : decode cX5_carry 26 = .ok (.aload_n 0, 1) := by decide +kernel
theorem dX5_carry_27 : decode cX5_carry 27 = .ok (.iload_n 3, 1) := by decide +kernel
theorem dX5_carry_28 : decode cX5_carry 28 = .ok (.invokevirtual 78, 3) := by decide +kernel
theorem dX5_carry_31 : decode cX5_carry 31 = .ok (.istore 4, 2) := by decide +kernel
theorem dX5_carry_33 : decode cX5_carry 33 = .ok (.iload 4, 2) := by decide +kernel
theorem dX5_carry_35 : decode cX5_carry 35 = .ok (.iload_n 2, 1) := by decide +kernel
theorem dX5_carry_36 : decode cX5_carry 36 = .ok (.invokestatic 52, 3) := by decide +kernel
theorem dX5_carry_39 : decode cX5_carry 39 = .ok (.ifCond .eq 31, 3) := by decide +kernel
theorem dX5_carry_42 : decode cX5_carry 42 = .ok (.aload_n 0, 1) := by decide +kernel
theorem dX5_carry_43 : decode cX5_carry 43 = .ok (.getfield 34, 3) := by decide +kernel
theorem dX5_carry_46 : decode cX5_carry 46 = .ok (.iload_n 3, 1) := by decide +kernel
theorem dX5_carry_47 : decode cX5_carry 47 = .ok (.iaload, 1) := by decide +kernel
theorem dX5_carry_48 : decode cX5_carry 48 = .ok (.bipush 10, 2) := by decide +kernel
theorem dX5_carry_50 : decode cX5_carry 50 = .ok (.idiv, 1) := by decide +kernel
theorem dX5_carry_51 : decode cX5_carry 51 = .ok (.istore 5, 2) := by decide +kernel
theorem dX5_carry_53 : decode cX5_carry 53 = .ok (.aload_n 1, 1) := by decide +kernel
theorem dX5_carry_54 : decode cX5_carry 54 = .ok (.iload_n 3, 1) := by decide +kernel
theorem dX5_carry_55 : decode cX5_carry 55 = .ok (.dup2, 1) := by decide +kernel
theorem dX5_carry_56 : decode cX5_carry 56 = .ok (.iaload, 1) := by decide +kernel
theorem dX5_carry_57 : decode cX5_carry 57 = .ok (.iload 5, 2) := by decide +kernel
theorem dX5_carry_59 : decode cX5_carry 59 = .ok (.isub, 1) := by decide +kernel
theorem dX5_carry_60 : decode cX5_carry 60 = .ok (.iastore, 1) := by decide +kernel
theorem dX5_carry_61 : decode cX5_carry 61 = .ok (.aload_n 1, 1) := by decide +kernel
theorem dX5_carry_62 : decode cX5_carry 62 = .ok (.iload 4, 2) := by decide +kernel
theorem dX5_carry_64 : decode cX5_carry 64 = .ok (.dup2, 1) := by decide +kernel
theorem dX5_carry_65 : decode cX5_carry 65 = .ok (.iaload, 1) := by decide +kernel
theorem dX5_carry_66 : decode cX5_carry 66 = .ok (.iload 5, 2) := by decide +kernel
theorem dX5_carry_68 : decode cX5_carry 68 = .ok (.iadd, 1) := by decide +kernel
theorem dX5_carry_69 : decode cX5_carry 69 = .ok (.iastore, 1) := by decide +kernel
theorem dX5_carry_70 : decode cX5_carry 70 = .ok (.iinc 3 1, 3) := by decide +kernel
theorem dX5_carry_73 : decode cX5_carry 73 = .ok (.goto (-52), 3) := by decide +kernel
theorem dX5_carry_76 : decode cX5_carry 76 = .ok (.return_, 1) := by decide +kernel
theorem dX5_shine_0 : decode cX5_shine 0 = .ok (.iconst 0, 1) := by decide +kernel
theorem dX5_shine_1 : decode cX5_shine 1 = .ok (.istore_n 1, 1) := by decide +kernel
theorem dX5_shine_2 : decode cX5_shine 2 = .ok (.iload_n 1, 1) := by decide +kernel
theorem dX5_shine_3 : decode cX5_shine 3 = .ok (.bipush 60, 2) := by decide +kernel
theorem dX5_shine_5 : decode cX5_shine 5 = .ok (.if_icmp .ge 72, 3) := by decide +kernel
theorem dX5_shine_8 : decode cX5_shine 8 = .ok (.aload_n 0, 1) := by decide +kernel
theorem dX5_shine_9 : decode cX5_shine 9 = .ok (.getfield 30, 3) := by decide +kernel
theorem dX5_shine_12 : decode cX5_shine 12 = .ok (.iload_n 1, 1) := by decide +kernel
theorem dX5_shine_13 : decode cX5_shine 13 = .ok (.baload, 1) := by decide +kernel
theorem dX5_shine_14 : decode cX5_shine 14 = .ok (.ifCond .ne 57, 3) := by decide +kernel
theorem dX5_shine_17 : decode cX5_shine 17 = .ok (.aload_n 0, 1) := by decide +kernel
theorem dX5_shine_18 : decode cX5_shine 18 = .ok (.getfield 14, 3) := by decide +kernel
theorem dX5_shine_21 : decode cX5_shine 21 = .ok (.getfield 41, 3) := by decide +kernel
theorem dX5_shine_24 : decode cX5_shine 24 = .ok (.iload_n 1, 1) := by decide +kernel
theorem dX5_shine_25 : decode cX5_shine 25 = .ok (.iaload, 1) := by decide +kernel
theorem dX5_shine_26 : decode cX5_shine 26 = .ok (.istore_n 2, 1) := by decide +kernel
theorem dX5_shine_27 : decode cX5_shine 27 = .ok (.aload_n 0, 1) := by decide +kernel
theorem dX5_shine_28 : decode cX5_shine 28 = .ok (.getfield 14, 3) := by decide +kernel
theorem dX5_shine_31 : decode cX5_shine 31 = .ok (.getfield 41, 3) := by decide +kernel
theorem dX5_shine_34 : decode cX5_shine 34 = .ok (.iload_n 1, 1) := by decide +kernel
theorem dX5_shine_35 : decode cX5_shine 35 = .ok (.iconst 0, 1) := by decide +kernel
theorem dX5_shine_36 : decode cX5_shine 36 = .ok (.iload_n 2, 1) := by decide +kernel
theorem dX5_shine_37 : decode cX5_shine 37 = .ok (.aload_n 0, 1) := by decide +kernel
theorem dX5_shine_38 : decode cX5_shine 38 = .ok (.getfield 27, 3) := by decide +kernel
theorem dX5_shine_41 : decode cX5_shine 41 = .ok (.iload_n 1, 1) := by decide +kernel
theorem dX5_shine_42 : decode cX5_shine 42 = .ok (.bipush 10, 2) := by decide +kernel
theorem dX5_shine_44 : decode cX5_shine 44 = .ok (.idiv, 1) := by decide +kernel
theorem dX5_shine_45 : decode cX5_shine 45 = .ok (.iaload, 1) := by decide +kernel
theorem dX5_shine_46 : decode cX5_shine 46 = .ok (.iadd, 1) := by decide +kernel
theorem dX5_shine_47 : decode cX5_shine 47 = .ok (.invokestatic 82, 3) := by decide +kernel
theorem dX5_shine_50 : decode cX5_shine 50 = .ok (.iastore, 1) := by decide +kernel
theorem dX5_shine_51 : decode cX5_shine 51 = .ok (.aload_n 0, 1) := by decide +kernel
theorem dX5_shine_52 : decode cX5_shine 52 = .ok (.dup, 1) := by decide +kernel
theorem dX5_shine_53 : decode cX5_shine 53 = .ok (.getfield 85, 3) := by decide +kernel
theorem dX5_shine_56 : decode cX5_shine 56 = .ok (.aload_n 0, 1) := by decide +kernel
theorem dX5_shine_57 : decode cX5_shine 57 = .ok (.getfield 14, 3) := by decide +kernel
theorem dX5_shine_60 : decode cX5_shine 60 = .ok (.getfield 41, 3) := by decide +kernel
theorem dX5_shine_63 : decode cX5_shine 63 = .ok (.iload_n 1, 1) := by decide +kernel
theorem dX5_shine_64 : decode cX5_shine 64 = .ok (.iaload, 1) := by decide +kernel
theorem dX5_shine_65 : decode cX5_shine 65 = .ok (.iload_n 2, 1) := by decide +kernel
theorem dX5_shine_66 : decode cX5_shine 66 = .ok (.isub, 1) := by decide +kernel
theorem dX5_shine_67 : decode cX5_shine 67 = .ok (.iadd, 1) := by decide +kernel
theorem dX5_shine_68 : decode cX5_shine 68 = .ok (.putfield 85, 3) := by decide +kernel
theorem dX5_shine_71 : decode cX5_shine 71 = .ok (.iinc 1 1, 3) := by decide +kernel
theorem dX5_shine_74 : decode cX5_shine 74 = .ok (.goto (-72), 3) := by decide +kernel
theorem dX5_shine_77 : decode cX5_shine 77 = .ok (.return_, 1) := by decide +kernel
theorem dX5_turnOver_0 : decode cX5_turnOver 0 = .ok (.iconst 0, 1) := by decide +kernel
theorem dX5_turnOver_1 : decode cX5_turnOver 1 = .ok (.istore_n 1, 1) := by decide +kernel
theorem dX5_turnOver_2 : decode cX5_turnOver 2 = .ok (.iload_n 1, 1) := by decide +kernel
theorem dX5_turnOver_3 : decode cX5_turnOver 3 = .ok (.bipush 60, 2) := by decide +kernel
theorem dX5_turnOver_5 : decode cX5_turnOver 5 = .ok (.if_icmp .ge 64, 3) := by decide +kernel
theorem dX5_turnOver_8 : decode cX5_turnOver 8 = .ok (.aload_n 0, 1) := by decide +kernel
theorem dX5_turnOver_9 : decode cX5_turnOver 9 = .ok (.getfield 14, 3) := by decide +kernel
theorem dX5_turnOver_12 : decode cX5_turnOver 12 = .ok (.iload_n 1, 1) := by decide +kernel
theorem dX5_turnOver_13 : decode cX5_turnOver 13 = .ok (.invokevirtual 88, 3) := by decide +kernel
theorem dX5_turnOver_16 : decode cX5_turnOver 16 = .ok (.aload_n 0, 1) := by decide +kernel
theorem dX5_turnOver_17 : decode cX5_turnOver 17 = .ok (.getfield 20, 3) := by decide +kernel
theorem dX5_turnOver_20 : decode cX5_turnOver 20 = .ok (.iload_n 1, 1) := by decide +kernel
theorem dX5_turnOver_21 : decode cX5_turnOver 21 = .ok (.invokevirtual 88, 3) := by decide +kernel
theorem dX5_turnOver_24 : decode cX5_turnOver 24 = .ok (.if_icmp .le 39, 3) := by decide +kernel
theorem dX5_turnOver_27 : decode cX5_turnOver 27 = .ok (.aload_n 0, 1) := by decide +kernel
theorem dX5_turnOver_28 : decode cX5_turnOver 28 = .ok (.getfield 14, 3) := by decide +kernel
theorem dX5_turnOver_31 : decode cX5_turnOver 31 = .ok (.getfield 41, 3) := by decide +kernel
theorem dX5_turnOver_34 : decode cX5_turnOver 34 = .ok (.aload_n 0, 1) := by decide +kernel
theorem dX5_turnOver_35 : decode cX5_turnOver 35 = .ok (.getfield 20, 3) := by decide +kernel
theorem dX5_turnOver_38 : decode cX5_turnOver 38 = .ok (.getfield 41, 3) := by decide +kernel
theorem dX5_turnOver_41 : decode cX5_turnOver 41 = .ok (.iload_n 1, 1) := by decide +kernel
theorem dX5_turnOver_42 : decode cX5_turnOver 42 = .ok (.invokestatic 91, 3) := by decide +kernel
theorem dX5_turnOver_45 : decode cX5_turnOver 45 = .ok (.aload_n 0, 1) := by decide +kernel
theorem dX5_turnOver_46 : decode cX5_turnOver 46 = .ok (.getfield 14, 3) := by decide +kernel
theorem dX5_turnOver_49 : decode cX5_turnOver 49 = .ok (.getfield 64, 3) := by decide +kernel
theorem dX5_turnOver_52 : decode cX5_turnOver 52 = .ok (.aload_n 0, 1) := by decide +kernel
theorem dX5_turnOver_53 : decode cX5_turnOver 53 = .ok (.getfield 20, 3) := by decide +kernel
theorem dX5_turnOver_56 : decode cX5_turnOver 56 = .ok (.getfield 64, 3) := by decide +kernel
theorem dX5_turnOver_59 : decode cX5_turnOver 59 = .ok (.iload_n 1, 1) := by decide +kernel
theorem dX5_turnOver_60 : decode cX5_turnOver 60 = .ok (.invokestatic 91, 3) := by decide +kernel
theorem dX5_turnOver_63 : decode cX5_turnOver 63 = .ok (.iinc 1 1, 3) := by decide +kernel
theorem dX5_turnOver_66 : decode cX5_turnOver 66 = .ok (.goto (-64), 3) := by decide +kernel
theorem dX5_turnOver_69 : decode cX5_turnOver 69 = .ok (.return_, 1) := by decide +kernel
theorem dX5_share_0 : decode cX5_share 0 = .ok (.iload_n 2, 1) := by decide +kernel
theorem dX5_share_1 : decode cX5_share 1 = .ok (.aload_n 0, 1) := by decide +kernel
theorem dX5_share_2 : decode cX5_share 2 = .ok (.arraylength, 1) := by decide +kernel
theorem dX5_share_3 : decode cX5_share 3 = .ok (.invokestatic 52, 3) := by decide +kernel
theorem dX5_share_6 : decode cX5_share 6 = .ok (.ifCond .eq 34, 3) := by decide +kernel
theorem dX5_share_9 : decode cX5_share 9 = .ok (.iload_n 2, 1) := by decide +kernel
theorem dX5_share_10 : decode cX5_share 10 = .ok (.aload_n 1, 1) := by decide +kernel
theorem dX5_share_11 : decode cX5_share 11 = .ok (.arraylength, 1) := by decide +kernel
theorem dX5_share_12 : decode cX5_share 12 = .ok (.invokestatic 52, 3) := by decide +kernel
theorem dX5_share_15 : decode cX5_share 15 = .ok (.ifCond .eq 25, 3) := by decide +kernel
theorem dX5_share_18 : decode cX5_share 18 = .ok (.aload_n 0, 1) := by decide +kernel
theorem dX5_share_19 : decode cX5_share 19 = .ok (.iload_n 2, 1) := by decide +kernel
theorem dX5_share_20 : decode cX5_share 20 = .ok (.iaload, 1) := by decide +kernel
theorem dX5_share_21 : decode cX5_share 21 = .ok (.aload_n 1, 1) := by decide +kernel
theorem dX5_share_22 : decode cX5_share 22 = .ok (.iload_n 2, 1) := by decide +kernel
theorem dX5_share_23 : decode cX5_share 23 = .ok (.iaload, 1) := by decide +kernel
theorem dX5_share_24 : decode cX5_share 24 = .ok (.iadd, 1) := by decide +kernel
theorem dX5_share_25 : decode cX5_share 25 = .ok (.istore_n 3, 1) := by decide +kernel
theorem dX5_share_26 : decode cX5_share 26 = .ok (.aload_n 0, 1) := by decide +kernel
theorem dX5_share_27 : decode cX5_share 27 = .ok (.iload_n 2, 1) := by decide +kernel
theorem dX5_share_28 : decode cX5_share 28 = .ok (.iload_n 3, 1) := by decide +kernel
theorem dX5_share_29 : decode cX5_share 29 = .ok (.iconst 2, 1) := by decide +kernel
theorem dX5_share_30 : decode cX5_share 30 = .ok (.idiv, 1) := by decide +kernel
theorem dX5_share_31 : decode cX5_share 31 = .ok (.iastore, 1) := by decide +kernel
theorem dX5_share_32 : decode cX5_share 32 = .ok (.aload_n 1, 1) := by decide +kernel
theorem dX5_share_33 : decode cX5_share 33 = .ok (.iload_n 2, 1) := by decide +kernel
theorem dX5_share_34 : decode cX5_share 34 = .ok (.iload_n 3, 1) := by decide +kernel
theorem dX5_share_35 : decode cX5_share 35 = .ok (.aload_n 0, 1) := by decide +kernel
theorem dX5_share_36 : decode cX5_share 36 = .ok (.iload_n 2, 1) := by decide +kernel
theorem dX5_share_37 : decode cX5_share 37 = .ok (.iaload, 1) := by decide +kernel
theorem dX5_share_38 : decode cX5_share 38 = .ok (.isub, 1) := by decide +kernel
theorem dX5_share_39 : decode cX5_share 39 = .ok (.iastore, 1) := by decide +kernel
theorem dX5_share_40 : decode cX5_share 40 = .ok (.return_, 1) := by decide +kernel
theorem dX6_init_0 : decode cX6_init 0 = .ok (.aload_n 0, 1) := by decide +kernel
theorem dX6_init_1 : decode cX6_init 1 = .ok (.invokespecial 3, 3) := by decide +kernel
theorem dX6_init_4 : decode cX6_init 4 = .ok (.aload_n 0, 1) := by decide +kernel
theorem dX6_init_5 : decode cX6_init 5 = .ok (.bipush 60, 2) := by decide +kernel
theorem dX6_init_7 : decode cX6_init 7 = .ok (.newarray .int, 2) := by decide +kernel
theorem dX6_init_9 : decode cX6_init 9 = .ok (.putfield 9, 3) := by decide +kernel
theorem dX6_init_12 : decode cX6_init 12 = .ok (.aload_n 0, 1) := by decide +kernel
theorem dX6_init_13 : decode cX6_init 13 = .ok (.bipush 60, 2) := by decide +kernel
theorem dX6_init_15 : decode cX6_init 15 = .ok (.newarray .int, 2) := by decide +kernel
theorem dX6_init_17 : decode cX6_init 17 = .ok (.putfield 15, 3) := by decide +kernel
theorem dX6_init_20 : decode cX6_init 20 = .ok (.aload_n 0, 1) := by decide +kernel
theorem dX6_init_21 : decode cX6_init 21 = .ok (.iload_n 1, 1) := by decide +kernel
theorem dX6_init_22 : decode cX6_init 22 = .ok (.putfield 18, 3) := by decide +kernel
theorem dX6_init_25 : decode cX6_init 25 = .ok (.iload_n 1, 1) := by decide +kernel
theorem dX6_init_26 : decode cX6_init 26 = .ok (.invokestatic 22, 3) := by decide +kernel
theorem dX6_init_29 : decode cX6_init 29 = .ok (.ifCond .eq 12, 3) := by decide +kernel
theorem dX6_init_32 : decode cX6_init 32 = .ok (.aload_n 0, 1) := by decide +kernel
theorem dX6_init_33 : decode cX6_init 33 = .ok (.getfield 9, 3) := by decide +kernel
theorem dX6_init_36 : decode cX6_init 36 = .ok (.iload_n 1, 1) := by decide +kernel
theorem dX6_init_37 : decode cX6_init 37 = .ok (.sipush 10000, 3) := by decide +kernel
theorem dX6_init_40 : decode cX6_init 40 = .ok (.iastore, 1) := by decide +kernel
theorem dX6_init_41 : decode cX6_init 41 = .ok (.return_, 1) := by decide +kernel
theorem dX6_goOn_0 : decode cX6_goOn 0 = .ok (.aload_n 0, 1) := by decide +kernel
theorem dX6_goOn_1 : decode cX6_goOn 1 = .ok (.getfield 9, 3) := by decide +kernel
theorem dX6_goOn_4 : decode cX6_goOn 4 = .ok (.iconst 0, 1) := by decide +kernel
theorem dX6_goOn_5 : decode cX6_goOn 5 = .ok (.aload_n 0, 1) := by decide +kernel
theorem dX6_goOn_6 : decode cX6_goOn 6 = .ok (.getfield 15, 3) := by decide +kernel
theorem dX6_goOn_9 : decode cX6_goOn 9 = .ok (.iconst 0, 1) := by decide +kernel
theorem dX6_goOn_10 : decode cX6_goOn 10 = .ok (.bipush 60, 2) := by decide +kernel
theorem dX6_goOn_12 : decode cX6_goOn 12 = .ok (.invokestatic 26, 3) := by decide +kernel
theorem dX6_goOn_15 : decode cX6_goOn 15 = .ok (.iconst 0, 1) := by decide +kernel
theorem dX6_goOn_16 : decode cX6_goOn 16 = .ok (.istore_n 2, 1) := by decide +kernel
theorem dX6_goOn_17 : decode cX6_goOn 17 = .ok (.iload_n 2, 1) := by decide +kernel
theorem dX6_goOn_18 : decode cX6_goOn 18 = .ok (.bipush 60, 2) := by decide +kernel
theorem dX6_goOn_20 : decode cX6_goOn 20 = .ok (.if_icmp .ge 63, 3) := by decide +kernel
theorem dX6_goOn_23 : decode cX6_goOn 23 = .ok (.aload_n 0, 1) := by decide +kernel
theorem dX6_goOn_24 : decode cX6_goOn 24 = .ok (.getfield 15, 3) := by decide +kernel
theorem dX6_goOn_27 : decode cX6_goOn 27 = .ok (.iload_n 2, 1) := by decide +kernel
theorem dX6_goOn_28 : decode cX6_goOn 28 = .ok (.iaload, 1) := by decide +kernel
theorem dX6_goOn_29 : decode cX6_goOn 29 = .ok (.istore_n 3, 1) := by decide +kernel
theorem dX6_goOn_30 : decode cX6_goOn 30 = .ok (.iconst 1, 1) := by decide +kernel
theorem dX6_goOn_31 : decode cX6_goOn 31 = .ok (.istore 4, 2) := by decide +kernel
theorem dX6_goOn_33 : decode cX6_goOn 33 = .ok (.iload 4, 2) := by decide +kernel
theorem dX6_goOn_35 : decode cX6_goOn 35 = .ok (.iconst 4, 1) := by decide +kernel
theorem dX6_goOn_36 : decode cX6_goOn 36 = .ok (.if_icmp .gt 25, 3) := by decide +kernel
theorem dX6_goOn_39 : decode cX6_goOn 39 = .ok (.aload_n 0, 1) := by decide +kernel
theorem dX6_goOn_40 : decode cX6_goOn 40 = .ok (.iload_n 2, 1) := by decide +kernel
theorem dX6_goOn_41 : decode cX6_goOn 41 = .ok (.aload_n 1, 1) := by decide +kernel
theorem dX6_goOn_42 : decode cX6_goOn 42 = .ok (.iload_n 2, 1) := by decide +kernel
theorem dX6_goOn_43 : decode cX6_goOn 43 = .ok (.iload 4, 2) := by decide +kernel
theorem dX6_goOn_45 : decode cX6_goOn 45 = .ok (.invokevirtual 32, 3) := by decide +kernel
theorem dX6_goOn_48 : decode cX6_goOn 48 = .ok (.iload_n 3, 1) := by decide +kernel
theorem dX6_goOn_49 : decode cX6_goOn 49 = .ok (.bipush 10, 2) := by decide +kernel
theorem dX6_goOn_51 : decode cX6_goOn 51 = .ok (.idiv, 1) := by decide +kernel
theorem dX6_goOn_52 : decode cX6_goOn 52 = .ok (.invokevirtual 38, 3) := by decide +kernel
theorem dX6_goOn_55 : decode cX6_goOn 55 = .ok (.iinc 4 1, 3) := by decide +kernel
theorem dX6_goOn_58 : decode cX6_goOn 58 = .ok (.goto (-25), 3) := by decide +kernel
theorem dX6_goOn_61 : decode cX6_goOn 61 = .ok (.aload_n 0, 1) := by decide +kernel
theorem dX6_goOn_62 : decode cX6_goOn 62 = .ok (.iload_n 2, 1) := by decide +kernel
theorem dX6_goOn_63 : decode cX6_goOn 63 = .ok (.aload_n 1, 1) := by decide +kernel
theorem dX6_goOn_64 : decode cX6_goOn 64 = .ok (.iload_n 2, 1) := by decide +kernel
theorem dX6_goOn_65 : decode cX6_goOn 65 = .ok (.invokevirtual 42, 3) := by decide +kernel
theorem dX6_goOn_68 : decode cX6_goOn 68 = .ok (.iconst 4, 1) := by decide +kernel
theorem dX6_goOn_69 : decode cX6_goOn 69 = .ok (.iload_n 3, 1) := by decide +kernel
theorem dX6_goOn_70 : decode cX6_goOn 70 = .ok (.imul, 1) := by decide +kernel
theorem dX6_goOn_71 : decode cX6_goOn 71 = .ok (.bipush 10, 2) := by decide +kernel
theorem dX6_goOn_73 : decode cX6_goOn 73 = .ok (.idiv, 1) := by decide +kernel
theorem dX6_goOn_74 : decode cX6_goOn 74 = .ok (.invokevirtual 38, 3) := by decide +kernel
theorem dX6_goOn_77 : decode cX6_goOn 77 = .ok (.iinc 2 1, 3) := by decide +kernel
theorem dX6_goOn_80 : decode cX6_goOn 80 = .ok (.goto (-63), 3) := by decide +kernel
theorem dX6_goOn_83 : decode cX6_goOn 83 = .ok (.return_, 1) := by decide +kernel
theorem dX6_give_0 : decode cX6_give 0 = .ok (.iload_n 1, 1) := by decide +kernel
theorem dX6_give_1 : decode cX6_give 1 = .ok (.invokestatic 22, 3) := by decide +kernel
theorem dX6_give_4 : decode cX6_give 4 = .ok (.ifCond .eq 30, 3) := by decide +kernel
theorem dX6_give_7 : decode cX6_give 7 = .ok (.iload_n 2, 1) := by decide +kernel
theorem dX6_give_8 : decode cX6_give 8 = .ok (.invokestatic 22, 3) := by decide +kernel
theorem dX6_give_11 : decode cX6_give 11 = .ok (.ifCond .eq 23, 3) := by decide +kernel
theorem dX6_give_14 : decode cX6_give 14 = .ok (.aload_n 0, 1) := by decide +kernel
theorem dX6_give_15 : decode cX6_give 15 = .ok (.getfield 9, 3) := by decide +kernel
theorem dX6_give_18 : decode cX6_give 18 = .ok (.iload_n 1, 1) := by decide +kernel
theorem dX6_give_19 : decode cX6_give 19 = .ok (.dup2, 1) := by decide +kernel
theorem dX6_give_20 : decode cX6_give 20 = .ok (.iaload, 1) := by decide +kernel
theorem dX6_give_21 : decode cX6_give 21 = .ok (.iload_n 3, 1) := by decide +kernel
theorem dX6_give_22 : decode cX6_give 22 = .ok (.isub, 1) := by decide +kernel
theorem dX6_give_23 : decode cX6_give 23 = .ok (.iastore, 1) := by decide +kernel
theorem dX6_give_24 : decode cX6_give 24 = .ok (.aload_n 0, 1) := by decide +kernel
theorem dX6_give_25 : decode cX6_give 25 = .ok (.getfield 9, 3) := by decide +kernel
theorem dX6_give_28 : decode cX6_give 28 = .ok (.iload_n 2, 1) := by decide +kernel
theorem dX6_give_29 : decode cX6_give 29 = .ok (.dup2, 1) := by decide +kernel
theorem dX6_give_30 : decode cX6_give 30 = .ok (.iaload, 1) := by decide +kernel
theorem dX6_give_31 : decode cX6_give 31 = .ok (.iload_n 3, 1) := by decide +kernel
theorem dX6_give_32 : decode cX6_give 32 = .ok (.iadd, 1) := by decide +kernel
theorem dX6_give_33 : decode cX6_give 33 = .ok (.iastore, 1) := by decide +kernel
theorem dX6_give_34 : decode cX6_give 34 = .ok (.return_, 1) := by decide +kernel
theorem dX6_tryLegs_0 : decode cX6_tryLegs 0 = .ok (.aload_n 0, 1) := by decide +kernel
theorem dX6_tryLegs_1 : decode cX6_tryLegs 1 = .ok (.getfield 9, 3) := by decide +kernel
theorem dX6_tryLegs_4 : decode cX6_tryLegs 4 = .ok (.iconst 0, 1) := by decide +kernel
theorem dX6_tryLegs_5 : decode cX6_tryLegs 5 = .ok (.aload_n 0, 1) := by decide +kernel
theorem dX6_tryLegs_6 : decode cX6_tryLegs 6 = .ok (.getfield 15, 3) := by decide +kernel
theorem dX6_tryLegs_9 : decode cX6_tryLegs 9 = .ok (.iconst 0, 1) := by decide +kernel
theorem dX6_tryLegs_10 : decode cX6_tryLegs 10 = .ok (.bipush 60, 2) := by decide +kernel
theorem dX6_tryLegs_12 : decode cX6_tryLegs 12 = .ok (.invokestatic 26, 3) := by decide +kernel
theorem dX6_tryLegs_15 : decode cX6_tryLegs 15 = .ok (.iconst 0, 1) := by decide +kernel
theorem dX6_tryLegs_16 : decode cX6_tryLegs 16 = .ok (.istore_n 3, 1) := by decide +kernel
theorem dX6_tryLegs_17 : decode cX6_tryLegs 17 = .ok (.iconst 0, 1) := by decide +kernel
theorem dX6_tryLegs_18 : decode cX6_tryLegs 18 = .ok (.istore 4, 2) := by decide +kernel
theorem dX6_tryLegs_20 : decode cX6_tryLegs 20 = .ok (.iload 4, 2) := by decide +kernel
theorem dX6_tryLegs_22 : decode cX6_tryLegs 22 = .ok (.iload_n 1, 1) := by decide +kernel
theorem dX6_tryLegs_23 : decode cX6_tryLegs 23 = .ok (.if_icmp .ge 27, 3) := by decide +kernel
theorem dX6_tryLegs_26 : decode cX6_tryLegs 26 = .ok (.iload_n 3, 1) := by decide +kernel
theorem dX6_tryLegs_27 : decode cX6_tryLegs 27 = .ok (.aload_n 0, 1) := by decide +kernel
theorem dX6_tryLegs_28 : decode cX6_tryLegs 28 = .ok (.getfield 15, 3) := by decide +kernel
theorem dX6_tryLegs_31 : decode cX6_tryLegs 31 = .ok (.aload_n 0, 1) := by decide +kernel
theorem dX6_tryLegs_32 : decode cX6_tryLegs 32 = .ok (.getfield 15, 3) := by decide +kernel
theorem dX6_tryLegs_35 : decode cX6_tryLegs 35 = .ok (.invokestatic 46, 3) := by decide +kernel
theorem dX6_tryLegs_38 : decode cX6_tryLegs 38 = .ok (.iload_n 2, 1) := by decide +kernel
theorem dX6_tryLegs_39 : decode cX6_tryLegs 39 = .ok (.invokestatic 50, 3) := by decide +kernel
theorem dX6_tryLegs_42 : decode cX6_tryLegs 42 = .ok (.iadd, 1) := by decide +kernel
theorem dX6_tryLegs_43 : decode cX6_tryLegs 43 = .ok (.istore_n 3, 1) := by decide +kernel
theorem dX6_tryLegs_44 : decode cX6_tryLegs 44 = .ok (.iinc 4 1, 3) := by decide +kernel
theorem dX6_tryLegs_47 : decode cX6_tryLegs 47 = .ok (.goto (-27), 3) := by decide +kernel
theorem dX6_tryLegs_50 : decode cX6_tryLegs 50 = .ok (.iload_n 3, 1) := by decide +kernel
theorem dX6_tryLegs_51 : decode cX6_tryLegs 51 = .ok (.ireturn, 1) := by decide +kernel
theorem dX6_lookAt_0 : decode cX6_lookAt 0 = .ok (.iload_n 1, 1) := by decide +kernel
theorem dX6_lookAt_1 : decode cX6_lookAt 1 = .ok (.aload_n 0, 1) := by decide +kernel
theorem dX6_lookAt_2 : decode cX6_lookAt 2 = .ok (.arraylength, 1) := by decide +kernel
theorem dX6_lookAt_3 : decode cX6_lookAt 3 = .ok (.invokestatic 54, 3) := by decide +kernel
theorem dX6_lookAt_6 : decode cX6_lookAt 6 = .ok (.ifCond .ne 5, 3) := by decide +kernel
theorem dX6_lookAt_9 : decode cX6_lookAt 9 = .ok (.iconst 0, 1) := by decide +kernel
theorem dX6_lookAt_10 : decode cX6_lookAt 10 = .ok (.ireturn, 1) := by decide +kernel
theorem dX6_lookAt_11 : decode cX6_lookAt 11 = .ok (.aload_n 0, 1) := by decide +kernel
theorem dX6_lookAt_12 : decode cX6_lookAt 12 = .ok (.iload_n 1, 1) := by decide +kernel
theorem dX6_lookAt_13 : decode cX6_lookAt 13 = .ok (.iaload, 1) := by decide +kernel
theorem dX6_lookAt_14 : decode cX6_lookAt 14 = .ok (.iload_n 2, 1) := by decide +kernel
theorem dX6_lookAt_15 : decode cX6_lookAt 15 = .ok (.imul, 1) := by decide +kernel
theorem dX6_lookAt_16 : decode cX6_lookAt 16 = .ok (.bipush 100, 2) := by decide +kernel
theorem dX6_lookAt_18 : decode cX6_lookAt 18 = .ok (.idiv, 1) := by decide +kernel
theorem dX6_lookAt_19 : decode cX6_lookAt 19 = .ok (.istore_n 3, 1) := by decide +kernel
theorem dX6_lookAt_20 : decode cX6_lookAt 20 = .ok (.aload_n 0, 1) := by decide +kernel
theorem dX6_lookAt_21 : decode cX6_lookAt 21 = .ok (.iload_n 1, 1) := by decide +kernel
theorem dX6_lookAt_22 : decode cX6_lookAt 22 = .ok (.dup2, 1) := by decide +kernel
theorem dX6_lookAt_23 : decode cX6_lookAt 23 = .ok (.iaload, 1) := by decide +kernel
theorem dX6_lookAt_24 : decode cX6_lookAt 24 = .ok (.iload_n 3, 1) := by decide +kernel
theorem dX6_lookAt_25 : decode cX6_lookAt 25 = .ok (.isub, 1) := by decide +kernel
theorem dX6_lookAt_26 : decode cX6_lookAt 26 = .ok (.iastore, 1) := by decide +kernel
theorem dX6_lookAt_27 : decode cX6_lookAt 27 = .ok (.iload_n 3, 1) := by decide +kernel
theorem dX6_lookAt_28 : decode cX6_lookAt 28 = .ok (.ireturn, 1) := by decide +kernel
theorem dX6_bestOf_0 : decode cX6_bestOf 0 = .ok (.iconst 0, 1) := by decide +kernel
theorem dX6_bestOf_1 : decode cX6_bestOf 1 = .ok (.istore_n 1, 1) := by decide +kernel
theorem dX6_bestOf_2 : decode cX6_bestOf 2 = .ok (.iconst 1, 1) := by decide +kernel
theorem dX6_bestOf_3 : decode cX6_bestOf 3 = .ok (.istore_n 2, 1) := by decide +kernel
theorem dX6_bestOf_4 : decode cX6_bestOf 4 = .ok (.iload_n 2, 1) := by decide +kernel
theorem dX6_bestOf_5 : decode cX6_bestOf 5 = .ok (.aload_n 0, 1) := by decide +kernel
theorem dX6_bestOf_6 : decode cX6_bestOf 6 = .ok (.arraylength, 1) := by decide +kernel
theorem dX6_bestOf_7 : decode cX6_bestOf 7 = .ok (.if_icmp .ge 20, 3) := by decide +kernel
theorem dX6_bestOf_10 : decode cX6_bestOf 10 = .ok (.aload_n 0, 1) := by decide +kernel
theorem dX6_bestOf_11 : decode cX6_bestOf 11 = .ok (.iload_n 2, 1) := by decide +kernel
theorem dX6_bestOf_12 : decode cX6_bestOf 12 = .ok (.iaload, 1) := by decide +kernel
theorem dX6_bestOf_13 : decode cX6_bestOf 13 = .ok (.aload_n 0, 1) := by decide +kernel
theorem dX6_bestOf_14 : decode cX6_bestOf 14 = .ok (.iload_n 1, 1) := by decide +kernel
theorem dX6_bestOf_15 : decode cX6_bestOf 15 = .ok (.iaload, 1) := by decide +kernel
theorem dX6_bestOf_16 : decode cX6_bestOf 16 = .ok (.if_icmp .le 5, 3) := by decide +kernel
theorem dX6_bestOf_19 : decode cX6_bestOf 19 = .ok (.iload_n 2, 1) := by decide +kernel
theorem dX6_bestOf_20 : decode cX6_bestOf 20 = .ok (.istore_n 1, 1) := by decide +kernel
theorem dX6_bestOf_21 : decode cX6_bestOf 21 = .ok (.iinc 2 1, 3) := by decide +kernel
theorem dX6_bestOf_24 : decode cX6_bestOf 24 = .ok (.goto (-20), 3) := by decide +kernel
theorem dX6_bestOf_27 : decode cX6_bestOf 27 = .ok (.iload_n 1, 1) := by decide +kernel
theorem dX6_bestOf_28 : decode cX6_bestOf 28 = .ok (.ireturn, 1) := by decide +kernel
theorem dX7_init_0 : decode cX7_init 0 = .ok (.aload_n 0, 1) := by decide +kernel
theorem dX7_init_1 : decode cX7_init 1 = .ok (.invokespecial 3, 3) := by decide +kernel
theorem dX7_init_4 : decode cX7_init 4 = .ok (.aload_n 0, 1) := by decide +kernel
theorem dX7_init_5 : decode cX7_init 5 = .ok (.bipush 30, 2) := by decide +kernel
theorem dX7_init_7 : decode cX7_init 7 = .ok (.newarray .int, 2) := by decide +kernel
theorem dX7_init_9 : decode cX7_init 9 = .ok (.putfield 9, 3) := by decide +kernel
theorem dX7_init_12 : decode cX7_init 12 = .ok (.aload_n 0, 1) := by decide +kernel
theorem dX7_init_13 : decode cX7_init 13 = .ok (.bipush 20, 2) := by decide +kernel
theorem dX7_init_15 : decode cX7_init 15 = .ok (.newarray .int, 2) := by decide +kernel
theorem dX7_init_17 : decode cX7_init 17 = .ok (.putfield 15, 3) := by decide +kernel
theorem dX7_init_20 : decode cX7_init 20 = .ok (.aload_n 0, 1) := by decide +kernel
theorem dX7_init_21 : decode cX7_init 21 = .ok (.bipush 20, 2) := by decide +kernel
theorem dX7_init_23 : decode cX7_init 23 = .ok (.newarray .int, 2) := by decide +kernel
theorem dX7_init_25 : decode cX7_init 25 = .ok (.putfield 18, 3) := by decide +kernel
theorem dX7_init_28 : decode cX7_init 28 = .ok (.return_, 1) := by decide +kernel
theorem dX7_stationOf_0 : decode cX7_stationOf 0 = .ok (.iload_n 0, 1) := by decide +kernel
theorem dX7_stationOf_1 : decode cX7_stationOf 1 = .ok (.bipush 60, 2) := by decide +kernel
theorem dX7_stationOf_3 : decode cX7_stationOf 3 = .ok (.imul, 1) := by decide +kernel
theorem dX7_stationOf_4 : decode cX7_stationOf 4 = .ok (.iload_n 1, 1) := by decide +kernel
theorem dX7_stationOf_5 : decode cX7_stationOf 5 = .ok (.iadd, 1) := by decide +kernel
theorem dX7_stationOf_6 : decode cX7_stationOf 6 = .ok (.ireturn, 1) := by decide +kernel
theorem dX7_dayOf_0 : decode cX7_dayOf 0 = .ok (.iload_n 0, 1) := by decide +kernel
theorem dX7_dayOf_1 : decode cX7_dayOf 1 = .ok (.bipush 60, 2) := by decide +kernel
theorem dX7_dayOf_3 : decode cX7_dayOf 3 = .ok (.idiv, 1) := by decide +kernel
theorem dX7_dayOf_4 : decode cX7_dayOf 4 = .ok (.ireturn, 1) := by decide +kernel
theorem dX7_cellOf_0 : decode cX7_cellOf 0 = .ok (.iload_n 1, 1) := by decide +kernel
theorem dX7_cellOf_1 : decode cX7_cellOf 1 = .ok (.aload_n 0, 1) := by decide +kernel
theorem dX7_cellOf_2 : decode cX7_cellOf 2 = .ok (.getfield 9, 3) := by decide +kernel
theorem dX7_cellOf_5 : decode cX7_cellOf 5 = .ok (.arraylength, 1) := by decide +kernel
theorem dX7_cellOf_6 : decode cX7_cellOf 6 = .ok (.invokestatic 21, 3) := by decide +kernel
theorem dX7_cellOf_9 : decode cX7_cellOf 9 = .ok (.ifCond .eq 15, 3) := by decide +kernel
theorem dX7_cellOf_12 : decode cX7_cellOf 12 = .ok (.aload_n 0, 1) := by decide +kernel
theorem dX7_cellOf_13 : decode cX7_cellOf 13 = .ok (.getfield 9, 3) := by decide +kernel
theorem dX7_cellOf_16 : decode cX7_cellOf 16 = .ok (.iload_n 1, 1) := by decide +kernel
theorem dX7_cellOf_17 : decode cX7_cellOf 17 = .ok (.iaload, 1) := by decide +kernel
theorem dX7_cellOf_18 : decode cX7_cellOf 18 = .ok (.bipush 60, 2) := by decide +kernel
theorem dX7_cellOf_20 : decode cX7_cellOf 20 = .ok (.irem, 1) := by decide +kernel
theorem dX7_cellOf_21 : decode cX7_cellOf 21 = .ok (.goto 4, 3) := by decide +kernel
theorem dX7_cellOf_24 : decode cX7_cellOf 24 = .ok (.iconst 0, 1) := by decide +kernel
theorem dX7_cellOf_25 : decode cX7_cellOf 25 = .ok (.ireturn, 1) := by decide +kernel
theorem dX7_hasStation_0 : decode cX7_hasStation 0 = .ok (.iload_n 1, 1) := by decide +kernel
theorem dX7_hasStation_1 : decode cX7_hasStation 1 = .ok (.iload_n 2, 1) := by decide +kernel
theorem dX7_hasStation_2 : decode cX7_hasStation 2 = .ok (.invokestatic 25, 3) := by decide +kernel
theorem dX7_hasStation_5 : decode cX7_hasStation 5 = .ok (.istore_n 3, 1) := by decide +kernel
theorem dX7_hasStation_6 : decode cX7_hasStation 6 = .ok (.iconst 0, 1) := by decide +kernel
theorem dX7_hasStation_7 : decode cX7_hasStation 7 = .ok (.istore 4, 2) := by decide +kernel
theorem dX7_hasStation_9 : decode cX7_hasStation 9 = .ok (.iload 4, 2) := by decide +kernel
theorem dX7_hasStation_11 : decode cX7_hasStation 11 = .ok (.aload_n 0, 1) := by decide +kernel
theorem dX7_hasStation_12 : decode cX7_hasStation 12 = .ok (.getfield 29, 3) := by decide +kernel
theorem dX7_hasStation_15 : decode cX7_hasStation 15 = .ok (.if_icmp .ge 32, 3) := by decide +kernel
theorem dX7_hasStation_18 : decode cX7_hasStation 18 = .ok (.iload 4, 2) := by decide +kernel
theorem dX7_hasStation_20 : decode cX7_hasStation 20 = .ok (.aload_n 0, 1) := by decide +kernel
theorem dX7_hasStation_21 : decode cX7_hasStation 21 = .ok (.getfield 9, 3) := by decide +kernel
theorem dX7_hasStation_24 : decode cX7_hasStation 24 = .ok (.arraylength, 1) := by decide +kernel
theorem dX7_hasStation_25 : decode cX7_hasStation 25 = .ok (.if_icmp .ge 22, 3) := by decide +kernel
theorem dX7_hasStation_28 : decode cX7_hasStation 28 = .ok (.aload_n 0, 1) := by decide +kernel
theorem dX7_hasStation_29 : decode cX7_hasStation 29 = .ok (.getfield 9, 3) := by decide +kernel
theorem dX7_hasStation_32 : decode cX7_hasStation 32 = .ok (.iload 4, 2) := by decide +kernel
theorem dX7_hasStation_34 : decode cX7_hasStation 34 = .ok (.iaload, 1) := by decide +kernel
theorem dX7_hasStation_35 : decode cX7_hasStation 35 = .ok (.iload_n 3, 1) := by decide +kernel
theorem dX7_hasStation_36 : decode cX7_hasStation 36 = .ok (.if_icmp .ne 5, 3) := by decide +kernel
theorem dX7_hasStation_39 : decode cX7_hasStation 39 = .ok (.iconst 1, 1) := by decide +kernel
theorem dX7_hasStation_40 : decode cX7_hasStation 40 = .ok (.ireturn, 1) := by decide +kernel
theorem dX7_hasStation_41 : decode cX7_hasStation 41 = .ok (.iinc 4 1, 3) := by decide +kernel
theorem dX7_hasStation_44 : decode cX7_hasStation 44 = .ok (.goto (-35), 3) := by decide +kernel
theorem dX7_hasStation_47 : decode cX7_hasStation 47 = .ok (.iconst 0, 1) := by decide +kernel
theorem dX7_hasStation_48 : decode cX7_hasStation 48 = .ok (.ireturn, 1) := by decide +kernel
theorem dX7_hasStationIn_0 : decode cX7_hasStationIn 0 = .ok (.iconst 0, 1) := by decide +kernel
theorem dX7_hasStationIn_1 : decode cX7_hasStationIn 1 = .ok (.istore_n 2, 1) := by decide +kernel
theorem dX7_hasStationIn_2 : decode cX7_hasStationIn 2 = .ok (.iload_n 2, 1) := by decide +kernel
theorem dX7_hasStationIn_3 : decode cX7_hasStationIn 3 = .ok (.aload_n 0, 1) := by decide +kernel
theorem dX7_hasStationIn_4 : decode cX7_hasStationIn 4 = .ok (.getfield 29, 3) := by decide +kernel
theorem dX7_hasStationIn_7 : decode cX7_hasStationIn 7 = .ok (.if_icmp .ge 29, 3) := by decide +kernel
theorem dX7_hasStationIn_10 : decode cX7_hasStationIn 10 = .ok (.iload_n 2, 1) := by decide +kernel
theorem dX7_hasStationIn_11 : decode cX7_hasStationIn 11 = .ok (.aload_n 0, 1) := by decide +kernel
theorem dX7_hasStationIn_12 : decode cX7_hasStationIn 12 = .ok (.getfield 9, 3) := by decide +kernel
theorem dX7_hasStationIn_15 : decode cX7_hasStationIn 15 = .ok (.arraylength, 1) := by decide +kernel
theorem dX7_hasStationIn_16 : decode cX7_hasStationIn 16 = .ok (.if_icmp .ge 20, 3) := by decide +kernel
theorem dX7_hasStationIn_19 : decode cX7_hasStationIn 19 = .ok (.aload_n 0, 1) := by decide +kernel
theorem dX7_hasStationIn_20 : decode cX7_hasStationIn 20 = .ok (.iload_n 2, 1) := by decide +kernel
theorem dX7_hasStationIn_21 : decode cX7_hasStationIn 21 = .ok (.invokevirtual 33, 3) := by decide +kernel
theorem dX7_hasStationIn_24 : decode cX7_hasStationIn 24 = .ok (.iload_n 1, 1) := by decide +kernel
theorem dX7_hasStationIn_25 : decode cX7_hasStationIn 25 = .ok (.if_icmp .ne 5, 3) := by decide +kernel
theorem dX7_hasStationIn_28 : decode cX7_hasStationIn 28 = .ok (.iconst 1, 1) := by decide +kernel
theorem dX7_hasStationIn_29 : decode cX7_hasStationIn 29 = .ok (.ireturn, 1) := by decide +kernel
theorem dX7_hasStationIn_30 : decode cX7_hasStationIn 30 = .ok (.iinc 2 1, 3) := by decide +kernel
theorem dX7_hasStationIn_33 : decode cX7_hasStationIn 33 = .ok (.goto (-31), 3) := by decide +kernel
theorem dX7_hasStationIn_36 : decode cX7_hasStationIn 36 = .ok (.iconst 0, 1) := by decide +kernel
theorem dX7_hasStationIn_37 : decode cX7_hasStationIn 37 = .ok (.ireturn, 1) := by decide +kernel
theorem dX7_areAllStationsTold_0 : decode cX7_areAllStationsTold 0 = .ok (.aload_n 0, 1) := by decide +kernel
theorem dX7_areAllStationsTold_1 : decode cX7_areAllStationsTold 1 = .ok (.getfield 29, 3) := by decide +kernel
theorem dX7_areAllStationsTold_4 : decode cX7_areAllStationsTold 4 = .ok (.aload_n 0, 1) := by decide +kernel
theorem dX7_areAllStationsTold_5 : decode cX7_areAllStationsTold 5 = .ok (.getfield 9, 3) := by decide +kernel
theorem dX7_areAllStationsTold_8 : decode cX7_areAllStationsTold 8 = .ok (.arraylength, 1) := by decide +kernel
theorem dX7_areAllStationsTold_9 : decode cX7_areAllStationsTold 9 = .ok (.invokestatic 21, 3) := by decide +kernel
theorem dX7_areAllStationsTold_12 : decode cX7_areAllStationsTold 12 = .ok (.ifCond .ne 7, 3) := by decide +kernel
theorem dX7_areAllStationsTold_15 : decode cX7_areAllStationsTold 15 = .ok (.iconst 1, 1) := by decide +kernel
theorem dX7_areAllStationsTold_16 : decode cX7_areAllStationsTold 16 = .ok (.goto 4, 3) := by decide +kernel
theorem dX7_areAllStationsTold_19 : decode cX7_areAllStationsTold 19 = .ok (.iconst 0, 1) := by decide +kernel
theorem dX7_areAllStationsTold_20 : decode cX7_areAllStationsTold 20 = .ok (.ireturn, 1) := by decide +kernel
theorem dX7_tellStation_0 : decode cX7_tellStation 0 = .ok (.aload_n 0, 1) := by decide +kernel
theorem dX7_tellStation_1 : decode cX7_tellStation 1 = .ok (.invokevirtual 37, 3) := by decide +kernel
theorem dX7_tellStation_4 : decode cX7_tellStation 4 = .ok (.ifCond .eq 8, 3) := by decide +kernel
theorem dX7_tellStation_7 : decode cX7_tellStation 7 = .ok (.aload_n 0, 1) := by decide +kernel
theorem dX7_tellStation_8 : decode cX7_tellStation 8 = .ok (.getfield 29, 3) := by decide +kernel
theorem dX7_tellStation_11 : decode cX7_tellStation 11 = .ok (.ireturn, 1) := by decide +kernel
theorem dX7_tellStation_12 : decode cX7_tellStation 12 = .ok (.iload_n 1, 1) := by decide +kernel
theorem dX7_tellStation_13 : decode cX7_tellStation 13 = .ok (.iload_n 2, 1) := by decide +kernel
theorem dX7_tellStation_14 : decode cX7_tellStation 14 = .ok (.invokestatic 25, 3) := by decide +kernel
theorem dX7_tellStation_17 : decode cX7_tellStation 17 = .ok (.istore_n 3, 1) := by decide +kernel
theorem dX7_tellStation_18 : decode cX7_tellStation 18 = .ok (.aload_n 0, 1) := by decide +kernel
theorem dX7_tellStation_19 : decode cX7_tellStation 19 = .ok (.getfield 29, 3) := by decide +kernel
theorem dX7_tellStation_22 : decode cX7_tellStation 22 = .ok (.istore 4, 2) := by decide +kernel
theorem dX7_tellStation_24 : decode cX7_tellStation 24 = .ok (.iload 4, 2) := by decide +kernel
theorem dX7_tellStation_26 : decode cX7_tellStation 26 = .ok (.ifCond .le 38, 3) := by decide +kernel
theorem dX7_tellStation_29 : decode cX7_tellStation 29 = .ok (.aload_n 0, 1) := by decide +kernel
theorem dX7_tellStation_30 : decode cX7_tellStation 30 = .ok (.getfield 9, 3) := by decide +kernel
theorem dX7_tellStation_33 : decode cX7_tellStation 33 = .ok (.iload 4, 2) := by decide +kernel
theorem dX7_tellStation_35 : decode cX7_tellStation 35 = .ok (.iconst 1, 1) := by decide +kernel
theorem dX7_tellStation_36 : decode cX7_tellStation 36 = .ok (.isub, 1) := by decide +kernel
theorem dX7_tellStation_37 : decode cX7_tellStation 37 = .ok (.iaload, 1) := by decide +kernel
theorem dX7_tellStation_38 : decode cX7_tellStation 38 = .ok (.iload_n 3, 1) := by decide +kernel
theorem dX7_tellStation_39 : decode cX7_tellStation 39 = .ok (.if_icmp .le 25, 3) := by decide +kernel
theorem dX7_tellStation_42 : decode cX7_tellStation 42 = .ok (.aload_n 0, 1) := by decide +kernel
theorem dX7_tellStation_43 : decode cX7_tellStation 43 = .ok (.getfield 9, 3) := by decide +kernel
theorem dX7_tellStation_46 : decode cX7_tellStation 46 = .ok (.iload 4, 2) := by decide +kernel
theorem dX7_tellStation_48 : decode cX7_tellStation 48 = .ok (.aload_n 0, 1) := by decide +kernel
theorem dX7_tellStation_49 : decode cX7_tellStation 49 = .ok (.getfield 9, 3) := by decide +kernel
theorem dX7_tellStation_52 : decode cX7_tellStation 52 = .ok (.iload 4, 2) := by decide +kernel
theorem dX7_tellStation_54 : decode cX7_tellStation 54 = .ok (.iconst 1, 1) := by decide +kernel
theorem dX7_tellStation_55 : decode cX7_tellStation 55 = .ok (.isub, 1) := by decide +kernel
theorem dX7_tellStation_56 : decode cX7_tellStation 56 = .ok (.iaload, 1) := by decide +kernel
theorem dX7_tellStation_57 : decode cX7_tellStation 57 = .ok (.iastore, 1) := by decide +kernel
theorem dX7_tellStation_58 : decode cX7_tellStation 58 = .ok (.iinc 4 (-1), 3) := by decide +kernel
theorem dX7_tellStation_61 : decode cX7_tellStation 61 = .ok (.goto (-37), 3) := by decide +kernel
theorem dX7_tellStation_64 : decode cX7_tellStation 64 = .ok (.aload_n 0, 1) := by decide +kernel
theorem dX7_tellStation_65 : decode cX7_tellStation 65 = .ok (.getfield 9, 3) := by decide +kernel
theorem dX7_tellStation_68 : decode cX7_tellStation 68 = .ok (.iload 4, 2) := by decide +kernel
theorem dX7_tellStation_70 : decode cX7_tellStation 70 = .ok (.iload_n 3, 1) := by decide +kernel
theorem dX7_tellStation_71 : decode cX7_tellStation 71 = .ok (.iastore, 1) := by decide +kernel
theorem dX7_tellStation_72 : decode cX7_tellStation 72 = .ok (.aload_n 0, 1) := by decide +kernel
theorem dX7_tellStation_73 : decode cX7_tellStation 73 = .ok (.dup, 1) := by decide +kernel
theorem dX7_tellStation_74 : decode cX7_tellStation 74 = .ok (.getfield 29, 3) := by decide +kernel
theorem dX7_tellStation_77 : decode cX7_tellStation 77 = .ok (.iconst 1, 1) := by decide +kernel
theorem dX7_tellStation_78 : decode cX7_tellStation 78 = .ok (.iadd, 1) := by decide +kernel
theorem dX7_tellStation_79 : decode cX7_tellStation 79 = .ok (.putfield 29, 3) := by decide +kernel
theorem dX7_tellStation_82 : decode cX7_tellStation 82 = .ok (.aload_n 0, 1) := by decide +kernel
theorem dX7_tellStation_83 : decode cX7_tellStation 83 = .ok (.getfield 29, 3) := by decide +kernel
theorem dX7_tellStation_86 : decode cX7_tellStation 86 = .ok (.ireturn, 1) := by decide +kernel
theorem dX7_countDue_0 : decode cX7_countDue 0 = .ok (.iconst 0, 1) := by decide +kernel
theorem dX7_countDue_1 : decode cX7_countDue 1 = .ok (.istore_n 2, 1) := by decide +kernel
theorem dX7_countDue_2 : decode cX7_countDue 2 = .ok (.iload_n 2, 1) := by decide +kernel
theorem dX7_countDue_3 : decode cX7_countDue 3 = .ok (.aload_n 0, 1) := by decide +kernel
theorem dX7_countDue_4 : decode cX7_countDue 4 = .ok (.getfield 29, 3) := by decide +kernel
theorem dX7_countDue_7 : decode cX7_countDue 7 = .ok (.if_icmp .ge 31, 3) := by decide +kernel
theorem dX7_countDue_10 : decode cX7_countDue 10 = .ok (.iload_n 2, 1) := by decide +kernel
theorem dX7_countDue_11 : decode cX7_countDue 11 = .ok (.aload_n 0, 1) := by decide +kernel
theorem dX7_countDue_12 : decode cX7_countDue 12 = .ok (.getfield 9, 3) := by decide +kernel
theorem dX7_countDue_15 : decode cX7_countDue 15 = .ok (.arraylength, 1) := by decide +kernel
theorem dX7_countDue_16 : decode cX7_countDue 16 = .ok (.if_icmp .ge 22, 3) := by decide +kernel
theorem dX7_countDue_19 : decode cX7_countDue 19 = .ok (.aload_n 0, 1) := by decide +kernel
theorem dX7_countDue_20 : decode cX7_countDue 20 = .ok (.getfield 9, 3) := by decide +kernel
theorem dX7_countDue_23 : decode cX7_countDue 23 = .ok (.iload_n 2, 1) := by decide +kernel
theorem dX7_countDue_24 : decode cX7_countDue 24 = .ok (.iaload, 1) := by decide +kernel
theorem dX7_countDue_25 : decode cX7_countDue 25 = .ok (.invokestatic 41, 3) := by decide +kernel
theorem dX7_countDue_28 : decode cX7_countDue 28 = .ok (.iload_n 1, 1) := by decide +kernel
theorem dX7_countDue_29 : decode cX7_countDue 29 = .ok (.if_icmp .gt 9, 3) := by decide +kernel
theorem dX7_countDue_32 : decode cX7_countDue 32 = .ok (.iinc 2 1, 3) := by decide +kernel
theorem dX7_countDue_35 : decode cX7_countDue 35 = .ok (.goto (-33), 3) := by decide +kernel
theorem dX7_countDue_38 : decode cX7_countDue 38 = .ok (.iload_n 2, 1) := by decide +kernel
theorem dX7_countDue_39 : decode cX7_countDue 39 = .ok (.ireturn, 1) := by decide +kernel
theorem dX7_dropFirst_0 : decode cX7_dropFirst 0 = .ok (.iload_n 1, 1) := by decide +kernel
theorem dX7_dropFirst_1 : decode cX7_dropFirst 1 = .ok (.ifCond .le 23, 3) := by decide +kernel
theorem dX7_dropFirst_4 : decode cX7_dropFirst 4 = .ok (.iload_n 1, 1) := by decide +kernel
theorem dX7_dropFirst_5 : decode cX7_dropFirst 5 = .ok (.aload_n 0, 1) := by decide +kernel
theorem dX7_dropFirst_6 : decode cX7_dropFirst 6 = .ok (.getfield 29, 3) := by decide +kernel
theorem dX7_dropFirst_9 : decode cX7_dropFirst 9 = .ok (.if_icmp .gt 15, 3) := by decide +kernel
theorem dX7_dropFirst_12 : decode cX7_dropFirst 12 = .ok (.aload_n 0, 1) := by decide +kernel
theorem dX7_dropFirst_13 : decode cX7_dropFirst 13 = .ok (.getfield 29, 3) := by decide +kernel
theorem dX7_dropFirst_16 : decode cX7_dropFirst 16 = .ok (.aload_n 0, 1) := by decide +kernel
theorem dX7_dropFirst_17 : decode cX7_dropFirst 17 = .ok (.getfield 9, 3) := by decide +kernel
theorem dX7_dropFirst_20 : decode cX7_dropFirst 20 = .ok (.arraylength, 1) := by decide +kernel
theorem dX7_dropFirst_21 : decode cX7_dropFirst 21 = .ok (.if_icmp .le 4, 3) := by decide +kernel
theorem dX7_dropFirst_24 : decode cX7_dropFirst 24 = .ok (.return_, 1) := by decide +kernel
theorem dX7_dropFirst_25 : decode cX7_dropFirst 25 = .ok (.aload_n 0, 1) := by decide +kernel
theorem dX7_dropFirst_26 : decode cX7_dropFirst 26 = .ok (.dup, 1) := by decide +kernel
theorem dX7_dropFirst_27 : decode cX7_dropFirst 27 = .ok (.getfield 29, 3) := by decide +kernel
theorem dX7_dropFirst_30 : decode cX7_dropFirst 30 = .ok (.iload_n 1, 1) := by decide +kernel
theorem dX7_dropFirst_31 : decode cX7_dropFirst 31 = .ok (.isub, 1) := by decide +kernel
theorem dX7_dropFirst_32 : decode cX7_dropFirst 32 = .ok (.putfield 29, 3) := by decide +kernel
theorem dX7_dropFirst_35 : decode cX7_dropFirst 35 = .ok (.aload_n 0, 1) := by decide +kernel
theorem dX7_dropFirst_36 : decode cX7_dropFirst 36 = .ok (.getfield 9, 3) := by decide +kernel
theorem dX7_dropFirst_39 : decode cX7_dropFirst 39 = .ok (.iload_n 1, 1) := by decide +kernel
theorem dX7_dropFirst_40 : decode cX7_dropFirst 40 = .ok (.aload_n 0, 1) := by decide +kernel
theorem dX7_dropFirst_41 : decode cX7_dropFirst 41 = .ok (.getfield 9, 3) := by decide +kernel
theorem dX7_dropFirst_44 : decode cX7_dropFirst 44 = .ok (.iconst 0, 1) := by decide +kernel
theorem dX7_dropFirst_45 : decode cX7_dropFirst 45 = .ok (.aload_n 0, 1) := by decide +kernel
theorem dX7_dropFirst_46 : decode cX7_dropFirst 46 = .ok (.getfield 29, 3) := by decide +kernel
theorem dX7_dropFirst_49 : decode cX7_dropFirst 49 = .ok (.invokestatic 44, 3) := by decide +kernel
theorem dX7_dropFirst_52 : decode cX7_dropFirst 52 = .ok (.return_, 1) := by decide +kernel
theorem dX7_areAllStormsTold_0 : decode cX7_areAllStormsTold 0 = .ok (.aload_n 0, 1) := by decide +kernel
theorem dX7_areAllStormsTold_1 : decode cX7_areAllStormsTold 1 = .ok (.getfield 50, 3) := by decide +kernel
theorem dX7_areAllStormsTold_4 : decode cX7_areAllStormsTold 4 = .ok (.bipush 20, 2) := by decide +kernel
theorem dX7_areAllStormsTold_6 : decode cX7_areAllStormsTold 6 = .ok (.invokestatic 21, 3) := by decide +kernel
theorem dX7_areAllStormsTold_9 : decode cX7_areAllStormsTold 9 = .ok (.ifCond .ne 7, 3) := by decide +kernel
theorem dX7_areAllStormsTold_12 : decode cX7_areAllStormsTold 12 = .ok (.iconst 1, 1) := by decide +kernel
theorem dX7_areAllStormsTold_13 : decode cX7_areAllStormsTold 13 = .ok (.goto 4, 3) := by decide +kernel
theorem dX7_areAllStormsTold_16 : decode cX7_areAllStormsTold 16 = .ok (.iconst 0, 1) := by decide +kernel
theorem dX7_areAllStormsTold_17 : decode cX7_areAllStormsTold 17 = .ok (.ireturn, 1) := by decide +kernel
theorem dX7_tellStorm_0 : decode cX7_tellStorm 0 = .ok (.aload_n 0, 1) := by decide +kernel
theorem dX7_tellStorm_1 : decode cX7_tellStorm 1 = .ok (.invokevirtual 53, 3) := by decide +kernel
theorem dX7_tellStorm_4 : decode cX7_tellStorm 4 = .ok (.ifCond .ne 33, 3) := by decide +kernel
theorem dX7_tellStorm_7 : decode cX7_tellStorm 7 = .ok (.aload_n 0, 1) := by decide +kernel
theorem dX7_tellStorm_8 : decode cX7_tellStorm 8 = .ok (.getfield 15, 3) := by decide +kernel
theorem dX7_tellStorm_11 : decode cX7_tellStorm 11 = .ok (.aload_n 0, 1) := by decide +kernel
theorem dX7_tellStorm_12 : decode cX7_tellStorm 12 = .ok (.getfield 50, 3) := by decide +kernel
theorem dX7_tellStorm_15 : decode cX7_tellStorm 15 = .ok (.iload_n 1, 1) := by decide +kernel
theorem dX7_tellStorm_16 : decode cX7_tellStorm 16 = .ok (.iastore, 1) := by decide +kernel
theorem dX7_tellStorm_17 : decode cX7_tellStorm 17 = .ok (.aload_n 0, 1) := by decide +kernel
theorem dX7_tellStorm_18 : decode cX7_tellStorm 18 = .ok (.getfield 18, 3) := by decide +kernel
theorem dX7_tellStorm_21 : decode cX7_tellStorm 21 = .ok (.aload_n 0, 1) := by decide +kernel
theorem dX7_tellStorm_22 : decode cX7_tellStorm 22 = .ok (.getfield 50, 3) := by decide +kernel
theorem dX7_tellStorm_25 : decode cX7_tellStorm 25 = .ok (.iload_n 2, 1) := by decide +kernel
theorem dX7_tellStorm_26 : decode cX7_tellStorm 26 = .ok (.iastore, 1) := by decide +kernel
theorem dX7_tellStorm_27 : decode cX7_tellStorm 27 = .ok (.aload_n 0, 1) := by decide +kernel
theorem dX7_tellStorm_28 : decode cX7_tellStorm 28 = .ok (.dup, 1) := by decide +kernel
theorem dX7_tellStorm_29 : decode cX7_tellStorm 29 = .ok (.getfield 50, 3) := by decide +kernel
theorem dX7_tellStorm_32 : decode cX7_tellStorm 32 = .ok (.iconst 1, 1) := by decide +kernel
theorem dX7_tellStorm_33 : decode cX7_tellStorm 33 = .ok (.iadd, 1) := by decide +kernel
theorem dX7_tellStorm_34 : decode cX7_tellStorm 34 = .ok (.putfield 50, 3) := by decide +kernel
theorem dX7_tellStorm_37 : decode cX7_tellStorm 37 = .ok (.return_, 1) := by decide +kernel
theorem dX7_hasStorm_0 : decode cX7_hasStorm 0 = .ok (.iconst 0, 1) := by decide +kernel
theorem dX7_hasStorm_1 : decode cX7_hasStorm 1 = .ok (.istore_n 2, 1) := by decide +kernel
theorem dX7_hasStorm_2 : decode cX7_hasStorm 2 = .ok (.iload_n 2, 1) := by decide +kernel
theorem dX7_hasStorm_3 : decode cX7_hasStorm 3 = .ok (.aload_n 0, 1) := by decide +kernel
theorem dX7_hasStorm_4 : decode cX7_hasStorm 4 = .ok (.getfield 50, 3) := by decide +kernel
theorem dX7_hasStorm_7 : decode cX7_hasStorm 7 = .ok (.if_icmp .ge 37, 3) := by decide +kernel
theorem dX7_hasStorm_10 : decode cX7_hasStorm 10 = .ok (.iload_n 2, 1) := by decide +kernel
theorem dX7_hasStorm_11 : decode cX7_hasStorm 11 = .ok (.bipush 20, 2) := by decide +kernel
theorem dX7_hasStorm_13 : decode cX7_hasStorm 13 = .ok (.if_icmp .ge 31, 3) := by decide +kernel
theorem dX7_hasStorm_16 : decode cX7_hasStorm 16 = .ok (.aload_n 0, 1) := by decide +kernel
theorem dX7_hasStorm_17 : decode cX7_hasStorm 17 = .ok (.getfield 15, 3) := by decide +kernel
theorem dX7_hasStorm_20 : decode cX7_hasStorm 20 = .ok (.iload_n 2, 1) := by decide +kernel
theorem dX7_hasStorm_21 : decode cX7_hasStorm 21 = .ok (.iaload, 1) := by decide +kernel
theorem dX7_hasStorm_22 : decode cX7_hasStorm 22 = .ok (.iload_n 1, 1) := by decide +kernel
theorem dX7_hasStorm_23 : decode cX7_hasStorm 23 = .ok (.if_icmp .gt 15, 3) := by decide +kernel
theorem dX7_hasStorm_26 : decode cX7_hasStorm 26 = .ok (.iload_n 1, 1) := by decide +kernel
theorem dX7_hasStorm_27 : decode cX7_hasStorm 27 = .ok (.aload_n 0, 1) := by decide +kernel
theorem dX7_hasStorm_28 : decode cX7_hasStorm 28 = .ok (.getfield 18, 3) := by decide +kernel
theorem dX7_hasStorm_31 : decode cX7_hasStorm 31 = .ok (.iload_n 2, 1) := by decide +kernel
theorem dX7_hasStorm_32 : decode cX7_hasStorm 32 = .ok (.iaload, 1) := by decide +kernel
theorem dX7_hasStorm_33 : decode cX7_hasStorm 33 = .ok (.if_icmp .gt 5, 3) := by decide +kernel
theorem dX7_hasStorm_36 : decode cX7_hasStorm 36 = .ok (.iconst 1, 1) := by decide +kernel
theorem dX7_hasStorm_37 : decode cX7_hasStorm 37 = .ok (.ireturn, 1) := by decide +kernel
theorem dX7_hasStorm_38 : decode cX7_hasStorm 38 = .ok (.iinc 2 1, 3) := by decide +kernel
theorem dX7_hasStorm_41 : decode cX7_hasStorm 41 = .ok (.goto (-39), 3) := by decide +kernel
theorem dX7_hasStorm_44 : decode cX7_hasStorm 44 = .ok (.iconst 0, 1) := by decide +kernel
theorem dX7_hasStorm_45 : decode cX7_hasStorm 45 = .ok (.ireturn, 1) := by decide +kernel
theorem dX7_calmStations_0 : decode cX7_calmStations 0 = .ok (.iconst 0, 1) := by decide +kernel
theorem dX7_calmStations_1 : decode cX7_calmStations 1 = .ok (.istore_n 3, 1) := by decide +kernel
theorem dX7_calmStations_2 : decode cX7_calmStations 2 = .ok (.iconst 0, 1) := by decide +kernel
theorem dX7_calmStations_3 : decode cX7_calmStations 3 = .ok (.istore 4, 2) := by decide +kernel
theorem dX7_calmStations_5 : decode cX7_calmStations 5 = .ok (.iload 4, 2) := by decide +kernel
theorem dX7_calmStations_7 : decode cX7_calmStations 7 = .ok (.aload_n 0, 1) := by decide +kernel
theorem dX7_calmStations_8 : decode cX7_calmStations 8 = .ok (.getfield 29, 3) := by decide +kernel
theorem dX7_calmStations_11 : decode cX7_calmStations 11 = .ok (.if_icmp .ge 55, 3) := by decide +kernel
theorem dX7_calmStations_14 : decode cX7_calmStations 14 = .ok (.iload 4, 2) := by decide +kernel
theorem dX7_calmStations_16 : decode cX7_calmStations 16 = .ok (.aload_n 0, 1) := by decide +kernel
theorem dX7_calmStations_17 : decode cX7_calmStations 17 = .ok (.getfield 9, 3) := by decide +kernel
theorem dX7_calmStations_20 : decode cX7_calmStations 20 = .ok (.arraylength, 1) := by decide +kernel
theorem dX7_calmStations_21 : decode cX7_calmStations 21 = .ok (.if_icmp .ge 45, 3) := by decide +kernel
theorem dX7_calmStations_24 : decode cX7_calmStations 24 = .ok (.aload_n 0, 1) := by decide +kernel
theorem dX7_calmStations_25 : decode cX7_calmStations 25 = .ok (.getfield 9, 3) := by decide +kernel
theorem dX7_calmStations_28 : decode cX7_calmStations 28 = .ok (.iload 4, 2) := by decide +kernel
theorem dX7_calmStations_30 : decode cX7_calmStations 30 = .ok (.iaload, 1) := by decide +kernel
theorem dX7_calmStations_31 : decode cX7_calmStations 31 = .ok (.invokestatic 41, 3) := by decide +kernel
theorem dX7_calmStations_34 : decode cX7_calmStations 34 = .ok (.istore 5, 2) := by decide +kernel
theorem dX7_calmStations_36 : decode cX7_calmStations 36 = .ok (.iload_n 1, 1) := by decide +kernel
theorem dX7_calmStations_37 : decode cX7_calmStations 37 = .ok (.iload 5, 2) := by decide +kernel
theorem dX7_calmStations_39 : decode cX7_calmStations 39 = .ok (.if_icmp .gt 21, 3) := by decide +kernel
theorem dX7_calmStations_42 : decode cX7_calmStations 42 = .ok (.iload 5, 2) := by decide +kernel
theorem dX7_calmStations_44 : decode cX7_calmStations 44 = .ok (.iload_n 2, 1) := by decide +kernel
theorem dX7_calmStations_45 : decode cX7_calmStations 45 = .ok (.if_icmp .gt 15, 3) := by decide +kernel
theorem dX7_calmStations_48 : decode cX7_calmStations 48 = .ok (.aload_n 0, 1) := by decide +kernel
theorem dX7_calmStations_49 : decode cX7_calmStations 49 = .ok (.iload 5, 2) := by decide +kernel
theorem dX7_calmStations_51 : decode cX7_calmStations 51 = .ok (.invokevirtual 56, 3) := by decide +kernel
theorem dX7_calmStations_54 : decode cX7_calmStations 54 = .ok (.ifCond .ne 6, 3) := by decide +kernel
theorem dX7_calmStations_57 : decode cX7_calmStations 57 = .ok (.iinc 3 1, 3) := by decide +kernel
theorem dX7_calmStations_60 : decode cX7_calmStations 60 = .ok (.iinc 4 1, 3) := by decide +kernel
theorem dX7_calmStations_63 : decode cX7_calmStations 63 = .ok (.goto (-58), 3) := by decide +kernel
theorem dX7_calmStations_66 : decode cX7_calmStations 66 = .ok (.iload_n 3, 1) := by decide +kernel
theorem dX7_calmStations_67 : decode cX7_calmStations 67 = .ok (.ireturn, 1) := by decide +kernel
theorem dX8_init_0 : decode cX8_init 0 = .ok (.aload_n 0, 1) := by decide +kernel
theorem dX8_init_1 : decode cX8_init 1 = .ok (.invokespecial 3, 3) := by decide +kernel
theorem dX8_init_4 : decode cX8_init 4 = .ok (.aload_n 0, 1) := by decide +kernel
theorem dX8_init_5 : decode cX8_init 5 = .ok (.new 9, 3) := by decide +kernel
theorem dX8_init_8 : decode cX8_init 8 = .ok (.dup, 1) := by decide +kernel
theorem dX8_init_9 : decode cX8_init 9 = .ok (.invokespecial 11, 3) := by decide +kernel
theorem dX8_init_12 : decode cX8_init 12 = .ok (.putfield 12, 3) := by decide +kernel
theorem dX8_init_15 : decode cX8_init 15 = .ok (.aload_n 0, 1) := by decide +kernel
theorem dX8_init_16 : decode cX8_init 16 = .ok (.bipush 8, 2) := by decide +kernel
theorem dX8_init_18 : decode cX8_init 18 = .ok (.anewarray 16, 3) := by decide +kernel
theorem dX8_init_21 : decode cX8_init 21 = .ok (.putfield 18, 3) := by decide +kernel
theorem dX8_init_24 : decode cX8_init 24 = .ok (.aload_n 0, 1) := by decide +kernel
theorem dX8_init_25 : decode cX8_init 25 = .ok (.new 22, 3) := by decide +kernel
theorem dX8_init_28 : decode cX8_init 28 = .ok (.dup, 1) := by decide +kernel
theorem dX8_init_29 : decode cX8_init 29 = .ok (.invokespecial 24, 3) := by decide +kernel
theorem dX8_init_32 : decode cX8_init 32 = .ok (.putfield 25, 3) := by decide +kernel
theorem dX8_init_35 : decode cX8_init 35 = .ok (.aload_n 0, 1) := by decide +kernel
theorem dX8_init_36 : decode cX8_init 36 = .ok (.new 29, 3) := by decide +kernel
theorem dX8_init_39 : decode cX8_init 39 = .ok (.dup, 1) := by decide +kernel
theorem dX8_init_40 : decode cX8_init 40 = .ok (.invokespecial 31, 3) := by decide +kernel
theorem dX8_init_43 : decode cX8_init 43 = .ok (.putfield 32, 3) := by decide +kernel
theorem dX8_init_46 : decode cX8_init 46 = .ok (.aload_n 0, 1) := by decide +kernel
theorem dX8_init_47 : decode cX8_init 47 = .ok (.iconst 4, 1) := by decide +kernel
theorem dX8_init_48 : decode cX8_init 48 = .ok (.anewarray 36, 3) := by decide +kernel
theorem dX8_init_51 : decode cX8_init 51 = .ok (.putfield 38, 3) := by decide +kernel
theorem dX8_init_54 : decode cX8_init 54 = .ok (.aload_n 0, 1) := by decide +kernel
theorem dX8_init_55 : decode cX8_init 55 = .ok (.bipush 6, 2) := by decide +kernel
theorem dX8_init_57 : decode cX8_init 57 = .ok (.anewarray 42, 3) := by decide +kernel
theorem dX8_init_60 : decode cX8_init 60 = .ok (.putfield 44, 3) := by decide +kernel
theorem dX8_init_63 : decode cX8_init 63 = .ok (.return_, 1) := by decide +kernel
theorem dX8_land_0 : decode cX8_land 0 = .ok (.iload_n 1, 1) := by decide +kernel
theorem dX8_land_1 : decode cX8_land 1 = .ok (.invokestatic 48, 3) := by decide +kernel
theorem dX8_land_4 : decode cX8_land 4 = .ok (.aload_n 0, 1) := by decide +kernel
theorem dX8_land_5 : decode cX8_land 5 = .ok (.getfield 52, 3) := by decide +kernel
theorem dX8_land_8 : decode cX8_land 8 = .ok (.ifCond .ne 22, 3) := by decide +kernel
theorem dX8_land_11 : decode cX8_land 11 = .ok (.aload_n 0, 1) := by decide +kernel
theorem dX8_land_12 : decode cX8_land 12 = .ok (.getfield 12, 3) := by decide +kernel
theorem dX8_land_15 : decode cX8_land 15 = .ok (.iload_n 1, 1) := by decide +kernel
theorem dX8_land_16 : decode cX8_land 16 = .ok (.invokevirtual 56, 3) := by decide +kernel
theorem dX8_land_19 : decode cX8_land 19 = .ok (.ifCond .ne 11, 3) := by decide +kernel
theorem dX8_land_22 : decode cX8_land 22 = .ok (.aload_n 0, 1) := by decide +kernel
theorem dX8_land_23 : decode cX8_land 23 = .ok (.iload_n 1, 1) := by decide +kernel
theorem dX8_land_24 : decode cX8_land 24 = .ok (.invokevirtual 60, 3) := by decide +kernel
theorem dX8_land_27 : decode cX8_land 27 = .ok (.ifCond .eq 13, 3) := by decide +kernel
theorem dX8_land_30 : decode cX8_land 30 = .ok (.new 63, 3) := by decide +kernel
theorem dX8_land_33 : decode cX8_land 33 = .ok (.dup, 1) := by decide +kernel
theorem dX8_land_34 : decode cX8_land 34 = .ok (.ldc 65, 2) := by decide +kernel
theorem dX8_land_36 : decode cX8_land 36 = .ok (.invokespecial 67, 3) := by decide +kernel
theorem dX8_land_39 : decode cX8_land 39 = .ok (.athrow, 1) := by decide +kernel
theorem dX8_land_40 : decode cX8_land 40 = .ok (.aload_n 0, 1) := by decide +kernel
theorem dX8_land_41 : decode cX8_land 41 = .ok (.getfield 12, 3) := by decide +kernel
theorem dX8_land_44 : decode cX8_land 44 = .ok (.iload_n 1, 1) := by decide +kernel
theorem dX8_land_45 : decode cX8_land 45 = .ok (.invokevirtual 70, 3) := by decide +kernel
theorem dX8_land_48 : decode cX8_land 48 = .ok (.ireturn, 1) := by decide +kernel
theorem dX8_current_0 : decode cX8_current 0 = .ok (.iload_n 1, 1) := by decide +kernel
theorem dX8_current_1 : decode cX8_current 1 = .ok (.invokestatic 48, 3) := by decide +kernel
theorem dX8_current_4 : decode cX8_current 4 = .ok (.iload_n 2, 1) := by decide +kernel
theorem dX8_current_5 : decode cX8_current 5 = .ok (.iconst 0, 1) := by decide +kernel
theorem dX8_current_6 : decode cX8_current 6 = .ok (.iconst 4, 1) := by decide +kernel
theorem dX8_current_7 : decode cX8_current 7 = .ok (.invokestatic 74, 3) := by decide +kernel
theorem dX8_current_10 : decode cX8_current 10 = .ok (.aload_n 0, 1) := by decide +kernel
theorem dX8_current_11 : decode cX8_current 11 = .ok (.getfield 12, 3) := by decide +kernel
theorem dX8_current_14 : decode cX8_current 14 = .ok (.getfield 78, 3) := by decide +kernel
theorem dX8_current_17 : decode cX8_current 17 = .ok (.iload_n 1, 1) := by decide +kernel
theorem dX8_current_18 : decode cX8_current 18 = .ok (.iaload, 1) := by decide +kernel
theorem dX8_current_19 : decode cX8_current 19 = .ok (.istore_n 3, 1) := by decide +kernel
theorem dX8_current_20 : decode cX8_current 20 = .ok (.aload_n 0, 1) := by decide +kernel
theorem dX8_current_21 : decode cX8_current 21 = .ok (.getfield 12, 3) := by decide +kernel
theorem dX8_current_24 : decode cX8_current 24 = .ok (.getfield 78, 3) := by decide +kernel
theorem dX8_current_27 : decode cX8_current 27 = .ok (.iload_n 1, 1) := by decide +kernel
theorem dX8_current_28 : decode cX8_current 28 = .ok (.iload_n 2, 1) := by decide +kernel
theorem dX8_current_29 : decode cX8_current 29 = .ok (.iastore, 1) := by decide +kernel
theorem dX8_current_30 : decode cX8_current 30 = .ok (.iload_n 3, 1) := by decide +kernel
theorem dX8_current_31 : decode cX8_current 31 = .ok (.ireturn, 1) := by decide +kernel
theorem dX8_sun_0 : decode cX8_sun 0 = .ok (.iload_n 1, 1) := by decide +kernel
theorem dX8_sun_1 : decode cX8_sun 1 = .ok (.iconst 0, 1) := by decide +kernel
theorem dX8_sun_2 : decode cX8_sun 2 = .ok (.iconst 5, 1) := by decide +kernel
theorem dX8_sun_3 : decode cX8_sun 3 = .ok (.invokestatic 74, 3) := by decide +kernel
theorem dX8_sun_6 : decode cX8_sun 6 = .ok (.iload_n 2, 1) := by decide +kernel
theorem dX8_sun_7 : decode cX8_sun 7 = .ok (.bipush (-50), 2) := by decide +kernel
theorem dX8_sun_9 : decode cX8_sun 9 = .ok (.bipush 50, 2) := by decide +kernel
theorem dX8_sun_11 : decode cX8_sun 11 = .ok (.invokestatic 74, 3) := by decide +kernel
theorem dX8_sun_14 : decode cX8_sun 14 = .ok (.aload_n 0, 1) := by decide +kernel
theorem dX8_sun_15 : decode cX8_sun 15 = .ok (.getfield 12, 3) := by decide +kernel
theorem dX8_sun_18 : decode cX8_sun 18 = .ok (.getfield 82, 3) := by decide +kernel
theorem dX8_sun_21 : decode cX8_sun 21 = .ok (.iload_n 1, 1) := by decide +kernel
theorem dX8_sun_22 : decode cX8_sun 22 = .ok (.iaload, 1) := by decide +kernel
theorem dX8_sun_23 : decode cX8_sun 23 = .ok (.istore_n 3, 1) := by decide +kernel
theorem dX8_sun_24 : decode cX8_sun 24 = .ok (.aload_n 0, 1) := by decide +kernel
theorem dX8_sun_25 : decode cX8_sun 25 = .ok (.getfield 12, 3) := by decide +kernel
theorem dX8_sun_28 : decode cX8_sun 28 = .ok (.getfield 82, 3) := by decide +kernel
theorem dX8_sun_31 : decode cX8_sun 31 = .ok (.iload_n 1, 1) := by decide +kernel
theorem dX8_sun_32 : decode cX8_sun 32 = .ok (.iload_n 2, 1) := by decide +kernel
theorem dX8_sun_33 : decode cX8_sun 33 = .ok (.iastore, 1) := by decide +kernel
theorem dX8_sun_34 : decode cX8_sun 34 = .ok (.iload_n 3, 1) := by decide +kernel
theorem dX8_sun_35 : decode cX8_sun 35 = .ok (.ireturn, 1) := by decide +kernel
theorem dX8_pass_0 : decode cX8_pass 0 = .ok (.iload_n 1, 1) := by decide +kernel
theorem dX8_pass_1 : decode cX8_pass 1 = .ok (.iconst 1, 1) := by decide +kernel
theorem dX8_pass_2 : decode cX8_pass 2 = .ok (.bipush 50, 2) := by decide +kernel
theorem dX8_pass_4 : decode cX8_pass 4 = .ok (.invokestatic 74, 3) := by decide +kernel
theorem dX8_pass_7 : decode cX8_pass 7 = .ok (.iload_n 1, 1) := by decide +kernel
theorem dX8_pass_8 : decode cX8_pass 8 = .ok (.sipush 1000, 3) := by decide +kernel
theorem dX8_pass_11 : decode cX8_pass 11 = .ok (.aload_n 0, 1) := by decide +kernel
theorem dX8_pass_12 : decode cX8_pass 12 = .ok (.getfield 52, 3) := by decide +kernel
theorem dX8_pass_15 : decode cX8_pass 15 = .ok (.isub, 1) := by decide +kernel
theorem dX8_pass_16 : decode cX8_pass 16 = .ok (.if_icmp .le 13, 3) := by decide +kernel
theorem dX8_pass_19 : decode cX8_pass 19 = .ok (.new 63, 3) := by decide +kernel
theorem dX8_pass_22 : decode cX8_pass 22 = .ok (.dup, 1) := by decide +kernel
theorem dX8_pass_23 : decode cX8_pass 23 = .ok (.ldc 85, 2) := by decide +kernel
theorem dX8_pass_25 : decode cX8_pass 25 = .ok (.invokespecial 67, 3) := by decide +kernel
theorem dX8_pass_28 : decode cX8_pass 28 = .ok (.athrow, 1) := by decide +kernel
theorem dX8_pass_29 : decode cX8_pass 29 = .ok (.iconst 0, 1) := by decide +kernel
theorem dX8_pass_30 : decode cX8_pass 30 = .ok (.istore_n 2, 1) := by decide +kernel
theorem dX8_pass_31 : decode cX8_pass 31 = .ok (.iload_n 2, 1) := by decide +kernel
theorem dX8_pass_32 : decode cX8_pass 32 = .ok (.iload_n 1, 1) := by decide +kernel
theorem dX8_pass_33 : decode cX8_pass 33 = .ok (.if_icmp .ge 13, 3) := by decide +kernel
theorem dX8_pass_36 : decode cX8_pass 36 = .ok (.aload_n 0, 1) := by decide +kernel
theorem dX8_pass_37 : decode cX8_pass 37 = .ok (.invokevirtual 87, 3) := by decide +kernel
theorem dX8_pass_40 : decode cX8_pass 40 = .ok (.iinc 2 1, 3) := by decide +kernel
theorem dX8_pass_43 : decode cX8_pass 43 = .ok (.goto (-12), 3) := by decide +kernel
theorem dX8_pass_46 : decode cX8_pass 46 = .ok (.aload_n 0, 1) := by decide +kernel
theorem dX8_pass_47 : decode cX8_pass 47 = .ok (.getfield 52, 3) := by decide +kernel
theorem dX8_pass_50 : decode cX8_pass 50 = .ok (.ireturn, 1) := by decide +kernel
theorem dX8_lay_0 : decode cX8_lay 0 = .ok (.iload_n 1, 1) := by decide +kernel
theorem dX8_lay_1 : decode cX8_lay 1 = .ok (.invokestatic 48, 3) := by decide +kernel
theorem dX8_lay_4 : decode cX8_lay 4 = .ok (.iload_n 2, 1) := by decide +kernel
theorem dX8_lay_5 : decode cX8_lay 5 = .ok (.iconst 1, 1) := by decide +kernel
theorem dX8_lay_6 : decode cX8_lay 6 = .ok (.bipush 20, 2) := by decide +kernel
theorem dX8_lay_8 : decode cX8_lay 8 = .ok (.invokestatic 74, 3) := by decide +kernel
theorem dX8_lay_11 : decode cX8_lay 11 = .ok (.iload_n 3, 1) := by decide +kernel
theorem dX8_lay_12 : decode cX8_lay 12 = .ok (.iconst 1, 1) := by decide +kernel
theorem dX8_lay_13 : decode cX8_lay 13 = .ok (.bipush 100, 2) := by decide +kernel
theorem dX8_lay_15 : decode cX8_lay 15 = .ok (.invokestatic 74, 3) := by decide +kernel
theorem dX8_lay_18 : decode cX8_lay 18 = .ok (.iload 4, 2) := by decide +kernel
theorem dX8_lay_20 : decode cX8_lay 20 = .ok (.bipush (-50), 2) := by decide +kernel
theorem dX8_lay_22 : decode cX8_lay 22 = .ok (.bipush 50, 2) := by decide +kernel
theorem dX8_lay_24 : decode cX8_lay 24 = .ok (.invokestatic 74, 3) := by decide +kernel
theorem dX8_lay_27 : decode cX8_lay 27 = .ok (.aload_n 0, 1) := by decide +kernel
theorem dX8_lay_28 : decode cX8_lay 28 = .ok (.getfield 90, 3) := by decide +kernel
theorem dX8_lay_31 : decode cX8_lay 31 = .ok (.istore 5, 2) := by decide +kernel
theorem dX8_lay_33 : decode cX8_lay 33 = .ok (.aload_n 0, 1) := by decide +kernel
theorem dX8_lay_34 : decode cX8_lay 34 = .ok (.getfield 12, 3) := by decide +kernel
theorem dX8_lay_37 : decode cX8_lay 37 = .ok (.iload_n 1, 1) := by decide +kernel
theorem dX8_lay_38 : decode cX8_lay 38 = .ok (.invokevirtual 56, 3) := by decide +kernel
theorem dX8_lay_41 : decode cX8_lay 41 = .ok (.ifCond .ne 16, 3) := by decide +kernel
theorem dX8_lay_44 : decode cX8_lay 44 = .ok (.iload 5, 2) := by decide +kernel
theorem dX8_lay_46 : decode cX8_lay 46 = .ok (.aload_n 0, 1) := by decide +kernel
theorem dX8_lay_47 : decode cX8_lay 47 = .ok (.getfield 18, 3) := by decide +kernel
theorem dX8_lay_50 : decode cX8_lay 50 = .ok (.arraylength, 1) := by decide +kernel
theorem dX8_lay_51 : decode cX8_lay 51 = .ok (.invokestatic 93, 3) := by decide +kernel
theorem dX8_lay_54 : decode cX8_lay 54 = .ok (.ifCond .ne 13, 3) := by decide +kernel
theorem dX8_lay_57 : decode cX8_lay 57 = .ok (.new 63, 3) := by decide +kernel
theorem dX8_lay_60 : decode cX8_lay 60 = .ok (.dup, 1) := by decide +kernel
theorem dX8_lay_61 : decode cX8_lay 61 = .ok (.ldc 97, 2) := by decide +kernel
theorem dX8_lay_63 : decode cX8_lay 63 = .ok (.invokespecial 67, 3) := by decide +kernel
theorem dX8_lay_66 : decode cX8_lay 66 = .ok (.athrow, 1) := by decide +kernel
theorem dX8_lay_67 : decode cX8_lay 67 = .ok (.aload_n 0, 1) := by decide +kernel
theorem dX8_lay_68 : decode cX8_lay 68 = .ok (.getfield 18, 3) := by decide +kernel
theorem dX8_lay_71 : decode cX8_lay 71 = .ok (.iload 5, 2) := by decide +kernel
theorem dX8_lay_73 : decode cX8_lay 73 = .ok (.new 16, 3) := by decide +kernel
theorem dX8_lay_76 : decode cX8_lay 76 = .ok (.dup, 1) := by decide +kernel
theorem dX8_lay_77 : decode cX8_lay 77 = .ok (.iload 5, 2) := by decide +kernel
theorem dX8_lay_79 : decode cX8_lay 79 = .ok (.iload_n 1, 1) := by decide +kernel
theorem dX8_lay_80 : decode cX8_lay 80 = .ok (.iload_n 2, 1) := by decide +kernel
theorem dX8_lay_81 : decode cX8_lay 81 = .ok (.iload_n 3, 1) := by decide +kernel
theorem dX8_lay_82 : decode cX8_lay 82 = .ok (.iload 4, 2) := by decide +kernel
theorem dX8_lay_84 : decode cX8_lay 84 = .ok (.invokespecial 99, 3) := by decide +kernel
theorem dX8_lay_87 : decode cX8_lay 87 = .ok (.aastore, 1) := by decide +kernel
theorem dX8_lay_88 : decode cX8_lay 88 = .ok (.aload_n 0, 1) := by decide +kernel
theorem dX8_lay_89 : decode cX8_lay 89 = .ok (.iload 5, 2) := by decide +kernel
theorem dX8_lay_91 : decode cX8_lay 91 = .ok (.iconst 1, 1) := by decide +kernel
theorem dX8_lay_92 : decode cX8_lay 92 = .ok (.iadd, 1) := by decide +kernel
theorem dX8_lay_93 : decode cX8_lay 93 = .ok (.putfield 90, 3) := by decide +kernel
theorem dX8_lay_96 : decode cX8_lay 96 = .ok (.iload 5, 2) := by decide +kernel
theorem dX8_lay_98 : decode cX8_lay 98 = .ok (.ireturn, 1) := by decide +kernel
theorem dX8_station_0 : decode cX8_station 0 = .ok (.iload_n 2, 1) := by decide +kernel
theorem dX8_station_1 : decode cX8_station 1 = .ok (.invokestatic 48, 3) := by decide +kernel
theorem dX8_station_4 : decode cX8_station 4 = .ok (.iload_n 1, 1) := by decide +kernel
theorem dX8_station_5 : decode cX8_station 5 = .ok (.aload_n 0, 1) := by decide +kernel
theorem dX8_station_6 : decode cX8_station 6 = .ok (.getfield 52, 3) := by decide +kernel
theorem dX8_station_9 : decode cX8_station 9 = .ok (.iconst 1, 1) := by decide +kernel
theorem dX8_station_10 : decode cX8_station 10 = .ok (.iadd, 1) := by decide +kernel
theorem dX8_station_11 : decode cX8_station 11 = .ok (.sipush 1000, 3) := by decide +kernel
theorem dX8_station_14 : decode cX8_station 14 = .ok (.invokestatic 74, 3) := by decide +kernel
theorem dX8_station_17 : decode cX8_station 17 = .ok (.aload_n 0, 1) := by decide +kernel
theorem dX8_station_18 : decode cX8_station 18 = .ok (.getfield 12, 3) := by decide +kernel
theorem dX8_station_21 : decode cX8_station 21 = .ok (.iload_n 2, 1) := by decide +kernel
theorem dX8_station_22 : decode cX8_station 22 = .ok (.invokevirtual 56, 3) := by decide +kernel
theorem dX8_station_25 : decode cX8_station 25 = .ok (.ifCond .ne 25, 3) := by decide +kernel
theorem dX8_station_28 : decode cX8_station 28 = .ok (.aload_n 0, 1) := by decide +kernel
theorem dX8_station_29 : decode cX8_station 29 = .ok (.getfield 32, 3) := by decide +kernel
theorem dX8_station_32 : decode cX8_station 32 = .ok (.iload_n 1, 1) := by decide +kernel
theorem dX8_station_33 : decode cX8_station 33 = .ok (.iload_n 2, 1) := by decide +kernel
theorem dX8_station_34 : decode cX8_station 34 = .ok (.invokevirtual 102, 3) := by decide +kernel
theorem dX8_station_37 : decode cX8_station 37 = .ok (.ifCond .ne 13, 3) := by decide +kernel
theorem dX8_station_40 : decode cX8_station 40 = .ok (.aload_n 0, 1) := by decide +kernel
theorem dX8_station_41 : decode cX8_station 41 = .ok (.getfield 32, 3) := by decide +kernel
theorem dX8_station_44 : decode cX8_station 44 = .ok (.invokevirtual 105, 3) := by decide +kernel
theorem dX8_station_47 : decode cX8_station 47 = .ok (.ifCond .eq 13, 3) := by decide +kernel
theorem dX8_station_50 : decode cX8_station 50 = .ok (.new 63, 3) := by decide +kernel
theorem dX8_station_53 : decode cX8_station 53 = .ok (.dup, 1) := by decide +kernel
theorem dX8_station_54 : decode cX8_station 54 = .ok (.ldc 109, 2) := by decide +kernel
theorem dX8_station_56 : decode cX8_station 56 = .ok (.invokespecial 67, 3) := by decide +kernel
theorem dX8_station_59 : decode cX8_station 59 = .ok (.athrow, 1) := by decide +kernel
theorem dX8_station_60 : decode cX8_station 60 = .ok (.aload_n 0, 1) := by decide +kernel
theorem dX8_station_61 : decode cX8_station 61 = .ok (.getfield 32, 3) := by decide +kernel
theorem dX8_station_64 : decode cX8_station 64 = .ok (.iload_n 1, 1) := by decide +kernel
theorem dX8_station_65 : decode cX8_station 65 = .ok (.iload_n 2, 1) := by decide +kernel
theorem dX8_station_66 : decode cX8_station 66 = .ok (.invokevirtual 111, 3) := by decide +kernel
theorem dX8_station_69 : decode cX8_station 69 = .ok (.ireturn, 1) := by decide +kernel
theorem dX8_storm_0 : decode cX8_storm 0 = .ok (.iload_n 1, 1) := by decide +kernel
theorem dX8_storm_1 : decode cX8_storm 1 = .ok (.aload_n 0, 1) := by decide +kernel
theorem dX8_storm_2 : decode cX8_storm 2 = .ok (.getfield 52, 3) := by decide +kernel
theorem dX8_storm_5 : decode cX8_storm 5 = .ok (.iconst 1, 1) := by decide +kernel
theorem dX8_storm_6 : decode cX8_storm 6 = .ok (.iadd, 1) := by decide +kernel
theorem dX8_storm_7 : decode cX8_storm 7 = .ok (.sipush 1000, 3) := by decide +kernel
theorem dX8_storm_10 : decode cX8_storm 10 = .ok (.invokestatic 74, 3) := by decide +kernel
theorem dX8_storm_13 : decode cX8_storm 13 = .ok (.iload_n 2, 1) := by decide +kernel
theorem dX8_storm_14 : decode cX8_storm 14 = .ok (.iload_n 1, 1) := by decide +kernel
theorem dX8_storm_15 : decode cX8_storm 15 = .ok (.sipush 1000, 3) := by decide +kernel
theorem dX8_storm_18 : decode cX8_storm 18 = .ok (.invokestatic 74, 3) := by decide +kernel
theorem dX8_storm_21 : decode cX8_storm 21 = .ok (.aload_n 0, 1) := by decide +kernel
theorem dX8_storm_22 : decode cX8_storm 22 = .ok (.getfield 32, 3) := by decide +kernel
theorem dX8_storm_25 : decode cX8_storm 25 = .ok (.invokevirtual 115, 3) := by decide +kernel
theorem dX8_storm_28 : decode cX8_storm 28 = .ok (.ifCond .eq 13, 3) := by decide +kernel
theorem dX8_storm_31 : decode cX8_storm 31 = .ok (.new 63, 3) := by decide +kernel
theorem dX8_storm_34 : decode cX8_storm 34 = .ok (.dup, 1) := by decide +kernel
theorem dX8_storm_35 : decode cX8_storm 35 = .ok (.ldc 118, 2) := by decide +kernel
theorem dX8_storm_37 : decode cX8_storm 37 = .ok (.invokespecial 67, 3) := by decide +kernel
theorem dX8_storm_40 : decode cX8_storm 40 = .ok (.athrow, 1) := by decide +kernel
theorem dX8_storm_41 : decode cX8_storm 41 = .ok (.aload_n 0, 1) := by decide +kernel
theorem dX8_storm_42 : decode cX8_storm 42 = .ok (.getfield 32, 3) := by decide +kernel
theorem dX8_storm_45 : decode cX8_storm 45 = .ok (.iload_n 1, 1) := by decide +kernel
theorem dX8_storm_46 : decode cX8_storm 46 = .ok (.iload_n 2, 1) := by decide +kernel
theorem dX8_storm_47 : decode cX8_storm 47 = .ok (.invokevirtual 120, 3) := by decide +kernel
theorem dX8_storm_50 : decode cX8_storm 50 = .ok (.istore_n 3, 1) := by decide +kernel
theorem dX8_storm_51 : decode cX8_storm 51 = .ok (.aload_n 0, 1) := by decide +kernel
theorem dX8_storm_52 : decode cX8_storm 52 = .ok (.getfield 32, 3) := by decide +kernel
theorem dX8_storm_55 : decode cX8_storm 55 = .ok (.iload_n 1, 1) := by decide +kernel
theorem dX8_storm_56 : decode cX8_storm 56 = .ok (.iload_n 2, 1) := by decide +kernel
theorem dX8_storm_57 : decode cX8_storm 57 = .ok (.invokevirtual 123, 3) := by decide +kernel
theorem dX8_storm_60 : decode cX8_storm 60 = .ok (.iload_n 3, 1) := by decide +kernel
theorem dX8_storm_61 : decode cX8_storm 61 = .ok (.ireturn, 1) := by decide +kernel
theorem dX8_calibrate_0 : decode cX8_calibrate 0 = .ok (.aload_n 0, 1) := by decide +kernel
theorem dX8_calibrate_1 : decode cX8_calibrate 1 = .ok (.iload_n 1, 1) := by decide +kernel
theorem dX8_calibrate_2 : decode cX8_calibrate 2 = .ok (.invokevirtual 127, 3) := by decide +kernel
theorem dX8_calibrate_5 : decode cX8_calibrate 5 = .ok (.astore_n 2, 1) := by decide +kernel
theorem dX8_calibrate_6 : decode cX8_calibrate 6 = .ok (.aload_n 2, 1) := by decide +kernel
theorem dX8_calibrate_7 : decode cX8_calibrate 7 = .ok (.getfield 131, 3) := by decide +kernel
theorem dX8_calibrate_10 : decode cX8_calibrate 10 = .ok (.astore_n 3, 1) := by decide +kernel
theorem dX8_calibrate_11 : decode cX8_calibrate 11 = .ok (.aload_n 3, 1) := by decide +kernel
theorem dX8_calibrate_12 : decode cX8_calibrate 12 = .ok (.ifnull 45, 3) := by decide +kernel
theorem dX8_calibrate_15 : decode cX8_calibrate 15 = .ok (.aload_n 0, 1) := by decide +kernel
theorem dX8_calibrate_16 : decode cX8_calibrate 16 = .ok (.getfield 25, 3) := by decide +kernel
theorem dX8_calibrate_19 : decode cX8_calibrate 19 = .ok (.aload_n 3, 1) := by decide +kernel
theorem dX8_calibrate_20 : decode cX8_calibrate 20 = .ok (.invokevirtual 135, 3) := by decide +kernel
theorem dX8_calibrate_23 : decode cX8_calibrate 23 = .ok (.astore 4, 2) := by decide +kernel
theorem dX8_calibrate_25 : decode cX8_calibrate 25 = .ok (.aload 4, 2) := by decide +kernel
theorem dX8_calibrate_27 : decode cX8_calibrate 27 = .ok (.ifnull 22, 3) := by decide +kernel
theorem dX8_calibrate_30 : decode cX8_calibrate 30 = .ok (.aload_n 2, 1) := by decide +kernel
theorem dX8_calibrate_31 : decode cX8_calibrate 31 = .ok (.aload_n 3, 1) := by decide +kernel
theorem dX8_calibrate_32 : decode cX8_calibrate 32 = .ok (.getfield 139, 3) := by decide +kernel
theorem dX8_calibrate_35 : decode cX8_calibrate 35 = .ok (.aload 4, 2) := by decide +kernel
theorem dX8_calibrate_37 : decode cX8_calibrate 37 = .ok (.getfield 139, 3) := by decide +kernel
theorem dX8_calibrate_40 : decode cX8_calibrate 40 = .ok (.isub, 1) := by decide +kernel
theorem dX8_calibrate_41 : decode cX8_calibrate 41 = .ok (.putfield 144, 3) := by decide +kernel
theorem dX8_calibrate_44 : decode cX8_calibrate 44 = .ok (.aload_n 2, 1) := by decide +kernel
theorem dX8_calibrate_45 : decode cX8_calibrate 45 = .ok (.getfield 144, 3) := by decide +kernel
theorem dX8_calibrate_48 : decode cX8_calibrate 48 = .ok (.ireturn, 1) := by decide +kernel
theorem dX8_calibrate_49 : decode cX8_calibrate 49 = .ok (.aload_n 3, 1) := by decide +kernel
theorem dX8_calibrate_50 : decode cX8_calibrate 50 = .ok (.getfield 147, 3) := by decide +kernel
theorem dX8_calibrate_53 : decode cX8_calibrate 53 = .ok (.astore_n 3, 1) := by decide +kernel
theorem dX8_calibrate_54 : decode cX8_calibrate 54 = .ok (.goto (-43), 3) := by decide +kernel
theorem dX8_calibrate_57 : decode cX8_calibrate 57 = .ok (.new 63, 3) := by decide +kernel
theorem dX8_calibrate_60 : decode cX8_calibrate 60 = .ok (.dup, 1) := by decide +kernel
theorem dX8_calibrate_61 : decode cX8_calibrate 61 = .ok (.ldc 150, 2) := by decide +kernel
theorem dX8_calibrate_63 : decode cX8_calibrate 63 = .ok (.invokespecial 67, 3) := by decide +kernel
theorem dX8_calibrate_66 : decode cX8_calibrate 66 = .ok (.athrow, 1) := by decide +kernel
theorem dX8_flag_0 : decode cX8_flag 0 = .ok (.aload_n 0, 1) := by decide +kernel
theorem dX8_flag_1 : decode cX8_flag 1 = .ok (.iload_n 1, 1) := by decide +kernel
theorem dX8_flag_2 : decode cX8_flag 2 = .ok (.invokevirtual 152, 3) := by decide +kernel
theorem dX8_flag_5 : decode cX8_flag 5 = .ok (.astore_n 3, 1) := by decide +kernel
theorem dX8_flag_6 : decode cX8_flag 6 = .ok (.iload_n 2, 1) := by decide +kernel
theorem dX8_flag_7 : decode cX8_flag 7 = .ok (.iconst (-1), 1) := by decide +kernel
theorem dX8_flag_8 : decode cX8_flag 8 = .ok (.iconst 2, 1) := by decide +kernel
theorem dX8_flag_9 : decode cX8_flag 9 = .ok (.invokestatic 74, 3) := by decide +kernel
theorem dX8_flag_12 : decode cX8_flag 12 = .ok (.aload_n 3, 1) := by decide +kernel
theorem dX8_flag_13 : decode cX8_flag 13 = .ok (.aload_n 0, 1) := by decide +kernel
theorem dX8_flag_14 : decode cX8_flag 14 = .ok (.getfield 25, 3) := by decide +kernel
theorem dX8_flag_17 : decode cX8_flag 17 = .ok (.getfield 156, 3) := by decide +kernel
theorem dX8_flag_20 : decode cX8_flag 20 = .ok (.invokevirtual 159, 3) := by decide +kernel
theorem dX8_flag_23 : decode cX8_flag 23 = .ok (.istore 4, 2) := by decide +kernel
theorem dX8_flag_25 : decode cX8_flag 25 = .ok (.aload_n 3, 1) := by decide +kernel
theorem dX8_flag_26 : decode cX8_flag 26 = .ok (.iload_n 2, 1) := by decide +kernel
theorem dX8_flag_27 : decode cX8_flag 27 = .ok (.putfield 162, 3) := by decide +kernel
theorem dX8_flag_30 : decode cX8_flag 30 = .ok (.iload 4, 2) := by decide +kernel
theorem dX8_flag_32 : decode cX8_flag 32 = .ok (.ireturn, 1) := by decide +kernel
theorem dX8_bound_0 : decode cX8_bound 0 = .ok (.iload_n 1, 1) := by decide +kernel
theorem dX8_bound_1 : decode cX8_bound 1 = .ok (.iconst 0, 1) := by decide +kernel
theorem dX8_bound_2 : decode cX8_bound 2 = .ok (.sipush 1000, 3) := by decide +kernel
theorem dX8_bound_5 : decode cX8_bound 5 = .ok (.invokestatic 74, 3) := by decide +kernel
theorem dX8_bound_8 : decode cX8_bound 8 = .ok (.aload_n 0, 1) := by decide +kernel
theorem dX8_bound_9 : decode cX8_bound 9 = .ok (.getfield 25, 3) := by decide +kernel
theorem dX8_bound_12 : decode cX8_bound 12 = .ok (.getfield 156, 3) := by decide +kernel
theorem dX8_bound_15 : decode cX8_bound 15 = .ok (.istore_n 2, 1) := by decide +kernel
theorem dX8_bound_16 : decode cX8_bound 16 = .ok (.aload_n 0, 1) := by decide +kernel
theorem dX8_bound_17 : decode cX8_bound 17 = .ok (.getfield 25, 3) := by decide +kernel
theorem dX8_bound_20 : decode cX8_bound 20 = .ok (.iload_n 1, 1) := by decide +kernel
theorem dX8_bound_21 : decode cX8_bound 21 = .ok (.putfield 156, 3) := by decide +kernel
theorem dX8_bound_24 : decode cX8_bound 24 = .ok (.iload_n 2, 1) := by decide +kernel
theorem dX8_bound_25 : decode cX8_bound 25 = .ok (.ireturn, 1) := by decide +kernel
theorem dX8_search_0 : decode cX8_search 0 = .ok (.iload_n 1, 1) := by decide +kernel
theorem dX8_search_1 : decode cX8_search 1 = .ok (.invokestatic 48, 3) := by decide +kernel
theorem dX8_search_4 : decode cX8_search 4 = .ok (.aload_n 0, 1) := by decide +kernel
theorem dX8_search_5 : decode cX8_search 5 = .ok (.getfield 165, 3) := by decide +kernel
theorem dX8_search_8 : decode cX8_search 8 = .ok (.istore_n 2, 1) := by decide +kernel
theorem dX8_search_9 : decode cX8_search 9 = .ok (.aload_n 0, 1) := by decide +kernel
theorem dX8_search_10 : decode cX8_search 10 = .ok (.getfield 12, 3) := by decide +kernel
theorem dX8_search_13 : decode cX8_search 13 = .ok (.iload_n 1, 1) := by decide +kernel
theorem dX8_search_14 : decode cX8_search 14 = .ok (.invokevirtual 56, 3) := by decide +kernel
theorem dX8_search_17 : decode cX8_search 17 = .ok (.ifCond .ne 15, 3) := by decide +kernel
theorem dX8_search_20 : decode cX8_search 20 = .ok (.iload_n 2, 1) := by decide +kernel
theorem dX8_search_21 : decode cX8_search 21 = .ok (.aload_n 0, 1) := by decide +kernel
theorem dX8_search_22 : decode cX8_search 22 = .ok (.getfield 38, 3) := by decide +kernel
theorem dX8_search_25 : decode cX8_search 25 = .ok (.arraylength, 1) := by decide +kernel
theorem dX8_search_26 : decode cX8_search 26 = .ok (.invokestatic 93, 3) := by decide +kernel
theorem dX8_search_29 : decode cX8_search 29 = .ok (.ifCond .ne 13, 3) := by decide +kernel
theorem dX8_search_32 : decode cX8_search 32 = .ok (.new 63, 3) := by decide +kernel
theorem dX8_search_35 : decode cX8_search 35 = .ok (.dup, 1) := by decide +kernel
theorem dX8_search_36 : decode cX8_search 36 = .ok (.ldc 168, 2) := by decide +kernel
theorem dX8_search_38 : decode cX8_search 38 = .ok (.invokespecial 67, 3) := by decide +kernel
theorem dX8_search_41 : decode cX8_search 41 = .ok (.athrow, 1) := by decide +kernel
theorem dX8_search_42 : decode cX8_search 42 = .ok (.aload_n 0, 1) := by decide +kernel
theorem dX8_search_43 : decode cX8_search 43 = .ok (.getfield 38, 3) := by decide +kernel
theorem dX8_search_46 : decode cX8_search 46 = .ok (.iload_n 2, 1) := by decide +kernel
theorem dX8_search_47 : decode cX8_search 47 = .ok (.new 36, 3) := by decide +kernel
theorem dX8_search_50 : decode cX8_search 50 = .ok (.dup, 1) := by decide +kernel
theorem dX8_search_51 : decode cX8_search 51 = .ok (.iload_n 1, 1) := by decide +kernel
theorem dX8_search_52 : decode cX8_search 52 = .ok (.invokespecial 170, 3) := by decide +kernel
theorem dX8_search_55 : decode cX8_search 55 = .ok (.aastore, 1) := by decide +kernel
theorem dX8_search_56 : decode cX8_search 56 = .ok (.aload_n 0, 1) := by decide +kernel
theorem dX8_search_57 : decode cX8_search 57 = .ok (.iload_n 2, 1) := by decide +kernel
theorem dX8_search_58 : decode cX8_search 58 = .ok (.iconst 1, 1) := by decide +kernel
theorem dX8_search_59 : decode cX8_search 59 = .ok (.iadd, 1) := by decide +kernel
theorem dX8_search_60 : decode cX8_search 60 = .ok (.putfield 165, 3) := by decide +kernel
theorem dX8_search_63 : decode cX8_search 63 = .ok (.iload_n 2, 1) := by decide +kernel
theorem dX8_search_64 : decode cX8_search 64 = .ok (.ireturn, 1) := by decide +kernel
theorem dX8_leg_0 : decode cX8_leg 0 = .ok (.aload_n 0, 1) := by decide +kernel
theorem dX8_leg_1 : decode cX8_leg 1 = .ok (.iload_n 1, 1) := by decide +kernel
theorem dX8_leg_2 : decode cX8_leg 2 = .ok (.invokevirtual 172, 3) := by decide +kernel
theorem dX8_leg_5 : decode cX8_leg 5 = .ok (.astore 4, 2) := by decide +kernel
theorem dX8_leg_7 : decode cX8_leg 7 = .ok (.iload_n 2, 1) := by decide +kernel
theorem dX8_leg_8 : decode cX8_leg 8 = .ok (.invokestatic 48, 3) := by decide +kernel
theorem dX8_leg_11 : decode cX8_leg 11 = .ok (.iload_n 3, 1) := by decide +kernel
theorem dX8_leg_12 : decode cX8_leg 12 = .ok (.iconst 1, 1) := by decide +kernel
theorem dX8_leg_13 : decode cX8_leg 13 = .ok (.bipush 100, 2) := by decide +kernel
theorem dX8_leg_15 : decode cX8_leg 15 = .ok (.invokestatic 74, 3) := by decide +kernel
theorem dX8_leg_18 : decode cX8_leg 18 = .ok (.aload 4, 2) := by decide +kernel
theorem dX8_leg_20 : decode cX8_leg 20 = .ok (.getfield 176, 3) := by decide +kernel
theorem dX8_leg_23 : decode cX8_leg 23 = .ok (.iload_n 2, 1) := by decide +kernel
theorem dX8_leg_24 : decode cX8_leg 24 = .ok (.iload_n 3, 1) := by decide +kernel
theorem dX8_leg_25 : decode cX8_leg 25 = .ok (.invokestatic 179, 3) := by decide +kernel
theorem dX8_leg_28 : decode cX8_leg 28 = .ok (.ireturn, 1) := by decide +kernel
theorem dX8_part_0 : decode cX8_part 0 = .ok (.iload_n 1, 1) := by decide +kernel
theorem dX8_part_1 : decode cX8_part 1 = .ok (.iconst 2, 1) := by decide +kernel
theorem dX8_part_2 : decode cX8_part 2 = .ok (.bipush 60, 2) := by decide +kernel
theorem dX8_part_4 : decode cX8_part 4 = .ok (.invokestatic 74, 3) := by decide +kernel
theorem dX8_part_7 : decode cX8_part 7 = .ok (.iload_n 2, 1) := by decide +kernel
theorem dX8_part_8 : decode cX8_part 8 = .ok (.iconst 0, 1) := by decide +kernel
theorem dX8_part_9 : decode cX8_part 9 = .ok (.bipush 100, 2) := by decide +kernel
theorem dX8_part_11 : decode cX8_part 11 = .ok (.invokestatic 74, 3) := by decide +kernel
theorem dX8_part_14 : decode cX8_part 14 = .ok (.iload_n 3, 1) := by decide +kernel
theorem dX8_part_15 : decode cX8_part 15 = .ok (.iconst 0, 1) := by decide +kernel
theorem dX8_part_16 : decode cX8_part 16 = .ok (.iload_n 1, 1) := by decide +kernel
theorem dX8_part_17 : decode cX8_part 17 = .ok (.iconst 1, 1) := by decide +kernel
theorem dX8_part_18 : decode cX8_part 18 = .ok (.isub, 1) := by decide +kernel
theorem dX8_part_19 : decode cX8_part 19 = .ok (.invokestatic 74, 3) := by decide +kernel
theorem dX8_part_22 : decode cX8_part 22 = .ok (.aload_n 0, 1) := by decide +kernel
theorem dX8_part_23 : decode cX8_part 23 = .ok (.getfield 183, 3) := by decide +kernel
theorem dX8_part_26 : decode cX8_part 26 = .ok (.istore 4, 2) := by decide +kernel
theorem dX8_part_28 : decode cX8_part 28 = .ok (.iload 4, 2) := by decide +kernel
theorem dX8_part_30 : decode cX8_part 30 = .ok (.aload_n 0, 1) := by decide +kernel
theorem dX8_part_31 : decode cX8_part 31 = .ok (.getfield 44, 3) := by decide +kernel
theorem dX8_part_34 : decode cX8_part 34 = .ok (.arraylength, 1) := by decide +kernel
theorem dX8_part_35 : decode cX8_part 35 = .ok (.invokestatic 93, 3) := by decide +kernel
theorem dX8_part_38 : decode cX8_part 38 = .ok (.ifCond .ne 13, 3) := by decide +kernel
theorem dX8_part_41 : decode cX8_part 41 = .ok (.new 63, 3) := by decide +kernel
theorem dX8_part_44 : decode cX8_part 44 = .ok (.dup, 1) := by decide +kernel
theorem dX8_part_45 : decode cX8_part 45 = .ok (.ldc 186, 2) := by decide +kernel
theorem dX8_part_47 : decode cX8_part 47 = .ok (.invokespecial 67, 3) := by decide +kernel
theorem dX8_part_50 : decode cX8_part 50 = .ok (.athrow, 1) := by decide +kernel
theorem dX8_part_51 : decode cX8_part 51 = .ok (.aload_n 0, 1) := by decide +kernel
theorem dX8_part_52 : decode cX8_part 52 = .ok (.getfield 44, 3) := by decide +kernel
theorem dX8_part_55 : decode cX8_part 55 = .ok (.iload 4, 2) := by decide +kernel
theorem dX8_part_57 : decode cX8_part 57 = .ok (.new 42, 3) := by decide +kernel
theorem dX8_part_60 : decode cX8_part 60 = .ok (.dup, 1) := by decide +kernel
theorem dX8_part_61 : decode cX8_part 61 = .ok (.iload_n 1, 1) := by decide +kernel
theorem dX8_part_62 : decode cX8_part 62 = .ok (.iload_n 2, 1) := by decide +kernel
theorem dX8_part_63 : decode cX8_part 63 = .ok (.iload_n 3, 1) := by decide +kernel
theorem dX8_part_64 : decode cX8_part 64 = .ok (.invokespecial 188, 3) := by decide +kernel
theorem dX8_part_67 : decode cX8_part 67 = .ok (.aastore, 1) := by decide +kernel
theorem dX8_part_68 : decode cX8_part 68 = .ok (.aload_n 0, 1) := by decide +kernel
theorem dX8_part_69 : decode cX8_part 69 = .ok (.iload 4, 2) := by decide +kernel
theorem dX8_part_71 : decode cX8_part 71 = .ok (.iconst 1, 1) := by decide +kernel
theorem dX8_part_72 : decode cX8_part 72 = .ok (.iadd, 1) := by decide +kernel
theorem dX8_part_73 : decode cX8_part 73 = .ok (.putfield 183, 3) := by decide +kernel
theorem dX8_part_76 : decode cX8_part 76 = .ok (.aload_n 0, 1) := by decide +kernel
theorem dX8_part_77 : decode cX8_part 77 = .ok (.getfield 183, 3) := by decide +kernel
theorem dX8_part_80 : decode cX8_part 80 = .ok (.ireturn, 1) := by decide +kernel
theorem dX8_day_0 : decode cX8_day 0 = .ok (.aload_n 0, 1) := by decide +kernel
theorem dX8_day_1 : decode cX8_day 1 = .ok (.getfield 52, 3) := by decide +kernel
theorem dX8_day_4 : decode cX8_day 4 = .ok (.ireturn, 1) := by decide +kernel
theorem dX8_ofLayer_0 : decode cX8_ofLayer 0 = .ok (.iload_n 1, 1) := by decide +kernel
theorem dX8_ofLayer_1 : decode cX8_ofLayer 1 = .ok (.invokestatic 48, 3) := by decide +kernel
theorem dX8_ofLayer_4 : decode cX8_ofLayer 4 = .ok (.iload_n 2, 1) := by decide +kernel
theorem dX8_ofLayer_5 : decode cX8_ofLayer 5 = .ok (.iconst 0, 1) := by decide +kernel
theorem dX8_ofLayer_6 : decode cX8_ofLayer 6 = .ok (.iconst 1, 1) := by decide +kernel
theorem dX8_ofLayer_7 : decode cX8_ofLayer 7 = .ok (.invokestatic 74, 3) := by decide +kernel
theorem dX8_ofLayer_10 : decode cX8_ofLayer 10 = .ok (.iload_n 3, 1) := by decide +kernel
theorem dX8_ofLayer_11 : decode cX8_ofLayer 11 = .ok (.iconst 0, 1) := by decide +kernel
theorem dX8_ofLayer_12 : decode cX8_ofLayer 12 = .ok (.iconst 2, 1) := by decide +kernel
theorem dX8_ofLayer_13 : decode cX8_ofLayer 13 = .ok (.invokestatic 74, 3) := by decide +kernel
theorem dX8_ofLayer_16 : decode cX8_ofLayer 16 = .ok (.iload_n 2, 1) := by decide +kernel
theorem dX8_ofLayer_17 : decode cX8_ofLayer 17 = .ok (.ifCond .ne 13, 3) := by decide +kernel
theorem dX8_ofLayer_20 : decode cX8_ofLayer 20 = .ok (.aload_n 0, 1) := by decide +kernel
theorem dX8_ofLayer_21 : decode cX8_ofLayer 21 = .ok (.getfield 12, 3) := by decide +kernel
theorem dX8_ofLayer_24 : decode cX8_ofLayer 24 = .ok (.getfield 190, 3) := by decide +kernel
theorem dX8_ofLayer_27 : decode cX8_ofLayer 27 = .ok (.goto 10, 3) := by decide +kernel
theorem dX8_ofLayer_30 : decode cX8_ofLayer 30 = .ok (.aload_n 0, 1) := by decide +kernel
theorem dX8_ofLayer_31 : decode cX8_ofLayer 31 = .ok (.getfield 12, 3) := by decide +kernel
theorem dX8_ofLayer_34 : decode cX8_ofLayer 34 = .ok (.getfield 194, 3) := by decide +kernel
theorem dX8_ofLayer_37 : decode cX8_ofLayer 37 = .ok (.astore 4, 2) := by decide +kernel
theorem dX8_ofLayer_39 : decode cX8_ofLayer 39 = .ok (.iload_n 3, 1) := by decide +kernel
theorem dX8_ofLayer_40 : decode cX8_ofLayer 40 = .ok (.lookupswitch 44 #[(0, 28), (1, 36)], 28) := by decide +kernel
theorem dX8_ofLayer_68 : decode cX8_ofLayer 68 = .ok (.aload 4, 2) := by decide +kernel
theorem dX8_ofLayer_70 : decode cX8_ofLayer 70 = .ok (.getfield 197, 3) := by decide +kernel
theorem dX8_ofLayer_73 : decode cX8_ofLayer 73 = .ok (.iload_n 1, 1) := by decide +kernel
theorem dX8_ofLayer_74 : decode cX8_ofLayer 74 = .ok (.iaload, 1) := by decide +kernel
theorem dX8_ofLayer_75 : decode cX8_ofLayer 75 = .ok (.ireturn, 1) := by decide +kernel
theorem dX8_ofLayer_76 : decode cX8_ofLayer 76 = .ok (.aload 4, 2) := by decide +kernel
theorem dX8_ofLayer_78 : decode cX8_ofLayer 78 = .ok (.getfield 202, 3) := by decide +kernel
theorem dX8_ofLayer_81 : decode cX8_ofLayer 81 = .ok (.iload_n 1, 1) := by decide +kernel
theorem dX8_ofLayer_82 : decode cX8_ofLayer 82 = .ok (.iaload, 1) := by decide +kernel
theorem dX8_ofLayer_83 : decode cX8_ofLayer 83 = .ok (.ireturn, 1) := by decide +kernel
theorem dX8_ofLayer_84 : decode cX8_ofLayer 84 = .ok (.aload 4, 2) := by decide +kernel
theorem dX8_ofLayer_86 : decode cX8_ofLayer 86 = .ok (.iload_n 1, 1) := by decide +kernel
theorem dX8_ofLayer_87 : decode cX8_ofLayer 87 = .ok (.invokevirtual 205, 3) := by decide +kernel
theorem dX8_ofLayer_90 : decode cX8_ofLayer 90 = .ok (.ireturn, 1) := by decide +kernel
theorem dX8_total_0 : decode cX8_total 0 = .ok (.iload_n 1, 1) := by decide +kernel
theorem dX8_total_1 : decode cX8_total 1 = .ok (.iconst 0, 1) := by decide +kernel
theorem dX8_total_2 : decode cX8_total 2 = .ok (.iconst 2, 1) := by decide +kernel
theorem dX8_total_3 : decode cX8_total 3 = .ok (.invokestatic 74, 3) := by decide +kernel
theorem dX8_total_6 : decode cX8_total 6 = .ok (.iload_n 1, 1) := by decide +kernel
theorem dX8_total_7 : decode cX8_total 7 = .ok (.lookupswitch 81 #[(0, 25), (1, 53)], 25) := by decide +kernel
theorem dX8_total_32 : decode cX8_total 32 = .ok (.aload_n 0, 1) := by decide +kernel
theorem dX8_total_33 : decode cX8_total 33 = .ok (.getfield 12, 3) := by decide +kernel
theorem dX8_total_36 : decode cX8_total 36 = .ok (.getfield 190, 3) := by decide +kernel
theorem dX8_total_39 : decode cX8_total 39 = .ok (.getfield 197, 3) := by decide +kernel
theorem dX8_total_42 : decode cX8_total 42 = .ok (.invokestatic 208, 3) := by decide +kernel
theorem dX8_total_45 : decode cX8_total 45 = .ok (.aload_n 0, 1) := by decide +kernel
theorem dX8_total_46 : decode cX8_total 46 = .ok (.getfield 12, 3) := by decide +kernel
theorem dX8_total_49 : decode cX8_total 49 = .ok (.getfield 194, 3) := by decide +kernel
theorem dX8_total_52 : decode cX8_total 52 = .ok (.getfield 197, 3) := by decide +kernel
theorem dX8_total_55 : decode cX8_total 55 = .ok (.invokestatic 208, 3) := by decide +kernel
theorem dX8_total_58 : decode cX8_total 58 = .ok (.iadd, 1) := by decide +kernel
theorem dX8_total_59 : decode cX8_total 59 = .ok (.ireturn, 1) := by decide +kernel
theorem dX8_total_60 : decode cX8_total 60 = .ok (.aload_n 0, 1) := by decide +kernel
theorem dX8_total_61 : decode cX8_total 61 = .ok (.getfield 12, 3) := by decide +kernel
theorem dX8_total_64 : decode cX8_total 64 = .ok (.getfield 190, 3) := by decide +kernel
theorem dX8_total_67 : decode cX8_total 67 = .ok (.getfield 202, 3) := by decide +kernel
theorem dX8_total_70 : decode cX8_total 70 = .ok (.invokestatic 208, 3) := by decide +kernel
theorem dX8_total_73 : decode cX8_total 73 = .ok (.aload_n 0, 1) := by decide +kernel
theorem dX8_total_74 : decode cX8_total 74 = .ok (.getfield 12, 3) := by decide +kernel
theorem dX8_total_77 : decode cX8_total 77 = .ok (.getfield 194, 3) := by decide +kernel
theorem dX8_total_80 : decode cX8_total 80 = .ok (.getfield 202, 3) := by decide +kernel
theorem dX8_total_83 : decode cX8_total 83 = .ok (.invokestatic 208, 3) := by decide +kernel
theorem dX8_total_86 : decode cX8_total 86 = .ok (.iadd, 1) := by decide +kernel
theorem dX8_total_87 : decode cX8_total 87 = .ok (.ireturn, 1) := by decide +kernel
theorem dX8_total_88 : decode cX8_total 88 = .ok (.aload_n 0, 1) := by decide +kernel
end
section
theorem dX8_total_89 : decode cX8_total 89 = .ok (.getfield 12, 3) := by decide +kernel
theorem dX8_total_92 : decode cX8_total 92 = .ok (.getfield 212, 3) := by decide +kernel
theorem dX8_total_95 : decode cX8_total 95 = .ok (.ireturn, 1) := by decide +kernel
theorem dX8_ofFloat_0 : decode cX8_ofFloat 0 = .ok (.aload_n 0, 1) := by decide +kernel
theorem dX8_ofFloat_1 : decode cX8_ofFloat 1 = .ok (.iload_n 1, 1) := by decide +kernel
theorem dX8_ofFloat_2 : decode cX8_ofFloat 2 = .ok (.invokevirtual 127, 3) := by decide +kernel
theorem dX8_ofFloat_5 : decode cX8_ofFloat 5 = .ok (.astore_n 3, 1) := by decide +kernel
theorem dX8_ofFloat_6 : decode cX8_ofFloat 6 = .ok (.iload_n 2, 1) := by decide +kernel
theorem dX8_ofFloat_7 : decode cX8_ofFloat 7 = .ok (.iconst 0, 1) := by decide +kernel
theorem dX8_ofFloat_8 : decode cX8_ofFloat 8 = .ok (.iconst 4, 1) := by decide +kernel
theorem dX8_ofFloat_9 : decode cX8_ofFloat 9 = .ok (.invokestatic 74, 3) := by decide +kernel
theorem dX8_ofFloat_12 : decode cX8_ofFloat 12 = .ok (.iload_n 2, 1) := by decide +kernel
theorem dX8_ofFloat_13 : decode cX8_ofFloat 13 = .ok (.tableswitch 51 0 3 #[31, 36, 41, 46], 31) := by decide +kernel
theorem dX8_ofFloat_44 : decode cX8_ofFloat 44 = .ok (.aload_n 3, 1) := by decide +kernel
theorem dX8_ofFloat_45 : decode cX8_ofFloat 45 = .ok (.getfield 215, 3) := by decide +kernel
theorem dX8_ofFloat_48 : decode cX8_ofFloat 48 = .ok (.ireturn, 1) := by decide +kernel
theorem dX8_ofFloat_49 : decode cX8_ofFloat 49 = .ok (.aload_n 3, 1) := by decide +kernel
theorem dX8_ofFloat_50 : decode cX8_ofFloat 50 = .ok (.getfield 218, 3) := by decide +kernel
theorem dX8_ofFloat_53 : decode cX8_ofFloat 53 = .ok (.ireturn, 1) := by decide +kernel
theorem dX8_ofFloat_54 : decode cX8_ofFloat 54 = .ok (.aload_n 3, 1) := by decide +kernel
theorem dX8_ofFloat_55 : decode cX8_ofFloat 55 = .ok (.getfield 221, 3) := by decide +kernel
theorem dX8_ofFloat_58 : decode cX8_ofFloat 58 = .ok (.ireturn, 1) := by decide +kernel
theorem dX8_ofFloat_59 : decode cX8_ofFloat 59 = .ok (.aload_n 3, 1) := by decide +kernel
theorem dX8_ofFloat_60 : decode cX8_ofFloat 60 = .ok (.getfield 144, 3) := by decide +kernel
theorem dX8_ofFloat_63 : decode cX8_ofFloat 63 = .ok (.ireturn, 1) := by decide +kernel
theorem dX8_ofFloat_64 : decode cX8_ofFloat 64 = .ok (.aload_n 3, 1) := by decide +kernel
theorem dX8_ofFloat_65 : decode cX8_ofFloat 65 = .ok (.getfield 224, 3) := by decide +kernel
theorem dX8_ofFloat_68 : decode cX8_ofFloat 68 = .ok (.ireturn, 1) := by decide +kernel
theorem dX8_stations_0 : decode cX8_stations 0 = .ok (.aload_n 0, 1) := by decide +kernel
theorem dX8_stations_1 : decode cX8_stations 1 = .ok (.getfield 32, 3) := by decide +kernel
theorem dX8_stations_4 : decode cX8_stations 4 = .ok (.getfield 227, 3) := by decide +kernel
theorem dX8_stations_7 : decode cX8_stations 7 = .ok (.ireturn, 1) := by decide +kernel
theorem dX8_readings_0 : decode cX8_readings 0 = .ok (.aload_n 0, 1) := by decide +kernel
theorem dX8_readings_1 : decode cX8_readings 1 = .ok (.getfield 25, 3) := by decide +kernel
theorem dX8_readings_4 : decode cX8_readings 4 = .ok (.getfield 230, 3) := by decide +kernel
theorem dX8_readings_7 : decode cX8_readings 7 = .ok (.ireturn, 1) := by decide +kernel
theorem dX8_ofReading_0 : decode cX8_ofReading 0 = .ok (.aload_n 0, 1) := by decide +kernel
theorem dX8_ofReading_1 : decode cX8_ofReading 1 = .ok (.iload_n 1, 1) := by decide +kernel
theorem dX8_ofReading_2 : decode cX8_ofReading 2 = .ok (.invokevirtual 152, 3) := by decide +kernel
theorem dX8_ofReading_5 : decode cX8_ofReading 5 = .ok (.astore_n 3, 1) := by decide +kernel
theorem dX8_ofReading_6 : decode cX8_ofReading 6 = .ok (.iload_n 2, 1) := by decide +kernel
theorem dX8_ofReading_7 : decode cX8_ofReading 7 = .ok (.iconst 0, 1) := by decide +kernel
theorem dX8_ofReading_8 : decode cX8_ofReading 8 = .ok (.iconst 5, 1) := by decide +kernel
theorem dX8_ofReading_9 : decode cX8_ofReading 9 = .ok (.invokestatic 74, 3) := by decide +kernel
theorem dX8_ofReading_12 : decode cX8_ofReading 12 = .ok (.iload_n 2, 1) := by decide +kernel
theorem dX8_ofReading_13 : decode cX8_ofReading 13 = .ok (.tableswitch 67 0 4 #[35, 40, 45, 50, 55], 35) := by decide +kernel
theorem dX8_ofReading_48 : decode cX8_ofReading 48 = .ok (.aload_n 3, 1) := by decide +kernel
theorem dX8_ofReading_49 : decode cX8_ofReading 49 = .ok (.getfield 233, 3) := by decide +kernel
theorem dX8_ofReading_52 : decode cX8_ofReading 52 = .ok (.ireturn, 1) := by decide +kernel
theorem dX8_ofReading_53 : decode cX8_ofReading 53 = .ok (.aload_n 3, 1) := by decide +kernel
theorem dX8_ofReading_54 : decode cX8_ofReading 54 = .ok (.getfield 236, 3) := by decide +kernel
theorem dX8_ofReading_57 : decode cX8_ofReading 57 = .ok (.ireturn, 1) := by decide +kernel
theorem dX8_ofReading_58 : decode cX8_ofReading 58 = .ok (.aload_n 3, 1) := by decide +kernel
theorem dX8_ofReading_59 : decode cX8_ofReading 59 = .ok (.getfield 139, 3) := by decide +kernel
theorem dX8_ofReading_62 : decode cX8_ofReading 62 = .ok (.ireturn, 1) := by decide +kernel
theorem dX8_ofReading_63 : decode cX8_ofReading 63 = .ok (.aload_n 3, 1) := by decide +kernel
theorem dX8_ofReading_64 : decode cX8_ofReading 64 = .ok (.invokevirtual 237, 3) := by decide +kernel
theorem dX8_ofReading_67 : decode cX8_ofReading 67 = .ok (.ireturn, 1) := by decide +kernel
theorem dX8_ofReading_68 : decode cX8_ofReading 68 = .ok (.aload_n 3, 1) := by decide +kernel
theorem dX8_ofReading_69 : decode cX8_ofReading 69 = .ok (.aload_n 0, 1) := by decide +kernel
theorem dX8_ofReading_70 : decode cX8_ofReading 70 = .ok (.getfield 25, 3) := by decide +kernel
theorem dX8_ofReading_73 : decode cX8_ofReading 73 = .ok (.getfield 156, 3) := by decide +kernel
theorem dX8_ofReading_76 : decode cX8_ofReading 76 = .ok (.invokevirtual 159, 3) := by decide +kernel
theorem dX8_ofReading_79 : decode cX8_ofReading 79 = .ok (.ireturn, 1) := by decide +kernel
theorem dX8_ofReading_80 : decode cX8_ofReading 80 = .ok (.aload_n 3, 1) := by decide +kernel
theorem dX8_ofReading_81 : decode cX8_ofReading 81 = .ok (.getfield 241, 3) := by decide +kernel
theorem dX8_ofReading_84 : decode cX8_ofReading 84 = .ok (.ifnonnull 7, 3) := by decide +kernel
theorem dX8_ofReading_87 : decode cX8_ofReading 87 = .ok (.iconst (-1), 1) := by decide +kernel
theorem dX8_ofReading_88 : decode cX8_ofReading 88 = .ok (.goto 10, 3) := by decide +kernel
theorem dX8_ofReading_91 : decode cX8_ofReading 91 = .ok (.aload_n 3, 1) := by decide +kernel
theorem dX8_ofReading_92 : decode cX8_ofReading 92 = .ok (.getfield 241, 3) := by decide +kernel
theorem dX8_ofReading_95 : decode cX8_ofReading 95 = .ok (.getfield 245, 3) := by decide +kernel
theorem dX8_ofReading_98 : decode cX8_ofReading 98 = .ok (.ireturn, 1) := by decide +kernel
theorem dX8_mean_0 : decode cX8_mean 0 = .ok (.iload_n 1, 1) := by decide +kernel
theorem dX8_mean_1 : decode cX8_mean 1 = .ok (.iload_n 2, 1) := by decide +kernel
theorem dX8_mean_2 : decode cX8_mean 2 = .ok (.iload_n 3, 1) := by decide +kernel
theorem dX8_mean_3 : decode cX8_mean 3 = .ok (.invokestatic 248, 3) := by decide +kernel
theorem dX8_mean_6 : decode cX8_mean 6 = .ok (.aload_n 0, 1) := by decide +kernel
theorem dX8_mean_7 : decode cX8_mean 7 = .ok (.iload_n 1, 1) := by decide +kernel
theorem dX8_mean_8 : decode cX8_mean 8 = .ok (.invokevirtual 251, 3) := by decide +kernel
theorem dX8_mean_11 : decode cX8_mean 11 = .ok (.aload_n 0, 1) := by decide +kernel
theorem dX8_mean_12 : decode cX8_mean 12 = .ok (.aconst_null, 1) := by decide +kernel
theorem dX8_mean_13 : decode cX8_mean 13 = .ok (.iload_n 1, 1) := by decide +kernel
theorem dX8_mean_14 : decode cX8_mean 14 = .ok (.iload_n 2, 1) := by decide +kernel
theorem dX8_mean_15 : decode cX8_mean 15 = .ok (.iload_n 3, 1) := by decide +kernel
theorem dX8_mean_16 : decode cX8_mean 16 = .ok (.invokevirtual 254, 3) := by decide +kernel
theorem dX8_mean_19 : decode cX8_mean 19 = .ok (.ireturn, 1) := by decide +kernel
theorem dX8_error_0 : decode cX8_error 0 = .ok (.iload_n 1, 1) := by decide +kernel
theorem dX8_error_1 : decode cX8_error 1 = .ok (.iload_n 2, 1) := by decide +kernel
theorem dX8_error_2 : decode cX8_error 2 = .ok (.iload_n 3, 1) := by decide +kernel
theorem dX8_error_3 : decode cX8_error 3 = .ok (.invokestatic 248, 3) := by decide +kernel
theorem dX8_error_6 : decode cX8_error 6 = .ok (.aload_n 0, 1) := by decide +kernel
theorem dX8_error_7 : decode cX8_error 7 = .ok (.iload_n 1, 1) := by decide +kernel
theorem dX8_error_8 : decode cX8_error 8 = .ok (.invokevirtual 251, 3) := by decide +kernel
theorem dX8_error_11 : decode cX8_error 11 = .ok (.iconst 1, 1) := by decide +kernel
theorem dX8_error_12 : decode cX8_error 12 = .ok (.aload_n 0, 1) := by decide +kernel
theorem dX8_error_13 : decode cX8_error 13 = .ok (.getfield 25, 3) := by decide +kernel
theorem dX8_error_16 : decode cX8_error 16 = .ok (.aconst_null, 1) := by decide +kernel
theorem dX8_error_17 : decode cX8_error 17 = .ok (.iload_n 1, 1) := by decide +kernel
theorem dX8_error_18 : decode cX8_error 18 = .ok (.iload_n 2, 1) := by decide +kernel
theorem dX8_error_19 : decode cX8_error 19 = .ok (.iload_n 3, 1) := by decide +kernel
theorem dX8_error_20 : decode cX8_error 20 = .ok (.invokevirtual 258, 3) := by decide +kernel
theorem dX8_error_23 : decode cX8_error 23 = .ok (.iadd, 1) := by decide +kernel
theorem dX8_error_24 : decode cX8_error 24 = .ok (.istore 4, 2) := by decide +kernel
theorem dX8_error_26 : decode cX8_error 26 = .ok (.iload 4, 2) := by decide +kernel
theorem dX8_error_28 : decode cX8_error 28 = .ok (.ifCond .le 12, 3) := by decide +kernel
theorem dX8_error_31 : decode cX8_error 31 = .ok (.sipush 1000, 3) := by decide +kernel
theorem dX8_error_34 : decode cX8_error 34 = .ok (.iload 4, 2) := by decide +kernel
theorem dX8_error_36 : decode cX8_error 36 = .ok (.idiv, 1) := by decide +kernel
theorem dX8_error_37 : decode cX8_error 37 = .ok (.goto 4, 3) := by decide +kernel
theorem dX8_error_40 : decode cX8_error 40 = .ok (.iconst 0, 1) := by decide +kernel
theorem dX8_error_41 : decode cX8_error 41 = .ok (.ireturn, 1) := by decide +kernel
theorem dX8_residual_0 : decode cX8_residual 0 = .ok (.aload_n 0, 1) := by decide +kernel
theorem dX8_residual_1 : decode cX8_residual 1 = .ok (.iload_n 1, 1) := by decide +kernel
theorem dX8_residual_2 : decode cX8_residual 2 = .ok (.invokevirtual 152, 3) := by decide +kernel
theorem dX8_residual_5 : decode cX8_residual 5 = .ok (.astore_n 3, 1) := by decide +kernel
theorem dX8_residual_6 : decode cX8_residual 6 = .ok (.iload_n 2, 1) := by decide +kernel
theorem dX8_residual_7 : decode cX8_residual 7 = .ok (.iconst 0, 1) := by decide +kernel
theorem dX8_residual_8 : decode cX8_residual 8 = .ok (.sipush 1000, 3) := by decide +kernel
theorem dX8_residual_11 : decode cX8_residual 11 = .ok (.invokestatic 74, 3) := by decide +kernel
theorem dX8_residual_14 : decode cX8_residual 14 = .ok (.aload_n 3, 1) := by decide +kernel
theorem dX8_residual_15 : decode cX8_residual 15 = .ok (.invokevirtual 237, 3) := by decide +kernel
theorem dX8_residual_18 : decode cX8_residual 18 = .ok (.aload_n 0, 1) := by decide +kernel
theorem dX8_residual_19 : decode cX8_residual 19 = .ok (.aload_n 3, 1) := by decide +kernel
theorem dX8_residual_20 : decode cX8_residual 20 = .ok (.aload_n 3, 1) := by decide +kernel
theorem dX8_residual_21 : decode cX8_residual 21 = .ok (.getfield 236, 3) := by decide +kernel
theorem dX8_residual_24 : decode cX8_residual 24 = .ok (.aload_n 3, 1) := by decide +kernel
theorem dX8_residual_25 : decode cX8_residual 25 = .ok (.getfield 233, 3) := by decide +kernel
theorem dX8_residual_28 : decode cX8_residual 28 = .ok (.iload_n 2, 1) := by decide +kernel
theorem dX8_residual_29 : decode cX8_residual 29 = .ok (.invokevirtual 254, 3) := by decide +kernel
theorem dX8_residual_32 : decode cX8_residual 32 = .ok (.isub, 1) := by decide +kernel
theorem dX8_residual_33 : decode cX8_residual 33 = .ok (.ireturn, 1) := by decide +kernel
theorem dX8_chance_0 : decode cX8_chance 0 = .ok (.aload_n 0, 1) := by decide +kernel
theorem dX8_chance_1 : decode cX8_chance 1 = .ok (.iload_n 1, 1) := by decide +kernel
theorem dX8_chance_2 : decode cX8_chance 2 = .ok (.invokevirtual 172, 3) := by decide +kernel
theorem dX8_chance_5 : decode cX8_chance 5 = .ok (.astore_n 3, 1) := by decide +kernel
theorem dX8_chance_6 : decode cX8_chance 6 = .ok (.iload_n 2, 1) := by decide +kernel
theorem dX8_chance_7 : decode cX8_chance 7 = .ok (.invokestatic 48, 3) := by decide +kernel
theorem dX8_chance_10 : decode cX8_chance 10 = .ok (.aload_n 3, 1) := by decide +kernel
theorem dX8_chance_11 : decode cX8_chance 11 = .ok (.getfield 176, 3) := by decide +kernel
theorem dX8_chance_14 : decode cX8_chance 14 = .ok (.iload_n 2, 1) := by decide +kernel
theorem dX8_chance_15 : decode cX8_chance 15 = .ok (.iaload, 1) := by decide +kernel
theorem dX8_chance_16 : decode cX8_chance 16 = .ok (.ireturn, 1) := by decide +kernel
theorem dX8_best_0 : decode cX8_best 0 = .ok (.aload_n 0, 1) := by decide +kernel
theorem dX8_best_1 : decode cX8_best 1 = .ok (.iload_n 1, 1) := by decide +kernel
theorem dX8_best_2 : decode cX8_best 2 = .ok (.invokevirtual 172, 3) := by decide +kernel
theorem dX8_best_5 : decode cX8_best 5 = .ok (.getfield 176, 3) := by decide +kernel
theorem dX8_best_8 : decode cX8_best 8 = .ok (.invokestatic 261, 3) := by decide +kernel
theorem dX8_best_11 : decode cX8_best 11 = .ok (.ireturn, 1) := by decide +kernel
theorem dX8_plan_0 : decode cX8_plan 0 = .ok (.aload_n 0, 1) := by decide +kernel
theorem dX8_plan_1 : decode cX8_plan 1 = .ok (.iload_n 1, 1) := by decide +kernel
theorem dX8_plan_2 : decode cX8_plan 2 = .ok (.invokevirtual 172, 3) := by decide +kernel
theorem dX8_plan_5 : decode cX8_plan 5 = .ok (.astore 4, 2) := by decide +kernel
theorem dX8_plan_7 : decode cX8_plan 7 = .ok (.iload_n 2, 1) := by decide +kernel
theorem dX8_plan_8 : decode cX8_plan 8 = .ok (.iconst 1, 1) := by decide +kernel
theorem dX8_plan_9 : decode cX8_plan 9 = .ok (.bipush 20, 2) := by decide +kernel
theorem dX8_plan_11 : decode cX8_plan 11 = .ok (.invokestatic 74, 3) := by decide +kernel
theorem dX8_plan_14 : decode cX8_plan 14 = .ok (.iload_n 3, 1) := by decide +kernel
theorem dX8_plan_15 : decode cX8_plan 15 = .ok (.iconst 1, 1) := by decide +kernel
theorem dX8_plan_16 : decode cX8_plan 16 = .ok (.bipush 100, 2) := by decide +kernel
theorem dX8_plan_18 : decode cX8_plan 18 = .ok (.invokestatic 74, 3) := by decide +kernel
theorem dX8_plan_21 : decode cX8_plan 21 = .ok (.aload 4, 2) := by decide +kernel
theorem dX8_plan_23 : decode cX8_plan 23 = .ok (.iload_n 2, 1) := by decide +kernel
theorem dX8_plan_24 : decode cX8_plan 24 = .ok (.iload_n 3, 1) := by decide +kernel
theorem dX8_plan_25 : decode cX8_plan 25 = .ok (.invokevirtual 264, 3) := by decide +kernel
theorem dX8_plan_28 : decode cX8_plan 28 = .ok (.ireturn, 1) := by decide +kernel
theorem dX8_tide_0 : decode cX8_tide 0 = .ok (.iload_n 1, 1) := by decide +kernel
theorem dX8_tide_1 : decode cX8_tide 1 = .ok (.iconst 0, 1) := by decide +kernel
theorem dX8_tide_2 : decode cX8_tide 2 = .ok (.ldc_w 267, 3) := by decide +kernel
theorem dX8_tide_5 : decode cX8_tide 5 = .ok (.invokestatic 74, 3) := by decide +kernel
theorem dX8_tide_8 : decode cX8_tide 8 = .ok (.aload_n 0, 1) := by decide +kernel
theorem dX8_tide_9 : decode cX8_tide 9 = .ok (.iload_n 1, 1) := by decide +kernel
theorem dX8_tide_10 : decode cX8_tide 10 = .ok (.invokevirtual 268, 3) := by decide +kernel
theorem dX8_tide_13 : decode cX8_tide 13 = .ok (.ireturn, 1) := by decide +kernel
theorem dX8_highest_0 : decode cX8_highest 0 = .ok (.iload_n 1, 1) := by decide +kernel
theorem dX8_highest_1 : decode cX8_highest 1 = .ok (.iconst 0, 1) := by decide +kernel
theorem dX8_highest_2 : decode cX8_highest 2 = .ok (.ldc_w 267, 3) := by decide +kernel
theorem dX8_highest_5 : decode cX8_highest 5 = .ok (.invokestatic 74, 3) := by decide +kernel
theorem dX8_highest_8 : decode cX8_highest 8 = .ok (.iload_n 2, 1) := by decide +kernel
theorem dX8_highest_9 : decode cX8_highest 9 = .ok (.iload_n 1, 1) := by decide +kernel
theorem dX8_highest_10 : decode cX8_highest 10 = .ok (.iload_n 1, 1) := by decide +kernel
theorem dX8_highest_11 : decode cX8_highest 11 = .ok (.sipush 500, 3) := by decide +kernel
theorem dX8_highest_14 : decode cX8_highest 14 = .ok (.iadd, 1) := by decide +kernel
theorem dX8_highest_15 : decode cX8_highest 15 = .ok (.ldc_w 267, 3) := by decide +kernel
theorem dX8_highest_18 : decode cX8_highest 18 = .ok (.invokestatic 271, 3) := by decide +kernel
theorem dX8_highest_21 : decode cX8_highest 21 = .ok (.invokestatic 74, 3) := by decide +kernel
theorem dX8_highest_24 : decode cX8_highest 24 = .ok (.iload_n 1, 1) := by decide +kernel
theorem dX8_highest_25 : decode cX8_highest 25 = .ok (.istore_n 3, 1) := by decide +kernel
theorem dX8_highest_26 : decode cX8_highest 26 = .ok (.aload_n 0, 1) := by decide +kernel
theorem dX8_highest_27 : decode cX8_highest 27 = .ok (.iload_n 1, 1) := by decide +kernel
theorem dX8_highest_28 : decode cX8_highest 28 = .ok (.invokevirtual 268, 3) := by decide +kernel
theorem dX8_highest_31 : decode cX8_highest 31 = .ok (.istore 4, 2) := by decide +kernel
theorem dX8_highest_33 : decode cX8_highest 33 = .ok (.iload_n 1, 1) := by decide +kernel
theorem dX8_highest_34 : decode cX8_highest 34 = .ok (.iconst 1, 1) := by decide +kernel
theorem dX8_highest_35 : decode cX8_highest 35 = .ok (.iadd, 1) := by decide +kernel
theorem dX8_highest_36 : decode cX8_highest 36 = .ok (.istore 5, 2) := by decide +kernel
theorem dX8_highest_38 : decode cX8_highest 38 = .ok (.iload 5, 2) := by decide +kernel
theorem dX8_highest_40 : decode cX8_highest 40 = .ok (.iload_n 2, 1) := by decide +kernel
theorem dX8_highest_41 : decode cX8_highest 41 = .ok (.if_icmp .gt 31, 3) := by decide +kernel
theorem dX8_highest_44 : decode cX8_highest 44 = .ok (.aload_n 0, 1) := by decide +kernel
theorem dX8_highest_45 : decode cX8_highest 45 = .ok (.iload 5, 2) := by decide +kernel
theorem dX8_highest_47 : decode cX8_highest 47 = .ok (.invokevirtual 268, 3) := by decide +kernel
theorem dX8_highest_50 : decode cX8_highest 50 = .ok (.istore 6, 2) := by decide +kernel
theorem dX8_highest_52 : decode cX8_highest 52 = .ok (.iload 6, 2) := by decide +kernel
theorem dX8_highest_54 : decode cX8_highest 54 = .ok (.iload 4, 2) := by decide +kernel
theorem dX8_highest_56 : decode cX8_highest 56 = .ok (.if_icmp .le 10, 3) := by decide +kernel
theorem dX8_highest_59 : decode cX8_highest 59 = .ok (.iload 6, 2) := by decide +kernel
theorem dX8_highest_61 : decode cX8_highest 61 = .ok (.istore 4, 2) := by decide +kernel
theorem dX8_highest_63 : decode cX8_highest 63 = .ok (.iload 5, 2) := by decide +kernel
theorem dX8_highest_65 : decode cX8_highest 65 = .ok (.istore_n 3, 1) := by decide +kernel
theorem dX8_highest_66 : decode cX8_highest 66 = .ok (.iinc 5 1, 3) := by decide +kernel
theorem dX8_highest_69 : decode cX8_highest 69 = .ok (.goto (-31), 3) := by decide +kernel
theorem dX8_highest_72 : decode cX8_highest 72 = .ok (.iload_n 3, 1) := by decide +kernel
theorem dX8_highest_73 : decode cX8_highest 73 = .ok (.ireturn, 1) := by decide +kernel
theorem dX8_isIndex_0 : decode cX8_isIndex 0 = .ok (.iload_n 0, 1) := by decide +kernel
theorem dX8_isIndex_1 : decode cX8_isIndex 1 = .ok (.ifCond .lt 12, 3) := by decide +kernel
theorem dX8_isIndex_4 : decode cX8_isIndex 4 = .ok (.iload_n 0, 1) := by decide +kernel
theorem dX8_isIndex_5 : decode cX8_isIndex 5 = .ok (.iload_n 1, 1) := by decide +kernel
theorem dX8_isIndex_6 : decode cX8_isIndex 6 = .ok (.if_icmp .ge 7, 3) := by decide +kernel
theorem dX8_isIndex_9 : decode cX8_isIndex 9 = .ok (.iconst 1, 1) := by decide +kernel
theorem dX8_isIndex_10 : decode cX8_isIndex 10 = .ok (.goto 4, 3) := by decide +kernel
theorem dX8_isIndex_13 : decode cX8_isIndex 13 = .ok (.iconst 0, 1) := by decide +kernel
theorem dX8_isIndex_14 : decode cX8_isIndex 14 = .ok (.ireturn, 1) := by decide +kernel
theorem dX8_isCell_0 : decode cX8_isCell 0 = .ok (.iload_n 0, 1) := by decide +kernel
theorem dX8_isCell_1 : decode cX8_isCell 1 = .ok (.ifCond .lt 13, 3) := by decide +kernel
theorem dX8_isCell_4 : decode cX8_isCell 4 = .ok (.iload_n 0, 1) := by decide +kernel
theorem dX8_isCell_5 : decode cX8_isCell 5 = .ok (.bipush 60, 2) := by decide +kernel
theorem dX8_isCell_7 : decode cX8_isCell 7 = .ok (.if_icmp .ge 7, 3) := by decide +kernel
theorem dX8_isCell_10 : decode cX8_isCell 10 = .ok (.iconst 1, 1) := by decide +kernel
theorem dX8_isCell_11 : decode cX8_isCell 11 = .ok (.goto 4, 3) := by decide +kernel
theorem dX8_isCell_14 : decode cX8_isCell 14 = .ok (.iconst 0, 1) := by decide +kernel
theorem dX8_isCell_15 : decode cX8_isCell 15 = .ok (.ireturn, 1) := by decide +kernel
theorem dX8_needCell_0 : decode cX8_needCell 0 = .ok (.iload_n 0, 1) := by decide +kernel
theorem dX8_needCell_1 : decode cX8_needCell 1 = .ok (.invokestatic 276, 3) := by decide +kernel
theorem dX8_needCell_4 : decode cX8_needCell 4 = .ok (.ifCond .ne 14, 3) := by decide +kernel
theorem dX8_needCell_7 : decode cX8_needCell 7 = .ok (.new 279, 3) := by decide +kernel
theorem dX8_needCell_10 : decode cX8_needCell 10 = .ok (.dup, 1) := by decide +kernel
theorem dX8_needCell_11 : decode cX8_needCell 11 = .ok (.ldc_w 281, 3) := by decide +kernel
theorem dX8_needCell_14 : decode cX8_needCell 14 = .ok (.invokespecial 283, 3) := by decide +kernel
theorem dX8_needCell_17 : decode cX8_needCell 17 = .ok (.athrow, 1) := by decide +kernel
theorem dX8_needCell_18 : decode cX8_needCell 18 = .ok (.return_, 1) := by decide +kernel
theorem dX8_needRange_0 : decode cX8_needRange 0 = .ok (.iload_n 0, 1) := by decide +kernel
theorem dX8_needRange_1 : decode cX8_needRange 1 = .ok (.iload_n 1, 1) := by decide +kernel
theorem dX8_needRange_2 : decode cX8_needRange 2 = .ok (.if_icmp .lt 8, 3) := by decide +kernel
theorem dX8_needRange_5 : decode cX8_needRange 5 = .ok (.iload_n 0, 1) := by decide +kernel
theorem dX8_needRange_6 : decode cX8_needRange 6 = .ok (.iload_n 2, 1) := by decide +kernel
theorem dX8_needRange_7 : decode cX8_needRange 7 = .ok (.if_icmp .le 14, 3) := by decide +kernel
theorem dX8_needRange_10 : decode cX8_needRange 10 = .ok (.new 284, 3) := by decide +kernel
theorem dX8_needRange_13 : decode cX8_needRange 13 = .ok (.dup, 1) := by decide +kernel
theorem dX8_needRange_14 : decode cX8_needRange 14 = .ok (.ldc_w 286, 3) := by decide +kernel
theorem dX8_needRange_17 : decode cX8_needRange 17 = .ok (.invokespecial 288, 3) := by decide +kernel
theorem dX8_needRange_20 : decode cX8_needRange 20 = .ok (.athrow, 1) := by decide +kernel
theorem dX8_needRange_21 : decode cX8_needRange 21 = .ok (.return_, 1) := by decide +kernel
theorem dX8_needMap_0 : decode cX8_needMap 0 = .ok (.iload_n 0, 1) := by decide +kernel
theorem dX8_needMap_1 : decode cX8_needMap 1 = .ok (.invokestatic 48, 3) := by decide +kernel
theorem dX8_needMap_4 : decode cX8_needMap 4 = .ok (.iload_n 1, 1) := by decide +kernel
theorem dX8_needMap_5 : decode cX8_needMap 5 = .ok (.iconst 0, 1) := by decide +kernel
theorem dX8_needMap_6 : decode cX8_needMap 6 = .ok (.sipush 1000, 3) := by decide +kernel
theorem dX8_needMap_9 : decode cX8_needMap 9 = .ok (.invokestatic 74, 3) := by decide +kernel
theorem dX8_needMap_12 : decode cX8_needMap 12 = .ok (.iload_n 2, 1) := by decide +kernel
theorem dX8_needMap_13 : decode cX8_needMap 13 = .ok (.iconst 0, 1) := by decide +kernel
theorem dX8_needMap_14 : decode cX8_needMap 14 = .ok (.sipush 1000, 3) := by decide +kernel
theorem dX8_needMap_17 : decode cX8_needMap 17 = .ok (.invokestatic 74, 3) := by decide +kernel
theorem dX8_needMap_20 : decode cX8_needMap 20 = .ok (.return_, 1) := by decide +kernel
theorem dX8_needSea_0 : decode cX8_needSea 0 = .ok (.aload_n 0, 1) := by decide +kernel
theorem dX8_needSea_1 : decode cX8_needSea 1 = .ok (.getfield 12, 3) := by decide +kernel
theorem dX8_needSea_4 : decode cX8_needSea 4 = .ok (.iload_n 1, 1) := by decide +kernel
theorem dX8_needSea_5 : decode cX8_needSea 5 = .ok (.invokevirtual 56, 3) := by decide +kernel
theorem dX8_needSea_8 : decode cX8_needSea 8 = .ok (.ifCond .eq 14, 3) := by decide +kernel
theorem dX8_needSea_11 : decode cX8_needSea 11 = .ok (.new 63, 3) := by decide +kernel
theorem dX8_needSea_14 : decode cX8_needSea 14 = .ok (.dup, 1) := by decide +kernel
theorem dX8_needSea_15 : decode cX8_needSea 15 = .ok (.ldc_w 289, 3) := by decide +kernel
theorem dX8_needSea_18 : decode cX8_needSea 18 = .ok (.invokespecial 67, 3) := by decide +kernel
theorem dX8_needSea_21 : decode cX8_needSea 21 = .ok (.athrow, 1) := by decide +kernel
theorem dX8_needSea_22 : decode cX8_needSea 22 = .ok (.return_, 1) := by decide +kernel
theorem dX8_buoyNumbered_0 : decode cX8_buoyNumbered 0 = .ok (.iload_n 1, 1) := by decide +kernel
theorem dX8_buoyNumbered_1 : decode cX8_buoyNumbered 1 = .ok (.aload_n 0, 1) := by decide +kernel
theorem dX8_buoyNumbered_2 : decode cX8_buoyNumbered 2 = .ok (.getfield 18, 3) := by decide +kernel
theorem dX8_buoyNumbered_5 : decode cX8_buoyNumbered 5 = .ok (.arraylength, 1) := by decide +kernel
theorem dX8_buoyNumbered_6 : decode cX8_buoyNumbered 6 = .ok (.invokestatic 93, 3) := by decide +kernel
theorem dX8_buoyNumbered_9 : decode cX8_buoyNumbered 9 = .ok (.ifCond .eq 12, 3) := by decide +kernel
theorem dX8_buoyNumbered_12 : decode cX8_buoyNumbered 12 = .ok (.aload_n 0, 1) := by decide +kernel
theorem dX8_buoyNumbered_13 : decode cX8_buoyNumbered 13 = .ok (.getfield 18, 3) := by decide +kernel
theorem dX8_buoyNumbered_16 : decode cX8_buoyNumbered 16 = .ok (.iload_n 1, 1) := by decide +kernel
theorem dX8_buoyNumbered_17 : decode cX8_buoyNumbered 17 = .ok (.aaload, 1) := by decide +kernel
theorem dX8_buoyNumbered_18 : decode cX8_buoyNumbered 18 = .ok (.goto 4, 3) := by decide +kernel
theorem dX8_buoyNumbered_21 : decode cX8_buoyNumbered 21 = .ok (.aconst_null, 1) := by decide +kernel
theorem dX8_buoyNumbered_22 : decode cX8_buoyNumbered 22 = .ok (.astore_n 2, 1) := by decide +kernel
theorem dX8_buoyNumbered_23 : decode cX8_buoyNumbered 23 = .ok (.aload_n 2, 1) := by decide +kernel
theorem dX8_buoyNumbered_24 : decode cX8_buoyNumbered 24 = .ok (.ifnonnull 14, 3) := by decide +kernel
theorem dX8_buoyNumbered_27 : decode cX8_buoyNumbered 27 = .ok (.new 279, 3) := by decide +kernel
theorem dX8_buoyNumbered_30 : decode cX8_buoyNumbered 30 = .ok (.dup, 1) := by decide +kernel
theorem dX8_buoyNumbered_31 : decode cX8_buoyNumbered 31 = .ok (.ldc_w 291, 3) := by decide +kernel
theorem dX8_buoyNumbered_34 : decode cX8_buoyNumbered 34 = .ok (.invokespecial 283, 3) := by decide +kernel
theorem dX8_buoyNumbered_37 : decode cX8_buoyNumbered 37 = .ok (.athrow, 1) := by decide +kernel
theorem dX8_buoyNumbered_38 : decode cX8_buoyNumbered 38 = .ok (.aload_n 2, 1) := by decide +kernel
theorem dX8_buoyNumbered_39 : decode cX8_buoyNumbered 39 = .ok (.areturn, 1) := by decide +kernel
theorem dX8_readingNumbered_0 : decode cX8_readingNumbered 0 = .ok (.iload_n 1, 1) := by decide +kernel
theorem dX8_readingNumbered_1 : decode cX8_readingNumbered 1 = .ok (.aload_n 0, 1) := by decide +kernel
theorem dX8_readingNumbered_2 : decode cX8_readingNumbered 2 = .ok (.getfield 25, 3) := by decide +kernel
theorem dX8_readingNumbered_5 : decode cX8_readingNumbered 5 = .ok (.getfield 293, 3) := by decide +kernel
theorem dX8_readingNumbered_8 : decode cX8_readingNumbered 8 = .ok (.arraylength, 1) := by decide +kernel
theorem dX8_readingNumbered_9 : decode cX8_readingNumbered 9 = .ok (.invokestatic 93, 3) := by decide +kernel
theorem dX8_readingNumbered_12 : decode cX8_readingNumbered 12 = .ok (.ifCond .eq 15, 3) := by decide +kernel
theorem dX8_readingNumbered_15 : decode cX8_readingNumbered 15 = .ok (.aload_n 0, 1) := by decide +kernel
theorem dX8_readingNumbered_16 : decode cX8_readingNumbered 16 = .ok (.getfield 25, 3) := by decide +kernel
theorem dX8_readingNumbered_19 : decode cX8_readingNumbered 19 = .ok (.getfield 293, 3) := by decide +kernel
theorem dX8_readingNumbered_22 : decode cX8_readingNumbered 22 = .ok (.iload_n 1, 1) := by decide +kernel
theorem dX8_readingNumbered_23 : decode cX8_readingNumbered 23 = .ok (.aaload, 1) := by decide +kernel
theorem dX8_readingNumbered_24 : decode cX8_readingNumbered 24 = .ok (.goto 4, 3) := by decide +kernel
theorem dX8_readingNumbered_27 : decode cX8_readingNumbered 27 = .ok (.aconst_null, 1) := by decide +kernel
theorem dX8_readingNumbered_28 : decode cX8_readingNumbered 28 = .ok (.astore_n 2, 1) := by decide +kernel
theorem dX8_readingNumbered_29 : decode cX8_readingNumbered 29 = .ok (.aload_n 2, 1) := by decide +kernel
theorem dX8_readingNumbered_30 : decode cX8_readingNumbered 30 = .ok (.ifnonnull 14, 3) := by decide +kernel
theorem dX8_readingNumbered_33 : decode cX8_readingNumbered 33 = .ok (.new 279, 3) := by decide +kernel
theorem dX8_readingNumbered_36 : decode cX8_readingNumbered 36 = .ok (.dup, 1) := by decide +kernel
theorem dX8_readingNumbered_37 : decode cX8_readingNumbered 37 = .ok (.ldc_w 297, 3) := by decide +kernel
theorem dX8_readingNumbered_40 : decode cX8_readingNumbered 40 = .ok (.invokespecial 283, 3) := by decide +kernel
theorem dX8_readingNumbered_43 : decode cX8_readingNumbered 43 = .ok (.athrow, 1) := by decide +kernel
theorem dX8_readingNumbered_44 : decode cX8_readingNumbered 44 = .ok (.aload_n 2, 1) := by decide +kernel
theorem dX8_readingNumbered_45 : decode cX8_readingNumbered 45 = .ok (.areturn, 1) := by decide +kernel
theorem dX8_searchNumbered_0 : decode cX8_searchNumbered 0 = .ok (.iload_n 1, 1) := by decide +kernel
theorem dX8_searchNumbered_1 : decode cX8_searchNumbered 1 = .ok (.aload_n 0, 1) := by decide +kernel
theorem dX8_searchNumbered_2 : decode cX8_searchNumbered 2 = .ok (.getfield 38, 3) := by decide +kernel
theorem dX8_searchNumbered_5 : decode cX8_searchNumbered 5 = .ok (.arraylength, 1) := by decide +kernel
theorem dX8_searchNumbered_6 : decode cX8_searchNumbered 6 = .ok (.invokestatic 93, 3) := by decide +kernel
theorem dX8_searchNumbered_9 : decode cX8_searchNumbered 9 = .ok (.ifCond .eq 12, 3) := by decide +kernel
theorem dX8_searchNumbered_12 : decode cX8_searchNumbered 12 = .ok (.aload_n 0, 1) := by decide +kernel
theorem dX8_searchNumbered_13 : decode cX8_searchNumbered 13 = .ok (.getfield 38, 3) := by decide +kernel
theorem dX8_searchNumbered_16 : decode cX8_searchNumbered 16 = .ok (.iload_n 1, 1) := by decide +kernel
theorem dX8_searchNumbered_17 : decode cX8_searchNumbered 17 = .ok (.aaload, 1) := by decide +kernel
theorem dX8_searchNumbered_18 : decode cX8_searchNumbered 18 = .ok (.goto 4, 3) := by decide +kernel
theorem dX8_searchNumbered_21 : decode cX8_searchNumbered 21 = .ok (.aconst_null, 1) := by decide +kernel
theorem dX8_searchNumbered_22 : decode cX8_searchNumbered 22 = .ok (.astore_n 2, 1) := by decide +kernel
theorem dX8_searchNumbered_23 : decode cX8_searchNumbered 23 = .ok (.aload_n 2, 1) := by decide +kernel
theorem dX8_searchNumbered_24 : decode cX8_searchNumbered 24 = .ok (.ifnonnull 14, 3) := by decide +kernel
theorem dX8_searchNumbered_27 : decode cX8_searchNumbered 27 = .ok (.new 279, 3) := by decide +kernel
theorem dX8_searchNumbered_30 : decode cX8_searchNumbered 30 = .ok (.dup, 1) := by decide +kernel
theorem dX8_searchNumbered_31 : decode cX8_searchNumbered 31 = .ok (.ldc_w 299, 3) := by decide +kernel
theorem dX8_searchNumbered_34 : decode cX8_searchNumbered 34 = .ok (.invokespecial 283, 3) := by decide +kernel
theorem dX8_searchNumbered_37 : decode cX8_searchNumbered 37 = .ok (.athrow, 1) := by decide +kernel
theorem dX8_searchNumbered_38 : decode cX8_searchNumbered 38 = .ok (.aload_n 2, 1) := by decide +kernel
theorem dX8_searchNumbered_39 : decode cX8_searchNumbered 39 = .ok (.areturn, 1) := by decide +kernel
theorem dX8_sumOf_0 : decode cX8_sumOf 0 = .ok (.iconst 0, 1) := by decide +kernel
theorem dX8_sumOf_1 : decode cX8_sumOf 1 = .ok (.istore_n 1, 1) := by decide +kernel
theorem dX8_sumOf_2 : decode cX8_sumOf 2 = .ok (.aload_n 0, 1) := by decide +kernel
theorem dX8_sumOf_3 : decode cX8_sumOf 3 = .ok (.astore_n 2, 1) := by decide +kernel
theorem dX8_sumOf_4 : decode cX8_sumOf 4 = .ok (.aload_n 2, 1) := by decide +kernel
theorem dX8_sumOf_5 : decode cX8_sumOf 5 = .ok (.arraylength, 1) := by decide +kernel
theorem dX8_sumOf_6 : decode cX8_sumOf 6 = .ok (.istore_n 3, 1) := by decide +kernel
theorem dX8_sumOf_7 : decode cX8_sumOf 7 = .ok (.iconst 0, 1) := by decide +kernel
theorem dX8_sumOf_8 : decode cX8_sumOf 8 = .ok (.istore 4, 2) := by decide +kernel
theorem dX8_sumOf_10 : decode cX8_sumOf 10 = .ok (.iload 4, 2) := by decide +kernel
theorem dX8_sumOf_12 : decode cX8_sumOf 12 = .ok (.iload_n 3, 1) := by decide +kernel
theorem dX8_sumOf_13 : decode cX8_sumOf 13 = .ok (.if_icmp .ge 20, 3) := by decide +kernel
theorem dX8_sumOf_16 : decode cX8_sumOf 16 = .ok (.aload_n 2, 1) := by decide +kernel
theorem dX8_sumOf_17 : decode cX8_sumOf 17 = .ok (.iload 4, 2) := by decide +kernel
theorem dX8_sumOf_19 : decode cX8_sumOf 19 = .ok (.iaload, 1) := by decide +kernel
theorem dX8_sumOf_20 : decode cX8_sumOf 20 = .ok (.istore 5, 2) := by decide +kernel
theorem dX8_sumOf_22 : decode cX8_sumOf 22 = .ok (.iload_n 1, 1) := by decide +kernel
theorem dX8_sumOf_23 : decode cX8_sumOf 23 = .ok (.iload 5, 2) := by decide +kernel
theorem dX8_sumOf_25 : decode cX8_sumOf 25 = .ok (.iadd, 1) := by decide +kernel
theorem dX8_sumOf_26 : decode cX8_sumOf 26 = .ok (.istore_n 1, 1) := by decide +kernel
theorem dX8_sumOf_27 : decode cX8_sumOf 27 = .ok (.iinc 4 1, 3) := by decide +kernel
theorem dX8_sumOf_30 : decode cX8_sumOf 30 = .ok (.goto (-20), 3) := by decide +kernel
theorem dX8_sumOf_33 : decode cX8_sumOf 33 = .ok (.iload_n 1, 1) := by decide +kernel
theorem dX8_sumOf_34 : decode cX8_sumOf 34 = .ok (.ireturn, 1) := by decide +kernel
theorem dX8_isTaken_0 : decode cX8_isTaken 0 = .ok (.aload_n 0, 1) := by decide +kernel
theorem dX8_isTaken_1 : decode cX8_isTaken 1 = .ok (.getfield 18, 3) := by decide +kernel
theorem dX8_isTaken_4 : decode cX8_isTaken 4 = .ok (.astore_n 2, 1) := by decide +kernel
theorem dX8_isTaken_5 : decode cX8_isTaken 5 = .ok (.aload_n 2, 1) := by decide +kernel
theorem dX8_isTaken_6 : decode cX8_isTaken 6 = .ok (.arraylength, 1) := by decide +kernel
theorem dX8_isTaken_7 : decode cX8_isTaken 7 = .ok (.istore_n 3, 1) := by decide +kernel
theorem dX8_isTaken_8 : decode cX8_isTaken 8 = .ok (.iconst 0, 1) := by decide +kernel
theorem dX8_isTaken_9 : decode cX8_isTaken 9 = .ok (.istore 4, 2) := by decide +kernel
theorem dX8_isTaken_11 : decode cX8_isTaken 11 = .ok (.iload 4, 2) := by decide +kernel
theorem dX8_isTaken_13 : decode cX8_isTaken 13 = .ok (.iload_n 3, 1) := by decide +kernel
theorem dX8_isTaken_14 : decode cX8_isTaken 14 = .ok (.if_icmp .ge 31, 3) := by decide +kernel
theorem dX8_isTaken_17 : decode cX8_isTaken 17 = .ok (.aload_n 2, 1) := by decide +kernel
theorem dX8_isTaken_18 : decode cX8_isTaken 18 = .ok (.iload 4, 2) := by decide +kernel
theorem dX8_isTaken_20 : decode cX8_isTaken 20 = .ok (.aaload, 1) := by decide +kernel
theorem dX8_isTaken_21 : decode cX8_isTaken 21 = .ok (.astore 5, 2) := by decide +kernel
theorem dX8_isTaken_23 : decode cX8_isTaken 23 = .ok (.aload 5, 2) := by decide +kernel
theorem dX8_isTaken_25 : decode cX8_isTaken 25 = .ok (.ifnull 14, 3) := by decide +kernel
theorem dX8_isTaken_28 : decode cX8_isTaken 28 = .ok (.aload 5, 2) := by decide +kernel
theorem dX8_isTaken_30 : decode cX8_isTaken 30 = .ok (.getfield 215, 3) := by decide +kernel
theorem dX8_isTaken_33 : decode cX8_isTaken 33 = .ok (.iload_n 1, 1) := by decide +kernel
theorem dX8_isTaken_34 : decode cX8_isTaken 34 = .ok (.if_icmp .ne 5, 3) := by decide +kernel
theorem dX8_isTaken_37 : decode cX8_isTaken 37 = .ok (.iconst 1, 1) := by decide +kernel
theorem dX8_isTaken_38 : decode cX8_isTaken 38 = .ok (.ireturn, 1) := by decide +kernel
theorem dX8_isTaken_39 : decode cX8_isTaken 39 = .ok (.iinc 4 1, 3) := by decide +kernel
theorem dX8_isTaken_42 : decode cX8_isTaken 42 = .ok (.goto (-31), 3) := by decide +kernel
theorem dX8_isTaken_45 : decode cX8_isTaken 45 = .ok (.aload_n 0, 1) := by decide +kernel
theorem dX8_isTaken_46 : decode cX8_isTaken 46 = .ok (.getfield 38, 3) := by decide +kernel
theorem dX8_isTaken_49 : decode cX8_isTaken 49 = .ok (.astore_n 2, 1) := by decide +kernel
theorem dX8_isTaken_50 : decode cX8_isTaken 50 = .ok (.aload_n 2, 1) := by decide +kernel
theorem dX8_isTaken_51 : decode cX8_isTaken 51 = .ok (.arraylength, 1) := by decide +kernel
theorem dX8_isTaken_52 : decode cX8_isTaken 52 = .ok (.istore_n 3, 1) := by decide +kernel
theorem dX8_isTaken_53 : decode cX8_isTaken 53 = .ok (.iconst 0, 1) := by decide +kernel
theorem dX8_isTaken_54 : decode cX8_isTaken 54 = .ok (.istore 4, 2) := by decide +kernel
theorem dX8_isTaken_56 : decode cX8_isTaken 56 = .ok (.iload 4, 2) := by decide +kernel
theorem dX8_isTaken_58 : decode cX8_isTaken 58 = .ok (.iload_n 3, 1) := by decide +kernel
theorem dX8_isTaken_59 : decode cX8_isTaken 59 = .ok (.if_icmp .ge 31, 3) := by decide +kernel
theorem dX8_isTaken_62 : decode cX8_isTaken 62 = .ok (.aload_n 2, 1) := by decide +kernel
theorem dX8_isTaken_63 : decode cX8_isTaken 63 = .ok (.iload 4, 2) := by decide +kernel
theorem dX8_isTaken_65 : decode cX8_isTaken 65 = .ok (.aaload, 1) := by decide +kernel
theorem dX8_isTaken_66 : decode cX8_isTaken 66 = .ok (.astore 5, 2) := by decide +kernel
theorem dX8_isTaken_68 : decode cX8_isTaken 68 = .ok (.aload 5, 2) := by decide +kernel
theorem dX8_isTaken_70 : decode cX8_isTaken 70 = .ok (.ifnull 14, 3) := by decide +kernel
theorem dX8_isTaken_73 : decode cX8_isTaken 73 = .ok (.aload 5, 2) := by decide +kernel
theorem dX8_isTaken_75 : decode cX8_isTaken 75 = .ok (.getfield 301, 3) := by decide +kernel
theorem dX8_isTaken_78 : decode cX8_isTaken 78 = .ok (.iload_n 1, 1) := by decide +kernel
theorem dX8_isTaken_79 : decode cX8_isTaken 79 = .ok (.if_icmp .ne 5, 3) := by decide +kernel
theorem dX8_isTaken_82 : decode cX8_isTaken 82 = .ok (.iconst 1, 1) := by decide +kernel
theorem dX8_isTaken_83 : decode cX8_isTaken 83 = .ok (.ireturn, 1) := by decide +kernel
theorem dX8_isTaken_84 : decode cX8_isTaken 84 = .ok (.iinc 4 1, 3) := by decide +kernel
theorem dX8_isTaken_87 : decode cX8_isTaken 87 = .ok (.goto (-31), 3) := by decide +kernel
theorem dX8_isTaken_90 : decode cX8_isTaken 90 = .ok (.aload_n 0, 1) := by decide +kernel
theorem dX8_isTaken_91 : decode cX8_isTaken 91 = .ok (.getfield 32, 3) := by decide +kernel
theorem dX8_isTaken_94 : decode cX8_isTaken 94 = .ok (.iload_n 1, 1) := by decide +kernel
theorem dX8_isTaken_95 : decode cX8_isTaken 95 = .ok (.invokevirtual 304, 3) := by decide +kernel
theorem dX8_isTaken_98 : decode cX8_isTaken 98 = .ok (.ireturn, 1) := by decide +kernel
theorem dX8_meanWithout_0 : decode cX8_meanWithout 0 = .ok (.aload_n 0, 1) := by decide +kernel
theorem dX8_meanWithout_1 : decode cX8_meanWithout 1 = .ok (.getfield 25, 3) := by decide +kernel
theorem dX8_meanWithout_4 : decode cX8_meanWithout 4 = .ok (.aload_n 1, 1) := by decide +kernel
theorem dX8_meanWithout_5 : decode cX8_meanWithout 5 = .ok (.iload_n 2, 1) := by decide +kernel
theorem dX8_meanWithout_6 : decode cX8_meanWithout 6 = .ok (.iload_n 3, 1) := by decide +kernel
theorem dX8_meanWithout_7 : decode cX8_meanWithout 7 = .ok (.iload 4, 2) := by decide +kernel
theorem dX8_meanWithout_9 : decode cX8_meanWithout 9 = .ok (.invokevirtual 258, 3) := by decide +kernel
theorem dX8_meanWithout_12 : decode cX8_meanWithout 12 = .ok (.istore 5, 2) := by decide +kernel
theorem dX8_meanWithout_14 : decode cX8_meanWithout 14 = .ok (.iload 5, 2) := by decide +kernel
theorem dX8_meanWithout_16 : decode cX8_meanWithout 16 = .ok (.ifCond .gt 14, 3) := by decide +kernel
theorem dX8_meanWithout_19 : decode cX8_meanWithout 19 = .ok (.new 63, 3) := by decide +kernel
theorem dX8_meanWithout_22 : decode cX8_meanWithout 22 = .ok (.dup, 1) := by decide +kernel
theorem dX8_meanWithout_23 : decode cX8_meanWithout 23 = .ok (.ldc_w 307, 3) := by decide +kernel
theorem dX8_meanWithout_26 : decode cX8_meanWithout 26 = .ok (.invokespecial 67, 3) := by decide +kernel
theorem dX8_meanWithout_29 : decode cX8_meanWithout 29 = .ok (.athrow, 1) := by decide +kernel
theorem dX8_meanWithout_30 : decode cX8_meanWithout 30 = .ok (.aload_n 0, 1) := by decide +kernel
theorem dX8_meanWithout_31 : decode cX8_meanWithout 31 = .ok (.getfield 25, 3) := by decide +kernel
theorem dX8_meanWithout_34 : decode cX8_meanWithout 34 = .ok (.aload_n 1, 1) := by decide +kernel
theorem dX8_meanWithout_35 : decode cX8_meanWithout 35 = .ok (.iload_n 2, 1) := by decide +kernel
theorem dX8_meanWithout_36 : decode cX8_meanWithout 36 = .ok (.iload_n 3, 1) := by decide +kernel
theorem dX8_meanWithout_37 : decode cX8_meanWithout 37 = .ok (.iload 4, 2) := by decide +kernel
theorem dX8_meanWithout_39 : decode cX8_meanWithout 39 = .ok (.invokevirtual 309, 3) := by decide +kernel
theorem dX8_meanWithout_42 : decode cX8_meanWithout 42 = .ok (.iload 5, 2) := by decide +kernel
theorem dX8_meanWithout_44 : decode cX8_meanWithout 44 = .ok (.i2l, 1) := by decide +kernel
theorem dX8_meanWithout_45 : decode cX8_meanWithout 45 = .ok (.ldiv, 1) := by decide +kernel
theorem dX8_meanWithout_46 : decode cX8_meanWithout 46 = .ok (.l2i, 1) := by decide +kernel
theorem dX8_meanWithout_47 : decode cX8_meanWithout 47 = .ok (.ireturn, 1) := by decide +kernel
theorem dX8_tideAt_0 : decode cX8_tideAt 0 = .ok (.iconst 0, 1) := by decide +kernel
theorem dX8_tideAt_1 : decode cX8_tideAt 1 = .ok (.istore_n 2, 1) := by decide +kernel
theorem dX8_tideAt_2 : decode cX8_tideAt 2 = .ok (.aload_n 0, 1) := by decide +kernel
theorem dX8_tideAt_3 : decode cX8_tideAt 3 = .ok (.getfield 44, 3) := by decide +kernel
theorem dX8_tideAt_6 : decode cX8_tideAt 6 = .ok (.astore_n 3, 1) := by decide +kernel
theorem dX8_tideAt_7 : decode cX8_tideAt 7 = .ok (.aload_n 3, 1) := by decide +kernel
theorem dX8_tideAt_8 : decode cX8_tideAt 8 = .ok (.arraylength, 1) := by decide +kernel
theorem dX8_tideAt_9 : decode cX8_tideAt 9 = .ok (.istore 4, 2) := by decide +kernel
theorem dX8_tideAt_11 : decode cX8_tideAt 11 = .ok (.iconst 0, 1) := by decide +kernel
theorem dX8_tideAt_12 : decode cX8_tideAt 12 = .ok (.istore 5, 2) := by decide +kernel
theorem dX8_tideAt_14 : decode cX8_tideAt 14 = .ok (.iload 5, 2) := by decide +kernel
theorem dX8_tideAt_16 : decode cX8_tideAt 16 = .ok (.iload 4, 2) := by decide +kernel
theorem dX8_tideAt_18 : decode cX8_tideAt 18 = .ok (.if_icmp .ge 29, 3) := by decide +kernel
theorem dX8_tideAt_21 : decode cX8_tideAt 21 = .ok (.aload_n 3, 1) := by decide +kernel
theorem dX8_tideAt_22 : decode cX8_tideAt 22 = .ok (.iload 5, 2) := by decide +kernel
theorem dX8_tideAt_24 : decode cX8_tideAt 24 = .ok (.aaload, 1) := by decide +kernel
theorem dX8_tideAt_25 : decode cX8_tideAt 25 = .ok (.astore 6, 2) := by decide +kernel
theorem dX8_tideAt_27 : decode cX8_tideAt 27 = .ok (.aload 6, 2) := by decide +kernel
theorem dX8_tideAt_29 : decode cX8_tideAt 29 = .ok (.ifnull 12, 3) := by decide +kernel
theorem dX8_tideAt_32 : decode cX8_tideAt 32 = .ok (.iload_n 2, 1) := by decide +kernel
theorem dX8_tideAt_33 : decode cX8_tideAt 33 = .ok (.aload 6, 2) := by decide +kernel
theorem dX8_tideAt_35 : decode cX8_tideAt 35 = .ok (.iload_n 1, 1) := by decide +kernel
theorem dX8_tideAt_36 : decode cX8_tideAt 36 = .ok (.invokevirtual 313, 3) := by decide +kernel
theorem dX8_tideAt_39 : decode cX8_tideAt 39 = .ok (.iadd, 1) := by decide +kernel
theorem dX8_tideAt_40 : decode cX8_tideAt 40 = .ok (.istore_n 2, 1) := by decide +kernel
theorem dX8_tideAt_41 : decode cX8_tideAt 41 = .ok (.iinc 5 1, 3) := by decide +kernel
theorem dX8_tideAt_44 : decode cX8_tideAt 44 = .ok (.goto (-30), 3) := by decide +kernel
theorem dX8_tideAt_47 : decode cX8_tideAt 47 = .ok (.iload_n 2, 1) := by decide +kernel
theorem dX8_tideAt_48 : decode cX8_tideAt 48 = .ok (.ireturn, 1) := by decide +kernel
theorem dX8_passOneDay_0 : decode cX8_passOneDay 0 = .ok (.aload_n 0, 1) := by decide +kernel
theorem dX8_passOneDay_1 : decode cX8_passOneDay 1 = .ok (.dup, 1) := by decide +kernel
theorem dX8_passOneDay_2 : decode cX8_passOneDay 2 = .ok (.getfield 52, 3) := by decide +kernel
theorem dX8_passOneDay_5 : decode cX8_passOneDay 5 = .ok (.iconst 1, 1) := by decide +kernel
theorem dX8_passOneDay_6 : decode cX8_passOneDay 6 = .ok (.iadd, 1) := by decide +kernel
theorem dX8_passOneDay_7 : decode cX8_passOneDay 7 = .ok (.putfield 52, 3) := by decide +kernel
theorem dX8_passOneDay_10 : decode cX8_passOneDay 10 = .ok (.aload_n 0, 1) := by decide +kernel
theorem dX8_passOneDay_11 : decode cX8_passOneDay 11 = .ok (.getfield 12, 3) := by decide +kernel
theorem dX8_passOneDay_14 : decode cX8_passOneDay 14 = .ok (.invokevirtual 316, 3) := by decide +kernel
theorem dX8_passOneDay_17 : decode cX8_passOneDay 17 = .ok (.aload_n 0, 1) := by decide +kernel
theorem dX8_passOneDay_18 : decode cX8_passOneDay 18 = .ok (.getfield 12, 3) := by decide +kernel
theorem dX8_passOneDay_21 : decode cX8_passOneDay 21 = .ok (.invokevirtual 319, 3) := by decide +kernel
theorem dX8_passOneDay_24 : decode cX8_passOneDay 24 = .ok (.aload_n 0, 1) := by decide +kernel
theorem dX8_passOneDay_25 : decode cX8_passOneDay 25 = .ok (.getfield 12, 3) := by decide +kernel
theorem dX8_passOneDay_28 : decode cX8_passOneDay 28 = .ok (.invokevirtual 322, 3) := by decide +kernel
theorem dX8_passOneDay_31 : decode cX8_passOneDay 31 = .ok (.aload_n 0, 1) := by decide +kernel
theorem dX8_passOneDay_32 : decode cX8_passOneDay 32 = .ok (.getfield 18, 3) := by decide +kernel
theorem dX8_passOneDay_35 : decode cX8_passOneDay 35 = .ok (.astore_n 1, 1) := by decide +kernel
theorem dX8_passOneDay_36 : decode cX8_passOneDay 36 = .ok (.aload_n 1, 1) := by decide +kernel
theorem dX8_passOneDay_37 : decode cX8_passOneDay 37 = .ok (.arraylength, 1) := by decide +kernel
theorem dX8_passOneDay_38 : decode cX8_passOneDay 38 = .ok (.istore_n 2, 1) := by decide +kernel
theorem dX8_passOneDay_39 : decode cX8_passOneDay 39 = .ok (.iconst 0, 1) := by decide +kernel
theorem dX8_passOneDay_40 : decode cX8_passOneDay 40 = .ok (.istore_n 3, 1) := by decide +kernel
theorem dX8_passOneDay_41 : decode cX8_passOneDay 41 = .ok (.iload_n 3, 1) := by decide +kernel
theorem dX8_passOneDay_42 : decode cX8_passOneDay 42 = .ok (.iload_n 2, 1) := by decide +kernel
theorem dX8_passOneDay_43 : decode cX8_passOneDay 43 = .ok (.if_icmp .ge 33, 3) := by decide +kernel
theorem dX8_passOneDay_46 : decode cX8_passOneDay 46 = .ok (.aload_n 1, 1) := by decide +kernel
theorem dX8_passOneDay_47 : decode cX8_passOneDay 47 = .ok (.iload_n 3, 1) := by decide +kernel
theorem dX8_passOneDay_48 : decode cX8_passOneDay 48 = .ok (.aaload, 1) := by decide +kernel
theorem dX8_passOneDay_49 : decode cX8_passOneDay 49 = .ok (.astore 4, 2) := by decide +kernel
theorem dX8_passOneDay_51 : decode cX8_passOneDay 51 = .ok (.aload 4, 2) := by decide +kernel
theorem dX8_passOneDay_53 : decode cX8_passOneDay 53 = .ok (.ifnull 17, 3) := by decide +kernel
theorem dX8_passOneDay_56 : decode cX8_passOneDay 56 = .ok (.aload 4, 2) := by decide +kernel
theorem dX8_passOneDay_58 : decode cX8_passOneDay 58 = .ok (.getfield 221, 3) := by decide +kernel
theorem dX8_passOneDay_61 : decode cX8_passOneDay 61 = .ok (.ifCond .le 9, 3) := by decide +kernel
theorem dX8_passOneDay_64 : decode cX8_passOneDay 64 = .ok (.aload_n 0, 1) := by decide +kernel
theorem dX8_passOneDay_65 : decode cX8_passOneDay 65 = .ok (.aload 4, 2) := by decide +kernel
theorem dX8_passOneDay_67 : decode cX8_passOneDay 67 = .ok (.invokevirtual 325, 3) := by decide +kernel
theorem dX8_passOneDay_70 : decode cX8_passOneDay 70 = .ok (.iinc 3 1, 3) := by decide +kernel
theorem dX8_passOneDay_73 : decode cX8_passOneDay 73 = .ok (.goto (-32), 3) := by decide +kernel
theorem dX8_passOneDay_76 : decode cX8_passOneDay 76 = .ok (.aload_n 0, 1) := by decide +kernel
theorem dX8_passOneDay_77 : decode cX8_passOneDay 77 = .ok (.getfield 38, 3) := by decide +kernel
theorem dX8_passOneDay_80 : decode cX8_passOneDay 80 = .ok (.astore_n 1, 1) := by decide +kernel
theorem dX8_passOneDay_81 : decode cX8_passOneDay 81 = .ok (.aload_n 1, 1) := by decide +kernel
theorem dX8_passOneDay_82 : decode cX8_passOneDay 82 = .ok (.arraylength, 1) := by decide +kernel
theorem dX8_passOneDay_83 : decode cX8_passOneDay 83 = .ok (.istore_n 2, 1) := by decide +kernel
theorem dX8_passOneDay_84 : decode cX8_passOneDay 84 = .ok (.iconst 0, 1) := by decide +kernel
theorem dX8_passOneDay_85 : decode cX8_passOneDay 85 = .ok (.istore_n 3, 1) := by decide +kernel
theorem dX8_passOneDay_86 : decode cX8_passOneDay 86 = .ok (.iload_n 3, 1) := by decide +kernel
theorem dX8_passOneDay_87 : decode cX8_passOneDay 87 = .ok (.iload_n 2, 1) := by decide +kernel
theorem dX8_passOneDay_88 : decode cX8_passOneDay 88 = .ok (.if_icmp .ge 28, 3) := by decide +kernel
theorem dX8_passOneDay_91 : decode cX8_passOneDay 91 = .ok (.aload_n 1, 1) := by decide +kernel
theorem dX8_passOneDay_92 : decode cX8_passOneDay 92 = .ok (.iload_n 3, 1) := by decide +kernel
theorem dX8_passOneDay_93 : decode cX8_passOneDay 93 = .ok (.aaload, 1) := by decide +kernel
theorem dX8_passOneDay_94 : decode cX8_passOneDay 94 = .ok (.astore 4, 2) := by decide +kernel
theorem dX8_passOneDay_96 : decode cX8_passOneDay 96 = .ok (.aload 4, 2) := by decide +kernel
theorem dX8_passOneDay_98 : decode cX8_passOneDay 98 = .ok (.ifnull 12, 3) := by decide +kernel
theorem dX8_passOneDay_101 : decode cX8_passOneDay 101 = .ok (.aload 4, 2) := by decide +kernel
theorem dX8_passOneDay_103 : decode cX8_passOneDay 103 = .ok (.aload_n 0, 1) := by decide +kernel
theorem dX8_passOneDay_104 : decode cX8_passOneDay 104 = .ok (.getfield 12, 3) := by decide +kernel
theorem dX8_passOneDay_107 : decode cX8_passOneDay 107 = .ok (.invokevirtual 329, 3) := by decide +kernel
theorem dX8_passOneDay_110 : decode cX8_passOneDay 110 = .ok (.iinc 3 1, 3) := by decide +kernel
theorem dX8_passOneDay_113 : decode cX8_passOneDay 113 = .ok (.goto (-27), 3) := by decide +kernel
theorem dX8_passOneDay_116 : decode cX8_passOneDay 116 = .ok (.aload_n 0, 1) := by decide +kernel
theorem dX8_passOneDay_117 : decode cX8_passOneDay 117 = .ok (.invokevirtual 333, 3) := by decide +kernel
theorem dX8_passOneDay_120 : decode cX8_passOneDay 120 = .ok (.return_, 1) := by decide +kernel
theorem dX8_letDrift_0 : decode cX8_letDrift 0 = .ok (.aload_n 1, 1) := by decide +kernel
theorem dX8_letDrift_1 : decode cX8_letDrift 1 = .ok (.dup, 1) := by decide +kernel
theorem dX8_letDrift_2 : decode cX8_letDrift 2 = .ok (.getfield 218, 3) := by decide +kernel
theorem dX8_letDrift_5 : decode cX8_letDrift 5 = .ok (.iconst 1, 1) := by decide +kernel
theorem dX8_letDrift_6 : decode cX8_letDrift 6 = .ok (.isub, 1) := by decide +kernel
theorem dX8_letDrift_7 : decode cX8_letDrift 7 = .ok (.putfield 218, 3) := by decide +kernel
theorem dX8_letDrift_10 : decode cX8_letDrift 10 = .ok (.aload_n 1, 1) := by decide +kernel
theorem dX8_letDrift_11 : decode cX8_letDrift 11 = .ok (.getfield 218, 3) := by decide +kernel
theorem dX8_letDrift_14 : decode cX8_letDrift 14 = .ok (.ifCond .le 4, 3) := by decide +kernel
theorem dX8_letDrift_17 : decode cX8_letDrift 17 = .ok (.return_, 1) := by decide +kernel
theorem dX8_letDrift_18 : decode cX8_letDrift 18 = .ok (.aload_n 0, 1) := by decide +kernel
theorem dX8_letDrift_19 : decode cX8_letDrift 19 = .ok (.getfield 12, 3) := by decide +kernel
theorem dX8_letDrift_22 : decode cX8_letDrift 22 = .ok (.aload_n 1, 1) := by decide +kernel
theorem dX8_letDrift_23 : decode cX8_letDrift 23 = .ok (.getfield 215, 3) := by decide +kernel
theorem dX8_letDrift_26 : decode cX8_letDrift 26 = .ok (.invokevirtual 336, 3) := by decide +kernel
theorem dX8_letDrift_29 : decode cX8_letDrift 29 = .ok (.istore_n 2, 1) := by decide +kernel
theorem dX8_letDrift_30 : decode cX8_letDrift 30 = .ok (.iload_n 2, 1) := by decide +kernel
theorem dX8_letDrift_31 : decode cX8_letDrift 31 = .ok (.iconst (-1), 1) := by decide +kernel
theorem dX8_letDrift_32 : decode cX8_letDrift 32 = .ok (.if_icmp .eq 8, 3) := by decide +kernel
theorem dX8_letDrift_35 : decode cX8_letDrift 35 = .ok (.aload_n 1, 1) := by decide +kernel
theorem dX8_letDrift_36 : decode cX8_letDrift 36 = .ok (.iload_n 2, 1) := by decide +kernel
theorem dX8_letDrift_37 : decode cX8_letDrift 37 = .ok (.putfield 215, 3) := by decide +kernel
theorem dX8_letDrift_40 : decode cX8_letDrift 40 = .ok (.aload_n 0, 1) := by decide +kernel
theorem dX8_letDrift_41 : decode cX8_letDrift 41 = .ok (.getfield 25, 3) := by decide +kernel
theorem dX8_letDrift_44 : decode cX8_letDrift 44 = .ok (.aload_n 0, 1) := by decide +kernel
theorem dX8_letDrift_45 : decode cX8_letDrift 45 = .ok (.getfield 52, 3) := by decide +kernel
theorem dX8_letDrift_48 : decode cX8_letDrift 48 = .ok (.aload_n 1, 1) := by decide +kernel
theorem dX8_letDrift_49 : decode cX8_letDrift 49 = .ok (.getfield 215, 3) := by decide +kernel
theorem dX8_letDrift_52 : decode cX8_letDrift 52 = .ok (.aload_n 0, 1) := by decide +kernel
theorem dX8_letDrift_53 : decode cX8_letDrift 53 = .ok (.getfield 12, 3) := by decide +kernel
theorem dX8_letDrift_56 : decode cX8_letDrift 56 = .ok (.aload_n 1, 1) := by decide +kernel
theorem dX8_letDrift_57 : decode cX8_letDrift 57 = .ok (.getfield 215, 3) := by decide +kernel
theorem dX8_letDrift_60 : decode cX8_letDrift 60 = .ok (.invokevirtual 339, 3) := by decide +kernel
theorem dX8_letDrift_63 : decode cX8_letDrift 63 = .ok (.aload_n 1, 1) := by decide +kernel
theorem dX8_letDrift_64 : decode cX8_letDrift 64 = .ok (.getfield 342, 3) := by decide +kernel
theorem dX8_letDrift_67 : decode cX8_letDrift 67 = .ok (.iadd, 1) := by decide +kernel
theorem dX8_letDrift_68 : decode cX8_letDrift 68 = .ok (.aload_n 1, 1) := by decide +kernel
theorem dX8_letDrift_69 : decode cX8_letDrift 69 = .ok (.invokevirtual 345, 3) := by decide +kernel
theorem dX8_letDrift_72 : decode cX8_letDrift 72 = .ok (.aload_n 1, 1) := by decide +kernel
theorem dX8_letDrift_73 : decode cX8_letDrift 73 = .ok (.dup, 1) := by decide +kernel
theorem dX8_letDrift_74 : decode cX8_letDrift 74 = .ok (.getfield 221, 3) := by decide +kernel
theorem dX8_letDrift_77 : decode cX8_letDrift 77 = .ok (.iconst 1, 1) := by decide +kernel
theorem dX8_letDrift_78 : decode cX8_letDrift 78 = .ok (.isub, 1) := by decide +kernel
theorem dX8_letDrift_79 : decode cX8_letDrift 79 = .ok (.putfield 221, 3) := by decide +kernel
theorem dX8_letDrift_82 : decode cX8_letDrift 82 = .ok (.aload_n 1, 1) := by decide +kernel
theorem dX8_letDrift_83 : decode cX8_letDrift 83 = .ok (.aload_n 1, 1) := by decide +kernel
theorem dX8_letDrift_84 : decode cX8_letDrift 84 = .ok (.getfield 221, 3) := by decide +kernel
theorem dX8_letDrift_87 : decode cX8_letDrift 87 = .ok (.ifCond .le 10, 3) := by decide +kernel
theorem dX8_letDrift_90 : decode cX8_letDrift 90 = .ok (.aload_n 1, 1) := by decide +kernel
theorem dX8_letDrift_91 : decode cX8_letDrift 91 = .ok (.getfield 349, 3) := by decide +kernel
theorem dX8_letDrift_94 : decode cX8_letDrift 94 = .ok (.goto 4, 3) := by decide +kernel
theorem dX8_letDrift_97 : decode cX8_letDrift 97 = .ok (.iconst 0, 1) := by decide +kernel
theorem dX8_letDrift_98 : decode cX8_letDrift 98 = .ok (.putfield 218, 3) := by decide +kernel
theorem dX8_letDrift_101 : decode cX8_letDrift 101 = .ok (.return_, 1) := by decide +kernel
theorem dX8_readAtStations_0 : decode cX8_readAtStations 0 = .ok (.aload_n 0, 1) := by decide +kernel
theorem dX8_readAtStations_1 : decode cX8_readAtStations 1 = .ok (.getfield 32, 3) := by decide +kernel
theorem dX8_readAtStations_4 : decode cX8_readAtStations 4 = .ok (.aload_n 0, 1) := by decide +kernel
theorem dX8_readAtStations_5 : decode cX8_readAtStations 5 = .ok (.getfield 52, 3) := by decide +kernel
theorem dX8_readAtStations_8 : decode cX8_readAtStations 8 = .ok (.invokevirtual 352, 3) := by decide +kernel
theorem dX8_readAtStations_11 : decode cX8_readAtStations 11 = .ok (.ifCond .ne 7, 3) := by decide +kernel
theorem dX8_readAtStations_14 : decode cX8_readAtStations 14 = .ok (.iconst 1, 1) := by decide +kernel
theorem dX8_readAtStations_15 : decode cX8_readAtStations 15 = .ok (.goto 4, 3) := by decide +kernel
theorem dX8_readAtStations_18 : decode cX8_readAtStations 18 = .ok (.iconst 0, 1) := by decide +kernel
theorem dX8_readAtStations_19 : decode cX8_readAtStations 19 = .ok (.istore_n 1, 1) := by decide +kernel
theorem dX8_readAtStations_20 : decode cX8_readAtStations 20 = .ok (.aload_n 0, 1) := by decide +kernel
theorem dX8_readAtStations_21 : decode cX8_readAtStations 21 = .ok (.getfield 32, 3) := by decide +kernel
theorem dX8_readAtStations_24 : decode cX8_readAtStations 24 = .ok (.aload_n 0, 1) := by decide +kernel
theorem dX8_readAtStations_25 : decode cX8_readAtStations 25 = .ok (.getfield 52, 3) := by decide +kernel
theorem dX8_readAtStations_28 : decode cX8_readAtStations 28 = .ok (.invokevirtual 355, 3) := by decide +kernel
theorem dX8_readAtStations_31 : decode cX8_readAtStations 31 = .ok (.istore_n 2, 1) := by decide +kernel
theorem dX8_readAtStations_32 : decode cX8_readAtStations 32 = .ok (.iconst 0, 1) := by decide +kernel
theorem dX8_readAtStations_33 : decode cX8_readAtStations 33 = .ok (.istore_n 3, 1) := by decide +kernel
theorem dX8_readAtStations_34 : decode cX8_readAtStations 34 = .ok (.iload_n 3, 1) := by decide +kernel
theorem dX8_readAtStations_35 : decode cX8_readAtStations 35 = .ok (.iload_n 2, 1) := by decide +kernel
theorem dX8_readAtStations_36 : decode cX8_readAtStations 36 = .ok (.if_icmp .ge 46, 3) := by decide +kernel
theorem dX8_readAtStations_39 : decode cX8_readAtStations 39 = .ok (.iload_n 1, 1) := by decide +kernel
theorem dX8_readAtStations_40 : decode cX8_readAtStations 40 = .ok (.ifCond .eq 42, 3) := by decide +kernel
theorem dX8_readAtStations_43 : decode cX8_readAtStations 43 = .ok (.aload_n 0, 1) := by decide +kernel
theorem dX8_readAtStations_44 : decode cX8_readAtStations 44 = .ok (.getfield 32, 3) := by decide +kernel
theorem dX8_readAtStations_47 : decode cX8_readAtStations 47 = .ok (.iload_n 3, 1) := by decide +kernel
theorem dX8_readAtStations_48 : decode cX8_readAtStations 48 = .ok (.invokevirtual 358, 3) := by decide +kernel
theorem dX8_readAtStations_51 : decode cX8_readAtStations 51 = .ok (.istore 4, 2) := by decide +kernel
theorem dX8_readAtStations_53 : decode cX8_readAtStations 53 = .ok (.aload_n 0, 1) := by decide +kernel
theorem dX8_readAtStations_54 : decode cX8_readAtStations 54 = .ok (.getfield 25, 3) := by decide +kernel
theorem dX8_readAtStations_57 : decode cX8_readAtStations 57 = .ok (.aload_n 0, 1) := by decide +kernel
theorem dX8_readAtStations_58 : decode cX8_readAtStations 58 = .ok (.getfield 52, 3) := by decide +kernel
theorem dX8_readAtStations_61 : decode cX8_readAtStations 61 = .ok (.iload 4, 2) := by decide +kernel
theorem dX8_readAtStations_63 : decode cX8_readAtStations 63 = .ok (.aload_n 0, 1) := by decide +kernel
theorem dX8_readAtStations_64 : decode cX8_readAtStations 64 = .ok (.getfield 12, 3) := by decide +kernel
theorem dX8_readAtStations_67 : decode cX8_readAtStations 67 = .ok (.iload 4, 2) := by decide +kernel
theorem dX8_readAtStations_69 : decode cX8_readAtStations 69 = .ok (.invokevirtual 339, 3) := by decide +kernel
theorem dX8_readAtStations_72 : decode cX8_readAtStations 72 = .ok (.aconst_null, 1) := by decide +kernel
theorem dX8_readAtStations_73 : decode cX8_readAtStations 73 = .ok (.invokevirtual 345, 3) := by decide +kernel
theorem dX8_readAtStations_76 : decode cX8_readAtStations 76 = .ok (.iinc 3 1, 3) := by decide +kernel
theorem dX8_readAtStations_79 : decode cX8_readAtStations 79 = .ok (.goto (-45), 3) := by decide +kernel
theorem dX8_readAtStations_82 : decode cX8_readAtStations 82 = .ok (.aload_n 0, 1) := by decide +kernel
theorem dX8_readAtStations_83 : decode cX8_readAtStations 83 = .ok (.getfield 32, 3) := by decide +kernel
theorem dX8_readAtStations_86 : decode cX8_readAtStations 86 = .ok (.iload_n 2, 1) := by decide +kernel
theorem dX8_readAtStations_87 : decode cX8_readAtStations 87 = .ok (.invokevirtual 361, 3) := by decide +kernel
theorem dX8_readAtStations_90 : decode cX8_readAtStations 90 = .ok (.return_, 1) := by decide +kernel
theorem dX9_init_0 : decode cX9_init 0 = .ok (.aload_n 0, 1) := by decide +kernel
theorem dX9_init_1 : decode cX9_init 1 = .ok (.invokespecial 1, 3) := by decide +kernel
theorem dX9_init_4 : decode cX9_init 4 = .ok (.aload_n 0, 1) := by decide +kernel
theorem dX9_init_5 : decode cX9_init 5 = .ok (.bipush 60, 2) := by decide +kernel
theorem dX9_init_7 : decode cX9_init 7 = .ok (.newarray .boolean, 2) := by decide +kernel
theorem dX9_init_9 : decode cX9_init 9 = .ok (.putfield 7, 3) := by decide +kernel
theorem dX9_init_12 : decode cX9_init 12 = .ok (.aload_n 0, 1) := by decide +kernel
theorem dX9_init_13 : decode cX9_init 13 = .ok (.bipush 60, 2) := by decide +kernel
theorem dX9_init_15 : decode cX9_init 15 = .ok (.newarray .int, 2) := by decide +kernel
theorem dX9_init_17 : decode cX9_init 17 = .ok (.putfield 13, 3) := by decide +kernel
theorem dX9_init_20 : decode cX9_init 20 = .ok (.aload_n 0, 1) := by decide +kernel
theorem dX9_init_21 : decode cX9_init 21 = .ok (.bipush 6, 2) := by decide +kernel
theorem dX9_init_23 : decode cX9_init 23 = .ok (.newarray .int, 2) := by decide +kernel
theorem dX9_init_25 : decode cX9_init 25 = .ok (.putfield 17, 3) := by decide +kernel
theorem dX9_init_28 : decode cX9_init 28 = .ok (.aload_n 0, 1) := by decide +kernel
theorem dX9_init_29 : decode cX9_init 29 = .ok (.bipush 120, 2) := by decide +kernel
theorem dX9_init_31 : decode cX9_init 31 = .ok (.newarray .int, 2) := by decide +kernel
theorem dX9_init_33 : decode cX9_init 33 = .ok (.putfield 20, 3) := by decide +kernel
theorem dX9_init_36 : decode cX9_init 36 = .ok (.aload_n 0, 1) := by decide +kernel
theorem dX9_init_37 : decode cX9_init 37 = .ok (.bipush 120, 2) := by decide +kernel
theorem dX9_init_39 : decode cX9_init 39 = .ok (.newarray .int, 2) := by decide +kernel
theorem dX9_init_41 : decode cX9_init 41 = .ok (.putfield 23, 3) := by decide +kernel
theorem dX9_init_44 : decode cX9_init 44 = .ok (.aload_n 0, 1) := by decide +kernel
theorem dX9_init_45 : decode cX9_init 45 = .ok (.bipush 60, 2) := by decide +kernel
theorem dX9_init_47 : decode cX9_init 47 = .ok (.newarray .int, 2) := by decide +kernel
theorem dX9_init_49 : decode cX9_init 49 = .ok (.putfield 26, 3) := by decide +kernel
theorem dX9_init_52 : decode cX9_init 52 = .ok (.aload_n 0, 1) := by decide +kernel
theorem dX9_init_53 : decode cX9_init 53 = .ok (.bipush 60, 2) := by decide +kernel
theorem dX9_init_55 : decode cX9_init 55 = .ok (.newarray .int, 2) := by decide +kernel
theorem dX9_init_57 : decode cX9_init 57 = .ok (.putfield 29, 3) := by decide +kernel
theorem dX9_init_60 : decode cX9_init 60 = .ok (.aload_n 0, 1) := by decide +kernel
theorem dX9_init_61 : decode cX9_init 61 = .ok (.bipush 8, 2) := by decide +kernel
theorem dX9_init_63 : decode cX9_init 63 = .ok (.newarray .int, 2) := by decide +kernel
theorem dX9_init_65 : decode cX9_init 65 = .ok (.putfield 32, 3) := by decide +kernel
theorem dX9_init_68 : decode cX9_init 68 = .ok (.aload_n 0, 1) := by decide +kernel
theorem dX9_init_69 : decode cX9_init 69 = .ok (.bipush 8, 2) := by decide +kernel
theorem dX9_init_71 : decode cX9_init 71 = .ok (.newarray .int, 2) := by decide +kernel
theorem dX9_init_73 : decode cX9_init 73 = .ok (.putfield 35, 3) := by decide +kernel
theorem dX9_init_76 : decode cX9_init 76 = .ok (.aload_n 0, 1) := by decide +kernel
theorem dX9_init_77 : decode cX9_init 77 = .ok (.bipush 8, 2) := by decide +kernel
theorem dX9_init_79 : decode cX9_init 79 = .ok (.newarray .int, 2) := by decide +kernel
theorem dX9_init_81 : decode cX9_init 81 = .ok (.putfield 38, 3) := by decide +kernel
theorem dX9_init_84 : decode cX9_init 84 = .ok (.aload_n 0, 1) := by decide +kernel
theorem dX9_init_85 : decode cX9_init 85 = .ok (.bipush 8, 2) := by decide +kernel
theorem dX9_init_87 : decode cX9_init 87 = .ok (.newarray .int, 2) := by decide +kernel
theorem dX9_init_89 : decode cX9_init 89 = .ok (.putfield 41, 3) := by decide +kernel
theorem dX9_init_92 : decode cX9_init 92 = .ok (.aload_n 0, 1) := by decide +kernel
theorem dX9_init_93 : decode cX9_init 93 = .ok (.bipush 8, 2) := by decide +kernel
theorem dX9_init_95 : decode cX9_init 95 = .ok (.newarray .int, 2) := by decide +kernel
theorem dX9_init_97 : decode cX9_init 97 = .ok (.putfield 44, 3) := by decide +kernel
theorem dX9_init_100 : decode cX9_init 100 = .ok (.aload_n 0, 1) := by decide +kernel
theorem dX9_init_101 : decode cX9_init 101 = .ok (.bipush 8, 2) := by decide +kernel
theorem dX9_init_103 : decode cX9_init 103 = .ok (.newarray .int, 2) := by decide +kernel
theorem dX9_init_105 : decode cX9_init 105 = .ok (.putfield 47, 3) := by decide +kernel
theorem dX9_init_108 : decode cX9_init 108 = .ok (.aload_n 0, 1) := by decide +kernel
theorem dX9_init_109 : decode cX9_init 109 = .ok (.bipush 31, 2) := by decide +kernel
theorem dX9_init_111 : decode cX9_init 111 = .ok (.newarray .int, 2) := by decide +kernel
theorem dX9_init_113 : decode cX9_init 113 = .ok (.putfield 50, 3) := by decide +kernel
theorem dX9_init_116 : decode cX9_init 116 = .ok (.aload_n 0, 1) := by decide +kernel
theorem dX9_init_117 : decode cX9_init 117 = .ok (.bipush 31, 2) := by decide +kernel
theorem dX9_init_119 : decode cX9_init 119 = .ok (.newarray .int, 2) := by decide +kernel
theorem dX9_init_121 : decode cX9_init 121 = .ok (.putfield 53, 3) := by decide +kernel
theorem dX9_init_124 : decode cX9_init 124 = .ok (.aload_n 0, 1) := by decide +kernel
theorem dX9_init_125 : decode cX9_init 125 = .ok (.bipush 20, 2) := by decide +kernel
theorem dX9_init_127 : decode cX9_init 127 = .ok (.newarray .int, 2) := by decide +kernel
theorem dX9_init_129 : decode cX9_init 129 = .ok (.putfield 56, 3) := by decide +kernel
theorem dX9_init_132 : decode cX9_init 132 = .ok (.aload_n 0, 1) := by decide +kernel
theorem dX9_init_133 : decode cX9_init 133 = .ok (.bipush 20, 2) := by decide +kernel
theorem dX9_init_135 : decode cX9_init 135 = .ok (.newarray .int, 2) := by decide +kernel
theorem dX9_init_137 : decode cX9_init 137 = .ok (.putfield 59, 3) := by decide +kernel
theorem dX9_init_140 : decode cX9_init 140 = .ok (.aload_n 0, 1) := by decide +kernel
theorem dX9_init_141 : decode cX9_init 141 = .ok (.bipush 100, 2) := by decide +kernel
theorem dX9_init_143 : decode cX9_init 143 = .ok (.newarray .int, 2) := by decide +kernel
theorem dX9_init_145 : decode cX9_init 145 = .ok (.putfield 62, 3) := by decide +kernel
theorem dX9_init_148 : decode cX9_init 148 = .ok (.aload_n 0, 1) := by decide +kernel
theorem dX9_init_149 : decode cX9_init 149 = .ok (.bipush 100, 2) := by decide +kernel
theorem dX9_init_151 : decode cX9_init 151 = .ok (.newarray .int, 2) := by decide +kernel
theorem dX9_init_153 : decode cX9_init 153 = .ok (.putfield 65, 3) := by decide +kernel
theorem dX9_init_156 : decode cX9_init 156 = .ok (.aload_n 0, 1) := by decide +kernel
theorem dX9_init_157 : decode cX9_init 157 = .ok (.bipush 100, 2) := by decide +kernel
theorem dX9_init_159 : decode cX9_init 159 = .ok (.newarray .int, 2) := by decide +kernel
theorem dX9_init_161 : decode cX9_init 161 = .ok (.putfield 68, 3) := by decide +kernel
theorem dX9_init_164 : decode cX9_init 164 = .ok (.aload_n 0, 1) := by decide +kernel
theorem dX9_init_165 : decode cX9_init 165 = .ok (.bipush 100, 2) := by decide +kernel
theorem dX9_init_167 : decode cX9_init 167 = .ok (.newarray .int, 2) := by decide +kernel
theorem dX9_init_169 : decode cX9_init 169 = .ok (.putfield 71, 3) := by decide +kernel
theorem dX9_init_172 : decode cX9_init 172 = .ok (.aload_n 0, 1) := by decide +kernel
theorem dX9_init_173 : decode cX9_init 173 = .ok (.bipush 100, 2) := by decide +kernel
theorem dX9_init_175 : decode cX9_init 175 = .ok (.newarray .int, 2) := by decide +kernel
theorem dX9_init_177 : decode cX9_init 177 = .ok (.putfield 74, 3) := by decide +kernel
theorem dX9_init_180 : decode cX9_init 180 = .ok (.aload_n 0, 1) := by decide +kernel
theorem dX9_init_181 : decode cX9_init 181 = .ok (.bipush 100, 2) := by decide +kernel
theorem dX9_init_183 : decode cX9_init 183 = .ok (.putfield 77, 3) := by decide +kernel
theorem dX9_init_186 : decode cX9_init 186 = .ok (.aload_n 0, 1) := by decide +kernel
theorem dX9_init_187 : decode cX9_init 187 = .ok (.iconst 4, 1) := by decide +kernel
theorem dX9_init_188 : decode cX9_init 188 = .ok (.newarray .int, 2) := by decide +kernel
theorem dX9_init_190 : decode cX9_init 190 = .ok (.putfield 81, 3) := by decide +kernel
theorem dX9_init_193 : decode cX9_init 193 = .ok (.aload_n 0, 1) := by decide +kernel
theorem dX9_init_194 : decode cX9_init 194 = .ok (.sipush 300, 3) := by decide +kernel
theorem dX9_init_197 : decode cX9_init 197 = .ok (.newarray .int, 2) := by decide +kernel
theorem dX9_init_199 : decode cX9_init 199 = .ok (.putfield 84, 3) := by decide +kernel
theorem dX9_init_202 : decode cX9_init 202 = .ok (.aload_n 0, 1) := by decide +kernel
theorem dX9_init_203 : decode cX9_init 203 = .ok (.bipush 6, 2) := by decide +kernel
theorem dX9_init_205 : decode cX9_init 205 = .ok (.newarray .int, 2) := by decide +kernel
theorem dX9_init_207 : decode cX9_init 207 = .ok (.putfield 87, 3) := by decide +kernel
theorem dX9_init_210 : decode cX9_init 210 = .ok (.aload_n 0, 1) := by decide +kernel
theorem dX9_init_211 : decode cX9_init 211 = .ok (.bipush 6, 2) := by decide +kernel
theorem dX9_init_213 : decode cX9_init 213 = .ok (.newarray .int, 2) := by decide +kernel
theorem dX9_init_215 : decode cX9_init 215 = .ok (.putfield 90, 3) := by decide +kernel
theorem dX9_init_218 : decode cX9_init 218 = .ok (.aload_n 0, 1) := by decide +kernel
theorem dX9_init_219 : decode cX9_init 219 = .ok (.bipush 6, 2) := by decide +kernel
theorem dX9_init_221 : decode cX9_init 221 = .ok (.newarray .int, 2) := by decide +kernel
theorem dX9_init_223 : decode cX9_init 223 = .ok (.putfield 93, 3) := by decide +kernel
theorem dX9_init_226 : decode cX9_init 226 = .ok (.iconst 0, 1) := by decide +kernel
theorem dX9_init_227 : decode cX9_init 227 = .ok (.istore_n 1, 1) := by decide +kernel
theorem dX9_init_228 : decode cX9_init 228 = .ok (.iload_n 1, 1) := by decide +kernel
theorem dX9_init_229 : decode cX9_init 229 = .ok (.bipush 60, 2) := by decide +kernel
theorem dX9_init_231 : decode cX9_init 231 = .ok (.if_icmp .ge 51, 3) := by decide +kernel
theorem dX9_init_234 : decode cX9_init 234 = .ok (.aload_n 0, 1) := by decide +kernel
theorem dX9_init_235 : decode cX9_init 235 = .ok (.getfield 20, 3) := by decide +kernel
theorem dX9_init_238 : decode cX9_init 238 = .ok (.iload_n 1, 1) := by decide +kernel
theorem dX9_init_239 : decode cX9_init 239 = .ok (.sipush 1000, 3) := by decide +kernel
theorem dX9_init_242 : decode cX9_init 242 = .ok (.iastore, 1) := by decide +kernel
theorem dX9_init_243 : decode cX9_init 243 = .ok (.aload_n 0, 1) := by decide +kernel
theorem dX9_init_244 : decode cX9_init 244 = .ok (.getfield 20, 3) := by decide +kernel
theorem dX9_init_247 : decode cX9_init 247 = .ok (.bipush 60, 2) := by decide +kernel
theorem dX9_init_249 : decode cX9_init 249 = .ok (.iload_n 1, 1) := by decide +kernel
theorem dX9_init_250 : decode cX9_init 250 = .ok (.iadd, 1) := by decide +kernel
theorem dX9_init_251 : decode cX9_init 251 = .ok (.sipush 400, 3) := by decide +kernel
theorem dX9_init_254 : decode cX9_init 254 = .ok (.iastore, 1) := by decide +kernel
theorem dX9_init_255 : decode cX9_init 255 = .ok (.aload_n 0, 1) := by decide +kernel
theorem dX9_init_256 : decode cX9_init 256 = .ok (.getfield 23, 3) := by decide +kernel
theorem dX9_init_259 : decode cX9_init 259 = .ok (.iload_n 1, 1) := by decide +kernel
theorem dX9_init_260 : decode cX9_init 260 = .ok (.sipush 350, 3) := by decide +kernel
theorem dX9_init_263 : decode cX9_init 263 = .ok (.iastore, 1) := by decide +kernel
theorem dX9_init_264 : decode cX9_init 264 = .ok (.aload_n 0, 1) := by decide +kernel
theorem dX9_init_265 : decode cX9_init 265 = .ok (.getfield 23, 3) := by decide +kernel
theorem dX9_init_268 : decode cX9_init 268 = .ok (.bipush 60, 2) := by decide +kernel
theorem dX9_init_270 : decode cX9_init 270 = .ok (.iload_n 1, 1) := by decide +kernel
theorem dX9_init_271 : decode cX9_init 271 = .ok (.iadd, 1) := by decide +kernel
theorem dX9_init_272 : decode cX9_init 272 = .ok (.sipush 360, 3) := by decide +kernel
theorem dX9_init_275 : decode cX9_init 275 = .ok (.iastore, 1) := by decide +kernel
theorem dX9_init_276 : decode cX9_init 276 = .ok (.iinc 1 1, 3) := by decide +kernel
theorem dX9_init_279 : decode cX9_init 279 = .ok (.goto (-51), 3) := by decide +kernel
theorem dX9_init_282 : decode cX9_init 282 = .ok (.return_, 1) := by decide +kernel
theorem dX9_thrown_0 : decode cX9_thrown 0 = .ok (.aload_n 0, 1) := by decide +kernel
theorem dX9_thrown_1 : decode cX9_thrown 1 = .ok (.getfield 96, 3) := by decide +kernel
theorem dX9_thrown_4 : decode cX9_thrown 4 = .ok (.ireturn, 1) := by decide +kernel
theorem dX9_in_0 : decode cX9_in 0 = .ok (.iload_n 0, 1) := by decide +kernel
theorem dX9_in_1 : decode cX9_in 1 = .ok (.iload_n 1, 1) := by decide +kernel
theorem dX9_in_2 : decode cX9_in 2 = .ok (.if_icmp .lt 12, 3) := by decide +kernel
theorem dX9_in_5 : decode cX9_in 5 = .ok (.iload_n 0, 1) := by decide +kernel
theorem dX9_in_6 : decode cX9_in 6 = .ok (.iload_n 2, 1) := by decide +kernel
theorem dX9_in_7 : decode cX9_in 7 = .ok (.if_icmp .gt 7, 3) := by decide +kernel
theorem dX9_in_10 : decode cX9_in 10 = .ok (.iconst 1, 1) := by decide +kernel
theorem dX9_in_11 : decode cX9_in 11 = .ok (.goto 4, 3) := by decide +kernel
theorem dX9_in_14 : decode cX9_in 14 = .ok (.iconst 0, 1) := by decide +kernel
theorem dX9_in_15 : decode cX9_in 15 = .ok (.ireturn, 1) := by decide +kernel
theorem dX9_isCell_0 : decode cX9_isCell 0 = .ok (.iload_n 0, 1) := by decide +kernel
theorem dX9_isCell_1 : decode cX9_isCell 1 = .ok (.iconst 0, 1) := by decide +kernel
theorem dX9_isCell_2 : decode cX9_isCell 2 = .ok (.bipush 59, 2) := by decide +kernel
theorem dX9_isCell_4 : decode cX9_isCell 4 = .ok (.invokestatic 99, 3) := by decide +kernel
theorem dX9_isCell_7 : decode cX9_isCell 7 = .ok (.ireturn, 1) := by decide +kernel
theorem dX9_isFloat_0 : decode cX9_isFloat 0 = .ok (.iload_n 1, 1) := by decide +kernel
theorem dX9_isFloat_1 : decode cX9_isFloat 1 = .ok (.iconst 0, 1) := by decide +kernel
theorem dX9_isFloat_2 : decode cX9_isFloat 2 = .ok (.aload_n 0, 1) := by decide +kernel
theorem dX9_isFloat_3 : decode cX9_isFloat 3 = .ok (.getfield 103, 3) := by decide +kernel
theorem dX9_isFloat_6 : decode cX9_isFloat 6 = .ok (.iconst 1, 1) := by decide +kernel
theorem dX9_isFloat_7 : decode cX9_isFloat 7 = .ok (.isub, 1) := by decide +kernel
theorem dX9_isFloat_8 : decode cX9_isFloat 8 = .ok (.invokestatic 99, 3) := by decide +kernel
theorem dX9_isFloat_11 : decode cX9_isFloat 11 = .ok (.ireturn, 1) := by decide +kernel
theorem dX9_isReading_0 : decode cX9_isReading 0 = .ok (.iload_n 1, 1) := by decide +kernel
theorem dX9_isReading_1 : decode cX9_isReading 1 = .ok (.iconst 0, 1) := by decide +kernel
theorem dX9_isReading_2 : decode cX9_isReading 2 = .ok (.aload_n 0, 1) := by decide +kernel
theorem dX9_isReading_3 : decode cX9_isReading 3 = .ok (.getfield 106, 3) := by decide +kernel
theorem dX9_isReading_6 : decode cX9_isReading 6 = .ok (.iconst 1, 1) := by decide +kernel
theorem dX9_isReading_7 : decode cX9_isReading 7 = .ok (.isub, 1) := by decide +kernel
theorem dX9_isReading_8 : decode cX9_isReading 8 = .ok (.invokestatic 99, 3) := by decide +kernel
theorem dX9_isReading_11 : decode cX9_isReading 11 = .ok (.ireturn, 1) := by decide +kernel
theorem dX9_isSearch_0 : decode cX9_isSearch 0 = .ok (.iload_n 1, 1) := by decide +kernel
theorem dX9_isSearch_1 : decode cX9_isSearch 1 = .ok (.iconst 0, 1) := by decide +kernel
theorem dX9_isSearch_2 : decode cX9_isSearch 2 = .ok (.aload_n 0, 1) := by decide +kernel
theorem dX9_isSearch_3 : decode cX9_isSearch 3 = .ok (.getfield 109, 3) := by decide +kernel
theorem dX9_isSearch_6 : decode cX9_isSearch 6 = .ok (.iconst 1, 1) := by decide +kernel
theorem dX9_isSearch_7 : decode cX9_isSearch 7 = .ok (.isub, 1) := by decide +kernel
theorem dX9_isSearch_8 : decode cX9_isSearch 8 = .ok (.invokestatic 99, 3) := by decide +kernel
theorem dX9_isSearch_11 : decode cX9_isSearch 11 = .ok (.ireturn, 1) := by decide +kernel
theorem dX9_size_0 : decode cX9_size 0 = .ok (.iload_n 0, 1) := by decide +kernel
theorem dX9_size_1 : decode cX9_size 1 = .ok (.ifCond .ge 8, 3) := by decide +kernel
theorem dX9_size_4 : decode cX9_size 4 = .ok (.iload_n 0, 1) := by decide +kernel
theorem dX9_size_5 : decode cX9_size 5 = .ok (.ineg, 1) := by decide +kernel
theorem dX9_size_6 : decode cX9_size 6 = .ok (.goto 4, 3) := by decide +kernel
theorem dX9_size_9 : decode cX9_size 9 = .ok (.iload_n 0, 1) := by decide +kernel
theorem dX9_size_10 : decode cX9_size 10 = .ok (.ireturn, 1) := by decide +kernel
theorem dX9_beside_0 : decode cX9_beside 0 = .ok (.iload_n 1, 1) := by decide +kernel
theorem dX9_beside_1 : decode cX9_beside 1 = .ok (.bipush 10, 2) := by decide +kernel
theorem dX9_beside_3 : decode cX9_beside 3 = .ok (.irem, 1) := by decide +kernel
theorem dX9_beside_4 : decode cX9_beside 4 = .ok (.iload_n 2, 1) := by decide +kernel
theorem dX9_beside_5 : decode cX9_beside 5 = .ok (.iconst 1, 1) := by decide +kernel
theorem dX9_beside_6 : decode cX9_beside 6 = .ok (.if_icmp .ne 7, 3) := by decide +kernel
theorem dX9_beside_9 : decode cX9_beside 9 = .ok (.iconst 1, 1) := by decide +kernel
theorem dX9_beside_10 : decode cX9_beside 10 = .ok (.goto 13, 3) := by decide +kernel
theorem dX9_beside_13 : decode cX9_beside 13 = .ok (.iload_n 2, 1) := by decide +kernel
theorem dX9_beside_14 : decode cX9_beside 14 = .ok (.iconst 2, 1) := by decide +kernel
theorem dX9_beside_15 : decode cX9_beside 15 = .ok (.if_icmp .ne 7, 3) := by decide +kernel
theorem dX9_beside_18 : decode cX9_beside 18 = .ok (.iconst (-1), 1) := by decide +kernel
theorem dX9_beside_19 : decode cX9_beside 19 = .ok (.goto 4, 3) := by decide +kernel
theorem dX9_beside_22 : decode cX9_beside 22 = .ok (.iconst 0, 1) := by decide +kernel
theorem dX9_beside_23 : decode cX9_beside 23 = .ok (.iadd, 1) := by decide +kernel
theorem dX9_beside_24 : decode cX9_beside 24 = .ok (.istore_n 3, 1) := by decide +kernel
theorem dX9_beside_25 : decode cX9_beside 25 = .ok (.iload_n 1, 1) := by decide +kernel
theorem dX9_beside_26 : decode cX9_beside 26 = .ok (.bipush 10, 2) := by decide +kernel
theorem dX9_beside_28 : decode cX9_beside 28 = .ok (.idiv, 1) := by decide +kernel
theorem dX9_beside_29 : decode cX9_beside 29 = .ok (.iload_n 2, 1) := by decide +kernel
theorem dX9_beside_30 : decode cX9_beside 30 = .ok (.iconst 3, 1) := by decide +kernel
theorem dX9_beside_31 : decode cX9_beside 31 = .ok (.if_icmp .ne 7, 3) := by decide +kernel
theorem dX9_beside_34 : decode cX9_beside 34 = .ok (.iconst 1, 1) := by decide +kernel
theorem dX9_beside_35 : decode cX9_beside 35 = .ok (.goto 13, 3) := by decide +kernel
theorem dX9_beside_38 : decode cX9_beside 38 = .ok (.iload_n 2, 1) := by decide +kernel
theorem dX9_beside_39 : decode cX9_beside 39 = .ok (.iconst 4, 1) := by decide +kernel
theorem dX9_beside_40 : decode cX9_beside 40 = .ok (.if_icmp .ne 7, 3) := by decide +kernel
theorem dX9_beside_43 : decode cX9_beside 43 = .ok (.iconst (-1), 1) := by decide +kernel
theorem dX9_beside_44 : decode cX9_beside 44 = .ok (.goto 4, 3) := by decide +kernel
theorem dX9_beside_47 : decode cX9_beside 47 = .ok (.iconst 0, 1) := by decide +kernel
theorem dX9_beside_48 : decode cX9_beside 48 = .ok (.iadd, 1) := by decide +kernel
theorem dX9_beside_49 : decode cX9_beside 49 = .ok (.istore 4, 2) := by decide +kernel
theorem dX9_beside_51 : decode cX9_beside 51 = .ok (.iload_n 3, 1) := by decide +kernel
theorem dX9_beside_52 : decode cX9_beside 52 = .ok (.iconst 0, 1) := by decide +kernel
theorem dX9_beside_53 : decode cX9_beside 53 = .ok (.bipush 9, 2) := by decide +kernel
theorem dX9_beside_55 : decode cX9_beside 55 = .ok (.invokestatic 99, 3) := by decide +kernel
theorem dX9_beside_58 : decode cX9_beside 58 = .ok (.ifCond .eq 28, 3) := by decide +kernel
theorem dX9_beside_61 : decode cX9_beside 61 = .ok (.iload 4, 2) := by decide +kernel
theorem dX9_beside_63 : decode cX9_beside 63 = .ok (.iconst 0, 1) := by decide +kernel
theorem dX9_beside_64 : decode cX9_beside 64 = .ok (.iconst 5, 1) := by decide +kernel
theorem dX9_beside_65 : decode cX9_beside 65 = .ok (.invokestatic 99, 3) := by decide +kernel
theorem dX9_beside_68 : decode cX9_beside 68 = .ok (.ifCond .eq 18, 3) := by decide +kernel
theorem dX9_beside_71 : decode cX9_beside 71 = .ok (.aload_n 0, 1) := by decide +kernel
theorem dX9_beside_72 : decode cX9_beside 72 = .ok (.getfield 7, 3) := by decide +kernel
theorem dX9_beside_75 : decode cX9_beside 75 = .ok (.bipush 10, 2) := by decide +kernel
theorem dX9_beside_77 : decode cX9_beside 77 = .ok (.iload 4, 2) := by decide +kernel
theorem dX9_beside_79 : decode cX9_beside 79 = .ok (.imul, 1) := by decide +kernel
theorem dX9_beside_80 : decode cX9_beside 80 = .ok (.iload_n 3, 1) := by decide +kernel
theorem dX9_beside_81 : decode cX9_beside 81 = .ok (.iadd, 1) := by decide +kernel
theorem dX9_beside_82 : decode cX9_beside 82 = .ok (.baload, 1) := by decide +kernel
theorem dX9_beside_83 : decode cX9_beside 83 = .ok (.ifCond .eq 7, 3) := by decide +kernel
theorem dX9_beside_86 : decode cX9_beside 86 = .ok (.iconst (-1), 1) := by decide +kernel
theorem dX9_beside_87 : decode cX9_beside 87 = .ok (.goto 10, 3) := by decide +kernel
theorem dX9_beside_90 : decode cX9_beside 90 = .ok (.bipush 10, 2) := by decide +kernel
theorem dX9_beside_92 : decode cX9_beside 92 = .ok (.iload 4, 2) := by decide +kernel
theorem dX9_beside_94 : decode cX9_beside 94 = .ok (.imul, 1) := by decide +kernel
theorem dX9_beside_95 : decode cX9_beside 95 = .ok (.iload_n 3, 1) := by decide +kernel
theorem dX9_beside_96 : decode cX9_beside 96 = .ok (.iadd, 1) := by decide +kernel
theorem dX9_beside_97 : decode cX9_beside 97 = .ok (.ireturn, 1) := by decide +kernel
theorem dX9_leads_0 : decode cX9_leads 0 = .ok (.aload_n 0, 1) := by decide +kernel
theorem dX9_leads_1 : decode cX9_leads 1 = .ok (.getfield 13, 3) := by decide +kernel
theorem dX9_leads_4 : decode cX9_leads 4 = .ok (.iload_n 1, 1) := by decide +kernel
theorem dX9_leads_5 : decode cX9_leads 5 = .ok (.iaload, 1) := by decide +kernel
theorem dX9_leads_6 : decode cX9_leads 6 = .ok (.ifCond .ne 7, 3) := by decide +kernel
theorem dX9_leads_9 : decode cX9_leads 9 = .ok (.iconst (-1), 1) := by decide +kernel
theorem dX9_leads_10 : decode cX9_leads 10 = .ok (.goto 14, 3) := by decide +kernel
theorem dX9_leads_13 : decode cX9_leads 13 = .ok (.aload_n 0, 1) := by decide +kernel
theorem dX9_leads_14 : decode cX9_leads 14 = .ok (.iload_n 1, 1) := by decide +kernel
theorem dX9_leads_15 : decode cX9_leads 15 = .ok (.aload_n 0, 1) := by decide +kernel
theorem dX9_leads_16 : decode cX9_leads 16 = .ok (.getfield 13, 3) := by decide +kernel
theorem dX9_leads_19 : decode cX9_leads 19 = .ok (.iload_n 1, 1) := by decide +kernel
theorem dX9_leads_20 : decode cX9_leads 20 = .ok (.iaload, 1) := by decide +kernel
theorem dX9_leads_21 : decode cX9_leads 21 = .ok (.invokevirtual 112, 3) := by decide +kernel
theorem dX9_leads_24 : decode cX9_leads 24 = .ok (.ireturn, 1) := by decide +kernel
theorem dX9_land_0 : decode cX9_land 0 = .ok (.iload_n 1, 1) := by decide +kernel
theorem dX9_land_1 : decode cX9_land 1 = .ok (.invokestatic 116, 3) := by decide +kernel
theorem dX9_land_4 : decode cX9_land 4 = .ok (.ifCond .ne 10, 3) := by decide +kernel
theorem dX9_land_7 : decode cX9_land 7 = .ok (.aload_n 0, 1) := by decide +kernel
theorem dX9_land_8 : decode cX9_land 8 = .ok (.iconst 1, 1) := by decide +kernel
theorem dX9_land_9 : decode cX9_land 9 = .ok (.putfield 96, 3) := by decide +kernel
theorem dX9_land_12 : decode cX9_land 12 = .ok (.iconst 0, 1) := by decide +kernel
theorem dX9_land_13 : decode cX9_land 13 = .ok (.ireturn, 1) := by decide +kernel
theorem dX9_land_14 : decode cX9_land 14 = .ok (.aload_n 0, 1) := by decide +kernel
theorem dX9_land_15 : decode cX9_land 15 = .ok (.getfield 7, 3) := by decide +kernel
theorem dX9_land_18 : decode cX9_land 18 = .ok (.iload_n 1, 1) := by decide +kernel
theorem dX9_land_19 : decode cX9_land 19 = .ok (.baload, 1) := by decide +kernel
theorem dX9_land_20 : decode cX9_land 20 = .ok (.ifCond .ne 14, 3) := by decide +kernel
theorem dX9_land_23 : decode cX9_land 23 = .ok (.aload_n 0, 1) := by decide +kernel
theorem dX9_land_24 : decode cX9_land 24 = .ok (.getfield 120, 3) := by decide +kernel
theorem dX9_land_27 : decode cX9_land 27 = .ok (.ifCond .ne 7, 3) := by decide +kernel
theorem dX9_land_30 : decode cX9_land 30 = .ok (.iconst 1, 1) := by decide +kernel
theorem dX9_land_31 : decode cX9_land 31 = .ok (.goto 4, 3) := by decide +kernel
theorem dX9_land_34 : decode cX9_land 34 = .ok (.iconst 0, 1) := by decide +kernel
theorem dX9_land_35 : decode cX9_land 35 = .ok (.istore_n 2, 1) := by decide +kernel
theorem dX9_land_36 : decode cX9_land 36 = .ok (.iconst 0, 1) := by decide +kernel
theorem dX9_land_37 : decode cX9_land 37 = .ok (.istore_n 3, 1) := by decide +kernel
theorem dX9_land_38 : decode cX9_land 38 = .ok (.iload_n 3, 1) := by decide +kernel
theorem dX9_land_39 : decode cX9_land 39 = .ok (.aload_n 0, 1) := by decide +kernel
theorem dX9_land_40 : decode cX9_land 40 = .ok (.getfield 103, 3) := by decide +kernel
theorem dX9_land_43 : decode cX9_land 43 = .ok (.if_icmp .ge 29, 3) := by decide +kernel
theorem dX9_land_46 : decode cX9_land 46 = .ok (.iload_n 2, 1) := by decide +kernel
theorem dX9_land_47 : decode cX9_land 47 = .ok (.ifCond .eq 17, 3) := by decide +kernel
theorem dX9_land_50 : decode cX9_land 50 = .ok (.aload_n 0, 1) := by decide +kernel
theorem dX9_land_51 : decode cX9_land 51 = .ok (.getfield 32, 3) := by decide +kernel
theorem dX9_land_54 : decode cX9_land 54 = .ok (.iload_n 3, 1) := by decide +kernel
theorem dX9_land_55 : decode cX9_land 55 = .ok (.iaload, 1) := by decide +kernel
theorem dX9_land_56 : decode cX9_land 56 = .ok (.iload_n 1, 1) := by decide +kernel
theorem dX9_land_57 : decode cX9_land 57 = .ok (.if_icmp .eq 7, 3) := by decide +kernel
theorem dX9_land_60 : decode cX9_land 60 = .ok (.iconst 1, 1) := by decide +kernel
theorem dX9_land_61 : decode cX9_land 61 = .ok (.goto 4, 3) := by decide +kernel
theorem dX9_land_64 : decode cX9_land 64 = .ok (.iconst 0, 1) := by decide +kernel
theorem dX9_land_65 : decode cX9_land 65 = .ok (.istore_n 2, 1) := by decide +kernel
theorem dX9_land_66 : decode cX9_land 66 = .ok (.iinc 3 1, 3) := by decide +kernel
theorem dX9_land_69 : decode cX9_land 69 = .ok (.goto (-31), 3) := by decide +kernel
theorem dX9_land_72 : decode cX9_land 72 = .ok (.iconst 0, 1) := by decide +kernel
theorem dX9_land_73 : decode cX9_land 73 = .ok (.istore_n 3, 1) := by decide +kernel
theorem dX9_land_74 : decode cX9_land 74 = .ok (.iload_n 3, 1) := by decide +kernel
theorem dX9_land_75 : decode cX9_land 75 = .ok (.aload_n 0, 1) := by decide +kernel
theorem dX9_land_76 : decode cX9_land 76 = .ok (.getfield 123, 3) := by decide +kernel
theorem dX9_land_79 : decode cX9_land 79 = .ok (.if_icmp .ge 29, 3) := by decide +kernel
theorem dX9_land_82 : decode cX9_land 82 = .ok (.iload_n 2, 1) := by decide +kernel
theorem dX9_land_83 : decode cX9_land 83 = .ok (.ifCond .eq 17, 3) := by decide +kernel
theorem dX9_land_86 : decode cX9_land 86 = .ok (.aload_n 0, 1) := by decide +kernel
theorem dX9_land_87 : decode cX9_land 87 = .ok (.getfield 53, 3) := by decide +kernel
theorem dX9_land_90 : decode cX9_land 90 = .ok (.iload_n 3, 1) := by decide +kernel
theorem dX9_land_91 : decode cX9_land 91 = .ok (.iaload, 1) := by decide +kernel
theorem dX9_land_92 : decode cX9_land 92 = .ok (.iload_n 1, 1) := by decide +kernel
theorem dX9_land_93 : decode cX9_land 93 = .ok (.if_icmp .eq 7, 3) := by decide +kernel
theorem dX9_land_96 : decode cX9_land 96 = .ok (.iconst 1, 1) := by decide +kernel
theorem dX9_land_97 : decode cX9_land 97 = .ok (.goto 4, 3) := by decide +kernel
theorem dX9_land_100 : decode cX9_land 100 = .ok (.iconst 0, 1) := by decide +kernel
theorem dX9_land_101 : decode cX9_land 101 = .ok (.istore_n 2, 1) := by decide +kernel
theorem dX9_land_102 : decode cX9_land 102 = .ok (.iinc 3 1, 3) := by decide +kernel
theorem dX9_land_105 : decode cX9_land 105 = .ok (.goto (-31), 3) := by decide +kernel
theorem dX9_land_108 : decode cX9_land 108 = .ok (.iconst 0, 1) := by decide +kernel
theorem dX9_land_109 : decode cX9_land 109 = .ok (.istore_n 3, 1) := by decide +kernel
theorem dX9_land_110 : decode cX9_land 110 = .ok (.iload_n 3, 1) := by decide +kernel
theorem dX9_land_111 : decode cX9_land 111 = .ok (.aload_n 0, 1) := by decide +kernel
theorem dX9_land_112 : decode cX9_land 112 = .ok (.getfield 109, 3) := by decide +kernel
theorem dX9_land_115 : decode cX9_land 115 = .ok (.if_icmp .ge 29, 3) := by decide +kernel
theorem dX9_land_118 : decode cX9_land 118 = .ok (.iload_n 2, 1) := by decide +kernel
theorem dX9_land_119 : decode cX9_land 119 = .ok (.ifCond .eq 17, 3) := by decide +kernel
theorem dX9_land_122 : decode cX9_land 122 = .ok (.aload_n 0, 1) := by decide +kernel
theorem dX9_land_123 : decode cX9_land 123 = .ok (.getfield 81, 3) := by decide +kernel
theorem dX9_land_126 : decode cX9_land 126 = .ok (.iload_n 3, 1) := by decide +kernel
theorem dX9_land_127 : decode cX9_land 127 = .ok (.iaload, 1) := by decide +kernel
theorem dX9_land_128 : decode cX9_land 128 = .ok (.iload_n 1, 1) := by decide +kernel
theorem dX9_land_129 : decode cX9_land 129 = .ok (.if_icmp .eq 7, 3) := by decide +kernel
theorem dX9_land_132 : decode cX9_land 132 = .ok (.iconst 1, 1) := by decide +kernel
theorem dX9_land_133 : decode cX9_land 133 = .ok (.goto 4, 3) := by decide +kernel
theorem dX9_land_136 : decode cX9_land 136 = .ok (.iconst 0, 1) := by decide +kernel
theorem dX9_land_137 : decode cX9_land 137 = .ok (.istore_n 2, 1) := by decide +kernel
theorem dX9_land_138 : decode cX9_land 138 = .ok (.iinc 3 1, 3) := by decide +kernel
theorem dX9_land_141 : decode cX9_land 141 = .ok (.goto (-31), 3) := by decide +kernel
theorem dX9_land_144 : decode cX9_land 144 = .ok (.aload_n 0, 1) := by decide +kernel
theorem dX9_land_145 : decode cX9_land 145 = .ok (.iload_n 2, 1) := by decide +kernel
theorem dX9_land_146 : decode cX9_land 146 = .ok (.ifCond .eq 7, 3) := by decide +kernel
theorem dX9_land_149 : decode cX9_land 149 = .ok (.iconst 0, 1) := by decide +kernel
theorem dX9_land_150 : decode cX9_land 150 = .ok (.goto 4, 3) := by decide +kernel
theorem dX9_land_153 : decode cX9_land 153 = .ok (.iconst 2, 1) := by decide +kernel
theorem dX9_land_154 : decode cX9_land 154 = .ok (.putfield 96, 3) := by decide +kernel
theorem dX9_land_157 : decode cX9_land 157 = .ok (.aload_n 0, 1) := by decide +kernel
theorem dX9_land_158 : decode cX9_land 158 = .ok (.getfield 96, 3) := by decide +kernel
theorem dX9_land_161 : decode cX9_land 161 = .ok (.ifCond .le 5, 3) := by decide +kernel
theorem dX9_land_164 : decode cX9_land 164 = .ok (.iconst 0, 1) := by decide +kernel
theorem dX9_land_165 : decode cX9_land 165 = .ok (.ireturn, 1) := by decide +kernel
theorem dX9_land_166 : decode cX9_land 166 = .ok (.aload_n 0, 1) := by decide +kernel
theorem dX9_land_167 : decode cX9_land 167 = .ok (.getfield 7, 3) := by decide +kernel
theorem dX9_land_170 : decode cX9_land 170 = .ok (.iload_n 1, 1) := by decide +kernel
theorem dX9_land_171 : decode cX9_land 171 = .ok (.iconst 1, 1) := by decide +kernel
theorem dX9_land_172 : decode cX9_land 172 = .ok (.bastore, 1) := by decide +kernel
theorem dX9_land_173 : decode cX9_land 173 = .ok (.aload_n 0, 1) := by decide +kernel
theorem dX9_land_174 : decode cX9_land 174 = .ok (.getfield 20, 3) := by decide +kernel
theorem dX9_land_177 : decode cX9_land 177 = .ok (.iload_n 1, 1) := by decide +kernel
theorem dX9_land_178 : decode cX9_land 178 = .ok (.iconst 0, 1) := by decide +kernel
theorem dX9_land_179 : decode cX9_land 179 = .ok (.iastore, 1) := by decide +kernel
theorem dX9_land_180 : decode cX9_land 180 = .ok (.aload_n 0, 1) := by decide +kernel
theorem dX9_land_181 : decode cX9_land 181 = .ok (.getfield 20, 3) := by decide +kernel
theorem dX9_land_184 : decode cX9_land 184 = .ok (.bipush 60, 2) := by decide +kernel
theorem dX9_land_186 : decode cX9_land 186 = .ok (.iload_n 1, 1) := by decide +kernel
theorem dX9_land_187 : decode cX9_land 187 = .ok (.iadd, 1) := by decide +kernel
theorem dX9_land_188 : decode cX9_land 188 = .ok (.iconst 0, 1) := by decide +kernel
theorem dX9_land_189 : decode cX9_land 189 = .ok (.iastore, 1) := by decide +kernel
theorem dX9_land_190 : decode cX9_land 190 = .ok (.aload_n 0, 1) := by decide +kernel
theorem dX9_land_191 : decode cX9_land 191 = .ok (.getfield 23, 3) := by decide +kernel
theorem dX9_land_194 : decode cX9_land 194 = .ok (.iload_n 1, 1) := by decide +kernel
theorem dX9_land_195 : decode cX9_land 195 = .ok (.iconst 0, 1) := by decide +kernel
theorem dX9_land_196 : decode cX9_land 196 = .ok (.iastore, 1) := by decide +kernel
theorem dX9_land_197 : decode cX9_land 197 = .ok (.aload_n 0, 1) := by decide +kernel
theorem dX9_land_198 : decode cX9_land 198 = .ok (.getfield 23, 3) := by decide +kernel
theorem dX9_land_201 : decode cX9_land 201 = .ok (.bipush 60, 2) := by decide +kernel
theorem dX9_land_203 : decode cX9_land 203 = .ok (.iload_n 1, 1) := by decide +kernel
theorem dX9_land_204 : decode cX9_land 204 = .ok (.iadd, 1) := by decide +kernel
theorem dX9_land_205 : decode cX9_land 205 = .ok (.iconst 0, 1) := by decide +kernel
theorem dX9_land_206 : decode cX9_land 206 = .ok (.iastore, 1) := by decide +kernel
theorem dX9_land_207 : decode cX9_land 207 = .ok (.iconst 0, 1) := by decide +kernel
theorem dX9_land_208 : decode cX9_land 208 = .ok (.istore_n 3, 1) := by decide +kernel
theorem dX9_land_209 : decode cX9_land 209 = .ok (.iconst 0, 1) := by decide +kernel
theorem dX9_land_210 : decode cX9_land 210 = .ok (.istore 4, 2) := by decide +kernel
theorem dX9_land_212 : decode cX9_land 212 = .ok (.iload 4, 2) := by decide +kernel
theorem dX9_land_214 : decode cX9_land 214 = .ok (.bipush 60, 2) := by decide +kernel
theorem dX9_land_216 : decode cX9_land 216 = .ok (.if_icmp .ge 27, 3) := by decide +kernel
theorem dX9_land_219 : decode cX9_land 219 = .ok (.iload_n 3, 1) := by decide +kernel
theorem dX9_land_220 : decode cX9_land 220 = .ok (.aload_n 0, 1) := by decide +kernel
theorem dX9_land_221 : decode cX9_land 221 = .ok (.getfield 7, 3) := by decide +kernel
theorem dX9_land_224 : decode cX9_land 224 = .ok (.iload 4, 2) := by decide +kernel
theorem dX9_land_226 : decode cX9_land 226 = .ok (.baload, 1) := by decide +kernel
theorem dX9_land_227 : decode cX9_land 227 = .ok (.ifCond .eq 7, 3) := by decide +kernel
theorem dX9_land_230 : decode cX9_land 230 = .ok (.iconst 1, 1) := by decide +kernel
theorem dX9_land_231 : decode cX9_land 231 = .ok (.goto 4, 3) := by decide +kernel
theorem dX9_land_234 : decode cX9_land 234 = .ok (.iconst 0, 1) := by decide +kernel
theorem dX9_land_235 : decode cX9_land 235 = .ok (.iadd, 1) := by decide +kernel
theorem dX9_land_236 : decode cX9_land 236 = .ok (.istore_n 3, 1) := by decide +kernel
theorem dX9_land_237 : decode cX9_land 237 = .ok (.iinc 4 1, 3) := by decide +kernel
theorem dX9_land_240 : decode cX9_land 240 = .ok (.goto (-28), 3) := by decide +kernel
theorem dX9_land_243 : decode cX9_land 243 = .ok (.iload_n 3, 1) := by decide +kernel
theorem dX9_land_244 : decode cX9_land 244 = .ok (.ireturn, 1) := by decide +kernel
theorem dX9_current_0 : decode cX9_current 0 = .ok (.aload_n 0, 1) := by decide +kernel
theorem dX9_current_1 : decode cX9_current 1 = .ok (.iload_n 1, 1) := by decide +kernel
theorem dX9_current_2 : decode cX9_current 2 = .ok (.invokestatic 116, 3) := by decide +kernel
theorem dX9_current_5 : decode cX9_current 5 = .ok (.ifCond .ne 7, 3) := by decide +kernel
theorem dX9_current_8 : decode cX9_current 8 = .ok (.iconst 1, 1) := by decide +kernel
theorem dX9_current_9 : decode cX9_current 9 = .ok (.goto 17, 3) := by decide +kernel
theorem dX9_current_12 : decode cX9_current 12 = .ok (.iload_n 2, 1) := by decide +kernel
theorem dX9_current_13 : decode cX9_current 13 = .ok (.iconst 0, 1) := by decide +kernel
theorem dX9_current_14 : decode cX9_current 14 = .ok (.iconst 4, 1) := by decide +kernel
theorem dX9_current_15 : decode cX9_current 15 = .ok (.invokestatic 99, 3) := by decide +kernel
theorem dX9_current_18 : decode cX9_current 18 = .ok (.ifCond .ne 7, 3) := by decide +kernel
theorem dX9_current_21 : decode cX9_current 21 = .ok (.iconst 2, 1) := by decide +kernel
theorem dX9_current_22 : decode cX9_current 22 = .ok (.goto 4, 3) := by decide +kernel
theorem dX9_current_25 : decode cX9_current 25 = .ok (.iconst 0, 1) := by decide +kernel
theorem dX9_current_26 : decode cX9_current 26 = .ok (.putfield 96, 3) := by decide +kernel
theorem dX9_current_29 : decode cX9_current 29 = .ok (.aload_n 0, 1) := by decide +kernel
theorem dX9_current_30 : decode cX9_current 30 = .ok (.getfield 96, 3) := by decide +kernel
theorem dX9_current_33 : decode cX9_current 33 = .ok (.ifCond .le 5, 3) := by decide +kernel
theorem dX9_current_36 : decode cX9_current 36 = .ok (.iconst 0, 1) := by decide +kernel
theorem dX9_current_37 : decode cX9_current 37 = .ok (.ireturn, 1) := by decide +kernel
theorem dX9_current_38 : decode cX9_current 38 = .ok (.aload_n 0, 1) := by decide +kernel
theorem dX9_current_39 : decode cX9_current 39 = .ok (.getfield 13, 3) := by decide +kernel
theorem dX9_current_42 : decode cX9_current 42 = .ok (.iload_n 1, 1) := by decide +kernel
theorem dX9_current_43 : decode cX9_current 43 = .ok (.iaload, 1) := by decide +kernel
theorem dX9_current_44 : decode cX9_current 44 = .ok (.istore_n 3, 1) := by decide +kernel
theorem dX9_current_45 : decode cX9_current 45 = .ok (.aload_n 0, 1) := by decide +kernel
theorem dX9_current_46 : decode cX9_current 46 = .ok (.getfield 13, 3) := by decide +kernel
theorem dX9_current_49 : decode cX9_current 49 = .ok (.iload_n 1, 1) := by decide +kernel
theorem dX9_current_50 : decode cX9_current 50 = .ok (.iload_n 2, 1) := by decide +kernel
theorem dX9_current_51 : decode cX9_current 51 = .ok (.iastore, 1) := by decide +kernel
theorem dX9_current_52 : decode cX9_current 52 = .ok (.iload_n 3, 1) := by decide +kernel
theorem dX9_current_53 : decode cX9_current 53 = .ok (.ireturn, 1) := by decide +kernel
theorem dX9_sun_0 : decode cX9_sun 0 = .ok (.aload_n 0, 1) := by decide +kernel
theorem dX9_sun_1 : decode cX9_sun 1 = .ok (.iload_n 1, 1) := by decide +kernel
theorem dX9_sun_2 : decode cX9_sun 2 = .ok (.iconst 0, 1) := by decide +kernel
theorem dX9_sun_3 : decode cX9_sun 3 = .ok (.iconst 5, 1) := by decide +kernel
theorem dX9_sun_4 : decode cX9_sun 4 = .ok (.invokestatic 99, 3) := by decide +kernel
theorem dX9_sun_7 : decode cX9_sun 7 = .ok (.ifCond .eq 18, 3) := by decide +kernel
theorem dX9_sun_10 : decode cX9_sun 10 = .ok (.iload_n 2, 1) := by decide +kernel
theorem dX9_sun_11 : decode cX9_sun 11 = .ok (.bipush (-50), 2) := by decide +kernel
theorem dX9_sun_13 : decode cX9_sun 13 = .ok (.bipush 50, 2) := by decide +kernel
theorem dX9_sun_15 : decode cX9_sun 15 = .ok (.invokestatic 99, 3) := by decide +kernel
theorem dX9_sun_18 : decode cX9_sun 18 = .ok (.ifCond .eq 7, 3) := by decide +kernel
theorem dX9_sun_21 : decode cX9_sun 21 = .ok (.iconst 0, 1) := by decide +kernel
theorem dX9_sun_22 : decode cX9_sun 22 = .ok (.goto 4, 3) := by decide +kernel
theorem dX9_sun_25 : decode cX9_sun 25 = .ok (.iconst 1, 1) := by decide +kernel
theorem dX9_sun_26 : decode cX9_sun 26 = .ok (.putfield 96, 3) := by decide +kernel
theorem dX9_sun_29 : decode cX9_sun 29 = .ok (.aload_n 0, 1) := by decide +kernel
theorem dX9_sun_30 : decode cX9_sun 30 = .ok (.getfield 96, 3) := by decide +kernel
theorem dX9_sun_33 : decode cX9_sun 33 = .ok (.ifCond .le 5, 3) := by decide +kernel
theorem dX9_sun_36 : decode cX9_sun 36 = .ok (.iconst 0, 1) := by decide +kernel
theorem dX9_sun_37 : decode cX9_sun 37 = .ok (.ireturn, 1) := by decide +kernel
theorem dX9_sun_38 : decode cX9_sun 38 = .ok (.aload_n 0, 1) := by decide +kernel
theorem dX9_sun_39 : decode cX9_sun 39 = .ok (.getfield 17, 3) := by decide +kernel
theorem dX9_sun_42 : decode cX9_sun 42 = .ok (.iload_n 1, 1) := by decide +kernel
theorem dX9_sun_43 : decode cX9_sun 43 = .ok (.iaload, 1) := by decide +kernel
theorem dX9_sun_44 : decode cX9_sun 44 = .ok (.istore_n 3, 1) := by decide +kernel
theorem dX9_sun_45 : decode cX9_sun 45 = .ok (.aload_n 0, 1) := by decide +kernel
theorem dX9_sun_46 : decode cX9_sun 46 = .ok (.getfield 17, 3) := by decide +kernel
theorem dX9_sun_49 : decode cX9_sun 49 = .ok (.iload_n 1, 1) := by decide +kernel
theorem dX9_sun_50 : decode cX9_sun 50 = .ok (.iload_n 2, 1) := by decide +kernel
theorem dX9_sun_51 : decode cX9_sun 51 = .ok (.iastore, 1) := by decide +kernel
theorem dX9_sun_52 : decode cX9_sun 52 = .ok (.iload_n 3, 1) := by decide +kernel
theorem dX9_sun_53 : decode cX9_sun 53 = .ok (.ireturn, 1) := by decide +kernel
theorem dX9_flows_0 : decode cX9_flows 0 = .ok (.iconst 0, 1) := by decide +kernel
theorem dX9_flows_1 : decode cX9_flows 1 = .ok (.istore_n 1, 1) := by decide +kernel
theorem dX9_flows_2 : decode cX9_flows 2 = .ok (.iload_n 1, 1) := by decide +kernel
theorem dX9_flows_3 : decode cX9_flows 3 = .ok (.bipush 60, 2) := by decide +kernel
theorem dX9_flows_5 : decode cX9_flows 5 = .ok (.if_icmp .ge 23, 3) := by decide +kernel
theorem dX9_flows_8 : decode cX9_flows 8 = .ok (.aload_n 0, 1) := by decide +kernel
theorem dX9_flows_9 : decode cX9_flows 9 = .ok (.getfield 26, 3) := by decide +kernel
theorem dX9_flows_12 : decode cX9_flows 12 = .ok (.iload_n 1, 1) := by decide +kernel
theorem dX9_flows_13 : decode cX9_flows 13 = .ok (.iconst 0, 1) := by decide +kernel
theorem dX9_flows_14 : decode cX9_flows 14 = .ok (.iastore, 1) := by decide +kernel
theorem dX9_flows_15 : decode cX9_flows 15 = .ok (.aload_n 0, 1) := by decide +kernel
theorem dX9_flows_16 : decode cX9_flows 16 = .ok (.getfield 29, 3) := by decide +kernel
theorem dX9_flows_19 : decode cX9_flows 19 = .ok (.iload_n 1, 1) := by decide +kernel
theorem dX9_flows_20 : decode cX9_flows 20 = .ok (.iconst 0, 1) := by decide +kernel
theorem dX9_flows_21 : decode cX9_flows 21 = .ok (.iastore, 1) := by decide +kernel
theorem dX9_flows_22 : decode cX9_flows 22 = .ok (.iinc 1 1, 3) := by decide +kernel
theorem dX9_flows_25 : decode cX9_flows 25 = .ok (.goto (-23), 3) := by decide +kernel
theorem dX9_flows_28 : decode cX9_flows 28 = .ok (.iconst 0, 1) := by decide +kernel
theorem dX9_flows_29 : decode cX9_flows 29 = .ok (.istore_n 1, 1) := by decide +kernel
theorem dX9_flows_30 : decode cX9_flows 30 = .ok (.iload_n 1, 1) := by decide +kernel
theorem dX9_flows_31 : decode cX9_flows 31 = .ok (.bipush 60, 2) := by decide +kernel
theorem dX9_flows_33 : decode cX9_flows 33 = .ok (.if_icmp .ge 105, 3) := by decide +kernel
theorem dX9_flows_36 : decode cX9_flows 36 = .ok (.aload_n 0, 1) := by decide +kernel
theorem dX9_flows_37 : decode cX9_flows 37 = .ok (.getfield 7, 3) := by decide +kernel
theorem dX9_flows_40 : decode cX9_flows 40 = .ok (.iload_n 1, 1) := by decide +kernel
theorem dX9_flows_41 : decode cX9_flows 41 = .ok (.baload, 1) := by decide +kernel
theorem dX9_flows_42 : decode cX9_flows 42 = .ok (.ifCond .eq 7, 3) := by decide +kernel
theorem dX9_flows_45 : decode cX9_flows 45 = .ok (.iconst (-1), 1) := by decide +kernel
theorem dX9_flows_46 : decode cX9_flows 46 = .ok (.goto 8, 3) := by decide +kernel
theorem dX9_flows_49 : decode cX9_flows 49 = .ok (.aload_n 0, 1) := by decide +kernel
theorem dX9_flows_50 : decode cX9_flows 50 = .ok (.iload_n 1, 1) := by decide +kernel
theorem dX9_flows_51 : decode cX9_flows 51 = .ok (.invokevirtual 126, 3) := by decide +kernel
theorem dX9_flows_54 : decode cX9_flows 54 = .ok (.istore_n 2, 1) := by decide +kernel
theorem dX9_flows_55 : decode cX9_flows 55 = .ok (.iload_n 2, 1) := by decide +kernel
theorem dX9_flows_56 : decode cX9_flows 56 = .ok (.iconst (-1), 1) := by decide +kernel
theorem dX9_flows_57 : decode cX9_flows 57 = .ok (.if_icmp .eq 75, 3) := by decide +kernel
theorem dX9_flows_60 : decode cX9_flows 60 = .ok (.aload_n 0, 1) := by decide +kernel
theorem dX9_flows_61 : decode cX9_flows 61 = .ok (.getfield 26, 3) := by decide +kernel
theorem dX9_flows_64 : decode cX9_flows 64 = .ok (.iload_n 1, 1) := by decide +kernel
theorem dX9_flows_65 : decode cX9_flows 65 = .ok (.dup2, 1) := by decide +kernel
theorem dX9_flows_66 : decode cX9_flows 66 = .ok (.iaload, 1) := by decide +kernel
theorem dX9_flows_67 : decode cX9_flows 67 = .ok (.aload_n 0, 1) := by decide +kernel
theorem dX9_flows_68 : decode cX9_flows 68 = .ok (.getfield 20, 3) := by decide +kernel
theorem dX9_flows_71 : decode cX9_flows 71 = .ok (.iload_n 1, 1) := by decide +kernel
theorem dX9_flows_72 : decode cX9_flows 72 = .ok (.iaload, 1) := by decide +kernel
theorem dX9_flows_73 : decode cX9_flows 73 = .ok (.bipush 10, 2) := by decide +kernel
theorem dX9_flows_75 : decode cX9_flows 75 = .ok (.idiv, 1) := by decide +kernel
theorem dX9_flows_76 : decode cX9_flows 76 = .ok (.isub, 1) := by decide +kernel
theorem dX9_flows_77 : decode cX9_flows 77 = .ok (.iastore, 1) := by decide +kernel
theorem dX9_flows_78 : decode cX9_flows 78 = .ok (.aload_n 0, 1) := by decide +kernel
theorem dX9_flows_79 : decode cX9_flows 79 = .ok (.getfield 26, 3) := by decide +kernel
theorem dX9_flows_82 : decode cX9_flows 82 = .ok (.iload_n 2, 1) := by decide +kernel
theorem dX9_flows_83 : decode cX9_flows 83 = .ok (.dup2, 1) := by decide +kernel
theorem dX9_flows_84 : decode cX9_flows 84 = .ok (.iaload, 1) := by decide +kernel
theorem dX9_flows_85 : decode cX9_flows 85 = .ok (.aload_n 0, 1) := by decide +kernel
theorem dX9_flows_86 : decode cX9_flows 86 = .ok (.getfield 20, 3) := by decide +kernel
theorem dX9_flows_89 : decode cX9_flows 89 = .ok (.iload_n 1, 1) := by decide +kernel
theorem dX9_flows_90 : decode cX9_flows 90 = .ok (.iaload, 1) := by decide +kernel
theorem dX9_flows_91 : decode cX9_flows 91 = .ok (.bipush 10, 2) := by decide +kernel
theorem dX9_flows_93 : decode cX9_flows 93 = .ok (.idiv, 1) := by decide +kernel
theorem dX9_flows_94 : decode cX9_flows 94 = .ok (.iadd, 1) := by decide +kernel
theorem dX9_flows_95 : decode cX9_flows 95 = .ok (.iastore, 1) := by decide +kernel
theorem dX9_flows_96 : decode cX9_flows 96 = .ok (.aload_n 0, 1) := by decide +kernel
theorem dX9_flows_97 : decode cX9_flows 97 = .ok (.getfield 29, 3) := by decide +kernel
theorem dX9_flows_100 : decode cX9_flows 100 = .ok (.iload_n 1, 1) := by decide +kernel
theorem dX9_flows_101 : decode cX9_flows 101 = .ok (.dup2, 1) := by decide +kernel
theorem dX9_flows_102 : decode cX9_flows 102 = .ok (.iaload, 1) := by decide +kernel
theorem dX9_flows_103 : decode cX9_flows 103 = .ok (.aload_n 0, 1) := by decide +kernel
theorem dX9_flows_104 : decode cX9_flows 104 = .ok (.getfield 23, 3) := by decide +kernel
theorem dX9_flows_107 : decode cX9_flows 107 = .ok (.iload_n 1, 1) := by decide +kernel
theorem dX9_flows_108 : decode cX9_flows 108 = .ok (.iaload, 1) := by decide +kernel
theorem dX9_flows_109 : decode cX9_flows 109 = .ok (.bipush 10, 2) := by decide +kernel
theorem dX9_flows_111 : decode cX9_flows 111 = .ok (.idiv, 1) := by decide +kernel
theorem dX9_flows_112 : decode cX9_flows 112 = .ok (.isub, 1) := by decide +kernel
theorem dX9_flows_113 : decode cX9_flows 113 = .ok (.iastore, 1) := by decide +kernel
theorem dX9_flows_114 : decode cX9_flows 114 = .ok (.aload_n 0, 1) := by decide +kernel
theorem dX9_flows_115 : decode cX9_flows 115 = .ok (.getfield 29, 3) := by decide +kernel
theorem dX9_flows_118 : decode cX9_flows 118 = .ok (.iload_n 2, 1) := by decide +kernel
theorem dX9_flows_119 : decode cX9_flows 119 = .ok (.dup2, 1) := by decide +kernel
theorem dX9_flows_120 : decode cX9_flows 120 = .ok (.iaload, 1) := by decide +kernel
theorem dX9_flows_121 : decode cX9_flows 121 = .ok (.aload_n 0, 1) := by decide +kernel
theorem dX9_flows_122 : decode cX9_flows 122 = .ok (.getfield 23, 3) := by decide +kernel
theorem dX9_flows_125 : decode cX9_flows 125 = .ok (.iload_n 1, 1) := by decide +kernel
theorem dX9_flows_126 : decode cX9_flows 126 = .ok (.iaload, 1) := by decide +kernel
theorem dX9_flows_127 : decode cX9_flows 127 = .ok (.bipush 10, 2) := by decide +kernel
theorem dX9_flows_129 : decode cX9_flows 129 = .ok (.idiv, 1) := by decide +kernel
theorem dX9_flows_130 : decode cX9_flows 130 = .ok (.iadd, 1) := by decide +kernel
theorem dX9_flows_131 : decode cX9_flows 131 = .ok (.iastore, 1) := by decide +kernel
theorem dX9_flows_132 : decode cX9_flows 132 = .ok (.iinc 1 1, 3) := by decide +kernel
theorem dX9_flows_135 : decode cX9_flows 135 = .ok (.goto (-105), 3) := by decide +kernel
theorem dX9_flows_138 : decode cX9_flows 138 = .ok (.iconst 0, 1) := by decide +kernel
theorem dX9_flows_139 : decode cX9_flows 139 = .ok (.istore_n 1, 1) := by decide +kernel
theorem dX9_flows_140 : decode cX9_flows 140 = .ok (.iload_n 1, 1) := by decide +kernel
theorem dX9_flows_141 : decode cX9_flows 141 = .ok (.bipush 60, 2) := by decide +kernel
theorem dX9_flows_143 : decode cX9_flows 143 = .ok (.if_icmp .ge 39, 3) := by decide +kernel
theorem dX9_flows_146 : decode cX9_flows 146 = .ok (.aload_n 0, 1) := by decide +kernel
theorem dX9_flows_147 : decode cX9_flows 147 = .ok (.getfield 20, 3) := by decide +kernel
theorem dX9_flows_150 : decode cX9_flows 150 = .ok (.iload_n 1, 1) := by decide +kernel
theorem dX9_flows_151 : decode cX9_flows 151 = .ok (.dup2, 1) := by decide +kernel
theorem dX9_flows_152 : decode cX9_flows 152 = .ok (.iaload, 1) := by decide +kernel
theorem dX9_flows_153 : decode cX9_flows 153 = .ok (.aload_n 0, 1) := by decide +kernel
theorem dX9_flows_154 : decode cX9_flows 154 = .ok (.getfield 26, 3) := by decide +kernel
theorem dX9_flows_157 : decode cX9_flows 157 = .ok (.iload_n 1, 1) := by decide +kernel
theorem dX9_flows_158 : decode cX9_flows 158 = .ok (.iaload, 1) := by decide +kernel
theorem dX9_flows_159 : decode cX9_flows 159 = .ok (.iadd, 1) := by decide +kernel
theorem dX9_flows_160 : decode cX9_flows 160 = .ok (.iastore, 1) := by decide +kernel
theorem dX9_flows_161 : decode cX9_flows 161 = .ok (.aload_n 0, 1) := by decide +kernel
theorem dX9_flows_162 : decode cX9_flows 162 = .ok (.getfield 23, 3) := by decide +kernel
theorem dX9_flows_165 : decode cX9_flows 165 = .ok (.iload_n 1, 1) := by decide +kernel
theorem dX9_flows_166 : decode cX9_flows 166 = .ok (.dup2, 1) := by decide +kernel
theorem dX9_flows_167 : decode cX9_flows 167 = .ok (.iaload, 1) := by decide +kernel
theorem dX9_flows_168 : decode cX9_flows 168 = .ok (.aload_n 0, 1) := by decide +kernel
theorem dX9_flows_169 : decode cX9_flows 169 = .ok (.getfield 29, 3) := by decide +kernel
theorem dX9_flows_172 : decode cX9_flows 172 = .ok (.iload_n 1, 1) := by decide +kernel
theorem dX9_flows_173 : decode cX9_flows 173 = .ok (.iaload, 1) := by decide +kernel
theorem dX9_flows_174 : decode cX9_flows 174 = .ok (.iadd, 1) := by decide +kernel
theorem dX9_flows_175 : decode cX9_flows 175 = .ok (.iastore, 1) := by decide +kernel
theorem dX9_flows_176 : decode cX9_flows 176 = .ok (.iinc 1 1, 3) := by decide +kernel
theorem dX9_flows_179 : decode cX9_flows 179 = .ok (.goto (-39), 3) := by decide +kernel
theorem dX9_flows_182 : decode cX9_flows 182 = .ok (.return_, 1) := by decide +kernel
theorem dX9_warmsAndTurns_0 : decode cX9_warmsAndTurns 0 = .ok (.aload_n 0, 1) := by decide +kernel
theorem dX9_warmsAndTurns_1 : decode cX9_warmsAndTurns 1 = .ok (.getfield 20, 3) := by decide +kernel
theorem dX9_warmsAndTurns_4 : decode cX9_warmsAndTurns 4 = .ok (.iload_n 1, 1) := by decide +kernel
theorem dX9_warmsAndTurns_5 : decode cX9_warmsAndTurns 5 = .ok (.iaload, 1) := by decide +kernel
theorem dX9_warmsAndTurns_6 : decode cX9_warmsAndTurns 6 = .ok (.aload_n 0, 1) := by decide +kernel
theorem dX9_warmsAndTurns_7 : decode cX9_warmsAndTurns 7 = .ok (.getfield 17, 3) := by decide +kernel
theorem dX9_warmsAndTurns_10 : decode cX9_warmsAndTurns 10 = .ok (.iload_n 1, 1) := by decide +kernel
theorem dX9_warmsAndTurns_11 : decode cX9_warmsAndTurns 11 = .ok (.bipush 10, 2) := by decide +kernel
theorem dX9_warmsAndTurns_13 : decode cX9_warmsAndTurns 13 = .ok (.idiv, 1) := by decide +kernel
theorem dX9_warmsAndTurns_14 : decode cX9_warmsAndTurns 14 = .ok (.iaload, 1) := by decide +kernel
theorem dX9_warmsAndTurns_15 : decode cX9_warmsAndTurns 15 = .ok (.iadd, 1) := by decide +kernel
theorem dX9_warmsAndTurns_16 : decode cX9_warmsAndTurns 16 = .ok (.istore_n 2, 1) := by decide +kernel
theorem dX9_warmsAndTurns_17 : decode cX9_warmsAndTurns 17 = .ok (.iload_n 2, 1) := by decide +kernel
theorem dX9_warmsAndTurns_18 : decode cX9_warmsAndTurns 18 = .ok (.ifCond .ge 7, 3) := by decide +kernel
theorem dX9_warmsAndTurns_21 : decode cX9_warmsAndTurns 21 = .ok (.iconst 0, 1) := by decide +kernel
theorem dX9_warmsAndTurns_22 : decode cX9_warmsAndTurns 22 = .ok (.goto 4, 3) := by decide +kernel
theorem dX9_warmsAndTurns_25 : decode cX9_warmsAndTurns 25 = .ok (.iload_n 2, 1) := by decide +kernel
theorem dX9_warmsAndTurns_26 : decode cX9_warmsAndTurns 26 = .ok (.istore_n 2, 1) := by decide +kernel
theorem dX9_warmsAndTurns_27 : decode cX9_warmsAndTurns 27 = .ok (.aload_n 0, 1) := by decide +kernel
theorem dX9_warmsAndTurns_28 : decode cX9_warmsAndTurns 28 = .ok (.dup, 1) := by decide +kernel
theorem dX9_warmsAndTurns_29 : decode cX9_warmsAndTurns 29 = .ok (.getfield 130, 3) := by decide +kernel
theorem dX9_warmsAndTurns_32 : decode cX9_warmsAndTurns 32 = .ok (.iload_n 2, 1) := by decide +kernel
theorem dX9_warmsAndTurns_33 : decode cX9_warmsAndTurns 33 = .ok (.aload_n 0, 1) := by decide +kernel
theorem dX9_warmsAndTurns_34 : decode cX9_warmsAndTurns 34 = .ok (.getfield 20, 3) := by decide +kernel
theorem dX9_warmsAndTurns_37 : decode cX9_warmsAndTurns 37 = .ok (.iload_n 1, 1) := by decide +kernel
theorem dX9_warmsAndTurns_38 : decode cX9_warmsAndTurns 38 = .ok (.iaload, 1) := by decide +kernel
theorem dX9_warmsAndTurns_39 : decode cX9_warmsAndTurns 39 = .ok (.isub, 1) := by decide +kernel
theorem dX9_warmsAndTurns_40 : decode cX9_warmsAndTurns 40 = .ok (.iadd, 1) := by decide +kernel
theorem dX9_warmsAndTurns_41 : decode cX9_warmsAndTurns 41 = .ok (.putfield 130, 3) := by decide +kernel
theorem dX9_warmsAndTurns_44 : decode cX9_warmsAndTurns 44 = .ok (.aload_n 0, 1) := by decide +kernel
theorem dX9_warmsAndTurns_45 : decode cX9_warmsAndTurns 45 = .ok (.getfield 20, 3) := by decide +kernel
theorem dX9_warmsAndTurns_48 : decode cX9_warmsAndTurns 48 = .ok (.iload_n 1, 1) := by decide +kernel
theorem dX9_warmsAndTurns_49 : decode cX9_warmsAndTurns 49 = .ok (.iload_n 2, 1) := by decide +kernel
theorem dX9_warmsAndTurns_50 : decode cX9_warmsAndTurns 50 = .ok (.iastore, 1) := by decide +kernel
theorem dX9_warmsAndTurns_51 : decode cX9_warmsAndTurns 51 = .ok (.bipush 60, 2) := by decide +kernel
theorem dX9_warmsAndTurns_53 : decode cX9_warmsAndTurns 53 = .ok (.iload_n 1, 1) := by decide +kernel
theorem dX9_warmsAndTurns_54 : decode cX9_warmsAndTurns 54 = .ok (.iadd, 1) := by decide +kernel
theorem dX9_warmsAndTurns_55 : decode cX9_warmsAndTurns 55 = .ok (.istore_n 3, 1) := by decide +kernel
theorem dX9_warmsAndTurns_56 : decode cX9_warmsAndTurns 56 = .ok (.iconst 5, 1) := by decide +kernel
theorem dX9_warmsAndTurns_57 : decode cX9_warmsAndTurns 57 = .ok (.aload_n 0, 1) := by decide +kernel
theorem dX9_warmsAndTurns_58 : decode cX9_warmsAndTurns 58 = .ok (.getfield 23, 3) := by decide +kernel
theorem dX9_warmsAndTurns_61 : decode cX9_warmsAndTurns 61 = .ok (.iload_n 1, 1) := by decide +kernel
theorem dX9_warmsAndTurns_62 : decode cX9_warmsAndTurns 62 = .ok (.iaload, 1) := by decide +kernel
theorem dX9_warmsAndTurns_63 : decode cX9_warmsAndTurns 63 = .ok (.imul, 1) := by decide +kernel
theorem dX9_warmsAndTurns_64 : decode cX9_warmsAndTurns 64 = .ok (.aload_n 0, 1) := by decide +kernel
theorem dX9_warmsAndTurns_65 : decode cX9_warmsAndTurns 65 = .ok (.getfield 20, 3) := by decide +kernel
theorem dX9_warmsAndTurns_68 : decode cX9_warmsAndTurns 68 = .ok (.iload_n 1, 1) := by decide +kernel
theorem dX9_warmsAndTurns_69 : decode cX9_warmsAndTurns 69 = .ok (.iaload, 1) := by decide +kernel
theorem dX9_warmsAndTurns_70 : decode cX9_warmsAndTurns 70 = .ok (.isub, 1) := by decide +kernel
theorem dX9_warmsAndTurns_71 : decode cX9_warmsAndTurns 71 = .ok (.iconst 5, 1) := by decide +kernel
theorem dX9_warmsAndTurns_72 : decode cX9_warmsAndTurns 72 = .ok (.aload_n 0, 1) := by decide +kernel
theorem dX9_warmsAndTurns_73 : decode cX9_warmsAndTurns 73 = .ok (.getfield 23, 3) := by decide +kernel
theorem dX9_warmsAndTurns_76 : decode cX9_warmsAndTurns 76 = .ok (.iload_n 3, 1) := by decide +kernel
theorem dX9_warmsAndTurns_77 : decode cX9_warmsAndTurns 77 = .ok (.iaload, 1) := by decide +kernel
theorem dX9_warmsAndTurns_78 : decode cX9_warmsAndTurns 78 = .ok (.imul, 1) := by decide +kernel
theorem dX9_warmsAndTurns_79 : decode cX9_warmsAndTurns 79 = .ok (.aload_n 0, 1) := by decide +kernel
theorem dX9_warmsAndTurns_80 : decode cX9_warmsAndTurns 80 = .ok (.getfield 20, 3) := by decide +kernel
theorem dX9_warmsAndTurns_83 : decode cX9_warmsAndTurns 83 = .ok (.iload_n 3, 1) := by decide +kernel
theorem dX9_warmsAndTurns_84 : decode cX9_warmsAndTurns 84 = .ok (.iaload, 1) := by decide +kernel
theorem dX9_warmsAndTurns_85 : decode cX9_warmsAndTurns 85 = .ok (.isub, 1) := by decide +kernel
theorem dX9_warmsAndTurns_86 : decode cX9_warmsAndTurns 86 = .ok (.if_icmp .le 79, 3) := by decide +kernel
theorem dX9_warmsAndTurns_89 : decode cX9_warmsAndTurns 89 = .ok (.aload_n 0, 1) := by decide +kernel
theorem dX9_warmsAndTurns_90 : decode cX9_warmsAndTurns 90 = .ok (.getfield 20, 3) := by decide +kernel
theorem dX9_warmsAndTurns_93 : decode cX9_warmsAndTurns 93 = .ok (.iload_n 1, 1) := by decide +kernel
theorem dX9_warmsAndTurns_94 : decode cX9_warmsAndTurns 94 = .ok (.iaload, 1) := by decide +kernel
theorem dX9_warmsAndTurns_95 : decode cX9_warmsAndTurns 95 = .ok (.aload_n 0, 1) := by decide +kernel
theorem dX9_warmsAndTurns_96 : decode cX9_warmsAndTurns 96 = .ok (.getfield 20, 3) := by decide +kernel
theorem dX9_warmsAndTurns_99 : decode cX9_warmsAndTurns 99 = .ok (.iload_n 3, 1) := by decide +kernel
theorem dX9_warmsAndTurns_100 : decode cX9_warmsAndTurns 100 = .ok (.iaload, 1) := by decide +kernel
theorem dX9_warmsAndTurns_101 : decode cX9_warmsAndTurns 101 = .ok (.iadd, 1) := by decide +kernel
theorem dX9_warmsAndTurns_102 : decode cX9_warmsAndTurns 102 = .ok (.istore 4, 2) := by decide +kernel
theorem dX9_warmsAndTurns_104 : decode cX9_warmsAndTurns 104 = .ok (.aload_n 0, 1) := by decide +kernel
theorem dX9_warmsAndTurns_105 : decode cX9_warmsAndTurns 105 = .ok (.getfield 20, 3) := by decide +kernel
theorem dX9_warmsAndTurns_108 : decode cX9_warmsAndTurns 108 = .ok (.iload_n 1, 1) := by decide +kernel
theorem dX9_warmsAndTurns_109 : decode cX9_warmsAndTurns 109 = .ok (.iload 4, 2) := by decide +kernel
theorem dX9_warmsAndTurns_111 : decode cX9_warmsAndTurns 111 = .ok (.iconst 2, 1) := by decide +kernel
theorem dX9_warmsAndTurns_112 : decode cX9_warmsAndTurns 112 = .ok (.idiv, 1) := by decide +kernel
theorem dX9_warmsAndTurns_113 : decode cX9_warmsAndTurns 113 = .ok (.iastore, 1) := by decide +kernel
theorem dX9_warmsAndTurns_114 : decode cX9_warmsAndTurns 114 = .ok (.aload_n 0, 1) := by decide +kernel
theorem dX9_warmsAndTurns_115 : decode cX9_warmsAndTurns 115 = .ok (.getfield 20, 3) := by decide +kernel
theorem dX9_warmsAndTurns_118 : decode cX9_warmsAndTurns 118 = .ok (.iload_n 3, 1) := by decide +kernel
theorem dX9_warmsAndTurns_119 : decode cX9_warmsAndTurns 119 = .ok (.iload 4, 2) := by decide +kernel
theorem dX9_warmsAndTurns_121 : decode cX9_warmsAndTurns 121 = .ok (.iload 4, 2) := by decide +kernel
theorem dX9_warmsAndTurns_123 : decode cX9_warmsAndTurns 123 = .ok (.iconst 2, 1) := by decide +kernel
theorem dX9_warmsAndTurns_124 : decode cX9_warmsAndTurns 124 = .ok (.idiv, 1) := by decide +kernel
theorem dX9_warmsAndTurns_125 : decode cX9_warmsAndTurns 125 = .ok (.isub, 1) := by decide +kernel
theorem dX9_warmsAndTurns_126 : decode cX9_warmsAndTurns 126 = .ok (.iastore, 1) := by decide +kernel
theorem dX9_warmsAndTurns_127 : decode cX9_warmsAndTurns 127 = .ok (.aload_n 0, 1) := by decide +kernel
theorem dX9_warmsAndTurns_128 : decode cX9_warmsAndTurns 128 = .ok (.getfield 23, 3) := by decide +kernel
theorem dX9_warmsAndTurns_131 : decode cX9_warmsAndTurns 131 = .ok (.iload_n 1, 1) := by decide +kernel
theorem dX9_warmsAndTurns_132 : decode cX9_warmsAndTurns 132 = .ok (.iaload, 1) := by decide +kernel
theorem dX9_warmsAndTurns_133 : decode cX9_warmsAndTurns 133 = .ok (.aload_n 0, 1) := by decide +kernel
theorem dX9_warmsAndTurns_134 : decode cX9_warmsAndTurns 134 = .ok (.getfield 23, 3) := by decide +kernel
theorem dX9_warmsAndTurns_137 : decode cX9_warmsAndTurns 137 = .ok (.iload_n 3, 1) := by decide +kernel
theorem dX9_warmsAndTurns_138 : decode cX9_warmsAndTurns 138 = .ok (.iaload, 1) := by decide +kernel
theorem dX9_warmsAndTurns_139 : decode cX9_warmsAndTurns 139 = .ok (.iadd, 1) := by decide +kernel
theorem dX9_warmsAndTurns_140 : decode cX9_warmsAndTurns 140 = .ok (.istore 4, 2) := by decide +kernel
theorem dX9_warmsAndTurns_142 : decode cX9_warmsAndTurns 142 = .ok (.aload_n 0, 1) := by decide +kernel
theorem dX9_warmsAndTurns_143 : decode cX9_warmsAndTurns 143 = .ok (.getfield 23, 3) := by decide +kernel
theorem dX9_warmsAndTurns_146 : decode cX9_warmsAndTurns 146 = .ok (.iload_n 1, 1) := by decide +kernel
theorem dX9_warmsAndTurns_147 : decode cX9_warmsAndTurns 147 = .ok (.iload 4, 2) := by decide +kernel
theorem dX9_warmsAndTurns_149 : decode cX9_warmsAndTurns 149 = .ok (.iconst 2, 1) := by decide +kernel
theorem dX9_warmsAndTurns_150 : decode cX9_warmsAndTurns 150 = .ok (.idiv, 1) := by decide +kernel
theorem dX9_warmsAndTurns_151 : decode cX9_warmsAndTurns 151 = .ok (.iastore, 1) := by decide +kernel
theorem dX9_warmsAndTurns_152 : decode cX9_warmsAndTurns 152 = .ok (.aload_n 0, 1) := by decide +kernel
theorem dX9_warmsAndTurns_153 : decode cX9_warmsAndTurns 153 = .ok (.getfield 23, 3) := by decide +kernel
theorem dX9_warmsAndTurns_156 : decode cX9_warmsAndTurns 156 = .ok (.iload_n 3, 1) := by decide +kernel
theorem dX9_warmsAndTurns_157 : decode cX9_warmsAndTurns 157 = .ok (.iload 4, 2) := by decide +kernel
theorem dX9_warmsAndTurns_159 : decode cX9_warmsAndTurns 159 = .ok (.iload 4, 2) := by decide +kernel
theorem dX9_warmsAndTurns_161 : decode cX9_warmsAndTurns 161 = .ok (.iconst 2, 1) := by decide +kernel
theorem dX9_warmsAndTurns_162 : decode cX9_warmsAndTurns 162 = .ok (.idiv, 1) := by decide +kernel
theorem dX9_warmsAndTurns_163 : decode cX9_warmsAndTurns 163 = .ok (.isub, 1) := by decide +kernel
theorem dX9_warmsAndTurns_164 : decode cX9_warmsAndTurns 164 = .ok (.iastore, 1) := by decide +kernel
theorem dX9_warmsAndTurns_165 : decode cX9_warmsAndTurns 165 = .ok (.return_, 1) := by decide +kernel
theorem dX9_reads_0 : decode cX9_reads 0 = .ok (.aload_n 0, 1) := by decide +kernel
theorem dX9_reads_1 : decode cX9_reads 1 = .ok (.getfield 106, 3) := by decide +kernel
theorem dX9_reads_4 : decode cX9_reads 4 = .ok (.bipush 100, 2) := by decide +kernel
theorem dX9_reads_6 : decode cX9_reads 6 = .ok (.if_icmp .ge 73, 3) := by decide +kernel
theorem dX9_reads_9 : decode cX9_reads 9 = .ok (.aload_n 0, 1) := by decide +kernel
theorem dX9_reads_10 : decode cX9_reads 10 = .ok (.getfield 62, 3) := by decide +kernel
theorem dX9_reads_13 : decode cX9_reads 13 = .ok (.aload_n 0, 1) := by decide +kernel
theorem dX9_reads_14 : decode cX9_reads 14 = .ok (.getfield 106, 3) := by decide +kernel
theorem dX9_reads_17 : decode cX9_reads 17 = .ok (.aload_n 0, 1) := by decide +kernel
theorem dX9_reads_18 : decode cX9_reads 18 = .ok (.getfield 120, 3) := by decide +kernel
theorem dX9_reads_21 : decode cX9_reads 21 = .ok (.iastore, 1) := by decide +kernel
theorem dX9_reads_22 : decode cX9_reads 22 = .ok (.aload_n 0, 1) := by decide +kernel
theorem dX9_reads_23 : decode cX9_reads 23 = .ok (.getfield 65, 3) := by decide +kernel
theorem dX9_reads_26 : decode cX9_reads 26 = .ok (.aload_n 0, 1) := by decide +kernel
theorem dX9_reads_27 : decode cX9_reads 27 = .ok (.getfield 106, 3) := by decide +kernel
theorem dX9_reads_30 : decode cX9_reads 30 = .ok (.iload_n 1, 1) := by decide +kernel
theorem dX9_reads_31 : decode cX9_reads 31 = .ok (.iastore, 1) := by decide +kernel
theorem dX9_reads_32 : decode cX9_reads 32 = .ok (.aload_n 0, 1) := by decide +kernel
theorem dX9_reads_33 : decode cX9_reads 33 = .ok (.getfield 68, 3) := by decide +kernel
theorem dX9_reads_36 : decode cX9_reads 36 = .ok (.aload_n 0, 1) := by decide +kernel
theorem dX9_reads_37 : decode cX9_reads 37 = .ok (.getfield 106, 3) := by decide +kernel
theorem dX9_reads_40 : decode cX9_reads 40 = .ok (.aload_n 0, 1) := by decide +kernel
theorem dX9_reads_41 : decode cX9_reads 41 = .ok (.getfield 20, 3) := by decide +kernel
theorem dX9_reads_44 : decode cX9_reads 44 = .ok (.iload_n 1, 1) := by decide +kernel
theorem dX9_reads_45 : decode cX9_reads 45 = .ok (.iaload, 1) := by decide +kernel
theorem dX9_reads_46 : decode cX9_reads 46 = .ok (.iload_n 3, 1) := by decide +kernel
theorem dX9_reads_47 : decode cX9_reads 47 = .ok (.iadd, 1) := by decide +kernel
theorem dX9_reads_48 : decode cX9_reads 48 = .ok (.iastore, 1) := by decide +kernel
theorem dX9_reads_49 : decode cX9_reads 49 = .ok (.aload_n 0, 1) := by decide +kernel
theorem dX9_reads_50 : decode cX9_reads 50 = .ok (.getfield 71, 3) := by decide +kernel
theorem dX9_reads_53 : decode cX9_reads 53 = .ok (.aload_n 0, 1) := by decide +kernel
theorem dX9_reads_54 : decode cX9_reads 54 = .ok (.getfield 106, 3) := by decide +kernel
theorem dX9_reads_57 : decode cX9_reads 57 = .ok (.iload_n 2, 1) := by decide +kernel
theorem dX9_reads_58 : decode cX9_reads 58 = .ok (.iastore, 1) := by decide +kernel
theorem dX9_reads_59 : decode cX9_reads 59 = .ok (.aload_n 0, 1) := by decide +kernel
theorem dX9_reads_60 : decode cX9_reads 60 = .ok (.getfield 74, 3) := by decide +kernel
theorem dX9_reads_63 : decode cX9_reads 63 = .ok (.aload_n 0, 1) := by decide +kernel
theorem dX9_reads_64 : decode cX9_reads 64 = .ok (.getfield 106, 3) := by decide +kernel
theorem dX9_reads_67 : decode cX9_reads 67 = .ok (.iconst (-1), 1) := by decide +kernel
theorem dX9_reads_68 : decode cX9_reads 68 = .ok (.iastore, 1) := by decide +kernel
theorem dX9_reads_69 : decode cX9_reads 69 = .ok (.aload_n 0, 1) := by decide +kernel
theorem dX9_reads_70 : decode cX9_reads 70 = .ok (.dup, 1) := by decide +kernel
theorem dX9_reads_71 : decode cX9_reads 71 = .ok (.getfield 106, 3) := by decide +kernel
theorem dX9_reads_74 : decode cX9_reads 74 = .ok (.iconst 1, 1) := by decide +kernel
theorem dX9_reads_75 : decode cX9_reads 75 = .ok (.iadd, 1) := by decide +kernel
theorem dX9_reads_76 : decode cX9_reads 76 = .ok (.putfield 106, 3) := by decide +kernel
theorem dX9_reads_79 : decode cX9_reads 79 = .ok (.return_, 1) := by decide +kernel
theorem dX9_parks_0 : decode cX9_parks 0 = .ok (.aload_n 0, 1) := by decide +kernel
theorem dX9_parks_1 : decode cX9_parks 1 = .ok (.getfield 41, 3) := by decide +kernel
theorem dX9_parks_4 : decode cX9_parks 4 = .ok (.iload_n 1, 1) := by decide +kernel
theorem dX9_parks_5 : decode cX9_parks 5 = .ok (.iaload, 1) := by decide +kernel
theorem dX9_parks_6 : decode cX9_parks 6 = .ok (.ifCond .ne 4, 3) := by decide +kernel
theorem dX9_parks_9 : decode cX9_parks 9 = .ok (.return_, 1) := by decide +kernel
theorem dX9_parks_10 : decode cX9_parks 10 = .ok (.aload_n 0, 1) := by decide +kernel
theorem dX9_parks_11 : decode cX9_parks 11 = .ok (.getfield 38, 3) := by decide +kernel
theorem dX9_parks_14 : decode cX9_parks 14 = .ok (.iload_n 1, 1) := by decide +kernel
theorem dX9_parks_15 : decode cX9_parks 15 = .ok (.dup2, 1) := by decide +kernel
theorem dX9_parks_16 : decode cX9_parks 16 = .ok (.iaload, 1) := by decide +kernel
theorem dX9_parks_17 : decode cX9_parks 17 = .ok (.iconst 1, 1) := by decide +kernel
theorem dX9_parks_18 : decode cX9_parks 18 = .ok (.isub, 1) := by decide +kernel
theorem dX9_parks_19 : decode cX9_parks 19 = .ok (.iastore, 1) := by decide +kernel
theorem dX9_parks_20 : decode cX9_parks 20 = .ok (.aload_n 0, 1) := by decide +kernel
theorem dX9_parks_21 : decode cX9_parks 21 = .ok (.getfield 38, 3) := by decide +kernel
theorem dX9_parks_24 : decode cX9_parks 24 = .ok (.iload_n 1, 1) := by decide +kernel
theorem dX9_parks_25 : decode cX9_parks 25 = .ok (.iaload, 1) := by decide +kernel
theorem dX9_parks_26 : decode cX9_parks 26 = .ok (.ifCond .ne 87, 3) := by decide +kernel
theorem dX9_parks_29 : decode cX9_parks 29 = .ok (.aload_n 0, 1) := by decide +kernel
theorem dX9_parks_30 : decode cX9_parks 30 = .ok (.aload_n 0, 1) := by decide +kernel
theorem dX9_parks_31 : decode cX9_parks 31 = .ok (.getfield 32, 3) := by decide +kernel
theorem dX9_parks_34 : decode cX9_parks 34 = .ok (.iload_n 1, 1) := by decide +kernel
theorem dX9_parks_35 : decode cX9_parks 35 = .ok (.iaload, 1) := by decide +kernel
theorem dX9_parks_36 : decode cX9_parks 36 = .ok (.invokevirtual 126, 3) := by decide +kernel
theorem dX9_parks_39 : decode cX9_parks 39 = .ok (.istore_n 2, 1) := by decide +kernel
theorem dX9_parks_40 : decode cX9_parks 40 = .ok (.aload_n 0, 1) := by decide +kernel
theorem dX9_parks_41 : decode cX9_parks 41 = .ok (.getfield 32, 3) := by decide +kernel
theorem dX9_parks_44 : decode cX9_parks 44 = .ok (.iload_n 1, 1) := by decide +kernel
theorem dX9_parks_45 : decode cX9_parks 45 = .ok (.iload_n 2, 1) := by decide +kernel
theorem dX9_parks_46 : decode cX9_parks 46 = .ok (.iconst (-1), 1) := by decide +kernel
theorem dX9_parks_47 : decode cX9_parks 47 = .ok (.if_icmp .ne 12, 3) := by decide +kernel
theorem dX9_parks_50 : decode cX9_parks 50 = .ok (.aload_n 0, 1) := by decide +kernel
theorem dX9_parks_51 : decode cX9_parks 51 = .ok (.getfield 32, 3) := by decide +kernel
theorem dX9_parks_54 : decode cX9_parks 54 = .ok (.iload_n 1, 1) := by decide +kernel
theorem dX9_parks_55 : decode cX9_parks 55 = .ok (.iaload, 1) := by decide +kernel
theorem dX9_parks_56 : decode cX9_parks 56 = .ok (.goto 4, 3) := by decide +kernel
theorem dX9_parks_59 : decode cX9_parks 59 = .ok (.iload_n 2, 1) := by decide +kernel
theorem dX9_parks_60 : decode cX9_parks 60 = .ok (.iastore, 1) := by decide +kernel
theorem dX9_parks_61 : decode cX9_parks 61 = .ok (.aload_n 0, 1) := by decide +kernel
theorem dX9_parks_62 : decode cX9_parks 62 = .ok (.aload_n 0, 1) := by decide +kernel
theorem dX9_parks_63 : decode cX9_parks 63 = .ok (.getfield 32, 3) := by decide +kernel
theorem dX9_parks_66 : decode cX9_parks 66 = .ok (.iload_n 1, 1) := by decide +kernel
theorem dX9_parks_67 : decode cX9_parks 67 = .ok (.iaload, 1) := by decide +kernel
theorem dX9_parks_68 : decode cX9_parks 68 = .ok (.iload_n 1, 1) := by decide +kernel
theorem dX9_parks_69 : decode cX9_parks 69 = .ok (.aload_n 0, 1) := by decide +kernel
theorem dX9_parks_70 : decode cX9_parks 70 = .ok (.getfield 44, 3) := by decide +kernel
theorem dX9_parks_73 : decode cX9_parks 73 = .ok (.iload_n 1, 1) := by decide +kernel
theorem dX9_parks_74 : decode cX9_parks 74 = .ok (.iaload, 1) := by decide +kernel
theorem dX9_parks_75 : decode cX9_parks 75 = .ok (.invokevirtual 133, 3) := by decide +kernel
theorem dX9_parks_78 : decode cX9_parks 78 = .ok (.aload_n 0, 1) := by decide +kernel
theorem dX9_parks_79 : decode cX9_parks 79 = .ok (.getfield 41, 3) := by decide +kernel
theorem dX9_parks_82 : decode cX9_parks 82 = .ok (.iload_n 1, 1) := by decide +kernel
theorem dX9_parks_83 : decode cX9_parks 83 = .ok (.dup2, 1) := by decide +kernel
theorem dX9_parks_84 : decode cX9_parks 84 = .ok (.iaload, 1) := by decide +kernel
theorem dX9_parks_85 : decode cX9_parks 85 = .ok (.iconst 1, 1) := by decide +kernel
theorem dX9_parks_86 : decode cX9_parks 86 = .ok (.isub, 1) := by decide +kernel
theorem dX9_parks_87 : decode cX9_parks 87 = .ok (.iastore, 1) := by decide +kernel
theorem dX9_parks_88 : decode cX9_parks 88 = .ok (.aload_n 0, 1) := by decide +kernel
theorem dX9_parks_89 : decode cX9_parks 89 = .ok (.getfield 38, 3) := by decide +kernel
theorem dX9_parks_92 : decode cX9_parks 92 = .ok (.iload_n 1, 1) := by decide +kernel
theorem dX9_parks_93 : decode cX9_parks 93 = .ok (.aload_n 0, 1) := by decide +kernel
theorem dX9_parks_94 : decode cX9_parks 94 = .ok (.getfield 41, 3) := by decide +kernel
theorem dX9_parks_97 : decode cX9_parks 97 = .ok (.iload_n 1, 1) := by decide +kernel
theorem dX9_parks_98 : decode cX9_parks 98 = .ok (.iaload, 1) := by decide +kernel
theorem dX9_parks_99 : decode cX9_parks 99 = .ok (.ifCond .ne 7, 3) := by decide +kernel
theorem dX9_parks_102 : decode cX9_parks 102 = .ok (.iconst 0, 1) := by decide +kernel
theorem dX9_parks_103 : decode cX9_parks 103 = .ok (.goto 9, 3) := by decide +kernel
theorem dX9_parks_106 : decode cX9_parks 106 = .ok (.aload_n 0, 1) := by decide +kernel
theorem dX9_parks_107 : decode cX9_parks 107 = .ok (.getfield 35, 3) := by decide +kernel
theorem dX9_parks_110 : decode cX9_parks 110 = .ok (.iload_n 1, 1) := by decide +kernel
theorem dX9_parks_111 : decode cX9_parks 111 = .ok (.iaload, 1) := by decide +kernel
theorem dX9_parks_112 : decode cX9_parks 112 = .ok (.iastore, 1) := by decide +kernel
theorem dX9_parks_113 : decode cX9_parks 113 = .ok (.return_, 1) := by decide +kernel
theorem dX9_drifts_0 : decode cX9_drifts 0 = .ok (.iconst 0, 1) := by decide +kernel
theorem dX9_drifts_1 : decode cX9_drifts 1 = .ok (.istore_n 2, 1) := by decide +kernel
theorem dX9_drifts_2 : decode cX9_drifts 2 = .ok (.iload_n 2, 1) := by decide +kernel
theorem dX9_drifts_3 : decode cX9_drifts 3 = .ok (.bipush 60, 2) := by decide +kernel
theorem dX9_drifts_5 : decode cX9_drifts 5 = .ok (.if_icmp .ge 16, 3) := by decide +kernel
theorem dX9_drifts_8 : decode cX9_drifts 8 = .ok (.aload_n 0, 1) := by decide +kernel
theorem dX9_drifts_9 : decode cX9_drifts 9 = .ok (.getfield 26, 3) := by decide +kernel
theorem dX9_drifts_12 : decode cX9_drifts 12 = .ok (.iload_n 2, 1) := by decide +kernel
theorem dX9_drifts_13 : decode cX9_drifts 13 = .ok (.iconst 0, 1) := by decide +kernel
theorem dX9_drifts_14 : decode cX9_drifts 14 = .ok (.iastore, 1) := by decide +kernel
theorem dX9_drifts_15 : decode cX9_drifts 15 = .ok (.iinc 2 1, 3) := by decide +kernel
theorem dX9_drifts_18 : decode cX9_drifts 18 = .ok (.goto (-16), 3) := by decide +kernel
theorem dX9_drifts_21 : decode cX9_drifts 21 = .ok (.iconst 0, 1) := by decide +kernel
theorem dX9_drifts_22 : decode cX9_drifts 22 = .ok (.istore_n 2, 1) := by decide +kernel
theorem dX9_drifts_23 : decode cX9_drifts 23 = .ok (.iload_n 2, 1) := by decide +kernel
theorem dX9_drifts_24 : decode cX9_drifts 24 = .ok (.bipush 60, 2) := by decide +kernel
theorem dX9_drifts_26 : decode cX9_drifts 26 = .ok (.if_icmp .ge 107, 3) := by decide +kernel
theorem dX9_drifts_29 : decode cX9_drifts 29 = .ok (.aload_n 0, 1) := by decide +kernel
theorem dX9_drifts_30 : decode cX9_drifts 30 = .ok (.getfield 84, 3) := by decide +kernel
theorem dX9_drifts_33 : decode cX9_drifts 33 = .ok (.bipush 60, 2) := by decide +kernel
theorem dX9_drifts_35 : decode cX9_drifts 35 = .ok (.iload_n 1, 1) := by decide +kernel
theorem dX9_drifts_36 : decode cX9_drifts 36 = .ok (.imul, 1) := by decide +kernel
theorem dX9_drifts_37 : decode cX9_drifts 37 = .ok (.iload_n 2, 1) := by decide +kernel
theorem dX9_drifts_38 : decode cX9_drifts 38 = .ok (.iadd, 1) := by decide +kernel
theorem dX9_drifts_39 : decode cX9_drifts 39 = .ok (.iaload, 1) := by decide +kernel
theorem dX9_drifts_40 : decode cX9_drifts 40 = .ok (.istore_n 3, 1) := by decide +kernel
theorem dX9_drifts_41 : decode cX9_drifts 41 = .ok (.iconst 0, 1) := by decide +kernel
theorem dX9_drifts_42 : decode cX9_drifts 42 = .ok (.istore 4, 2) := by decide +kernel
theorem dX9_drifts_44 : decode cX9_drifts 44 = .ok (.iload 4, 2) := by decide +kernel
theorem dX9_drifts_46 : decode cX9_drifts 46 = .ok (.iconst 5, 1) := by decide +kernel
theorem dX9_drifts_47 : decode cX9_drifts 47 = .ok (.if_icmp .ge 80, 3) := by decide +kernel
theorem dX9_drifts_50 : decode cX9_drifts 50 = .ok (.iload 4, 2) := by decide +kernel
theorem dX9_drifts_52 : decode cX9_drifts 52 = .ok (.ifCond .ne 11, 3) := by decide +kernel
theorem dX9_drifts_55 : decode cX9_drifts 55 = .ok (.aload_n 0, 1) := by decide +kernel
theorem dX9_drifts_56 : decode cX9_drifts 56 = .ok (.iload_n 2, 1) := by decide +kernel
theorem dX9_drifts_57 : decode cX9_drifts 57 = .ok (.invokevirtual 126, 3) := by decide +kernel
theorem dX9_drifts_60 : decode cX9_drifts 60 = .ok (.goto 10, 3) := by decide +kernel
theorem dX9_drifts_63 : decode cX9_drifts 63 = .ok (.aload_n 0, 1) := by decide +kernel
theorem dX9_drifts_64 : decode cX9_drifts 64 = .ok (.iload_n 2, 1) := by decide +kernel
theorem dX9_drifts_65 : decode cX9_drifts 65 = .ok (.iload 4, 2) := by decide +kernel
theorem dX9_drifts_67 : decode cX9_drifts 67 = .ok (.invokevirtual 112, 3) := by decide +kernel
theorem dX9_drifts_70 : decode cX9_drifts 70 = .ok (.istore 5, 2) := by decide +kernel
theorem dX9_drifts_72 : decode cX9_drifts 72 = .ok (.iload 4, 2) := by decide +kernel
theorem dX9_drifts_74 : decode cX9_drifts 74 = .ok (.ifCond .ne 12, 3) := by decide +kernel
theorem dX9_drifts_77 : decode cX9_drifts 77 = .ok (.iconst 4, 1) := by decide +kernel
theorem dX9_drifts_78 : decode cX9_drifts 78 = .ok (.iload_n 3, 1) := by decide +kernel
theorem dX9_drifts_79 : decode cX9_drifts 79 = .ok (.imul, 1) := by decide +kernel
theorem dX9_drifts_80 : decode cX9_drifts 80 = .ok (.bipush 10, 2) := by decide +kernel
theorem dX9_drifts_82 : decode cX9_drifts 82 = .ok (.idiv, 1) := by decide +kernel
theorem dX9_drifts_83 : decode cX9_drifts 83 = .ok (.goto 7, 3) := by decide +kernel
theorem dX9_drifts_86 : decode cX9_drifts 86 = .ok (.iload_n 3, 1) := by decide +kernel
theorem dX9_drifts_87 : decode cX9_drifts 87 = .ok (.bipush 10, 2) := by decide +kernel
theorem dX9_drifts_89 : decode cX9_drifts 89 = .ok (.idiv, 1) := by decide +kernel
theorem dX9_drifts_90 : decode cX9_drifts 90 = .ok (.istore 6, 2) := by decide +kernel
theorem dX9_drifts_92 : decode cX9_drifts 92 = .ok (.iload 5, 2) := by decide +kernel
theorem dX9_drifts_94 : decode cX9_drifts 94 = .ok (.iconst (-1), 1) := by decide +kernel
theorem dX9_drifts_95 : decode cX9_drifts 95 = .ok (.if_icmp .eq 26, 3) := by decide +kernel
theorem dX9_drifts_98 : decode cX9_drifts 98 = .ok (.aload_n 0, 1) := by decide +kernel
theorem dX9_drifts_99 : decode cX9_drifts 99 = .ok (.getfield 26, 3) := by decide +kernel
theorem dX9_drifts_102 : decode cX9_drifts 102 = .ok (.iload_n 2, 1) := by decide +kernel
theorem dX9_drifts_103 : decode cX9_drifts 103 = .ok (.dup2, 1) := by decide +kernel
theorem dX9_drifts_104 : decode cX9_drifts 104 = .ok (.iaload, 1) := by decide +kernel
theorem dX9_drifts_105 : decode cX9_drifts 105 = .ok (.iload 6, 2) := by decide +kernel
theorem dX9_drifts_107 : decode cX9_drifts 107 = .ok (.isub, 1) := by decide +kernel
theorem dX9_drifts_108 : decode cX9_drifts 108 = .ok (.iastore, 1) := by decide +kernel
theorem dX9_drifts_109 : decode cX9_drifts 109 = .ok (.aload_n 0, 1) := by decide +kernel
theorem dX9_drifts_110 : decode cX9_drifts 110 = .ok (.getfield 26, 3) := by decide +kernel
theorem dX9_drifts_113 : decode cX9_drifts 113 = .ok (.iload 5, 2) := by decide +kernel
theorem dX9_drifts_115 : decode cX9_drifts 115 = .ok (.dup2, 1) := by decide +kernel
theorem dX9_drifts_116 : decode cX9_drifts 116 = .ok (.iaload, 1) := by decide +kernel
theorem dX9_drifts_117 : decode cX9_drifts 117 = .ok (.iload 6, 2) := by decide +kernel
theorem dX9_drifts_119 : decode cX9_drifts 119 = .ok (.iadd, 1) := by decide +kernel
theorem dX9_drifts_120 : decode cX9_drifts 120 = .ok (.iastore, 1) := by decide +kernel
theorem dX9_drifts_121 : decode cX9_drifts 121 = .ok (.iinc 4 1, 3) := by decide +kernel
theorem dX9_drifts_124 : decode cX9_drifts 124 = .ok (.goto (-80), 3) := by decide +kernel
theorem dX9_drifts_127 : decode cX9_drifts 127 = .ok (.iinc 2 1, 3) := by decide +kernel
theorem dX9_drifts_130 : decode cX9_drifts 130 = .ok (.goto (-107), 3) := by decide +kernel
theorem dX9_drifts_133 : decode cX9_drifts 133 = .ok (.iconst 0, 1) := by decide +kernel
theorem dX9_drifts_134 : decode cX9_drifts 134 = .ok (.istore_n 2, 1) := by decide +kernel
theorem dX9_drifts_135 : decode cX9_drifts 135 = .ok (.iload_n 2, 1) := by decide +kernel
theorem dX9_drifts_136 : decode cX9_drifts 136 = .ok (.bipush 60, 2) := by decide +kernel
theorem dX9_drifts_138 : decode cX9_drifts 138 = .ok (.if_icmp .ge 29, 3) := by decide +kernel
theorem dX9_drifts_141 : decode cX9_drifts 141 = .ok (.aload_n 0, 1) := by decide +kernel
theorem dX9_drifts_142 : decode cX9_drifts 142 = .ok (.getfield 84, 3) := by decide +kernel
theorem dX9_drifts_145 : decode cX9_drifts 145 = .ok (.bipush 60, 2) := by decide +kernel
theorem dX9_drifts_147 : decode cX9_drifts 147 = .ok (.iload_n 1, 1) := by decide +kernel
theorem dX9_drifts_148 : decode cX9_drifts 148 = .ok (.imul, 1) := by decide +kernel
theorem dX9_drifts_149 : decode cX9_drifts 149 = .ok (.iload_n 2, 1) := by decide +kernel
theorem dX9_drifts_150 : decode cX9_drifts 150 = .ok (.iadd, 1) := by decide +kernel
theorem dX9_drifts_151 : decode cX9_drifts 151 = .ok (.dup2, 1) := by decide +kernel
theorem dX9_drifts_152 : decode cX9_drifts 152 = .ok (.iaload, 1) := by decide +kernel
theorem dX9_drifts_153 : decode cX9_drifts 153 = .ok (.aload_n 0, 1) := by decide +kernel
theorem dX9_drifts_154 : decode cX9_drifts 154 = .ok (.getfield 26, 3) := by decide +kernel
theorem dX9_drifts_157 : decode cX9_drifts 157 = .ok (.iload_n 2, 1) := by decide +kernel
theorem dX9_drifts_158 : decode cX9_drifts 158 = .ok (.iaload, 1) := by decide +kernel
theorem dX9_drifts_159 : decode cX9_drifts 159 = .ok (.iadd, 1) := by decide +kernel
theorem dX9_drifts_160 : decode cX9_drifts 160 = .ok (.iastore, 1) := by decide +kernel
theorem dX9_drifts_161 : decode cX9_drifts 161 = .ok (.iinc 2 1, 3) := by decide +kernel
theorem dX9_drifts_164 : decode cX9_drifts 164 = .ok (.goto (-29), 3) := by decide +kernel
theorem dX9_drifts_167 : decode cX9_drifts 167 = .ok (.return_, 1) := by decide +kernel
theorem dX9_isStorm_0 : decode cX9_isStorm 0 = .ok (.iconst 0, 1) := by decide +kernel
theorem dX9_isStorm_1 : decode cX9_isStorm 1 = .ok (.istore_n 2, 1) := by decide +kernel
theorem dX9_isStorm_2 : decode cX9_isStorm 2 = .ok (.iconst 0, 1) := by decide +kernel
theorem dX9_isStorm_3 : decode cX9_isStorm 3 = .ok (.istore_n 3, 1) := by decide +kernel
theorem dX9_isStorm_4 : decode cX9_isStorm 4 = .ok (.iload_n 3, 1) := by decide +kernel
theorem dX9_isStorm_5 : decode cX9_isStorm 5 = .ok (.aload_n 0, 1) := by decide +kernel
theorem dX9_isStorm_6 : decode cX9_isStorm 6 = .ok (.getfield 137, 3) := by decide +kernel
theorem dX9_isStorm_9 : decode cX9_isStorm 9 = .ok (.if_icmp .ge 38, 3) := by decide +kernel
theorem dX9_isStorm_12 : decode cX9_isStorm 12 = .ok (.iload_n 2, 1) := by decide +kernel
theorem dX9_isStorm_13 : decode cX9_isStorm 13 = .ok (.ifCond .ne 22, 3) := by decide +kernel
theorem dX9_isStorm_16 : decode cX9_isStorm 16 = .ok (.iload_n 1, 1) := by decide +kernel
theorem dX9_isStorm_17 : decode cX9_isStorm 17 = .ok (.aload_n 0, 1) := by decide +kernel
theorem dX9_isStorm_18 : decode cX9_isStorm 18 = .ok (.getfield 56, 3) := by decide +kernel
theorem dX9_isStorm_21 : decode cX9_isStorm 21 = .ok (.iload_n 3, 1) := by decide +kernel
theorem dX9_isStorm_22 : decode cX9_isStorm 22 = .ok (.iaload, 1) := by decide +kernel
theorem dX9_isStorm_23 : decode cX9_isStorm 23 = .ok (.aload_n 0, 1) := by decide +kernel
theorem dX9_isStorm_24 : decode cX9_isStorm 24 = .ok (.getfield 59, 3) := by decide +kernel
theorem dX9_isStorm_27 : decode cX9_isStorm 27 = .ok (.iload_n 3, 1) := by decide +kernel
theorem dX9_isStorm_28 : decode cX9_isStorm 28 = .ok (.iaload, 1) := by decide +kernel
theorem dX9_isStorm_29 : decode cX9_isStorm 29 = .ok (.invokestatic 99, 3) := by decide +kernel
theorem dX9_isStorm_32 : decode cX9_isStorm 32 = .ok (.ifCond .eq 7, 3) := by decide +kernel
theorem dX9_isStorm_35 : decode cX9_isStorm 35 = .ok (.iconst 1, 1) := by decide +kernel
theorem dX9_isStorm_36 : decode cX9_isStorm 36 = .ok (.goto 4, 3) := by decide +kernel
theorem dX9_isStorm_39 : decode cX9_isStorm 39 = .ok (.iconst 0, 1) := by decide +kernel
theorem dX9_isStorm_40 : decode cX9_isStorm 40 = .ok (.istore_n 2, 1) := by decide +kernel
theorem dX9_isStorm_41 : decode cX9_isStorm 41 = .ok (.iinc 3 1, 3) := by decide +kernel
theorem dX9_isStorm_44 : decode cX9_isStorm 44 = .ok (.goto (-40), 3) := by decide +kernel
theorem dX9_isStorm_47 : decode cX9_isStorm 47 = .ok (.iload_n 2, 1) := by decide +kernel
theorem dX9_isStorm_48 : decode cX9_isStorm 48 = .ok (.ireturn, 1) := by decide +kernel
theorem dX9_stationOf_0 : decode cX9_stationOf 0 = .ok (.iconst (-1), 1) := by decide +kernel
theorem dX9_stationOf_1 : decode cX9_stationOf 1 = .ok (.istore_n 3, 1) := by decide +kernel
theorem dX9_stationOf_2 : decode cX9_stationOf 2 = .ok (.iconst 0, 1) := by decide +kernel
theorem dX9_stationOf_3 : decode cX9_stationOf 3 = .ok (.istore 4, 2) := by decide +kernel
theorem dX9_stationOf_5 : decode cX9_stationOf 5 = .ok (.iload 4, 2) := by decide +kernel
theorem dX9_stationOf_7 : decode cX9_stationOf 7 = .ok (.aload_n 0, 1) := by decide +kernel
theorem dX9_stationOf_8 : decode cX9_stationOf 8 = .ok (.getfield 123, 3) := by decide +kernel
theorem dX9_stationOf_11 : decode cX9_stationOf 11 = .ok (.if_icmp .ge 38, 3) := by decide +kernel
theorem dX9_stationOf_14 : decode cX9_stationOf 14 = .ok (.aload_n 0, 1) := by decide +kernel
theorem dX9_stationOf_15 : decode cX9_stationOf 15 = .ok (.getfield 50, 3) := by decide +kernel
theorem dX9_stationOf_18 : decode cX9_stationOf 18 = .ok (.iload 4, 2) := by decide +kernel
theorem dX9_stationOf_20 : decode cX9_stationOf 20 = .ok (.iaload, 1) := by decide +kernel
theorem dX9_stationOf_21 : decode cX9_stationOf 21 = .ok (.iload_n 1, 1) := by decide +kernel
theorem dX9_stationOf_22 : decode cX9_stationOf 22 = .ok (.if_icmp .ne 19, 3) := by decide +kernel
theorem dX9_stationOf_25 : decode cX9_stationOf 25 = .ok (.aload_n 0, 1) := by decide +kernel
theorem dX9_stationOf_26 : decode cX9_stationOf 26 = .ok (.getfield 53, 3) := by decide +kernel
theorem dX9_stationOf_29 : decode cX9_stationOf 29 = .ok (.iload 4, 2) := by decide +kernel
theorem dX9_stationOf_31 : decode cX9_stationOf 31 = .ok (.iaload, 1) := by decide +kernel
theorem dX9_stationOf_32 : decode cX9_stationOf 32 = .ok (.iload_n 2, 1) := by decide +kernel
theorem dX9_stationOf_33 : decode cX9_stationOf 33 = .ok (.if_icmp .ne 8, 3) := by decide +kernel
theorem dX9_stationOf_36 : decode cX9_stationOf 36 = .ok (.iload 4, 2) := by decide +kernel
theorem dX9_stationOf_38 : decode cX9_stationOf 38 = .ok (.goto 4, 3) := by decide +kernel
theorem dX9_stationOf_41 : decode cX9_stationOf 41 = .ok (.iload_n 3, 1) := by decide +kernel
theorem dX9_stationOf_42 : decode cX9_stationOf 42 = .ok (.istore_n 3, 1) := by decide +kernel
theorem dX9_stationOf_43 : decode cX9_stationOf 43 = .ok (.iinc 4 1, 3) := by decide +kernel
theorem dX9_stationOf_46 : decode cX9_stationOf 46 = .ok (.goto (-41), 3) := by decide +kernel
theorem dX9_stationOf_49 : decode cX9_stationOf 49 = .ok (.iload_n 3, 1) := by decide +kernel
theorem dX9_stationOf_50 : decode cX9_stationOf 50 = .ok (.ireturn, 1) := by decide +kernel
theorem dX9_ships_0 : decode cX9_ships 0 = .ok (.iconst 0, 1) := by decide +kernel
theorem dX9_ships_1 : decode cX9_ships 1 = .ok (.istore_n 1, 1) := by decide +kernel
theorem dX9_ships_2 : decode cX9_ships 2 = .ok (.iload_n 1, 1) := by decide +kernel
theorem dX9_ships_3 : decode cX9_ships 3 = .ok (.bipush 60, 2) := by decide +kernel
theorem dX9_ships_5 : decode cX9_ships 5 = .ok (.if_icmp .ge 82, 3) := by decide +kernel
theorem dX9_ships_8 : decode cX9_ships 8 = .ok (.aload_n 0, 1) := by decide +kernel
theorem dX9_ships_9 : decode cX9_ships 9 = .ok (.aload_n 0, 1) := by decide +kernel
theorem dX9_ships_10 : decode cX9_ships 10 = .ok (.getfield 120, 3) := by decide +kernel
theorem dX9_ships_13 : decode cX9_ships 13 = .ok (.iload_n 1, 1) := by decide +kernel
theorem dX9_ships_14 : decode cX9_ships 14 = .ok (.invokevirtual 140, 3) := by decide +kernel
theorem dX9_ships_17 : decode cX9_ships 17 = .ok (.istore_n 2, 1) := by decide +kernel
theorem dX9_ships_18 : decode cX9_ships 18 = .ok (.iload_n 2, 1) := by decide +kernel
theorem dX9_ships_19 : decode cX9_ships 19 = .ok (.iconst (-1), 1) := by decide +kernel
theorem dX9_ships_20 : decode cX9_ships 20 = .ok (.if_icmp .eq 61, 3) := by decide +kernel
theorem dX9_ships_23 : decode cX9_ships 23 = .ok (.aload_n 0, 1) := by decide +kernel
theorem dX9_ships_24 : decode cX9_ships 24 = .ok (.aload_n 0, 1) := by decide +kernel
theorem dX9_ships_25 : decode cX9_ships 25 = .ok (.getfield 120, 3) := by decide +kernel
theorem dX9_ships_28 : decode cX9_ships 28 = .ok (.invokevirtual 143, 3) := by decide +kernel
theorem dX9_ships_31 : decode cX9_ships 31 = .ok (.ifCond .ne 10, 3) := by decide +kernel
theorem dX9_ships_34 : decode cX9_ships 34 = .ok (.aload_n 0, 1) := by decide +kernel
theorem dX9_ships_35 : decode cX9_ships 35 = .ok (.iload_n 1, 1) := by decide +kernel
theorem dX9_ships_36 : decode cX9_ships 36 = .ok (.iconst (-1), 1) := by decide +kernel
theorem dX9_ships_37 : decode cX9_ships 37 = .ok (.iconst 0, 1) := by decide +kernel
theorem dX9_ships_38 : decode cX9_ships 38 = .ok (.invokevirtual 133, 3) := by decide +kernel
theorem dX9_ships_41 : decode cX9_ships 41 = .ok (.aload_n 0, 1) := by decide +kernel
theorem dX9_ships_42 : decode cX9_ships 42 = .ok (.dup, 1) := by decide +kernel
theorem dX9_ships_43 : decode cX9_ships 43 = .ok (.getfield 123, 3) := by decide +kernel
theorem dX9_ships_46 : decode cX9_ships 46 = .ok (.iconst 1, 1) := by decide +kernel
theorem dX9_ships_47 : decode cX9_ships 47 = .ok (.isub, 1) := by decide +kernel
theorem dX9_ships_48 : decode cX9_ships 48 = .ok (.putfield 123, 3) := by decide +kernel
theorem dX9_ships_51 : decode cX9_ships 51 = .ok (.aload_n 0, 1) := by decide +kernel
theorem dX9_ships_52 : decode cX9_ships 52 = .ok (.getfield 50, 3) := by decide +kernel
theorem dX9_ships_55 : decode cX9_ships 55 = .ok (.iload_n 2, 1) := by decide +kernel
theorem dX9_ships_56 : decode cX9_ships 56 = .ok (.aload_n 0, 1) := by decide +kernel
theorem dX9_ships_57 : decode cX9_ships 57 = .ok (.getfield 50, 3) := by decide +kernel
theorem dX9_ships_60 : decode cX9_ships 60 = .ok (.aload_n 0, 1) := by decide +kernel
theorem dX9_ships_61 : decode cX9_ships 61 = .ok (.getfield 123, 3) := by decide +kernel
theorem dX9_ships_64 : decode cX9_ships 64 = .ok (.iaload, 1) := by decide +kernel
theorem dX9_ships_65 : decode cX9_ships 65 = .ok (.iastore, 1) := by decide +kernel
theorem dX9_ships_66 : decode cX9_ships 66 = .ok (.aload_n 0, 1) := by decide +kernel
theorem dX9_ships_67 : decode cX9_ships 67 = .ok (.getfield 53, 3) := by decide +kernel
theorem dX9_ships_70 : decode cX9_ships 70 = .ok (.iload_n 2, 1) := by decide +kernel
theorem dX9_ships_71 : decode cX9_ships 71 = .ok (.aload_n 0, 1) := by decide +kernel
theorem dX9_ships_72 : decode cX9_ships 72 = .ok (.getfield 53, 3) := by decide +kernel
theorem dX9_ships_75 : decode cX9_ships 75 = .ok (.aload_n 0, 1) := by decide +kernel
theorem dX9_ships_76 : decode cX9_ships 76 = .ok (.getfield 123, 3) := by decide +kernel
theorem dX9_ships_79 : decode cX9_ships 79 = .ok (.iaload, 1) := by decide +kernel
theorem dX9_ships_80 : decode cX9_ships 80 = .ok (.iastore, 1) := by decide +kernel
theorem dX9_ships_81 : decode cX9_ships 81 = .ok (.iinc 1 1, 3) := by decide +kernel
theorem dX9_ships_84 : decode cX9_ships 84 = .ok (.goto (-82), 3) := by decide +kernel
theorem dX9_ships_87 : decode cX9_ships 87 = .ok (.return_, 1) := by decide +kernel
theorem dX9_pass_0 : decode cX9_pass 0 = .ok (.aload_n 0, 1) := by decide +kernel
theorem dX9_pass_1 : decode cX9_pass 1 = .ok (.iload_n 1, 1) := by decide +kernel
theorem dX9_pass_2 : decode cX9_pass 2 = .ok (.iconst 1, 1) := by decide +kernel
theorem dX9_pass_3 : decode cX9_pass 3 = .ok (.bipush 50, 2) := by decide +kernel
theorem dX9_pass_5 : decode cX9_pass 5 = .ok (.invokestatic 99, 3) := by decide +kernel
theorem dX9_pass_8 : decode cX9_pass 8 = .ok (.ifCond .ne 7, 3) := by decide +kernel
theorem dX9_pass_11 : decode cX9_pass 11 = .ok (.iconst 1, 1) := by decide +kernel
theorem dX9_pass_12 : decode cX9_pass 12 = .ok (.goto 20, 3) := by decide +kernel
theorem dX9_pass_15 : decode cX9_pass 15 = .ok (.aload_n 0, 1) := by decide +kernel
theorem dX9_pass_16 : decode cX9_pass 16 = .ok (.getfield 120, 3) := by decide +kernel
theorem dX9_pass_19 : decode cX9_pass 19 = .ok (.iload_n 1, 1) := by decide +kernel
theorem dX9_pass_20 : decode cX9_pass 20 = .ok (.iadd, 1) := by decide +kernel
theorem dX9_pass_21 : decode cX9_pass 21 = .ok (.sipush 1000, 3) := by decide +kernel
theorem dX9_pass_24 : decode cX9_pass 24 = .ok (.if_icmp .le 7, 3) := by decide +kernel
theorem dX9_pass_27 : decode cX9_pass 27 = .ok (.iconst 2, 1) := by decide +kernel
theorem dX9_pass_28 : decode cX9_pass 28 = .ok (.goto 4, 3) := by decide +kernel
theorem dX9_pass_31 : decode cX9_pass 31 = .ok (.iconst 0, 1) := by decide +kernel
theorem dX9_pass_32 : decode cX9_pass 32 = .ok (.putfield 96, 3) := by decide +kernel
end
section
theorem dX9_pass_35 : decode cX9_pass 35 = .ok (.iconst 0, 1) := by decide +kernel
theorem dX9_pass_36 : decode cX9_pass 36 = .ok (.istore_n 2, 1) := by decide +kernel
theorem dX9_pass_37 : decode cX9_pass 37 = .ok (.iload_n 2, 1) := by decide +kernel
theorem dX9_pass_38 : decode cX9_pass 38 = .ok (.iload_n 1, 1) := by decide +kernel
theorem dX9_pass_39 : decode cX9_pass 39 = .ok (.if_icmp .ge 104, 3) := by decide +kernel
theorem dX9_pass_42 : decode cX9_pass 42 = .ok (.aload_n 0, 1) := by decide +kernel
theorem dX9_pass_43 : decode cX9_pass 43 = .ok (.getfield 96, 3) := by decide +kernel
theorem dX9_pass_46 : decode cX9_pass 46 = .ok (.ifCond .ne 97, 3) := by decide +kernel
theorem dX9_pass_49 : decode cX9_pass 49 = .ok (.aload_n 0, 1) := by decide +kernel
theorem dX9_pass_50 : decode cX9_pass 50 = .ok (.dup, 1) := by decide +kernel
theorem dX9_pass_51 : decode cX9_pass 51 = .ok (.getfield 120, 3) := by decide +kernel
theorem dX9_pass_54 : decode cX9_pass 54 = .ok (.iconst 1, 1) := by decide +kernel
theorem dX9_pass_55 : decode cX9_pass 55 = .ok (.iadd, 1) := by decide +kernel
theorem dX9_pass_56 : decode cX9_pass 56 = .ok (.putfield 120, 3) := by decide +kernel
theorem dX9_pass_59 : decode cX9_pass 59 = .ok (.aload_n 0, 1) := by decide +kernel
theorem dX9_pass_60 : decode cX9_pass 60 = .ok (.invokevirtual 146, 3) := by decide +kernel
theorem dX9_pass_63 : decode cX9_pass 63 = .ok (.iconst 0, 1) := by decide +kernel
theorem dX9_pass_64 : decode cX9_pass 64 = .ok (.istore_n 3, 1) := by decide +kernel
theorem dX9_pass_65 : decode cX9_pass 65 = .ok (.iload_n 3, 1) := by decide +kernel
theorem dX9_pass_66 : decode cX9_pass 66 = .ok (.bipush 60, 2) := by decide +kernel
theorem dX9_pass_68 : decode cX9_pass 68 = .ok (.if_icmp .ge 23, 3) := by decide +kernel
theorem dX9_pass_71 : decode cX9_pass 71 = .ok (.aload_n 0, 1) := by decide +kernel
theorem dX9_pass_72 : decode cX9_pass 72 = .ok (.getfield 7, 3) := by decide +kernel
theorem dX9_pass_75 : decode cX9_pass 75 = .ok (.iload_n 3, 1) := by decide +kernel
theorem dX9_pass_76 : decode cX9_pass 76 = .ok (.baload, 1) := by decide +kernel
theorem dX9_pass_77 : decode cX9_pass 77 = .ok (.ifCond .ne 8, 3) := by decide +kernel
theorem dX9_pass_80 : decode cX9_pass 80 = .ok (.aload_n 0, 1) := by decide +kernel
theorem dX9_pass_81 : decode cX9_pass 81 = .ok (.iload_n 3, 1) := by decide +kernel
theorem dX9_pass_82 : decode cX9_pass 82 = .ok (.invokevirtual 149, 3) := by decide +kernel
theorem dX9_pass_85 : decode cX9_pass 85 = .ok (.iinc 3 1, 3) := by decide +kernel
theorem dX9_pass_88 : decode cX9_pass 88 = .ok (.goto (-23), 3) := by decide +kernel
theorem dX9_pass_91 : decode cX9_pass 91 = .ok (.iconst 0, 1) := by decide +kernel
theorem dX9_pass_92 : decode cX9_pass 92 = .ok (.istore_n 3, 1) := by decide +kernel
theorem dX9_pass_93 : decode cX9_pass 93 = .ok (.iload_n 3, 1) := by decide +kernel
theorem dX9_pass_94 : decode cX9_pass 94 = .ok (.aload_n 0, 1) := by decide +kernel
theorem dX9_pass_95 : decode cX9_pass 95 = .ok (.getfield 103, 3) := by decide +kernel
theorem dX9_pass_98 : decode cX9_pass 98 = .ok (.if_icmp .ge 14, 3) := by decide +kernel
theorem dX9_pass_101 : decode cX9_pass 101 = .ok (.aload_n 0, 1) := by decide +kernel
theorem dX9_pass_102 : decode cX9_pass 102 = .ok (.iload_n 3, 1) := by decide +kernel
theorem dX9_pass_103 : decode cX9_pass 103 = .ok (.invokevirtual 153, 3) := by decide +kernel
theorem dX9_pass_106 : decode cX9_pass 106 = .ok (.iinc 3 1, 3) := by decide +kernel
theorem dX9_pass_109 : decode cX9_pass 109 = .ok (.goto (-16), 3) := by decide +kernel
theorem dX9_pass_112 : decode cX9_pass 112 = .ok (.iconst 0, 1) := by decide +kernel
theorem dX9_pass_113 : decode cX9_pass 113 = .ok (.istore_n 3, 1) := by decide +kernel
theorem dX9_pass_114 : decode cX9_pass 114 = .ok (.iload_n 3, 1) := by decide +kernel
theorem dX9_pass_115 : decode cX9_pass 115 = .ok (.aload_n 0, 1) := by decide +kernel
theorem dX9_pass_116 : decode cX9_pass 116 = .ok (.getfield 109, 3) := by decide +kernel
theorem dX9_pass_119 : decode cX9_pass 119 = .ok (.if_icmp .ge 14, 3) := by decide +kernel
theorem dX9_pass_122 : decode cX9_pass 122 = .ok (.aload_n 0, 1) := by decide +kernel
theorem dX9_pass_123 : decode cX9_pass 123 = .ok (.iload_n 3, 1) := by decide +kernel
theorem dX9_pass_124 : decode cX9_pass 124 = .ok (.invokevirtual 155, 3) := by decide +kernel
theorem dX9_pass_127 : decode cX9_pass 127 = .ok (.iinc 3 1, 3) := by decide +kernel
theorem dX9_pass_130 : decode cX9_pass 130 = .ok (.goto (-16), 3) := by decide +kernel
theorem dX9_pass_133 : decode cX9_pass 133 = .ok (.aload_n 0, 1) := by decide +kernel
theorem dX9_pass_134 : decode cX9_pass 134 = .ok (.invokevirtual 158, 3) := by decide +kernel
theorem dX9_pass_137 : decode cX9_pass 137 = .ok (.iinc 2 1, 3) := by decide +kernel
theorem dX9_pass_140 : decode cX9_pass 140 = .ok (.goto (-103), 3) := by decide +kernel
theorem dX9_pass_143 : decode cX9_pass 143 = .ok (.aload_n 0, 1) := by decide +kernel
theorem dX9_pass_144 : decode cX9_pass 144 = .ok (.getfield 96, 3) := by decide +kernel
theorem dX9_pass_147 : decode cX9_pass 147 = .ok (.ifCond .le 7, 3) := by decide +kernel
theorem dX9_pass_150 : decode cX9_pass 150 = .ok (.iconst 0, 1) := by decide +kernel
theorem dX9_pass_151 : decode cX9_pass 151 = .ok (.goto 7, 3) := by decide +kernel
theorem dX9_pass_154 : decode cX9_pass 154 = .ok (.aload_n 0, 1) := by decide +kernel
theorem dX9_pass_155 : decode cX9_pass 155 = .ok (.getfield 120, 3) := by decide +kernel
theorem dX9_pass_158 : decode cX9_pass 158 = .ok (.ireturn, 1) := by decide +kernel
theorem dX9_lay_0 : decode cX9_lay 0 = .ok (.aload_n 0, 1) := by decide +kernel
theorem dX9_lay_1 : decode cX9_lay 1 = .ok (.iload_n 1, 1) := by decide +kernel
theorem dX9_lay_2 : decode cX9_lay 2 = .ok (.invokestatic 116, 3) := by decide +kernel
theorem dX9_lay_5 : decode cX9_lay 5 = .ok (.ifCond .ne 7, 3) := by decide +kernel
theorem dX9_lay_8 : decode cX9_lay 8 = .ok (.iconst 1, 1) := by decide +kernel
theorem dX9_lay_9 : decode cX9_lay 9 = .ok (.goto 40, 3) := by decide +kernel
theorem dX9_lay_12 : decode cX9_lay 12 = .ok (.iload_n 2, 1) := by decide +kernel
theorem dX9_lay_13 : decode cX9_lay 13 = .ok (.iconst 1, 1) := by decide +kernel
theorem dX9_lay_14 : decode cX9_lay 14 = .ok (.bipush 20, 2) := by decide +kernel
theorem dX9_lay_16 : decode cX9_lay 16 = .ok (.invokestatic 99, 3) := by decide +kernel
theorem dX9_lay_19 : decode cX9_lay 19 = .ok (.ifCond .eq 25, 3) := by decide +kernel
theorem dX9_lay_22 : decode cX9_lay 22 = .ok (.iload_n 3, 1) := by decide +kernel
theorem dX9_lay_23 : decode cX9_lay 23 = .ok (.iconst 1, 1) := by decide +kernel
theorem dX9_lay_24 : decode cX9_lay 24 = .ok (.bipush 100, 2) := by decide +kernel
theorem dX9_lay_26 : decode cX9_lay 26 = .ok (.invokestatic 99, 3) := by decide +kernel
theorem dX9_lay_29 : decode cX9_lay 29 = .ok (.ifCond .eq 15, 3) := by decide +kernel
theorem dX9_lay_32 : decode cX9_lay 32 = .ok (.iload 4, 2) := by decide +kernel
theorem dX9_lay_34 : decode cX9_lay 34 = .ok (.bipush (-50), 2) := by decide +kernel
theorem dX9_lay_36 : decode cX9_lay 36 = .ok (.bipush 50, 2) := by decide +kernel
theorem dX9_lay_38 : decode cX9_lay 38 = .ok (.invokestatic 99, 3) := by decide +kernel
theorem dX9_lay_41 : decode cX9_lay 41 = .ok (.ifCond .ne 7, 3) := by decide +kernel
theorem dX9_lay_44 : decode cX9_lay 44 = .ok (.iconst 2, 1) := by decide +kernel
theorem dX9_lay_45 : decode cX9_lay 45 = .ok (.goto 4, 3) := by decide +kernel
theorem dX9_lay_48 : decode cX9_lay 48 = .ok (.iconst 0, 1) := by decide +kernel
theorem dX9_lay_49 : decode cX9_lay 49 = .ok (.putfield 96, 3) := by decide +kernel
theorem dX9_lay_52 : decode cX9_lay 52 = .ok (.aload_n 0, 1) := by decide +kernel
theorem dX9_lay_53 : decode cX9_lay 53 = .ok (.aload_n 0, 1) := by decide +kernel
theorem dX9_lay_54 : decode cX9_lay 54 = .ok (.getfield 96, 3) := by decide +kernel
theorem dX9_lay_57 : decode cX9_lay 57 = .ok (.ifCond .ne 25, 3) := by decide +kernel
theorem dX9_lay_60 : decode cX9_lay 60 = .ok (.aload_n 0, 1) := by decide +kernel
theorem dX9_lay_61 : decode cX9_lay 61 = .ok (.getfield 7, 3) := by decide +kernel
theorem dX9_lay_64 : decode cX9_lay 64 = .ok (.iload_n 1, 1) := by decide +kernel
theorem dX9_lay_65 : decode cX9_lay 65 = .ok (.baload, 1) := by decide +kernel
theorem dX9_lay_66 : decode cX9_lay 66 = .ok (.ifCond .ne 12, 3) := by decide +kernel
theorem dX9_lay_69 : decode cX9_lay 69 = .ok (.aload_n 0, 1) := by decide +kernel
theorem dX9_lay_70 : decode cX9_lay 70 = .ok (.getfield 103, 3) := by decide +kernel
theorem dX9_lay_73 : decode cX9_lay 73 = .ok (.bipush 8, 2) := by decide +kernel
theorem dX9_lay_75 : decode cX9_lay 75 = .ok (.if_icmp .ne 7, 3) := by decide +kernel
theorem dX9_lay_78 : decode cX9_lay 78 = .ok (.iconst 3, 1) := by decide +kernel
theorem dX9_lay_79 : decode cX9_lay 79 = .ok (.goto 7, 3) := by decide +kernel
theorem dX9_lay_82 : decode cX9_lay 82 = .ok (.aload_n 0, 1) := by decide +kernel
theorem dX9_lay_83 : decode cX9_lay 83 = .ok (.getfield 96, 3) := by decide +kernel
theorem dX9_lay_86 : decode cX9_lay 86 = .ok (.putfield 96, 3) := by decide +kernel
theorem dX9_lay_89 : decode cX9_lay 89 = .ok (.aload_n 0, 1) := by decide +kernel
theorem dX9_lay_90 : decode cX9_lay 90 = .ok (.getfield 96, 3) := by decide +kernel
theorem dX9_lay_93 : decode cX9_lay 93 = .ok (.ifCond .le 5, 3) := by decide +kernel
theorem dX9_lay_96 : decode cX9_lay 96 = .ok (.iconst 0, 1) := by decide +kernel
theorem dX9_lay_97 : decode cX9_lay 97 = .ok (.ireturn, 1) := by decide +kernel
theorem dX9_lay_98 : decode cX9_lay 98 = .ok (.aload_n 0, 1) := by decide +kernel
theorem dX9_lay_99 : decode cX9_lay 99 = .ok (.getfield 32, 3) := by decide +kernel
theorem dX9_lay_102 : decode cX9_lay 102 = .ok (.aload_n 0, 1) := by decide +kernel
theorem dX9_lay_103 : decode cX9_lay 103 = .ok (.getfield 103, 3) := by decide +kernel
theorem dX9_lay_106 : decode cX9_lay 106 = .ok (.iload_n 1, 1) := by decide +kernel
theorem dX9_lay_107 : decode cX9_lay 107 = .ok (.iastore, 1) := by decide +kernel
theorem dX9_lay_108 : decode cX9_lay 108 = .ok (.aload_n 0, 1) := by decide +kernel
theorem dX9_lay_109 : decode cX9_lay 109 = .ok (.getfield 35, 3) := by decide +kernel
theorem dX9_lay_112 : decode cX9_lay 112 = .ok (.aload_n 0, 1) := by decide +kernel
theorem dX9_lay_113 : decode cX9_lay 113 = .ok (.getfield 103, 3) := by decide +kernel
theorem dX9_lay_116 : decode cX9_lay 116 = .ok (.iload_n 2, 1) := by decide +kernel
theorem dX9_lay_117 : decode cX9_lay 117 = .ok (.iastore, 1) := by decide +kernel
theorem dX9_lay_118 : decode cX9_lay 118 = .ok (.aload_n 0, 1) := by decide +kernel
theorem dX9_lay_119 : decode cX9_lay 119 = .ok (.getfield 38, 3) := by decide +kernel
theorem dX9_lay_122 : decode cX9_lay 122 = .ok (.aload_n 0, 1) := by decide +kernel
theorem dX9_lay_123 : decode cX9_lay 123 = .ok (.getfield 103, 3) := by decide +kernel
theorem dX9_lay_126 : decode cX9_lay 126 = .ok (.iload_n 2, 1) := by decide +kernel
theorem dX9_lay_127 : decode cX9_lay 127 = .ok (.iastore, 1) := by decide +kernel
theorem dX9_lay_128 : decode cX9_lay 128 = .ok (.aload_n 0, 1) := by decide +kernel
theorem dX9_lay_129 : decode cX9_lay 129 = .ok (.getfield 41, 3) := by decide +kernel
theorem dX9_lay_132 : decode cX9_lay 132 = .ok (.aload_n 0, 1) := by decide +kernel
theorem dX9_lay_133 : decode cX9_lay 133 = .ok (.getfield 103, 3) := by decide +kernel
theorem dX9_lay_136 : decode cX9_lay 136 = .ok (.iload_n 3, 1) := by decide +kernel
theorem dX9_lay_137 : decode cX9_lay 137 = .ok (.iastore, 1) := by decide +kernel
theorem dX9_lay_138 : decode cX9_lay 138 = .ok (.aload_n 0, 1) := by decide +kernel
theorem dX9_lay_139 : decode cX9_lay 139 = .ok (.getfield 44, 3) := by decide +kernel
theorem dX9_lay_142 : decode cX9_lay 142 = .ok (.aload_n 0, 1) := by decide +kernel
theorem dX9_lay_143 : decode cX9_lay 143 = .ok (.getfield 103, 3) := by decide +kernel
theorem dX9_lay_146 : decode cX9_lay 146 = .ok (.iload 4, 2) := by decide +kernel
theorem dX9_lay_148 : decode cX9_lay 148 = .ok (.iastore, 1) := by decide +kernel
theorem dX9_lay_149 : decode cX9_lay 149 = .ok (.aload_n 0, 1) := by decide +kernel
theorem dX9_lay_150 : decode cX9_lay 150 = .ok (.dup, 1) := by decide +kernel
theorem dX9_lay_151 : decode cX9_lay 151 = .ok (.getfield 103, 3) := by decide +kernel
theorem dX9_lay_154 : decode cX9_lay 154 = .ok (.iconst 1, 1) := by decide +kernel
theorem dX9_lay_155 : decode cX9_lay 155 = .ok (.iadd, 1) := by decide +kernel
theorem dX9_lay_156 : decode cX9_lay 156 = .ok (.putfield 103, 3) := by decide +kernel
theorem dX9_lay_159 : decode cX9_lay 159 = .ok (.aload_n 0, 1) := by decide +kernel
theorem dX9_lay_160 : decode cX9_lay 160 = .ok (.getfield 103, 3) := by decide +kernel
theorem dX9_lay_163 : decode cX9_lay 163 = .ok (.iconst 1, 1) := by decide +kernel
theorem dX9_lay_164 : decode cX9_lay 164 = .ok (.isub, 1) := by decide +kernel
theorem dX9_lay_165 : decode cX9_lay 165 = .ok (.ireturn, 1) := by decide +kernel
theorem dX9_station_0 : decode cX9_station 0 = .ok (.aload_n 0, 1) := by decide +kernel
theorem dX9_station_1 : decode cX9_station 1 = .ok (.iload_n 2, 1) := by decide +kernel
theorem dX9_station_2 : decode cX9_station 2 = .ok (.invokestatic 116, 3) := by decide +kernel
theorem dX9_station_5 : decode cX9_station 5 = .ok (.ifCond .ne 7, 3) := by decide +kernel
theorem dX9_station_8 : decode cX9_station 8 = .ok (.iconst 1, 1) := by decide +kernel
theorem dX9_station_9 : decode cX9_station 9 = .ok (.goto 24, 3) := by decide +kernel
theorem dX9_station_12 : decode cX9_station 12 = .ok (.iload_n 1, 1) := by decide +kernel
theorem dX9_station_13 : decode cX9_station 13 = .ok (.aload_n 0, 1) := by decide +kernel
theorem dX9_station_14 : decode cX9_station 14 = .ok (.getfield 120, 3) := by decide +kernel
theorem dX9_station_17 : decode cX9_station 17 = .ok (.iconst 1, 1) := by decide +kernel
theorem dX9_station_18 : decode cX9_station 18 = .ok (.iadd, 1) := by decide +kernel
theorem dX9_station_19 : decode cX9_station 19 = .ok (.sipush 1000, 3) := by decide +kernel
theorem dX9_station_22 : decode cX9_station 22 = .ok (.invokestatic 99, 3) := by decide +kernel
theorem dX9_station_25 : decode cX9_station 25 = .ok (.ifCond .ne 7, 3) := by decide +kernel
theorem dX9_station_28 : decode cX9_station 28 = .ok (.iconst 2, 1) := by decide +kernel
theorem dX9_station_29 : decode cX9_station 29 = .ok (.goto 4, 3) := by decide +kernel
theorem dX9_station_32 : decode cX9_station 32 = .ok (.iconst 0, 1) := by decide +kernel
theorem dX9_station_33 : decode cX9_station 33 = .ok (.putfield 96, 3) := by decide +kernel
theorem dX9_station_36 : decode cX9_station 36 = .ok (.aload_n 0, 1) := by decide +kernel
theorem dX9_station_37 : decode cX9_station 37 = .ok (.aload_n 0, 1) := by decide +kernel
theorem dX9_station_38 : decode cX9_station 38 = .ok (.getfield 96, 3) := by decide +kernel
theorem dX9_station_41 : decode cX9_station 41 = .ok (.ifCond .ne 35, 3) := by decide +kernel
theorem dX9_station_44 : decode cX9_station 44 = .ok (.aload_n 0, 1) := by decide +kernel
theorem dX9_station_45 : decode cX9_station 45 = .ok (.getfield 7, 3) := by decide +kernel
theorem dX9_station_48 : decode cX9_station 48 = .ok (.iload_n 2, 1) := by decide +kernel
theorem dX9_station_49 : decode cX9_station 49 = .ok (.baload, 1) := by decide +kernel
theorem dX9_station_50 : decode cX9_station 50 = .ok (.ifCond .ne 22, 3) := by decide +kernel
theorem dX9_station_53 : decode cX9_station 53 = .ok (.aload_n 0, 1) := by decide +kernel
theorem dX9_station_54 : decode cX9_station 54 = .ok (.iload_n 1, 1) := by decide +kernel
theorem dX9_station_55 : decode cX9_station 55 = .ok (.iload_n 2, 1) := by decide +kernel
theorem dX9_station_56 : decode cX9_station 56 = .ok (.invokevirtual 140, 3) := by decide +kernel
theorem dX9_station_59 : decode cX9_station 59 = .ok (.iconst (-1), 1) := by decide +kernel
theorem dX9_station_60 : decode cX9_station 60 = .ok (.if_icmp .ne 12, 3) := by decide +kernel
theorem dX9_station_63 : decode cX9_station 63 = .ok (.aload_n 0, 1) := by decide +kernel
theorem dX9_station_64 : decode cX9_station 64 = .ok (.getfield 123, 3) := by decide +kernel
theorem dX9_station_67 : decode cX9_station 67 = .ok (.bipush 30, 2) := by decide +kernel
theorem dX9_station_69 : decode cX9_station 69 = .ok (.if_icmp .ne 7, 3) := by decide +kernel
theorem dX9_station_72 : decode cX9_station 72 = .ok (.iconst 3, 1) := by decide +kernel
theorem dX9_station_73 : decode cX9_station 73 = .ok (.goto 7, 3) := by decide +kernel
theorem dX9_station_76 : decode cX9_station 76 = .ok (.aload_n 0, 1) := by decide +kernel
theorem dX9_station_77 : decode cX9_station 77 = .ok (.getfield 96, 3) := by decide +kernel
theorem dX9_station_80 : decode cX9_station 80 = .ok (.putfield 96, 3) := by decide +kernel
theorem dX9_station_83 : decode cX9_station 83 = .ok (.aload_n 0, 1) := by decide +kernel
theorem dX9_station_84 : decode cX9_station 84 = .ok (.getfield 96, 3) := by decide +kernel
theorem dX9_station_87 : decode cX9_station 87 = .ok (.ifCond .le 5, 3) := by decide +kernel
theorem dX9_station_90 : decode cX9_station 90 = .ok (.iconst 0, 1) := by decide +kernel
theorem dX9_station_91 : decode cX9_station 91 = .ok (.ireturn, 1) := by decide +kernel
theorem dX9_station_92 : decode cX9_station 92 = .ok (.aload_n 0, 1) := by decide +kernel
theorem dX9_station_93 : decode cX9_station 93 = .ok (.getfield 50, 3) := by decide +kernel
theorem dX9_station_96 : decode cX9_station 96 = .ok (.aload_n 0, 1) := by decide +kernel
theorem dX9_station_97 : decode cX9_station 97 = .ok (.getfield 123, 3) := by decide +kernel
theorem dX9_station_100 : decode cX9_station 100 = .ok (.iload_n 1, 1) := by decide +kernel
theorem dX9_station_101 : decode cX9_station 101 = .ok (.iastore, 1) := by decide +kernel
theorem dX9_station_102 : decode cX9_station 102 = .ok (.aload_n 0, 1) := by decide +kernel
theorem dX9_station_103 : decode cX9_station 103 = .ok (.getfield 53, 3) := by decide +kernel
theorem dX9_station_106 : decode cX9_station 106 = .ok (.aload_n 0, 1) := by decide +kernel
theorem dX9_station_107 : decode cX9_station 107 = .ok (.getfield 123, 3) := by decide +kernel
theorem dX9_station_110 : decode cX9_station 110 = .ok (.iload_n 2, 1) := by decide +kernel
theorem dX9_station_111 : decode cX9_station 111 = .ok (.iastore, 1) := by decide +kernel
theorem dX9_station_112 : decode cX9_station 112 = .ok (.aload_n 0, 1) := by decide +kernel
theorem dX9_station_113 : decode cX9_station 113 = .ok (.dup, 1) := by decide +kernel
theorem dX9_station_114 : decode cX9_station 114 = .ok (.getfield 123, 3) := by decide +kernel
theorem dX9_station_117 : decode cX9_station 117 = .ok (.iconst 1, 1) := by decide +kernel
theorem dX9_station_118 : decode cX9_station 118 = .ok (.iadd, 1) := by decide +kernel
theorem dX9_station_119 : decode cX9_station 119 = .ok (.putfield 123, 3) := by decide +kernel
theorem dX9_station_122 : decode cX9_station 122 = .ok (.aload_n 0, 1) := by decide +kernel
theorem dX9_station_123 : decode cX9_station 123 = .ok (.getfield 123, 3) := by decide +kernel
theorem dX9_station_126 : decode cX9_station 126 = .ok (.ireturn, 1) := by decide +kernel
theorem dX9_storm_0 : decode cX9_storm 0 = .ok (.aload_n 0, 1) := by decide +kernel
theorem dX9_storm_1 : decode cX9_storm 1 = .ok (.iload_n 1, 1) := by decide +kernel
theorem dX9_storm_2 : decode cX9_storm 2 = .ok (.aload_n 0, 1) := by decide +kernel
theorem dX9_storm_3 : decode cX9_storm 3 = .ok (.getfield 120, 3) := by decide +kernel
theorem dX9_storm_6 : decode cX9_storm 6 = .ok (.iconst 1, 1) := by decide +kernel
theorem dX9_storm_7 : decode cX9_storm 7 = .ok (.iadd, 1) := by decide +kernel
theorem dX9_storm_8 : decode cX9_storm 8 = .ok (.sipush 1000, 3) := by decide +kernel
theorem dX9_storm_11 : decode cX9_storm 11 = .ok (.invokestatic 99, 3) := by decide +kernel
theorem dX9_storm_14 : decode cX9_storm 14 = .ok (.ifCond .eq 14, 3) := by decide +kernel
theorem dX9_storm_17 : decode cX9_storm 17 = .ok (.iload_n 2, 1) := by decide +kernel
theorem dX9_storm_18 : decode cX9_storm 18 = .ok (.iload_n 1, 1) := by decide +kernel
theorem dX9_storm_19 : decode cX9_storm 19 = .ok (.sipush 1000, 3) := by decide +kernel
theorem dX9_storm_22 : decode cX9_storm 22 = .ok (.invokestatic 99, 3) := by decide +kernel
theorem dX9_storm_25 : decode cX9_storm 25 = .ok (.ifCond .ne 7, 3) := by decide +kernel
theorem dX9_storm_28 : decode cX9_storm 28 = .ok (.iconst 1, 1) := by decide +kernel
theorem dX9_storm_29 : decode cX9_storm 29 = .ok (.goto 17, 3) := by decide +kernel
theorem dX9_storm_32 : decode cX9_storm 32 = .ok (.aload_n 0, 1) := by decide +kernel
theorem dX9_storm_33 : decode cX9_storm 33 = .ok (.getfield 137, 3) := by decide +kernel
theorem dX9_storm_36 : decode cX9_storm 36 = .ok (.bipush 20, 2) := by decide +kernel
theorem dX9_storm_38 : decode cX9_storm 38 = .ok (.if_icmp .ne 7, 3) := by decide +kernel
theorem dX9_storm_41 : decode cX9_storm 41 = .ok (.iconst 2, 1) := by decide +kernel
theorem dX9_storm_42 : decode cX9_storm 42 = .ok (.goto 4, 3) := by decide +kernel
theorem dX9_storm_45 : decode cX9_storm 45 = .ok (.iconst 0, 1) := by decide +kernel
theorem dX9_storm_46 : decode cX9_storm 46 = .ok (.putfield 96, 3) := by decide +kernel
theorem dX9_storm_49 : decode cX9_storm 49 = .ok (.aload_n 0, 1) := by decide +kernel
theorem dX9_storm_50 : decode cX9_storm 50 = .ok (.getfield 96, 3) := by decide +kernel
theorem dX9_storm_53 : decode cX9_storm 53 = .ok (.ifCond .le 5, 3) := by decide +kernel
theorem dX9_storm_56 : decode cX9_storm 56 = .ok (.iconst 0, 1) := by decide +kernel
theorem dX9_storm_57 : decode cX9_storm 57 = .ok (.ireturn, 1) := by decide +kernel
theorem dX9_storm_58 : decode cX9_storm 58 = .ok (.iconst 0, 1) := by decide +kernel
theorem dX9_storm_59 : decode cX9_storm 59 = .ok (.istore_n 3, 1) := by decide +kernel
theorem dX9_storm_60 : decode cX9_storm 60 = .ok (.iconst 0, 1) := by decide +kernel
theorem dX9_storm_61 : decode cX9_storm 61 = .ok (.istore 4, 2) := by decide +kernel
theorem dX9_storm_63 : decode cX9_storm 63 = .ok (.iload 4, 2) := by decide +kernel
theorem dX9_storm_65 : decode cX9_storm 65 = .ok (.aload_n 0, 1) := by decide +kernel
theorem dX9_storm_66 : decode cX9_storm 66 = .ok (.getfield 123, 3) := by decide +kernel
theorem dX9_storm_69 : decode cX9_storm 69 = .ok (.if_icmp .ge 46, 3) := by decide +kernel
theorem dX9_storm_72 : decode cX9_storm 72 = .ok (.iload_n 3, 1) := by decide +kernel
theorem dX9_storm_73 : decode cX9_storm 73 = .ok (.aload_n 0, 1) := by decide +kernel
theorem dX9_storm_74 : decode cX9_storm 74 = .ok (.getfield 50, 3) := by decide +kernel
theorem dX9_storm_77 : decode cX9_storm 77 = .ok (.iload 4, 2) := by decide +kernel
theorem dX9_storm_79 : decode cX9_storm 79 = .ok (.iaload, 1) := by decide +kernel
theorem dX9_storm_80 : decode cX9_storm 80 = .ok (.iload_n 1, 1) := by decide +kernel
theorem dX9_storm_81 : decode cX9_storm 81 = .ok (.iload_n 2, 1) := by decide +kernel
theorem dX9_storm_82 : decode cX9_storm 82 = .ok (.invokestatic 99, 3) := by decide +kernel
theorem dX9_storm_85 : decode cX9_storm 85 = .ok (.ifCond .eq 21, 3) := by decide +kernel
theorem dX9_storm_88 : decode cX9_storm 88 = .ok (.aload_n 0, 1) := by decide +kernel
theorem dX9_storm_89 : decode cX9_storm 89 = .ok (.aload_n 0, 1) := by decide +kernel
theorem dX9_storm_90 : decode cX9_storm 90 = .ok (.getfield 50, 3) := by decide +kernel
theorem dX9_storm_93 : decode cX9_storm 93 = .ok (.iload 4, 2) := by decide +kernel
theorem dX9_storm_95 : decode cX9_storm 95 = .ok (.iaload, 1) := by decide +kernel
theorem dX9_storm_96 : decode cX9_storm 96 = .ok (.invokevirtual 143, 3) := by decide +kernel
theorem dX9_storm_99 : decode cX9_storm 99 = .ok (.ifCond .ne 7, 3) := by decide +kernel
theorem dX9_storm_102 : decode cX9_storm 102 = .ok (.iconst 1, 1) := by decide +kernel
theorem dX9_storm_103 : decode cX9_storm 103 = .ok (.goto 4, 3) := by decide +kernel
theorem dX9_storm_106 : decode cX9_storm 106 = .ok (.iconst 0, 1) := by decide +kernel
theorem dX9_storm_107 : decode cX9_storm 107 = .ok (.iadd, 1) := by decide +kernel
theorem dX9_storm_108 : decode cX9_storm 108 = .ok (.istore_n 3, 1) := by decide +kernel
theorem dX9_storm_109 : decode cX9_storm 109 = .ok (.iinc 4 1, 3) := by decide +kernel
theorem dX9_storm_112 : decode cX9_storm 112 = .ok (.goto (-49), 3) := by decide +kernel
theorem dX9_storm_115 : decode cX9_storm 115 = .ok (.aload_n 0, 1) := by decide +kernel
theorem dX9_storm_116 : decode cX9_storm 116 = .ok (.getfield 56, 3) := by decide +kernel
theorem dX9_storm_119 : decode cX9_storm 119 = .ok (.aload_n 0, 1) := by decide +kernel
theorem dX9_storm_120 : decode cX9_storm 120 = .ok (.getfield 137, 3) := by decide +kernel
theorem dX9_storm_123 : decode cX9_storm 123 = .ok (.iload_n 1, 1) := by decide +kernel
theorem dX9_storm_124 : decode cX9_storm 124 = .ok (.iastore, 1) := by decide +kernel
theorem dX9_storm_125 : decode cX9_storm 125 = .ok (.aload_n 0, 1) := by decide +kernel
theorem dX9_storm_126 : decode cX9_storm 126 = .ok (.getfield 59, 3) := by decide +kernel
theorem dX9_storm_129 : decode cX9_storm 129 = .ok (.aload_n 0, 1) := by decide +kernel
theorem dX9_storm_130 : decode cX9_storm 130 = .ok (.getfield 137, 3) := by decide +kernel
theorem dX9_storm_133 : decode cX9_storm 133 = .ok (.iload_n 2, 1) := by decide +kernel
theorem dX9_storm_134 : decode cX9_storm 134 = .ok (.iastore, 1) := by decide +kernel
theorem dX9_storm_135 : decode cX9_storm 135 = .ok (.aload_n 0, 1) := by decide +kernel
theorem dX9_storm_136 : decode cX9_storm 136 = .ok (.dup, 1) := by decide +kernel
theorem dX9_storm_137 : decode cX9_storm 137 = .ok (.getfield 137, 3) := by decide +kernel
theorem dX9_storm_140 : decode cX9_storm 140 = .ok (.iconst 1, 1) := by decide +kernel
theorem dX9_storm_141 : decode cX9_storm 141 = .ok (.iadd, 1) := by decide +kernel
theorem dX9_storm_142 : decode cX9_storm 142 = .ok (.putfield 137, 3) := by decide +kernel
theorem dX9_storm_145 : decode cX9_storm 145 = .ok (.iload_n 3, 1) := by decide +kernel
theorem dX9_storm_146 : decode cX9_storm 146 = .ok (.ireturn, 1) := by decide +kernel
theorem dX9_shipFor_0 : decode cX9_shipFor 0 = .ok (.iconst (-1), 1) := by decide +kernel
theorem dX9_shipFor_1 : decode cX9_shipFor 1 = .ok (.istore_n 2, 1) := by decide +kernel
theorem dX9_shipFor_2 : decode cX9_shipFor 2 = .ok (.iconst 0, 1) := by decide +kernel
theorem dX9_shipFor_3 : decode cX9_shipFor 3 = .ok (.istore_n 3, 1) := by decide +kernel
theorem dX9_shipFor_4 : decode cX9_shipFor 4 = .ok (.iload_n 3, 1) := by decide +kernel
theorem dX9_shipFor_5 : decode cX9_shipFor 5 = .ok (.aload_n 0, 1) := by decide +kernel
theorem dX9_shipFor_6 : decode cX9_shipFor 6 = .ok (.getfield 106, 3) := by decide +kernel
theorem dX9_shipFor_9 : decode cX9_shipFor 9 = .ok (.if_icmp .ge 102, 3) := by decide +kernel
theorem dX9_shipFor_12 : decode cX9_shipFor 12 = .ok (.aload_n 0, 1) := by decide +kernel
theorem dX9_shipFor_13 : decode cX9_shipFor 13 = .ok (.getfield 62, 3) := by decide +kernel
theorem dX9_shipFor_16 : decode cX9_shipFor 16 = .ok (.iload_n 3, 1) := by decide +kernel
theorem dX9_shipFor_17 : decode cX9_shipFor 17 = .ok (.iaload, 1) := by decide +kernel
theorem dX9_shipFor_18 : decode cX9_shipFor 18 = .ok (.aload_n 0, 1) := by decide +kernel
theorem dX9_shipFor_19 : decode cX9_shipFor 19 = .ok (.getfield 62, 3) := by decide +kernel
theorem dX9_shipFor_22 : decode cX9_shipFor 22 = .ok (.iload_n 1, 1) := by decide +kernel
theorem dX9_shipFor_23 : decode cX9_shipFor 23 = .ok (.iaload, 1) := by decide +kernel
theorem dX9_shipFor_24 : decode cX9_shipFor 24 = .ok (.isub, 1) := by decide +kernel
theorem dX9_shipFor_25 : decode cX9_shipFor 25 = .ok (.invokestatic 161, 3) := by decide +kernel
theorem dX9_shipFor_28 : decode cX9_shipFor 28 = .ok (.istore 4, 2) := by decide +kernel
theorem dX9_shipFor_30 : decode cX9_shipFor 30 = .ok (.aload_n 0, 1) := by decide +kernel
theorem dX9_shipFor_31 : decode cX9_shipFor 31 = .ok (.getfield 71, 3) := by decide +kernel
theorem dX9_shipFor_34 : decode cX9_shipFor 34 = .ok (.iload_n 3, 1) := by decide +kernel
theorem dX9_shipFor_35 : decode cX9_shipFor 35 = .ok (.iaload, 1) := by decide +kernel
theorem dX9_shipFor_36 : decode cX9_shipFor 36 = .ok (.iconst (-1), 1) := by decide +kernel
theorem dX9_shipFor_37 : decode cX9_shipFor 37 = .ok (.if_icmp .ne 28, 3) := by decide +kernel
theorem dX9_shipFor_40 : decode cX9_shipFor 40 = .ok (.aload_n 0, 1) := by decide +kernel
theorem dX9_shipFor_41 : decode cX9_shipFor 41 = .ok (.getfield 65, 3) := by decide +kernel
theorem dX9_shipFor_44 : decode cX9_shipFor 44 = .ok (.iload_n 3, 1) := by decide +kernel
theorem dX9_shipFor_45 : decode cX9_shipFor 45 = .ok (.iaload, 1) := by decide +kernel
theorem dX9_shipFor_46 : decode cX9_shipFor 46 = .ok (.aload_n 0, 1) := by decide +kernel
theorem dX9_shipFor_47 : decode cX9_shipFor 47 = .ok (.getfield 65, 3) := by decide +kernel
theorem dX9_shipFor_50 : decode cX9_shipFor 50 = .ok (.iload_n 1, 1) := by decide +kernel
theorem dX9_shipFor_51 : decode cX9_shipFor 51 = .ok (.iaload, 1) := by decide +kernel
theorem dX9_shipFor_52 : decode cX9_shipFor 52 = .ok (.if_icmp .ne 13, 3) := by decide +kernel
theorem dX9_shipFor_55 : decode cX9_shipFor 55 = .ok (.iload 4, 2) := by decide +kernel
theorem dX9_shipFor_57 : decode cX9_shipFor 57 = .ok (.iconst 2, 1) := by decide +kernel
theorem dX9_shipFor_58 : decode cX9_shipFor 58 = .ok (.if_icmp .gt 7, 3) := by decide +kernel
theorem dX9_shipFor_61 : decode cX9_shipFor 61 = .ok (.iconst 1, 1) := by decide +kernel
theorem dX9_shipFor_62 : decode cX9_shipFor 62 = .ok (.goto 4, 3) := by decide +kernel
theorem dX9_shipFor_65 : decode cX9_shipFor 65 = .ok (.iconst 0, 1) := by decide +kernel
theorem dX9_shipFor_66 : decode cX9_shipFor 66 = .ok (.istore 5, 2) := by decide +kernel
theorem dX9_shipFor_68 : decode cX9_shipFor 68 = .ok (.iload 5, 2) := by decide +kernel
theorem dX9_shipFor_70 : decode cX9_shipFor 70 = .ok (.ifCond .eq 33, 3) := by decide +kernel
theorem dX9_shipFor_73 : decode cX9_shipFor 73 = .ok (.iload_n 2, 1) := by decide +kernel
theorem dX9_shipFor_74 : decode cX9_shipFor 74 = .ok (.iconst (-1), 1) := by decide +kernel
theorem dX9_shipFor_75 : decode cX9_shipFor 75 = .ok (.if_icmp .eq 24, 3) := by decide +kernel
theorem dX9_shipFor_78 : decode cX9_shipFor 78 = .ok (.iload 4, 2) := by decide +kernel
theorem dX9_shipFor_80 : decode cX9_shipFor 80 = .ok (.aload_n 0, 1) := by decide +kernel
theorem dX9_shipFor_81 : decode cX9_shipFor 81 = .ok (.getfield 62, 3) := by decide +kernel
theorem dX9_shipFor_84 : decode cX9_shipFor 84 = .ok (.iload_n 2, 1) := by decide +kernel
theorem dX9_shipFor_85 : decode cX9_shipFor 85 = .ok (.iaload, 1) := by decide +kernel
theorem dX9_shipFor_86 : decode cX9_shipFor 86 = .ok (.aload_n 0, 1) := by decide +kernel
theorem dX9_shipFor_87 : decode cX9_shipFor 87 = .ok (.getfield 62, 3) := by decide +kernel
theorem dX9_shipFor_90 : decode cX9_shipFor 90 = .ok (.iload_n 1, 1) := by decide +kernel
theorem dX9_shipFor_91 : decode cX9_shipFor 91 = .ok (.iaload, 1) := by decide +kernel
theorem dX9_shipFor_92 : decode cX9_shipFor 92 = .ok (.isub, 1) := by decide +kernel
theorem dX9_shipFor_93 : decode cX9_shipFor 93 = .ok (.invokestatic 161, 3) := by decide +kernel
theorem dX9_shipFor_96 : decode cX9_shipFor 96 = .ok (.if_icmp .ge 7, 3) := by decide +kernel
theorem dX9_shipFor_99 : decode cX9_shipFor 99 = .ok (.iload_n 3, 1) := by decide +kernel
theorem dX9_shipFor_100 : decode cX9_shipFor 100 = .ok (.goto 4, 3) := by decide +kernel
theorem dX9_shipFor_103 : decode cX9_shipFor 103 = .ok (.iload_n 2, 1) := by decide +kernel
theorem dX9_shipFor_104 : decode cX9_shipFor 104 = .ok (.istore_n 2, 1) := by decide +kernel
theorem dX9_shipFor_105 : decode cX9_shipFor 105 = .ok (.iinc 3 1, 3) := by decide +kernel
theorem dX9_shipFor_108 : decode cX9_shipFor 108 = .ok (.goto (-104), 3) := by decide +kernel
theorem dX9_shipFor_111 : decode cX9_shipFor 111 = .ok (.iload_n 2, 1) := by decide +kernel
theorem dX9_shipFor_112 : decode cX9_shipFor 112 = .ok (.ireturn, 1) := by decide +kernel
theorem dX9_calibrate_0 : decode cX9_calibrate 0 = .ok (.aload_n 0, 1) := by decide +kernel
theorem dX9_calibrate_1 : decode cX9_calibrate 1 = .ok (.iload_n 1, 1) := by decide +kernel
theorem dX9_calibrate_2 : decode cX9_calibrate 2 = .ok (.invokevirtual 164, 3) := by decide +kernel
theorem dX9_calibrate_5 : decode cX9_calibrate 5 = .ok (.ifCond .ne 10, 3) := by decide +kernel
theorem dX9_calibrate_8 : decode cX9_calibrate 8 = .ok (.aload_n 0, 1) := by decide +kernel
theorem dX9_calibrate_9 : decode cX9_calibrate 9 = .ok (.iconst 1, 1) := by decide +kernel
theorem dX9_calibrate_10 : decode cX9_calibrate 10 = .ok (.putfield 96, 3) := by decide +kernel
theorem dX9_calibrate_13 : decode cX9_calibrate 13 = .ok (.iconst 0, 1) := by decide +kernel
theorem dX9_calibrate_14 : decode cX9_calibrate 14 = .ok (.ireturn, 1) := by decide +kernel
theorem dX9_calibrate_15 : decode cX9_calibrate 15 = .ok (.aload_n 0, 1) := by decide +kernel
theorem dX9_calibrate_16 : decode cX9_calibrate 16 = .ok (.iconst 2, 1) := by decide +kernel
theorem dX9_calibrate_17 : decode cX9_calibrate 17 = .ok (.putfield 96, 3) := by decide +kernel
theorem dX9_calibrate_20 : decode cX9_calibrate 20 = .ok (.aload_n 0, 1) := by decide +kernel
theorem dX9_calibrate_21 : decode cX9_calibrate 21 = .ok (.getfield 106, 3) := by decide +kernel
theorem dX9_calibrate_24 : decode cX9_calibrate 24 = .ok (.iconst 1, 1) := by decide +kernel
theorem dX9_calibrate_25 : decode cX9_calibrate 25 = .ok (.isub, 1) := by decide +kernel
theorem dX9_calibrate_26 : decode cX9_calibrate 26 = .ok (.istore_n 2, 1) := by decide +kernel
theorem dX9_calibrate_27 : decode cX9_calibrate 27 = .ok (.iload_n 2, 1) := by decide +kernel
theorem dX9_calibrate_28 : decode cX9_calibrate 28 = .ok (.ifCond .lt 65, 3) := by decide +kernel
theorem dX9_calibrate_31 : decode cX9_calibrate 31 = .ok (.aload_n 0, 1) := by decide +kernel
theorem dX9_calibrate_32 : decode cX9_calibrate 32 = .ok (.getfield 96, 3) := by decide +kernel
theorem dX9_calibrate_35 : decode cX9_calibrate 35 = .ok (.ifCond .le 58, 3) := by decide +kernel
theorem dX9_calibrate_38 : decode cX9_calibrate 38 = .ok (.aload_n 0, 1) := by decide +kernel
theorem dX9_calibrate_39 : decode cX9_calibrate 39 = .ok (.getfield 71, 3) := by decide +kernel
theorem dX9_calibrate_42 : decode cX9_calibrate 42 = .ok (.iload_n 2, 1) := by decide +kernel
theorem dX9_calibrate_43 : decode cX9_calibrate 43 = .ok (.iaload, 1) := by decide +kernel
theorem dX9_calibrate_44 : decode cX9_calibrate 44 = .ok (.iload_n 1, 1) := by decide +kernel
theorem dX9_calibrate_45 : decode cX9_calibrate 45 = .ok (.if_icmp .ne 11, 3) := by decide +kernel
theorem dX9_calibrate_48 : decode cX9_calibrate 48 = .ok (.aload_n 0, 1) := by decide +kernel
theorem dX9_calibrate_49 : decode cX9_calibrate 49 = .ok (.iload_n 2, 1) := by decide +kernel
theorem dX9_calibrate_50 : decode cX9_calibrate 50 = .ok (.invokevirtual 167, 3) := by decide +kernel
theorem dX9_calibrate_53 : decode cX9_calibrate 53 = .ok (.goto 4, 3) := by decide +kernel
theorem dX9_calibrate_56 : decode cX9_calibrate 56 = .ok (.iconst (-1), 1) := by decide +kernel
theorem dX9_calibrate_57 : decode cX9_calibrate 57 = .ok (.istore_n 3, 1) := by decide +kernel
theorem dX9_calibrate_58 : decode cX9_calibrate 58 = .ok (.iload_n 3, 1) := by decide +kernel
theorem dX9_calibrate_59 : decode cX9_calibrate 59 = .ok (.iconst (-1), 1) := by decide +kernel
theorem dX9_calibrate_60 : decode cX9_calibrate 60 = .ok (.if_icmp .eq 27, 3) := by decide +kernel
theorem dX9_calibrate_63 : decode cX9_calibrate 63 = .ok (.aload_n 0, 1) := by decide +kernel
theorem dX9_calibrate_64 : decode cX9_calibrate 64 = .ok (.getfield 47, 3) := by decide +kernel
theorem dX9_calibrate_67 : decode cX9_calibrate 67 = .ok (.iload_n 1, 1) := by decide +kernel
theorem dX9_calibrate_68 : decode cX9_calibrate 68 = .ok (.aload_n 0, 1) := by decide +kernel
theorem dX9_calibrate_69 : decode cX9_calibrate 69 = .ok (.getfield 68, 3) := by decide +kernel
theorem dX9_calibrate_72 : decode cX9_calibrate 72 = .ok (.iload_n 2, 1) := by decide +kernel
theorem dX9_calibrate_73 : decode cX9_calibrate 73 = .ok (.iaload, 1) := by decide +kernel
theorem dX9_calibrate_74 : decode cX9_calibrate 74 = .ok (.aload_n 0, 1) := by decide +kernel
theorem dX9_calibrate_75 : decode cX9_calibrate 75 = .ok (.getfield 68, 3) := by decide +kernel
theorem dX9_calibrate_78 : decode cX9_calibrate 78 = .ok (.iload_n 3, 1) := by decide +kernel
theorem dX9_calibrate_79 : decode cX9_calibrate 79 = .ok (.iaload, 1) := by decide +kernel
theorem dX9_calibrate_80 : decode cX9_calibrate 80 = .ok (.isub, 1) := by decide +kernel
theorem dX9_calibrate_81 : decode cX9_calibrate 81 = .ok (.iastore, 1) := by decide +kernel
theorem dX9_calibrate_82 : decode cX9_calibrate 82 = .ok (.aload_n 0, 1) := by decide +kernel
theorem dX9_calibrate_83 : decode cX9_calibrate 83 = .ok (.iconst 0, 1) := by decide +kernel
theorem dX9_calibrate_84 : decode cX9_calibrate 84 = .ok (.putfield 96, 3) := by decide +kernel
theorem dX9_calibrate_87 : decode cX9_calibrate 87 = .ok (.iinc 2 (-1), 3) := by decide +kernel
theorem dX9_calibrate_90 : decode cX9_calibrate 90 = .ok (.goto (-63), 3) := by decide +kernel
theorem dX9_calibrate_93 : decode cX9_calibrate 93 = .ok (.aload_n 0, 1) := by decide +kernel
theorem dX9_calibrate_94 : decode cX9_calibrate 94 = .ok (.getfield 96, 3) := by decide +kernel
theorem dX9_calibrate_97 : decode cX9_calibrate 97 = .ok (.ifCond .le 7, 3) := by decide +kernel
theorem dX9_calibrate_100 : decode cX9_calibrate 100 = .ok (.iconst 0, 1) := by decide +kernel
theorem dX9_calibrate_101 : decode cX9_calibrate 101 = .ok (.goto 9, 3) := by decide +kernel
theorem dX9_calibrate_104 : decode cX9_calibrate 104 = .ok (.aload_n 0, 1) := by decide +kernel
theorem dX9_calibrate_105 : decode cX9_calibrate 105 = .ok (.getfield 47, 3) := by decide +kernel
theorem dX9_calibrate_108 : decode cX9_calibrate 108 = .ok (.iload_n 1, 1) := by decide +kernel
theorem dX9_calibrate_109 : decode cX9_calibrate 109 = .ok (.iaload, 1) := by decide +kernel
theorem dX9_calibrate_110 : decode cX9_calibrate 110 = .ok (.ireturn, 1) := by decide +kernel
theorem dX9_corrected_0 : decode cX9_corrected 0 = .ok (.aload_n 0, 1) := by decide +kernel
theorem dX9_corrected_1 : decode cX9_corrected 1 = .ok (.getfield 71, 3) := by decide +kernel
theorem dX9_corrected_4 : decode cX9_corrected 4 = .ok (.iload_n 1, 1) := by decide +kernel
theorem dX9_corrected_5 : decode cX9_corrected 5 = .ok (.iaload, 1) := by decide +kernel
theorem dX9_corrected_6 : decode cX9_corrected 6 = .ok (.iconst (-1), 1) := by decide +kernel
theorem dX9_corrected_7 : decode cX9_corrected 7 = .ok (.if_icmp .ne 12, 3) := by decide +kernel
theorem dX9_corrected_10 : decode cX9_corrected 10 = .ok (.aload_n 0, 1) := by decide +kernel
theorem dX9_corrected_11 : decode cX9_corrected 11 = .ok (.getfield 68, 3) := by decide +kernel
theorem dX9_corrected_14 : decode cX9_corrected 14 = .ok (.iload_n 1, 1) := by decide +kernel
theorem dX9_corrected_15 : decode cX9_corrected 15 = .ok (.iaload, 1) := by decide +kernel
theorem dX9_corrected_16 : decode cX9_corrected 16 = .ok (.goto 21, 3) := by decide +kernel
theorem dX9_corrected_19 : decode cX9_corrected 19 = .ok (.aload_n 0, 1) := by decide +kernel
theorem dX9_corrected_20 : decode cX9_corrected 20 = .ok (.getfield 68, 3) := by decide +kernel
theorem dX9_corrected_23 : decode cX9_corrected 23 = .ok (.iload_n 1, 1) := by decide +kernel
theorem dX9_corrected_24 : decode cX9_corrected 24 = .ok (.iaload, 1) := by decide +kernel
theorem dX9_corrected_25 : decode cX9_corrected 25 = .ok (.aload_n 0, 1) := by decide +kernel
theorem dX9_corrected_26 : decode cX9_corrected 26 = .ok (.getfield 47, 3) := by decide +kernel
theorem dX9_corrected_29 : decode cX9_corrected 29 = .ok (.aload_n 0, 1) := by decide +kernel
theorem dX9_corrected_30 : decode cX9_corrected 30 = .ok (.getfield 71, 3) := by decide +kernel
theorem dX9_corrected_33 : decode cX9_corrected 33 = .ok (.iload_n 1, 1) := by decide +kernel
theorem dX9_corrected_34 : decode cX9_corrected 34 = .ok (.iaload, 1) := by decide +kernel
theorem dX9_corrected_35 : decode cX9_corrected 35 = .ok (.iaload, 1) := by decide +kernel
theorem dX9_corrected_36 : decode cX9_corrected 36 = .ok (.isub, 1) := by decide +kernel
theorem dX9_corrected_37 : decode cX9_corrected 37 = .ok (.ireturn, 1) := by decide +kernel
theorem dX9_flagOf_0 : decode cX9_flagOf 0 = .ok (.aload_n 0, 1) := by decide +kernel
theorem dX9_flagOf_1 : decode cX9_flagOf 1 = .ok (.getfield 74, 3) := by decide +kernel
theorem dX9_flagOf_4 : decode cX9_flagOf 4 = .ok (.iload_n 1, 1) := by decide +kernel
theorem dX9_flagOf_5 : decode cX9_flagOf 5 = .ok (.iaload, 1) := by decide +kernel
theorem dX9_flagOf_6 : decode cX9_flagOf 6 = .ok (.iconst (-1), 1) := by decide +kernel
theorem dX9_flagOf_7 : decode cX9_flagOf 7 = .ok (.if_icmp .ne 13, 3) := by decide +kernel
theorem dX9_flagOf_10 : decode cX9_flagOf 10 = .ok (.aload_n 0, 1) := by decide +kernel
theorem dX9_flagOf_11 : decode cX9_flagOf 11 = .ok (.getfield 71, 3) := by decide +kernel
theorem dX9_flagOf_14 : decode cX9_flagOf 14 = .ok (.iload_n 1, 1) := by decide +kernel
theorem dX9_flagOf_15 : decode cX9_flagOf 15 = .ok (.iaload, 1) := by decide +kernel
theorem dX9_flagOf_16 : decode cX9_flagOf 16 = .ok (.iconst (-1), 1) := by decide +kernel
theorem dX9_flagOf_17 : decode cX9_flagOf 17 = .ok (.if_icmp .ne 24, 3) := by decide +kernel
theorem dX9_flagOf_20 : decode cX9_flagOf 20 = .ok (.aload_n 0, 1) := by decide +kernel
theorem dX9_flagOf_21 : decode cX9_flagOf 21 = .ok (.getfield 74, 3) := by decide +kernel
theorem dX9_flagOf_24 : decode cX9_flagOf 24 = .ok (.iload_n 1, 1) := by decide +kernel
theorem dX9_flagOf_25 : decode cX9_flagOf 25 = .ok (.iaload, 1) := by decide +kernel
theorem dX9_flagOf_26 : decode cX9_flagOf 26 = .ok (.iconst (-1), 1) := by decide +kernel
theorem dX9_flagOf_27 : decode cX9_flagOf 27 = .ok (.if_icmp .eq 12, 3) := by decide +kernel
theorem dX9_flagOf_30 : decode cX9_flagOf 30 = .ok (.aload_n 0, 1) := by decide +kernel
theorem dX9_flagOf_31 : decode cX9_flagOf 31 = .ok (.getfield 74, 3) := by decide +kernel
theorem dX9_flagOf_34 : decode cX9_flagOf 34 = .ok (.iload_n 1, 1) := by decide +kernel
theorem dX9_flagOf_35 : decode cX9_flagOf 35 = .ok (.iaload, 1) := by decide +kernel
theorem dX9_flagOf_36 : decode cX9_flagOf 36 = .ok (.goto 4, 3) := by decide +kernel
theorem dX9_flagOf_39 : decode cX9_flagOf 39 = .ok (.iconst 0, 1) := by decide +kernel
theorem dX9_flagOf_40 : decode cX9_flagOf 40 = .ok (.ireturn, 1) := by decide +kernel
theorem dX9_flagOf_41 : decode cX9_flagOf 41 = .ok (.iconst (-1), 1) := by decide +kernel
theorem dX9_flagOf_42 : decode cX9_flagOf 42 = .ok (.istore_n 2, 1) := by decide +kernel
theorem dX9_flagOf_43 : decode cX9_flagOf 43 = .ok (.iconst (-1), 1) := by decide +kernel
theorem dX9_flagOf_44 : decode cX9_flagOf 44 = .ok (.istore_n 3, 1) := by decide +kernel
theorem dX9_flagOf_45 : decode cX9_flagOf 45 = .ok (.iconst 0, 1) := by decide +kernel
theorem dX9_flagOf_46 : decode cX9_flagOf 46 = .ok (.istore 4, 2) := by decide +kernel
theorem dX9_flagOf_48 : decode cX9_flagOf 48 = .ok (.iload 4, 2) := by decide +kernel
theorem dX9_flagOf_50 : decode cX9_flagOf 50 = .ok (.aload_n 0, 1) := by decide +kernel
theorem dX9_flagOf_51 : decode cX9_flagOf 51 = .ok (.getfield 106, 3) := by decide +kernel
theorem dX9_flagOf_54 : decode cX9_flagOf 54 = .ok (.if_icmp .ge 72, 3) := by decide +kernel
theorem dX9_flagOf_57 : decode cX9_flagOf 57 = .ok (.iload 4, 2) := by decide +kernel
theorem dX9_flagOf_59 : decode cX9_flagOf 59 = .ok (.iload_n 1, 1) := by decide +kernel
theorem dX9_flagOf_60 : decode cX9_flagOf 60 = .ok (.if_icmp .ge 24, 3) := by decide +kernel
theorem dX9_flagOf_63 : decode cX9_flagOf 63 = .ok (.aload_n 0, 1) := by decide +kernel
theorem dX9_flagOf_64 : decode cX9_flagOf 64 = .ok (.getfield 71, 3) := by decide +kernel
theorem dX9_flagOf_67 : decode cX9_flagOf 67 = .ok (.iload 4, 2) := by decide +kernel
theorem dX9_flagOf_69 : decode cX9_flagOf 69 = .ok (.iaload, 1) := by decide +kernel
theorem dX9_flagOf_70 : decode cX9_flagOf 70 = .ok (.aload_n 0, 1) := by decide +kernel
theorem dX9_flagOf_71 : decode cX9_flagOf 71 = .ok (.getfield 71, 3) := by decide +kernel
theorem dX9_flagOf_74 : decode cX9_flagOf 74 = .ok (.iload_n 1, 1) := by decide +kernel
theorem dX9_flagOf_75 : decode cX9_flagOf 75 = .ok (.iaload, 1) := by decide +kernel
theorem dX9_flagOf_76 : decode cX9_flagOf 76 = .ok (.if_icmp .ne 8, 3) := by decide +kernel
theorem dX9_flagOf_79 : decode cX9_flagOf 79 = .ok (.iload 4, 2) := by decide +kernel
theorem dX9_flagOf_81 : decode cX9_flagOf 81 = .ok (.goto 4, 3) := by decide +kernel
theorem dX9_flagOf_84 : decode cX9_flagOf 84 = .ok (.iload_n 2, 1) := by decide +kernel
theorem dX9_flagOf_85 : decode cX9_flagOf 85 = .ok (.istore_n 2, 1) := by decide +kernel
theorem dX9_flagOf_86 : decode cX9_flagOf 86 = .ok (.iload 4, 2) := by decide +kernel
theorem dX9_flagOf_88 : decode cX9_flagOf 88 = .ok (.iload_n 1, 1) := by decide +kernel
theorem dX9_flagOf_89 : decode cX9_flagOf 89 = .ok (.if_icmp .le 29, 3) := by decide +kernel
theorem dX9_flagOf_92 : decode cX9_flagOf 92 = .ok (.iload_n 3, 1) := by decide +kernel
theorem dX9_flagOf_93 : decode cX9_flagOf 93 = .ok (.iconst (-1), 1) := by decide +kernel
theorem dX9_flagOf_94 : decode cX9_flagOf 94 = .ok (.if_icmp .ne 24, 3) := by decide +kernel
theorem dX9_flagOf_97 : decode cX9_flagOf 97 = .ok (.aload_n 0, 1) := by decide +kernel
theorem dX9_flagOf_98 : decode cX9_flagOf 98 = .ok (.getfield 71, 3) := by decide +kernel
theorem dX9_flagOf_101 : decode cX9_flagOf 101 = .ok (.iload 4, 2) := by decide +kernel
theorem dX9_flagOf_103 : decode cX9_flagOf 103 = .ok (.iaload, 1) := by decide +kernel
theorem dX9_flagOf_104 : decode cX9_flagOf 104 = .ok (.aload_n 0, 1) := by decide +kernel
theorem dX9_flagOf_105 : decode cX9_flagOf 105 = .ok (.getfield 71, 3) := by decide +kernel
theorem dX9_flagOf_108 : decode cX9_flagOf 108 = .ok (.iload_n 1, 1) := by decide +kernel
theorem dX9_flagOf_109 : decode cX9_flagOf 109 = .ok (.iaload, 1) := by decide +kernel
theorem dX9_flagOf_110 : decode cX9_flagOf 110 = .ok (.if_icmp .ne 8, 3) := by decide +kernel
theorem dX9_flagOf_113 : decode cX9_flagOf 113 = .ok (.iload 4, 2) := by decide +kernel
theorem dX9_flagOf_115 : decode cX9_flagOf 115 = .ok (.goto 4, 3) := by decide +kernel
theorem dX9_flagOf_118 : decode cX9_flagOf 118 = .ok (.iload_n 3, 1) := by decide +kernel
theorem dX9_flagOf_119 : decode cX9_flagOf 119 = .ok (.istore_n 3, 1) := by decide +kernel
theorem dX9_flagOf_120 : decode cX9_flagOf 120 = .ok (.iinc 4 1, 3) := by decide +kernel
theorem dX9_flagOf_123 : decode cX9_flagOf 123 = .ok (.goto (-75), 3) := by decide +kernel
theorem dX9_flagOf_126 : decode cX9_flagOf 126 = .ok (.iload_n 2, 1) := by decide +kernel
theorem dX9_flagOf_127 : decode cX9_flagOf 127 = .ok (.iconst (-1), 1) := by decide +kernel
theorem dX9_flagOf_128 : decode cX9_flagOf 128 = .ok (.if_icmp .eq 8, 3) := by decide +kernel
theorem dX9_flagOf_131 : decode cX9_flagOf 131 = .ok (.iload_n 3, 1) := by decide +kernel
theorem dX9_flagOf_132 : decode cX9_flagOf 132 = .ok (.iconst (-1), 1) := by decide +kernel
theorem dX9_flagOf_133 : decode cX9_flagOf 133 = .ok (.if_icmp .ne 5, 3) := by decide +kernel
theorem dX9_flagOf_136 : decode cX9_flagOf 136 = .ok (.iconst 0, 1) := by decide +kernel
theorem dX9_flagOf_137 : decode cX9_flagOf 137 = .ok (.ireturn, 1) := by decide +kernel
theorem dX9_flagOf_138 : decode cX9_flagOf 138 = .ok (.aload_n 0, 1) := by decide +kernel
theorem dX9_flagOf_139 : decode cX9_flagOf 139 = .ok (.iload_n 1, 1) := by decide +kernel
theorem dX9_flagOf_140 : decode cX9_flagOf 140 = .ok (.invokevirtual 170, 3) := by decide +kernel
theorem dX9_flagOf_143 : decode cX9_flagOf 143 = .ok (.aload_n 0, 1) := by decide +kernel
theorem dX9_flagOf_144 : decode cX9_flagOf 144 = .ok (.iload_n 2, 1) := by decide +kernel
theorem dX9_flagOf_145 : decode cX9_flagOf 145 = .ok (.invokevirtual 170, 3) := by decide +kernel
theorem dX9_flagOf_148 : decode cX9_flagOf 148 = .ok (.isub, 1) := by decide +kernel
theorem dX9_flagOf_149 : decode cX9_flagOf 149 = .ok (.istore 4, 2) := by decide +kernel
theorem dX9_flagOf_151 : decode cX9_flagOf 151 = .ok (.aload_n 0, 1) := by decide +kernel
theorem dX9_flagOf_152 : decode cX9_flagOf 152 = .ok (.iload_n 1, 1) := by decide +kernel
theorem dX9_flagOf_153 : decode cX9_flagOf 153 = .ok (.invokevirtual 170, 3) := by decide +kernel
theorem dX9_flagOf_156 : decode cX9_flagOf 156 = .ok (.aload_n 0, 1) := by decide +kernel
theorem dX9_flagOf_157 : decode cX9_flagOf 157 = .ok (.iload_n 3, 1) := by decide +kernel
theorem dX9_flagOf_158 : decode cX9_flagOf 158 = .ok (.invokevirtual 170, 3) := by decide +kernel
theorem dX9_flagOf_161 : decode cX9_flagOf 161 = .ok (.isub, 1) := by decide +kernel
theorem dX9_flagOf_162 : decode cX9_flagOf 162 = .ok (.istore 5, 2) := by decide +kernel
theorem dX9_flagOf_164 : decode cX9_flagOf 164 = .ok (.iload 4, 2) := by decide +kernel
theorem dX9_flagOf_166 : decode cX9_flagOf 166 = .ok (.aload_n 0, 1) := by decide +kernel
theorem dX9_flagOf_167 : decode cX9_flagOf 167 = .ok (.getfield 77, 3) := by decide +kernel
theorem dX9_flagOf_170 : decode cX9_flagOf 170 = .ok (.if_icmp .le 12, 3) := by decide +kernel
theorem dX9_flagOf_173 : decode cX9_flagOf 173 = .ok (.iload 5, 2) := by decide +kernel
theorem dX9_flagOf_175 : decode cX9_flagOf 175 = .ok (.aload_n 0, 1) := by decide +kernel
theorem dX9_flagOf_176 : decode cX9_flagOf 176 = .ok (.getfield 77, 3) := by decide +kernel
theorem dX9_flagOf_179 : decode cX9_flagOf 179 = .ok (.if_icmp .gt 23, 3) := by decide +kernel
theorem dX9_flagOf_182 : decode cX9_flagOf 182 = .ok (.iload 4, 2) := by decide +kernel
theorem dX9_flagOf_184 : decode cX9_flagOf 184 = .ok (.aload_n 0, 1) := by decide +kernel
theorem dX9_flagOf_185 : decode cX9_flagOf 185 = .ok (.getfield 77, 3) := by decide +kernel
theorem dX9_flagOf_188 : decode cX9_flagOf 188 = .ok (.ineg, 1) := by decide +kernel
theorem dX9_flagOf_189 : decode cX9_flagOf 189 = .ok (.if_icmp .ge 17, 3) := by decide +kernel
theorem dX9_flagOf_192 : decode cX9_flagOf 192 = .ok (.iload 5, 2) := by decide +kernel
theorem dX9_flagOf_194 : decode cX9_flagOf 194 = .ok (.aload_n 0, 1) := by decide +kernel
theorem dX9_flagOf_195 : decode cX9_flagOf 195 = .ok (.getfield 77, 3) := by decide +kernel
theorem dX9_flagOf_198 : decode cX9_flagOf 198 = .ok (.ineg, 1) := by decide +kernel
theorem dX9_flagOf_199 : decode cX9_flagOf 199 = .ok (.if_icmp .ge 7, 3) := by decide +kernel
theorem dX9_flagOf_202 : decode cX9_flagOf 202 = .ok (.iconst 1, 1) := by decide +kernel
theorem dX9_flagOf_203 : decode cX9_flagOf 203 = .ok (.goto 4, 3) := by decide +kernel
theorem dX9_flagOf_206 : decode cX9_flagOf 206 = .ok (.iconst 0, 1) := by decide +kernel
theorem dX9_flagOf_207 : decode cX9_flagOf 207 = .ok (.ireturn, 1) := by decide +kernel
theorem dX9_flag_0 : decode cX9_flag 0 = .ok (.aload_n 0, 1) := by decide +kernel
theorem dX9_flag_1 : decode cX9_flag 1 = .ok (.aload_n 0, 1) := by decide +kernel
theorem dX9_flag_2 : decode cX9_flag 2 = .ok (.iload_n 1, 1) := by decide +kernel
theorem dX9_flag_3 : decode cX9_flag 3 = .ok (.invokevirtual 173, 3) := by decide +kernel
theorem dX9_flag_6 : decode cX9_flag 6 = .ok (.ifCond .ne 7, 3) := by decide +kernel
theorem dX9_flag_9 : decode cX9_flag 9 = .ok (.iconst 1, 1) := by decide +kernel
theorem dX9_flag_10 : decode cX9_flag 10 = .ok (.goto 17, 3) := by decide +kernel
theorem dX9_flag_13 : decode cX9_flag 13 = .ok (.iload_n 2, 1) := by decide +kernel
theorem dX9_flag_14 : decode cX9_flag 14 = .ok (.iconst (-1), 1) := by decide +kernel
theorem dX9_flag_15 : decode cX9_flag 15 = .ok (.iconst 2, 1) := by decide +kernel
theorem dX9_flag_16 : decode cX9_flag 16 = .ok (.invokestatic 99, 3) := by decide +kernel
theorem dX9_flag_19 : decode cX9_flag 19 = .ok (.ifCond .ne 7, 3) := by decide +kernel
theorem dX9_flag_22 : decode cX9_flag 22 = .ok (.iconst 2, 1) := by decide +kernel
theorem dX9_flag_23 : decode cX9_flag 23 = .ok (.goto 4, 3) := by decide +kernel
theorem dX9_flag_26 : decode cX9_flag 26 = .ok (.iconst 0, 1) := by decide +kernel
theorem dX9_flag_27 : decode cX9_flag 27 = .ok (.putfield 96, 3) := by decide +kernel
theorem dX9_flag_30 : decode cX9_flag 30 = .ok (.aload_n 0, 1) := by decide +kernel
theorem dX9_flag_31 : decode cX9_flag 31 = .ok (.getfield 96, 3) := by decide +kernel
theorem dX9_flag_34 : decode cX9_flag 34 = .ok (.ifCond .le 5, 3) := by decide +kernel
theorem dX9_flag_37 : decode cX9_flag 37 = .ok (.iconst 0, 1) := by decide +kernel
theorem dX9_flag_38 : decode cX9_flag 38 = .ok (.ireturn, 1) := by decide +kernel
theorem dX9_flag_39 : decode cX9_flag 39 = .ok (.aload_n 0, 1) := by decide +kernel
theorem dX9_flag_40 : decode cX9_flag 40 = .ok (.iload_n 1, 1) := by decide +kernel
theorem dX9_flag_41 : decode cX9_flag 41 = .ok (.invokevirtual 176, 3) := by decide +kernel
theorem dX9_flag_44 : decode cX9_flag 44 = .ok (.istore_n 3, 1) := by decide +kernel
theorem dX9_flag_45 : decode cX9_flag 45 = .ok (.aload_n 0, 1) := by decide +kernel
theorem dX9_flag_46 : decode cX9_flag 46 = .ok (.getfield 74, 3) := by decide +kernel
theorem dX9_flag_49 : decode cX9_flag 49 = .ok (.iload_n 1, 1) := by decide +kernel
theorem dX9_flag_50 : decode cX9_flag 50 = .ok (.iload_n 2, 1) := by decide +kernel
theorem dX9_flag_51 : decode cX9_flag 51 = .ok (.iastore, 1) := by decide +kernel
theorem dX9_flag_52 : decode cX9_flag 52 = .ok (.iload_n 3, 1) := by decide +kernel
theorem dX9_flag_53 : decode cX9_flag 53 = .ok (.ireturn, 1) := by decide +kernel
theorem dX9_bound_0 : decode cX9_bound 0 = .ok (.aload_n 0, 1) := by decide +kernel
theorem dX9_bound_1 : decode cX9_bound 1 = .ok (.iload_n 1, 1) := by decide +kernel
theorem dX9_bound_2 : decode cX9_bound 2 = .ok (.iconst 0, 1) := by decide +kernel
theorem dX9_bound_3 : decode cX9_bound 3 = .ok (.sipush 1000, 3) := by decide +kernel
theorem dX9_bound_6 : decode cX9_bound 6 = .ok (.invokestatic 99, 3) := by decide +kernel
theorem dX9_bound_9 : decode cX9_bound 9 = .ok (.ifCond .eq 7, 3) := by decide +kernel
theorem dX9_bound_12 : decode cX9_bound 12 = .ok (.iconst 0, 1) := by decide +kernel
theorem dX9_bound_13 : decode cX9_bound 13 = .ok (.goto 4, 3) := by decide +kernel
theorem dX9_bound_16 : decode cX9_bound 16 = .ok (.iconst 1, 1) := by decide +kernel
theorem dX9_bound_17 : decode cX9_bound 17 = .ok (.putfield 96, 3) := by decide +kernel
theorem dX9_bound_20 : decode cX9_bound 20 = .ok (.aload_n 0, 1) := by decide +kernel
theorem dX9_bound_21 : decode cX9_bound 21 = .ok (.getfield 96, 3) := by decide +kernel
theorem dX9_bound_24 : decode cX9_bound 24 = .ok (.ifCond .le 5, 3) := by decide +kernel
theorem dX9_bound_27 : decode cX9_bound 27 = .ok (.iconst 0, 1) := by decide +kernel
theorem dX9_bound_28 : decode cX9_bound 28 = .ok (.ireturn, 1) := by decide +kernel
theorem dX9_bound_29 : decode cX9_bound 29 = .ok (.aload_n 0, 1) := by decide +kernel
theorem dX9_bound_30 : decode cX9_bound 30 = .ok (.getfield 77, 3) := by decide +kernel
theorem dX9_bound_33 : decode cX9_bound 33 = .ok (.istore_n 2, 1) := by decide +kernel
theorem dX9_bound_34 : decode cX9_bound 34 = .ok (.aload_n 0, 1) := by decide +kernel
theorem dX9_bound_35 : decode cX9_bound 35 = .ok (.iload_n 1, 1) := by decide +kernel
theorem dX9_bound_36 : decode cX9_bound 36 = .ok (.putfield 77, 3) := by decide +kernel
theorem dX9_bound_39 : decode cX9_bound 39 = .ok (.iload_n 2, 1) := by decide +kernel
theorem dX9_bound_40 : decode cX9_bound 40 = .ok (.ireturn, 1) := by decide +kernel
theorem dX9_search_0 : decode cX9_search 0 = .ok (.aload_n 0, 1) := by decide +kernel
theorem dX9_search_1 : decode cX9_search 1 = .ok (.iload_n 1, 1) := by decide +kernel
theorem dX9_search_2 : decode cX9_search 2 = .ok (.invokestatic 116, 3) := by decide +kernel
theorem dX9_search_5 : decode cX9_search 5 = .ok (.ifCond .ne 7, 3) := by decide +kernel
theorem dX9_search_8 : decode cX9_search 8 = .ok (.iconst 1, 1) := by decide +kernel
theorem dX9_search_9 : decode cX9_search 9 = .ok (.goto 25, 3) := by decide +kernel
theorem dX9_search_12 : decode cX9_search 12 = .ok (.aload_n 0, 1) := by decide +kernel
theorem dX9_search_13 : decode cX9_search 13 = .ok (.getfield 7, 3) := by decide +kernel
theorem dX9_search_16 : decode cX9_search 16 = .ok (.iload_n 1, 1) := by decide +kernel
theorem dX9_search_17 : decode cX9_search 17 = .ok (.baload, 1) := by decide +kernel
theorem dX9_search_18 : decode cX9_search 18 = .ok (.ifCond .ne 11, 3) := by decide +kernel
theorem dX9_search_21 : decode cX9_search 21 = .ok (.aload_n 0, 1) := by decide +kernel
theorem dX9_search_22 : decode cX9_search 22 = .ok (.getfield 109, 3) := by decide +kernel
theorem dX9_search_25 : decode cX9_search 25 = .ok (.iconst 4, 1) := by decide +kernel
theorem dX9_search_26 : decode cX9_search 26 = .ok (.if_icmp .ne 7, 3) := by decide +kernel
theorem dX9_search_29 : decode cX9_search 29 = .ok (.iconst 2, 1) := by decide +kernel
theorem dX9_search_30 : decode cX9_search 30 = .ok (.goto 4, 3) := by decide +kernel
theorem dX9_search_33 : decode cX9_search 33 = .ok (.iconst 0, 1) := by decide +kernel
theorem dX9_search_34 : decode cX9_search 34 = .ok (.putfield 96, 3) := by decide +kernel
theorem dX9_search_37 : decode cX9_search 37 = .ok (.aload_n 0, 1) := by decide +kernel
theorem dX9_search_38 : decode cX9_search 38 = .ok (.getfield 96, 3) := by decide +kernel
theorem dX9_search_41 : decode cX9_search 41 = .ok (.ifCond .le 5, 3) := by decide +kernel
theorem dX9_search_44 : decode cX9_search 44 = .ok (.iconst 0, 1) := by decide +kernel
theorem dX9_search_45 : decode cX9_search 45 = .ok (.ireturn, 1) := by decide +kernel
theorem dX9_search_46 : decode cX9_search 46 = .ok (.aload_n 0, 1) := by decide +kernel
theorem dX9_search_47 : decode cX9_search 47 = .ok (.getfield 84, 3) := by decide +kernel
theorem dX9_search_50 : decode cX9_search 50 = .ok (.bipush 60, 2) := by decide +kernel
theorem dX9_search_52 : decode cX9_search 52 = .ok (.aload_n 0, 1) := by decide +kernel
theorem dX9_search_53 : decode cX9_search 53 = .ok (.getfield 109, 3) := by decide +kernel
theorem dX9_search_56 : decode cX9_search 56 = .ok (.imul, 1) := by decide +kernel
theorem dX9_search_57 : decode cX9_search 57 = .ok (.iload_n 1, 1) := by decide +kernel
theorem dX9_search_58 : decode cX9_search 58 = .ok (.iadd, 1) := by decide +kernel
theorem dX9_search_59 : decode cX9_search 59 = .ok (.sipush 10000, 3) := by decide +kernel
theorem dX9_search_62 : decode cX9_search 62 = .ok (.iastore, 1) := by decide +kernel
theorem dX9_search_63 : decode cX9_search 63 = .ok (.aload_n 0, 1) := by decide +kernel
theorem dX9_search_64 : decode cX9_search 64 = .ok (.getfield 81, 3) := by decide +kernel
theorem dX9_search_67 : decode cX9_search 67 = .ok (.aload_n 0, 1) := by decide +kernel
theorem dX9_search_68 : decode cX9_search 68 = .ok (.getfield 109, 3) := by decide +kernel
theorem dX9_search_71 : decode cX9_search 71 = .ok (.iload_n 1, 1) := by decide +kernel
theorem dX9_search_72 : decode cX9_search 72 = .ok (.iastore, 1) := by decide +kernel
theorem dX9_search_73 : decode cX9_search 73 = .ok (.aload_n 0, 1) := by decide +kernel
theorem dX9_search_74 : decode cX9_search 74 = .ok (.dup, 1) := by decide +kernel
theorem dX9_search_75 : decode cX9_search 75 = .ok (.getfield 109, 3) := by decide +kernel
theorem dX9_search_78 : decode cX9_search 78 = .ok (.iconst 1, 1) := by decide +kernel
theorem dX9_search_79 : decode cX9_search 79 = .ok (.iadd, 1) := by decide +kernel
theorem dX9_search_80 : decode cX9_search 80 = .ok (.putfield 109, 3) := by decide +kernel
theorem dX9_search_83 : decode cX9_search 83 = .ok (.aload_n 0, 1) := by decide +kernel
theorem dX9_search_84 : decode cX9_search 84 = .ok (.getfield 109, 3) := by decide +kernel
theorem dX9_search_87 : decode cX9_search 87 = .ok (.iconst 1, 1) := by decide +kernel
theorem dX9_search_88 : decode cX9_search 88 = .ok (.isub, 1) := by decide +kernel
theorem dX9_search_89 : decode cX9_search 89 = .ok (.ireturn, 1) := by decide +kernel
theorem dX9_leg_0 : decode cX9_leg 0 = .ok (.aload_n 0, 1) := by decide +kernel
theorem dX9_leg_1 : decode cX9_leg 1 = .ok (.aload_n 0, 1) := by decide +kernel
theorem dX9_leg_2 : decode cX9_leg 2 = .ok (.iload_n 1, 1) := by decide +kernel
theorem dX9_leg_3 : decode cX9_leg 3 = .ok (.invokevirtual 179, 3) := by decide +kernel
theorem dX9_leg_6 : decode cX9_leg 6 = .ok (.ifCond .eq 10, 3) := by decide +kernel
theorem dX9_leg_9 : decode cX9_leg 9 = .ok (.iload_n 2, 1) := by decide +kernel
theorem dX9_leg_10 : decode cX9_leg 10 = .ok (.invokestatic 116, 3) := by decide +kernel
theorem dX9_leg_13 : decode cX9_leg 13 = .ok (.ifCond .ne 7, 3) := by decide +kernel
theorem dX9_leg_16 : decode cX9_leg 16 = .ok (.iconst 1, 1) := by decide +kernel
theorem dX9_leg_17 : decode cX9_leg 17 = .ok (.goto 18, 3) := by decide +kernel
theorem dX9_leg_20 : decode cX9_leg 20 = .ok (.iload_n 3, 1) := by decide +kernel
theorem dX9_leg_21 : decode cX9_leg 21 = .ok (.iconst 1, 1) := by decide +kernel
theorem dX9_leg_22 : decode cX9_leg 22 = .ok (.bipush 100, 2) := by decide +kernel
theorem dX9_leg_24 : decode cX9_leg 24 = .ok (.invokestatic 99, 3) := by decide +kernel
theorem dX9_leg_27 : decode cX9_leg 27 = .ok (.ifCond .ne 7, 3) := by decide +kernel
theorem dX9_leg_30 : decode cX9_leg 30 = .ok (.iconst 2, 1) := by decide +kernel
theorem dX9_leg_31 : decode cX9_leg 31 = .ok (.goto 4, 3) := by decide +kernel
theorem dX9_leg_34 : decode cX9_leg 34 = .ok (.iconst 0, 1) := by decide +kernel
theorem dX9_leg_35 : decode cX9_leg 35 = .ok (.putfield 96, 3) := by decide +kernel
theorem dX9_leg_38 : decode cX9_leg 38 = .ok (.aload_n 0, 1) := by decide +kernel
theorem dX9_leg_39 : decode cX9_leg 39 = .ok (.getfield 96, 3) := by decide +kernel
theorem dX9_leg_42 : decode cX9_leg 42 = .ok (.ifCond .le 5, 3) := by decide +kernel
theorem dX9_leg_45 : decode cX9_leg 45 = .ok (.iconst 0, 1) := by decide +kernel
theorem dX9_leg_46 : decode cX9_leg 46 = .ok (.ireturn, 1) := by decide +kernel
theorem dX9_leg_47 : decode cX9_leg 47 = .ok (.aload_n 0, 1) := by decide +kernel
theorem dX9_leg_48 : decode cX9_leg 48 = .ok (.getfield 84, 3) := by decide +kernel
theorem dX9_leg_51 : decode cX9_leg 51 = .ok (.bipush 60, 2) := by decide +kernel
theorem dX9_leg_53 : decode cX9_leg 53 = .ok (.iload_n 1, 1) := by decide +kernel
theorem dX9_leg_54 : decode cX9_leg 54 = .ok (.imul, 1) := by decide +kernel
theorem dX9_leg_55 : decode cX9_leg 55 = .ok (.iload_n 2, 1) := by decide +kernel
theorem dX9_leg_56 : decode cX9_leg 56 = .ok (.iadd, 1) := by decide +kernel
theorem dX9_leg_57 : decode cX9_leg 57 = .ok (.iaload, 1) := by decide +kernel
theorem dX9_leg_58 : decode cX9_leg 58 = .ok (.iload_n 3, 1) := by decide +kernel
theorem dX9_leg_59 : decode cX9_leg 59 = .ok (.imul, 1) := by decide +kernel
theorem dX9_leg_60 : decode cX9_leg 60 = .ok (.bipush 100, 2) := by decide +kernel
theorem dX9_leg_62 : decode cX9_leg 62 = .ok (.idiv, 1) := by decide +kernel
theorem dX9_leg_63 : decode cX9_leg 63 = .ok (.istore 4, 2) := by decide +kernel
theorem dX9_leg_65 : decode cX9_leg 65 = .ok (.aload_n 0, 1) := by decide +kernel
theorem dX9_leg_66 : decode cX9_leg 66 = .ok (.getfield 84, 3) := by decide +kernel
theorem dX9_leg_69 : decode cX9_leg 69 = .ok (.bipush 60, 2) := by decide +kernel
theorem dX9_leg_71 : decode cX9_leg 71 = .ok (.iload_n 1, 1) := by decide +kernel
theorem dX9_leg_72 : decode cX9_leg 72 = .ok (.imul, 1) := by decide +kernel
theorem dX9_leg_73 : decode cX9_leg 73 = .ok (.iload_n 2, 1) := by decide +kernel
theorem dX9_leg_74 : decode cX9_leg 74 = .ok (.iadd, 1) := by decide +kernel
theorem dX9_leg_75 : decode cX9_leg 75 = .ok (.dup2, 1) := by decide +kernel
theorem dX9_leg_76 : decode cX9_leg 76 = .ok (.iaload, 1) := by decide +kernel
theorem dX9_leg_77 : decode cX9_leg 77 = .ok (.iload 4, 2) := by decide +kernel
theorem dX9_leg_79 : decode cX9_leg 79 = .ok (.isub, 1) := by decide +kernel
theorem dX9_leg_80 : decode cX9_leg 80 = .ok (.iastore, 1) := by decide +kernel
theorem dX9_leg_81 : decode cX9_leg 81 = .ok (.iload 4, 2) := by decide +kernel
theorem dX9_leg_83 : decode cX9_leg 83 = .ok (.ireturn, 1) := by decide +kernel
theorem dX9_part_0 : decode cX9_part 0 = .ok (.aload_n 0, 1) := by decide +kernel
theorem dX9_part_1 : decode cX9_part 1 = .ok (.iload_n 1, 1) := by decide +kernel
theorem dX9_part_2 : decode cX9_part 2 = .ok (.iconst 2, 1) := by decide +kernel
theorem dX9_part_3 : decode cX9_part 3 = .ok (.bipush 60, 2) := by decide +kernel
theorem dX9_part_5 : decode cX9_part 5 = .ok (.invokestatic 99, 3) := by decide +kernel
theorem dX9_part_8 : decode cX9_part 8 = .ok (.ifCond .eq 24, 3) := by decide +kernel
theorem dX9_part_11 : decode cX9_part 11 = .ok (.iload_n 2, 1) := by decide +kernel
theorem dX9_part_12 : decode cX9_part 12 = .ok (.iconst 0, 1) := by decide +kernel
theorem dX9_part_13 : decode cX9_part 13 = .ok (.bipush 100, 2) := by decide +kernel
theorem dX9_part_15 : decode cX9_part 15 = .ok (.invokestatic 99, 3) := by decide +kernel
theorem dX9_part_18 : decode cX9_part 18 = .ok (.ifCond .eq 14, 3) := by decide +kernel
theorem dX9_part_21 : decode cX9_part 21 = .ok (.iload_n 3, 1) := by decide +kernel
theorem dX9_part_22 : decode cX9_part 22 = .ok (.iconst 0, 1) := by decide +kernel
theorem dX9_part_23 : decode cX9_part 23 = .ok (.iload_n 1, 1) := by decide +kernel
theorem dX9_part_24 : decode cX9_part 24 = .ok (.iconst 1, 1) := by decide +kernel
theorem dX9_part_25 : decode cX9_part 25 = .ok (.isub, 1) := by decide +kernel
theorem dX9_part_26 : decode cX9_part 26 = .ok (.invokestatic 99, 3) := by decide +kernel
theorem dX9_part_29 : decode cX9_part 29 = .ok (.ifCond .ne 7, 3) := by decide +kernel
theorem dX9_part_32 : decode cX9_part 32 = .ok (.iconst 1, 1) := by decide +kernel
theorem dX9_part_33 : decode cX9_part 33 = .ok (.goto 17, 3) := by decide +kernel
theorem dX9_part_36 : decode cX9_part 36 = .ok (.aload_n 0, 1) := by decide +kernel
theorem dX9_part_37 : decode cX9_part 37 = .ok (.getfield 182, 3) := by decide +kernel
theorem dX9_part_40 : decode cX9_part 40 = .ok (.bipush 6, 2) := by decide +kernel
theorem dX9_part_42 : decode cX9_part 42 = .ok (.if_icmp .ne 7, 3) := by decide +kernel
theorem dX9_part_45 : decode cX9_part 45 = .ok (.iconst 2, 1) := by decide +kernel
theorem dX9_part_46 : decode cX9_part 46 = .ok (.goto 4, 3) := by decide +kernel
theorem dX9_part_49 : decode cX9_part 49 = .ok (.iconst 0, 1) := by decide +kernel
theorem dX9_part_50 : decode cX9_part 50 = .ok (.putfield 96, 3) := by decide +kernel
theorem dX9_part_53 : decode cX9_part 53 = .ok (.aload_n 0, 1) := by decide +kernel
theorem dX9_part_54 : decode cX9_part 54 = .ok (.getfield 96, 3) := by decide +kernel
theorem dX9_part_57 : decode cX9_part 57 = .ok (.ifCond .le 5, 3) := by decide +kernel
theorem dX9_part_60 : decode cX9_part 60 = .ok (.iconst 0, 1) := by decide +kernel
theorem dX9_part_61 : decode cX9_part 61 = .ok (.ireturn, 1) := by decide +kernel
theorem dX9_part_62 : decode cX9_part 62 = .ok (.aload_n 0, 1) := by decide +kernel
theorem dX9_part_63 : decode cX9_part 63 = .ok (.getfield 87, 3) := by decide +kernel
theorem dX9_part_66 : decode cX9_part 66 = .ok (.aload_n 0, 1) := by decide +kernel
theorem dX9_part_67 : decode cX9_part 67 = .ok (.getfield 182, 3) := by decide +kernel
theorem dX9_part_70 : decode cX9_part 70 = .ok (.iload_n 1, 1) := by decide +kernel
theorem dX9_part_71 : decode cX9_part 71 = .ok (.iastore, 1) := by decide +kernel
theorem dX9_part_72 : decode cX9_part 72 = .ok (.aload_n 0, 1) := by decide +kernel
theorem dX9_part_73 : decode cX9_part 73 = .ok (.getfield 90, 3) := by decide +kernel
theorem dX9_part_76 : decode cX9_part 76 = .ok (.aload_n 0, 1) := by decide +kernel
theorem dX9_part_77 : decode cX9_part 77 = .ok (.getfield 182, 3) := by decide +kernel
theorem dX9_part_80 : decode cX9_part 80 = .ok (.iload_n 2, 1) := by decide +kernel
theorem dX9_part_81 : decode cX9_part 81 = .ok (.iastore, 1) := by decide +kernel
theorem dX9_part_82 : decode cX9_part 82 = .ok (.aload_n 0, 1) := by decide +kernel
theorem dX9_part_83 : decode cX9_part 83 = .ok (.getfield 93, 3) := by decide +kernel
theorem dX9_part_86 : decode cX9_part 86 = .ok (.aload_n 0, 1) := by decide +kernel
theorem dX9_part_87 : decode cX9_part 87 = .ok (.getfield 182, 3) := by decide +kernel
theorem dX9_part_90 : decode cX9_part 90 = .ok (.iload_n 3, 1) := by decide +kernel
theorem dX9_part_91 : decode cX9_part 91 = .ok (.iastore, 1) := by decide +kernel
theorem dX9_part_92 : decode cX9_part 92 = .ok (.aload_n 0, 1) := by decide +kernel
theorem dX9_part_93 : decode cX9_part 93 = .ok (.dup, 1) := by decide +kernel
theorem dX9_part_94 : decode cX9_part 94 = .ok (.getfield 182, 3) := by decide +kernel
theorem dX9_part_97 : decode cX9_part 97 = .ok (.iconst 1, 1) := by decide +kernel
theorem dX9_part_98 : decode cX9_part 98 = .ok (.iadd, 1) := by decide +kernel
theorem dX9_part_99 : decode cX9_part 99 = .ok (.putfield 182, 3) := by decide +kernel
theorem dX9_part_102 : decode cX9_part 102 = .ok (.aload_n 0, 1) := by decide +kernel
theorem dX9_part_103 : decode cX9_part 103 = .ok (.getfield 182, 3) := by decide +kernel
theorem dX9_part_106 : decode cX9_part 106 = .ok (.ireturn, 1) := by decide +kernel
theorem dX9_day_0 : decode cX9_day 0 = .ok (.aload_n 0, 1) := by decide +kernel
theorem dX9_day_1 : decode cX9_day 1 = .ok (.iconst 0, 1) := by decide +kernel
theorem dX9_day_2 : decode cX9_day 2 = .ok (.putfield 96, 3) := by decide +kernel
theorem dX9_day_5 : decode cX9_day 5 = .ok (.aload_n 0, 1) := by decide +kernel
theorem dX9_day_6 : decode cX9_day 6 = .ok (.getfield 120, 3) := by decide +kernel
theorem dX9_day_9 : decode cX9_day 9 = .ok (.ireturn, 1) := by decide +kernel
theorem dX9_ofLayer_0 : decode cX9_ofLayer 0 = .ok (.aload_n 0, 1) := by decide +kernel
theorem dX9_ofLayer_1 : decode cX9_ofLayer 1 = .ok (.iload_n 1, 1) := by decide +kernel
theorem dX9_ofLayer_2 : decode cX9_ofLayer 2 = .ok (.invokestatic 116, 3) := by decide +kernel
theorem dX9_ofLayer_5 : decode cX9_ofLayer 5 = .ok (.ifCond .ne 7, 3) := by decide +kernel
theorem dX9_ofLayer_8 : decode cX9_ofLayer 8 = .ok (.iconst 1, 1) := by decide +kernel
theorem dX9_ofLayer_9 : decode cX9_ofLayer 9 = .ok (.goto 26, 3) := by decide +kernel
theorem dX9_ofLayer_12 : decode cX9_ofLayer 12 = .ok (.iload_n 2, 1) := by decide +kernel
theorem dX9_ofLayer_13 : decode cX9_ofLayer 13 = .ok (.iconst 0, 1) := by decide +kernel
theorem dX9_ofLayer_14 : decode cX9_ofLayer 14 = .ok (.iconst 1, 1) := by decide +kernel
theorem dX9_ofLayer_15 : decode cX9_ofLayer 15 = .ok (.invokestatic 99, 3) := by decide +kernel
theorem dX9_ofLayer_18 : decode cX9_ofLayer 18 = .ok (.ifCond .eq 12, 3) := by decide +kernel
theorem dX9_ofLayer_21 : decode cX9_ofLayer 21 = .ok (.iload_n 3, 1) := by decide +kernel
theorem dX9_ofLayer_22 : decode cX9_ofLayer 22 = .ok (.iconst 0, 1) := by decide +kernel
theorem dX9_ofLayer_23 : decode cX9_ofLayer 23 = .ok (.iconst 2, 1) := by decide +kernel
theorem dX9_ofLayer_24 : decode cX9_ofLayer 24 = .ok (.invokestatic 99, 3) := by decide +kernel
theorem dX9_ofLayer_27 : decode cX9_ofLayer 27 = .ok (.ifCond .ne 7, 3) := by decide +kernel
theorem dX9_ofLayer_30 : decode cX9_ofLayer 30 = .ok (.iconst 2, 1) := by decide +kernel
theorem dX9_ofLayer_31 : decode cX9_ofLayer 31 = .ok (.goto 4, 3) := by decide +kernel
theorem dX9_ofLayer_34 : decode cX9_ofLayer 34 = .ok (.iconst 0, 1) := by decide +kernel
theorem dX9_ofLayer_35 : decode cX9_ofLayer 35 = .ok (.putfield 96, 3) := by decide +kernel
theorem dX9_ofLayer_38 : decode cX9_ofLayer 38 = .ok (.aload_n 0, 1) := by decide +kernel
theorem dX9_ofLayer_39 : decode cX9_ofLayer 39 = .ok (.getfield 96, 3) := by decide +kernel
theorem dX9_ofLayer_42 : decode cX9_ofLayer 42 = .ok (.ifCond .gt 12, 3) := by decide +kernel
theorem dX9_ofLayer_45 : decode cX9_ofLayer 45 = .ok (.aload_n 0, 1) := by decide +kernel
theorem dX9_ofLayer_46 : decode cX9_ofLayer 46 = .ok (.getfield 7, 3) := by decide +kernel
theorem dX9_ofLayer_49 : decode cX9_ofLayer 49 = .ok (.iload_n 1, 1) := by decide +kernel
theorem dX9_ofLayer_50 : decode cX9_ofLayer 50 = .ok (.baload, 1) := by decide +kernel
theorem dX9_ofLayer_51 : decode cX9_ofLayer 51 = .ok (.ifCond .eq 5, 3) := by decide +kernel
theorem dX9_ofLayer_54 : decode cX9_ofLayer 54 = .ok (.iconst 0, 1) := by decide +kernel
theorem dX9_ofLayer_55 : decode cX9_ofLayer 55 = .ok (.ireturn, 1) := by decide +kernel
theorem dX9_ofLayer_56 : decode cX9_ofLayer 56 = .ok (.bipush 60, 2) := by decide +kernel
theorem dX9_ofLayer_58 : decode cX9_ofLayer 58 = .ok (.iload_n 2, 1) := by decide +kernel
theorem dX9_ofLayer_59 : decode cX9_ofLayer 59 = .ok (.imul, 1) := by decide +kernel
theorem dX9_ofLayer_60 : decode cX9_ofLayer 60 = .ok (.iload_n 1, 1) := by decide +kernel
theorem dX9_ofLayer_61 : decode cX9_ofLayer 61 = .ok (.iadd, 1) := by decide +kernel
theorem dX9_ofLayer_62 : decode cX9_ofLayer 62 = .ok (.istore 4, 2) := by decide +kernel
theorem dX9_ofLayer_64 : decode cX9_ofLayer 64 = .ok (.iload_n 3, 1) := by decide +kernel
theorem dX9_ofLayer_65 : decode cX9_ofLayer 65 = .ok (.ifCond .ne 13, 3) := by decide +kernel
theorem dX9_ofLayer_68 : decode cX9_ofLayer 68 = .ok (.aload_n 0, 1) := by decide +kernel
theorem dX9_ofLayer_69 : decode cX9_ofLayer 69 = .ok (.getfield 20, 3) := by decide +kernel
theorem dX9_ofLayer_72 : decode cX9_ofLayer 72 = .ok (.iload 4, 2) := by decide +kernel
theorem dX9_ofLayer_74 : decode cX9_ofLayer 74 = .ok (.iaload, 1) := by decide +kernel
theorem dX9_ofLayer_75 : decode cX9_ofLayer 75 = .ok (.goto 35, 3) := by decide +kernel
theorem dX9_ofLayer_78 : decode cX9_ofLayer 78 = .ok (.iload_n 3, 1) := by decide +kernel
theorem dX9_ofLayer_79 : decode cX9_ofLayer 79 = .ok (.iconst 1, 1) := by decide +kernel
theorem dX9_ofLayer_80 : decode cX9_ofLayer 80 = .ok (.if_icmp .ne 13, 3) := by decide +kernel
theorem dX9_ofLayer_83 : decode cX9_ofLayer 83 = .ok (.aload_n 0, 1) := by decide +kernel
theorem dX9_ofLayer_84 : decode cX9_ofLayer 84 = .ok (.getfield 23, 3) := by decide +kernel
theorem dX9_ofLayer_87 : decode cX9_ofLayer 87 = .ok (.iload 4, 2) := by decide +kernel
theorem dX9_ofLayer_89 : decode cX9_ofLayer 89 = .ok (.iaload, 1) := by decide +kernel
theorem dX9_ofLayer_90 : decode cX9_ofLayer 90 = .ok (.goto 20, 3) := by decide +kernel
theorem dX9_ofLayer_93 : decode cX9_ofLayer 93 = .ok (.iconst 5, 1) := by decide +kernel
theorem dX9_ofLayer_94 : decode cX9_ofLayer 94 = .ok (.aload_n 0, 1) := by decide +kernel
theorem dX9_ofLayer_95 : decode cX9_ofLayer 95 = .ok (.getfield 23, 3) := by decide +kernel
theorem dX9_ofLayer_98 : decode cX9_ofLayer 98 = .ok (.iload 4, 2) := by decide +kernel
theorem dX9_ofLayer_100 : decode cX9_ofLayer 100 = .ok (.iaload, 1) := by decide +kernel
theorem dX9_ofLayer_101 : decode cX9_ofLayer 101 = .ok (.imul, 1) := by decide +kernel
theorem dX9_ofLayer_102 : decode cX9_ofLayer 102 = .ok (.aload_n 0, 1) := by decide +kernel
theorem dX9_ofLayer_103 : decode cX9_ofLayer 103 = .ok (.getfield 20, 3) := by decide +kernel
theorem dX9_ofLayer_106 : decode cX9_ofLayer 106 = .ok (.iload 4, 2) := by decide +kernel
theorem dX9_ofLayer_108 : decode cX9_ofLayer 108 = .ok (.iaload, 1) := by decide +kernel
theorem dX9_ofLayer_109 : decode cX9_ofLayer 109 = .ok (.isub, 1) := by decide +kernel
theorem dX9_ofLayer_110 : decode cX9_ofLayer 110 = .ok (.ireturn, 1) := by decide +kernel
theorem dX9_total_0 : decode cX9_total 0 = .ok (.aload_n 0, 1) := by decide +kernel
theorem dX9_total_1 : decode cX9_total 1 = .ok (.iload_n 1, 1) := by decide +kernel
theorem dX9_total_2 : decode cX9_total 2 = .ok (.iconst 0, 1) := by decide +kernel
theorem dX9_total_3 : decode cX9_total 3 = .ok (.iconst 2, 1) := by decide +kernel
theorem dX9_total_4 : decode cX9_total 4 = .ok (.invokestatic 99, 3) := by decide +kernel
theorem dX9_total_7 : decode cX9_total 7 = .ok (.ifCond .eq 7, 3) := by decide +kernel
theorem dX9_total_10 : decode cX9_total 10 = .ok (.iconst 0, 1) := by decide +kernel
theorem dX9_total_11 : decode cX9_total 11 = .ok (.goto 4, 3) := by decide +kernel
theorem dX9_total_14 : decode cX9_total 14 = .ok (.iconst 1, 1) := by decide +kernel
theorem dX9_total_15 : decode cX9_total 15 = .ok (.putfield 96, 3) := by decide +kernel
theorem dX9_total_18 : decode cX9_total 18 = .ok (.aload_n 0, 1) := by decide +kernel
theorem dX9_total_19 : decode cX9_total 19 = .ok (.getfield 96, 3) := by decide +kernel
theorem dX9_total_22 : decode cX9_total 22 = .ok (.ifCond .ne 15, 3) := by decide +kernel
theorem dX9_total_25 : decode cX9_total 25 = .ok (.iload_n 1, 1) := by decide +kernel
theorem dX9_total_26 : decode cX9_total 26 = .ok (.iconst 2, 1) := by decide +kernel
theorem dX9_total_27 : decode cX9_total 27 = .ok (.if_icmp .ne 10, 3) := by decide +kernel
theorem dX9_total_30 : decode cX9_total 30 = .ok (.aload_n 0, 1) := by decide +kernel
theorem dX9_total_31 : decode cX9_total 31 = .ok (.getfield 130, 3) := by decide +kernel
theorem dX9_total_34 : decode cX9_total 34 = .ok (.goto 4, 3) := by decide +kernel
theorem dX9_total_37 : decode cX9_total 37 = .ok (.iconst 0, 1) := by decide +kernel
theorem dX9_total_38 : decode cX9_total 38 = .ok (.istore_n 2, 1) := by decide +kernel
theorem dX9_total_39 : decode cX9_total 39 = .ok (.iconst 0, 1) := by decide +kernel
theorem dX9_total_40 : decode cX9_total 40 = .ok (.istore_n 3, 1) := by decide +kernel
theorem dX9_total_41 : decode cX9_total 41 = .ok (.iload_n 3, 1) := by decide +kernel
theorem dX9_total_42 : decode cX9_total 42 = .ok (.bipush 120, 2) := by decide +kernel
theorem dX9_total_44 : decode cX9_total 44 = .ok (.if_icmp .ge 43, 3) := by decide +kernel
theorem dX9_total_47 : decode cX9_total 47 = .ok (.aload_n 0, 1) := by decide +kernel
theorem dX9_total_48 : decode cX9_total 48 = .ok (.getfield 96, 3) := by decide +kernel
theorem dX9_total_51 : decode cX9_total 51 = .ok (.ifCond .ne 36, 3) := by decide +kernel
theorem dX9_total_54 : decode cX9_total 54 = .ok (.iload_n 1, 1) := by decide +kernel
theorem dX9_total_55 : decode cX9_total 55 = .ok (.iconst 2, 1) := by decide +kernel
theorem dX9_total_56 : decode cX9_total 56 = .ok (.if_icmp .ge 31, 3) := by decide +kernel
theorem dX9_total_59 : decode cX9_total 59 = .ok (.iload_n 2, 1) := by decide +kernel
theorem dX9_total_60 : decode cX9_total 60 = .ok (.iload_n 1, 1) := by decide +kernel
theorem dX9_total_61 : decode cX9_total 61 = .ok (.ifCond .ne 12, 3) := by decide +kernel
theorem dX9_total_64 : decode cX9_total 64 = .ok (.aload_n 0, 1) := by decide +kernel
theorem dX9_total_65 : decode cX9_total 65 = .ok (.getfield 20, 3) := by decide +kernel
theorem dX9_total_68 : decode cX9_total 68 = .ok (.iload_n 3, 1) := by decide +kernel
theorem dX9_total_69 : decode cX9_total 69 = .ok (.iaload, 1) := by decide +kernel
theorem dX9_total_70 : decode cX9_total 70 = .ok (.goto 9, 3) := by decide +kernel
theorem dX9_total_73 : decode cX9_total 73 = .ok (.aload_n 0, 1) := by decide +kernel
theorem dX9_total_74 : decode cX9_total 74 = .ok (.getfield 23, 3) := by decide +kernel
theorem dX9_total_77 : decode cX9_total 77 = .ok (.iload_n 3, 1) := by decide +kernel
theorem dX9_total_78 : decode cX9_total 78 = .ok (.iaload, 1) := by decide +kernel
theorem dX9_total_79 : decode cX9_total 79 = .ok (.iadd, 1) := by decide +kernel
theorem dX9_total_80 : decode cX9_total 80 = .ok (.istore_n 2, 1) := by decide +kernel
theorem dX9_total_81 : decode cX9_total 81 = .ok (.iinc 3 1, 3) := by decide +kernel
theorem dX9_total_84 : decode cX9_total 84 = .ok (.goto (-43), 3) := by decide +kernel
theorem dX9_total_87 : decode cX9_total 87 = .ok (.iload_n 2, 1) := by decide +kernel
theorem dX9_total_88 : decode cX9_total 88 = .ok (.ireturn, 1) := by decide +kernel
theorem dX9_ofFloat_0 : decode cX9_ofFloat 0 = .ok (.aload_n 0, 1) := by decide +kernel
theorem dX9_ofFloat_1 : decode cX9_ofFloat 1 = .ok (.aload_n 0, 1) := by decide +kernel
theorem dX9_ofFloat_2 : decode cX9_ofFloat 2 = .ok (.iload_n 1, 1) := by decide +kernel
theorem dX9_ofFloat_3 : decode cX9_ofFloat 3 = .ok (.invokevirtual 164, 3) := by decide +kernel
theorem dX9_ofFloat_6 : decode cX9_ofFloat 6 = .ok (.ifCond .ne 7, 3) := by decide +kernel
theorem dX9_ofFloat_9 : decode cX9_ofFloat 9 = .ok (.iconst 1, 1) := by decide +kernel
theorem dX9_ofFloat_10 : decode cX9_ofFloat 10 = .ok (.goto 17, 3) := by decide +kernel
theorem dX9_ofFloat_13 : decode cX9_ofFloat 13 = .ok (.iload_n 2, 1) := by decide +kernel
theorem dX9_ofFloat_14 : decode cX9_ofFloat 14 = .ok (.iconst 0, 1) := by decide +kernel
theorem dX9_ofFloat_15 : decode cX9_ofFloat 15 = .ok (.iconst 4, 1) := by decide +kernel
theorem dX9_ofFloat_16 : decode cX9_ofFloat 16 = .ok (.invokestatic 99, 3) := by decide +kernel
theorem dX9_ofFloat_19 : decode cX9_ofFloat 19 = .ok (.ifCond .ne 7, 3) := by decide +kernel
theorem dX9_ofFloat_22 : decode cX9_ofFloat 22 = .ok (.iconst 2, 1) := by decide +kernel
theorem dX9_ofFloat_23 : decode cX9_ofFloat 23 = .ok (.goto 4, 3) := by decide +kernel
theorem dX9_ofFloat_26 : decode cX9_ofFloat 26 = .ok (.iconst 0, 1) := by decide +kernel
theorem dX9_ofFloat_27 : decode cX9_ofFloat 27 = .ok (.putfield 96, 3) := by decide +kernel
theorem dX9_ofFloat_30 : decode cX9_ofFloat 30 = .ok (.aload_n 0, 1) := by decide +kernel
theorem dX9_ofFloat_31 : decode cX9_ofFloat 31 = .ok (.getfield 96, 3) := by decide +kernel
theorem dX9_ofFloat_34 : decode cX9_ofFloat 34 = .ok (.ifCond .le 5, 3) := by decide +kernel
theorem dX9_ofFloat_37 : decode cX9_ofFloat 37 = .ok (.iconst 0, 1) := by decide +kernel
theorem dX9_ofFloat_38 : decode cX9_ofFloat 38 = .ok (.ireturn, 1) := by decide +kernel
theorem dX9_ofFloat_39 : decode cX9_ofFloat 39 = .ok (.iconst 0, 1) := by decide +kernel
theorem dX9_ofFloat_40 : decode cX9_ofFloat 40 = .ok (.istore_n 3, 1) := by decide +kernel
theorem dX9_ofFloat_41 : decode cX9_ofFloat 41 = .ok (.iconst 0, 1) := by decide +kernel
theorem dX9_ofFloat_42 : decode cX9_ofFloat 42 = .ok (.istore 4, 2) := by decide +kernel
theorem dX9_ofFloat_44 : decode cX9_ofFloat 44 = .ok (.iload 4, 2) := by decide +kernel
theorem dX9_ofFloat_46 : decode cX9_ofFloat 46 = .ok (.aload_n 0, 1) := by decide +kernel
theorem dX9_ofFloat_47 : decode cX9_ofFloat 47 = .ok (.getfield 106, 3) := by decide +kernel
theorem dX9_ofFloat_50 : decode cX9_ofFloat 50 = .ok (.if_icmp .ge 28, 3) := by decide +kernel
theorem dX9_ofFloat_53 : decode cX9_ofFloat 53 = .ok (.iload_n 3, 1) := by decide +kernel
theorem dX9_ofFloat_54 : decode cX9_ofFloat 54 = .ok (.aload_n 0, 1) := by decide +kernel
theorem dX9_ofFloat_55 : decode cX9_ofFloat 55 = .ok (.getfield 71, 3) := by decide +kernel
theorem dX9_ofFloat_58 : decode cX9_ofFloat 58 = .ok (.iload 4, 2) := by decide +kernel
theorem dX9_ofFloat_60 : decode cX9_ofFloat 60 = .ok (.iaload, 1) := by decide +kernel
theorem dX9_ofFloat_61 : decode cX9_ofFloat 61 = .ok (.iload_n 1, 1) := by decide +kernel
theorem dX9_ofFloat_62 : decode cX9_ofFloat 62 = .ok (.if_icmp .ne 7, 3) := by decide +kernel
theorem dX9_ofFloat_65 : decode cX9_ofFloat 65 = .ok (.iconst 1, 1) := by decide +kernel
theorem dX9_ofFloat_66 : decode cX9_ofFloat 66 = .ok (.goto 4, 3) := by decide +kernel
theorem dX9_ofFloat_69 : decode cX9_ofFloat 69 = .ok (.iconst 0, 1) := by decide +kernel
theorem dX9_ofFloat_70 : decode cX9_ofFloat 70 = .ok (.iadd, 1) := by decide +kernel
theorem dX9_ofFloat_71 : decode cX9_ofFloat 71 = .ok (.istore_n 3, 1) := by decide +kernel
theorem dX9_ofFloat_72 : decode cX9_ofFloat 72 = .ok (.iinc 4 1, 3) := by decide +kernel
theorem dX9_ofFloat_75 : decode cX9_ofFloat 75 = .ok (.goto (-31), 3) := by decide +kernel
theorem dX9_ofFloat_78 : decode cX9_ofFloat 78 = .ok (.iload_n 2, 1) := by decide +kernel
theorem dX9_ofFloat_79 : decode cX9_ofFloat 79 = .ok (.ifCond .ne 12, 3) := by decide +kernel
theorem dX9_ofFloat_82 : decode cX9_ofFloat 82 = .ok (.aload_n 0, 1) := by decide +kernel
theorem dX9_ofFloat_83 : decode cX9_ofFloat 83 = .ok (.getfield 32, 3) := by decide +kernel
theorem dX9_ofFloat_86 : decode cX9_ofFloat 86 = .ok (.iload_n 1, 1) := by decide +kernel
theorem dX9_ofFloat_87 : decode cX9_ofFloat 87 = .ok (.iaload, 1) := by decide +kernel
theorem dX9_ofFloat_88 : decode cX9_ofFloat 88 = .ok (.goto 46, 3) := by decide +kernel
theorem dX9_ofFloat_91 : decode cX9_ofFloat 91 = .ok (.iload_n 2, 1) := by decide +kernel
theorem dX9_ofFloat_92 : decode cX9_ofFloat 92 = .ok (.iconst 1, 1) := by decide +kernel
theorem dX9_ofFloat_93 : decode cX9_ofFloat 93 = .ok (.if_icmp .ne 12, 3) := by decide +kernel
theorem dX9_ofFloat_96 : decode cX9_ofFloat 96 = .ok (.aload_n 0, 1) := by decide +kernel
theorem dX9_ofFloat_97 : decode cX9_ofFloat 97 = .ok (.getfield 38, 3) := by decide +kernel
theorem dX9_ofFloat_100 : decode cX9_ofFloat 100 = .ok (.iload_n 1, 1) := by decide +kernel
theorem dX9_ofFloat_101 : decode cX9_ofFloat 101 = .ok (.iaload, 1) := by decide +kernel
theorem dX9_ofFloat_102 : decode cX9_ofFloat 102 = .ok (.goto 32, 3) := by decide +kernel
theorem dX9_ofFloat_105 : decode cX9_ofFloat 105 = .ok (.iload_n 2, 1) := by decide +kernel
theorem dX9_ofFloat_106 : decode cX9_ofFloat 106 = .ok (.iconst 2, 1) := by decide +kernel
theorem dX9_ofFloat_107 : decode cX9_ofFloat 107 = .ok (.if_icmp .ne 12, 3) := by decide +kernel
theorem dX9_ofFloat_110 : decode cX9_ofFloat 110 = .ok (.aload_n 0, 1) := by decide +kernel
theorem dX9_ofFloat_111 : decode cX9_ofFloat 111 = .ok (.getfield 41, 3) := by decide +kernel
theorem dX9_ofFloat_114 : decode cX9_ofFloat 114 = .ok (.iload_n 1, 1) := by decide +kernel
theorem dX9_ofFloat_115 : decode cX9_ofFloat 115 = .ok (.iaload, 1) := by decide +kernel
theorem dX9_ofFloat_116 : decode cX9_ofFloat 116 = .ok (.goto 18, 3) := by decide +kernel
theorem dX9_ofFloat_119 : decode cX9_ofFloat 119 = .ok (.iload_n 2, 1) := by decide +kernel
theorem dX9_ofFloat_120 : decode cX9_ofFloat 120 = .ok (.iconst 3, 1) := by decide +kernel
theorem dX9_ofFloat_121 : decode cX9_ofFloat 121 = .ok (.if_icmp .ne 12, 3) := by decide +kernel
theorem dX9_ofFloat_124 : decode cX9_ofFloat 124 = .ok (.aload_n 0, 1) := by decide +kernel
theorem dX9_ofFloat_125 : decode cX9_ofFloat 125 = .ok (.getfield 47, 3) := by decide +kernel
theorem dX9_ofFloat_128 : decode cX9_ofFloat 128 = .ok (.iload_n 1, 1) := by decide +kernel
theorem dX9_ofFloat_129 : decode cX9_ofFloat 129 = .ok (.iaload, 1) := by decide +kernel
theorem dX9_ofFloat_130 : decode cX9_ofFloat 130 = .ok (.goto 4, 3) := by decide +kernel
theorem dX9_ofFloat_133 : decode cX9_ofFloat 133 = .ok (.iload_n 3, 1) := by decide +kernel
theorem dX9_ofFloat_134 : decode cX9_ofFloat 134 = .ok (.ireturn, 1) := by decide +kernel
theorem dX9_stations_0 : decode cX9_stations 0 = .ok (.aload_n 0, 1) := by decide +kernel
theorem dX9_stations_1 : decode cX9_stations 1 = .ok (.iconst 0, 1) := by decide +kernel
theorem dX9_stations_2 : decode cX9_stations 2 = .ok (.putfield 96, 3) := by decide +kernel
theorem dX9_stations_5 : decode cX9_stations 5 = .ok (.aload_n 0, 1) := by decide +kernel
theorem dX9_stations_6 : decode cX9_stations 6 = .ok (.getfield 123, 3) := by decide +kernel
theorem dX9_stations_9 : decode cX9_stations 9 = .ok (.ireturn, 1) := by decide +kernel
theorem dX9_readings_0 : decode cX9_readings 0 = .ok (.aload_n 0, 1) := by decide +kernel
theorem dX9_readings_1 : decode cX9_readings 1 = .ok (.iconst 0, 1) := by decide +kernel
theorem dX9_readings_2 : decode cX9_readings 2 = .ok (.putfield 96, 3) := by decide +kernel
theorem dX9_readings_5 : decode cX9_readings 5 = .ok (.aload_n 0, 1) := by decide +kernel
theorem dX9_readings_6 : decode cX9_readings 6 = .ok (.getfield 106, 3) := by decide +kernel
theorem dX9_readings_9 : decode cX9_readings 9 = .ok (.ireturn, 1) := by decide +kernel
theorem dX9_ofReading_0 : decode cX9_ofReading 0 = .ok (.aload_n 0, 1) := by decide +kernel
theorem dX9_ofReading_1 : decode cX9_ofReading 1 = .ok (.aload_n 0, 1) := by decide +kernel
theorem dX9_ofReading_2 : decode cX9_ofReading 2 = .ok (.iload_n 1, 1) := by decide +kernel
theorem dX9_ofReading_3 : decode cX9_ofReading 3 = .ok (.invokevirtual 173, 3) := by decide +kernel
theorem dX9_ofReading_6 : decode cX9_ofReading 6 = .ok (.ifCond .ne 7, 3) := by decide +kernel
theorem dX9_ofReading_9 : decode cX9_ofReading 9 = .ok (.iconst 1, 1) := by decide +kernel
theorem dX9_ofReading_10 : decode cX9_ofReading 10 = .ok (.goto 17, 3) := by decide +kernel
theorem dX9_ofReading_13 : decode cX9_ofReading 13 = .ok (.iload_n 2, 1) := by decide +kernel
theorem dX9_ofReading_14 : decode cX9_ofReading 14 = .ok (.iconst 0, 1) := by decide +kernel
theorem dX9_ofReading_15 : decode cX9_ofReading 15 = .ok (.iconst 5, 1) := by decide +kernel
theorem dX9_ofReading_16 : decode cX9_ofReading 16 = .ok (.invokestatic 99, 3) := by decide +kernel
theorem dX9_ofReading_19 : decode cX9_ofReading 19 = .ok (.ifCond .ne 7, 3) := by decide +kernel
theorem dX9_ofReading_22 : decode cX9_ofReading 22 = .ok (.iconst 2, 1) := by decide +kernel
theorem dX9_ofReading_23 : decode cX9_ofReading 23 = .ok (.goto 4, 3) := by decide +kernel
theorem dX9_ofReading_26 : decode cX9_ofReading 26 = .ok (.iconst 0, 1) := by decide +kernel
theorem dX9_ofReading_27 : decode cX9_ofReading 27 = .ok (.putfield 96, 3) := by decide +kernel
theorem dX9_ofReading_30 : decode cX9_ofReading 30 = .ok (.aload_n 0, 1) := by decide +kernel
theorem dX9_ofReading_31 : decode cX9_ofReading 31 = .ok (.getfield 96, 3) := by decide +kernel
theorem dX9_ofReading_34 : decode cX9_ofReading 34 = .ok (.ifCond .le 5, 3) := by decide +kernel
theorem dX9_ofReading_37 : decode cX9_ofReading 37 = .ok (.iconst 0, 1) := by decide +kernel
theorem dX9_ofReading_38 : decode cX9_ofReading 38 = .ok (.ireturn, 1) := by decide +kernel
theorem dX9_ofReading_39 : decode cX9_ofReading 39 = .ok (.iload_n 2, 1) := by decide +kernel
theorem dX9_ofReading_40 : decode cX9_ofReading 40 = .ok (.ifCond .ne 12, 3) := by decide +kernel
theorem dX9_ofReading_43 : decode cX9_ofReading 43 = .ok (.aload_n 0, 1) := by decide +kernel
theorem dX9_ofReading_44 : decode cX9_ofReading 44 = .ok (.getfield 62, 3) := by decide +kernel
theorem dX9_ofReading_47 : decode cX9_ofReading 47 = .ok (.iload_n 1, 1) := by decide +kernel
theorem dX9_ofReading_48 : decode cX9_ofReading 48 = .ok (.iaload, 1) := by decide +kernel
theorem dX9_ofReading_49 : decode cX9_ofReading 49 = .ok (.goto 63, 3) := by decide +kernel
theorem dX9_ofReading_52 : decode cX9_ofReading 52 = .ok (.iload_n 2, 1) := by decide +kernel
theorem dX9_ofReading_53 : decode cX9_ofReading 53 = .ok (.iconst 1, 1) := by decide +kernel
theorem dX9_ofReading_54 : decode cX9_ofReading 54 = .ok (.if_icmp .ne 12, 3) := by decide +kernel
theorem dX9_ofReading_57 : decode cX9_ofReading 57 = .ok (.aload_n 0, 1) := by decide +kernel
theorem dX9_ofReading_58 : decode cX9_ofReading 58 = .ok (.getfield 65, 3) := by decide +kernel
theorem dX9_ofReading_61 : decode cX9_ofReading 61 = .ok (.iload_n 1, 1) := by decide +kernel
theorem dX9_ofReading_62 : decode cX9_ofReading 62 = .ok (.iaload, 1) := by decide +kernel
theorem dX9_ofReading_63 : decode cX9_ofReading 63 = .ok (.goto 49, 3) := by decide +kernel
theorem dX9_ofReading_66 : decode cX9_ofReading 66 = .ok (.iload_n 2, 1) := by decide +kernel
theorem dX9_ofReading_67 : decode cX9_ofReading 67 = .ok (.iconst 2, 1) := by decide +kernel
theorem dX9_ofReading_68 : decode cX9_ofReading 68 = .ok (.if_icmp .ne 12, 3) := by decide +kernel
theorem dX9_ofReading_71 : decode cX9_ofReading 71 = .ok (.aload_n 0, 1) := by decide +kernel
theorem dX9_ofReading_72 : decode cX9_ofReading 72 = .ok (.getfield 68, 3) := by decide +kernel
theorem dX9_ofReading_75 : decode cX9_ofReading 75 = .ok (.iload_n 1, 1) := by decide +kernel
theorem dX9_ofReading_76 : decode cX9_ofReading 76 = .ok (.iaload, 1) := by decide +kernel
theorem dX9_ofReading_77 : decode cX9_ofReading 77 = .ok (.goto 35, 3) := by decide +kernel
theorem dX9_ofReading_80 : decode cX9_ofReading 80 = .ok (.iload_n 2, 1) := by decide +kernel
theorem dX9_ofReading_81 : decode cX9_ofReading 81 = .ok (.iconst 3, 1) := by decide +kernel
theorem dX9_ofReading_82 : decode cX9_ofReading 82 = .ok (.if_icmp .ne 11, 3) := by decide +kernel
theorem dX9_ofReading_85 : decode cX9_ofReading 85 = .ok (.aload_n 0, 1) := by decide +kernel
theorem dX9_ofReading_86 : decode cX9_ofReading 86 = .ok (.iload_n 1, 1) := by decide +kernel
theorem dX9_ofReading_87 : decode cX9_ofReading 87 = .ok (.invokevirtual 170, 3) := by decide +kernel
theorem dX9_ofReading_90 : decode cX9_ofReading 90 = .ok (.goto 22, 3) := by decide +kernel
theorem dX9_ofReading_93 : decode cX9_ofReading 93 = .ok (.iload_n 2, 1) := by decide +kernel
theorem dX9_ofReading_94 : decode cX9_ofReading 94 = .ok (.iconst 4, 1) := by decide +kernel
theorem dX9_ofReading_95 : decode cX9_ofReading 95 = .ok (.if_icmp .ne 11, 3) := by decide +kernel
theorem dX9_ofReading_98 : decode cX9_ofReading 98 = .ok (.aload_n 0, 1) := by decide +kernel
theorem dX9_ofReading_99 : decode cX9_ofReading 99 = .ok (.iload_n 1, 1) := by decide +kernel
theorem dX9_ofReading_100 : decode cX9_ofReading 100 = .ok (.invokevirtual 176, 3) := by decide +kernel
theorem dX9_ofReading_103 : decode cX9_ofReading 103 = .ok (.goto 9, 3) := by decide +kernel
theorem dX9_ofReading_106 : decode cX9_ofReading 106 = .ok (.aload_n 0, 1) := by decide +kernel
theorem dX9_ofReading_107 : decode cX9_ofReading 107 = .ok (.getfield 71, 3) := by decide +kernel
theorem dX9_ofReading_110 : decode cX9_ofReading 110 = .ok (.iload_n 1, 1) := by decide +kernel
theorem dX9_ofReading_111 : decode cX9_ofReading 111 = .ok (.iaload, 1) := by decide +kernel
theorem dX9_ofReading_112 : decode cX9_ofReading 112 = .ok (.ireturn, 1) := by decide +kernel
theorem dX9_weight_0 : decode cX9_weight 0 = .ok (.aload_n 0, 1) := by decide +kernel
theorem dX9_weight_1 : decode cX9_weight 1 = .ok (.getfield 65, 3) := by decide +kernel
theorem dX9_weight_4 : decode cX9_weight 4 = .ok (.iload_n 1, 1) := by decide +kernel
theorem dX9_weight_5 : decode cX9_weight 5 = .ok (.iaload, 1) := by decide +kernel
theorem dX9_weight_6 : decode cX9_weight 6 = .ok (.bipush 10, 2) := by decide +kernel
theorem dX9_weight_8 : decode cX9_weight 8 = .ok (.irem, 1) := by decide +kernel
theorem dX9_weight_9 : decode cX9_weight 9 = .ok (.iload_n 2, 1) := by decide +kernel
theorem dX9_weight_10 : decode cX9_weight 10 = .ok (.bipush 10, 2) := by decide +kernel
theorem dX9_weight_12 : decode cX9_weight 12 = .ok (.irem, 1) := by decide +kernel
theorem dX9_weight_13 : decode cX9_weight 13 = .ok (.isub, 1) := by decide +kernel
theorem dX9_weight_14 : decode cX9_weight 14 = .ok (.invokestatic 161, 3) := by decide +kernel
theorem dX9_weight_17 : decode cX9_weight 17 = .ok (.aload_n 0, 1) := by decide +kernel
theorem dX9_weight_18 : decode cX9_weight 18 = .ok (.getfield 65, 3) := by decide +kernel
theorem dX9_weight_21 : decode cX9_weight 21 = .ok (.iload_n 1, 1) := by decide +kernel
theorem dX9_weight_22 : decode cX9_weight 22 = .ok (.iaload, 1) := by decide +kernel
theorem dX9_weight_23 : decode cX9_weight 23 = .ok (.bipush 10, 2) := by decide +kernel
theorem dX9_weight_25 : decode cX9_weight 25 = .ok (.idiv, 1) := by decide +kernel
theorem dX9_weight_26 : decode cX9_weight 26 = .ok (.iload_n 2, 1) := by decide +kernel
theorem dX9_weight_27 : decode cX9_weight 27 = .ok (.bipush 10, 2) := by decide +kernel
theorem dX9_weight_29 : decode cX9_weight 29 = .ok (.idiv, 1) := by decide +kernel
theorem dX9_weight_30 : decode cX9_weight 30 = .ok (.isub, 1) := by decide +kernel
theorem dX9_weight_31 : decode cX9_weight 31 = .ok (.invokestatic 161, 3) := by decide +kernel
theorem dX9_weight_34 : decode cX9_weight 34 = .ok (.iadd, 1) := by decide +kernel
theorem dX9_weight_35 : decode cX9_weight 35 = .ok (.istore 5, 2) := by decide +kernel
theorem dX9_weight_37 : decode cX9_weight 37 = .ok (.iload 5, 2) := by decide +kernel
theorem dX9_weight_39 : decode cX9_weight 39 = .ok (.bipush 8, 2) := by decide +kernel
theorem dX9_weight_41 : decode cX9_weight 41 = .ok (.if_icmp .ge 35, 3) := by decide +kernel
theorem dX9_weight_44 : decode cX9_weight 44 = .ok (.aload_n 0, 1) := by decide +kernel
theorem dX9_weight_45 : decode cX9_weight 45 = .ok (.getfield 62, 3) := by decide +kernel
theorem dX9_weight_48 : decode cX9_weight 48 = .ok (.iload_n 1, 1) := by decide +kernel
theorem dX9_weight_49 : decode cX9_weight 49 = .ok (.iaload, 1) := by decide +kernel
theorem dX9_weight_50 : decode cX9_weight 50 = .ok (.iload_n 3, 1) := by decide +kernel
theorem dX9_weight_51 : decode cX9_weight 51 = .ok (.isub, 1) := by decide +kernel
theorem dX9_weight_52 : decode cX9_weight 52 = .ok (.invokestatic 161, 3) := by decide +kernel
theorem dX9_weight_55 : decode cX9_weight 55 = .ok (.iload 4, 2) := by decide +kernel
theorem dX9_weight_57 : decode cX9_weight 57 = .ok (.if_icmp .gt 19, 3) := by decide +kernel
theorem dX9_weight_60 : decode cX9_weight 60 = .ok (.aload_n 0, 1) := by decide +kernel
theorem dX9_weight_61 : decode cX9_weight 61 = .ok (.iload_n 1, 1) := by decide +kernel
theorem dX9_weight_62 : decode cX9_weight 62 = .ok (.invokevirtual 176, 3) := by decide +kernel
theorem dX9_weight_65 : decode cX9_weight 65 = .ok (.ifCond .ne 11, 3) := by decide +kernel
theorem dX9_weight_68 : decode cX9_weight 68 = .ok (.bipush 8, 2) := by decide +kernel
theorem dX9_weight_70 : decode cX9_weight 70 = .ok (.iload 5, 2) := by decide +kernel
theorem dX9_weight_72 : decode cX9_weight 72 = .ok (.isub, 1) := by decide +kernel
theorem dX9_weight_73 : decode cX9_weight 73 = .ok (.goto 4, 3) := by decide +kernel
theorem dX9_weight_76 : decode cX9_weight 76 = .ok (.iconst 0, 1) := by decide +kernel
theorem dX9_weight_77 : decode cX9_weight 77 = .ok (.ireturn, 1) := by decide +kernel
theorem dX9_weights_0 : decode cX9_weights 0 = .ok (.iconst 0, 1) := by decide +kernel
theorem dX9_weights_1 : decode cX9_weights 1 = .ok (.istore 5, 2) := by decide +kernel
theorem dX9_weights_3 : decode cX9_weights 3 = .ok (.iconst 0, 1) := by decide +kernel
theorem dX9_weights_4 : decode cX9_weights 4 = .ok (.istore 6, 2) := by decide +kernel
theorem dX9_weights_6 : decode cX9_weights 6 = .ok (.iload 6, 2) := by decide +kernel
theorem dX9_weights_8 : decode cX9_weights 8 = .ok (.aload_n 0, 1) := by decide +kernel
theorem dX9_weights_9 : decode cX9_weights 9 = .ok (.getfield 106, 3) := by decide +kernel
theorem dX9_weights_12 : decode cX9_weights 12 = .ok (.if_icmp .ge 34, 3) := by decide +kernel
theorem dX9_weights_15 : decode cX9_weights 15 = .ok (.iload 5, 2) := by decide +kernel
theorem dX9_weights_17 : decode cX9_weights 17 = .ok (.iload 6, 2) := by decide +kernel
theorem dX9_weights_19 : decode cX9_weights 19 = .ok (.iload 4, 2) := by decide +kernel
theorem dX9_weights_21 : decode cX9_weights 21 = .ok (.if_icmp .ne 7, 3) := by decide +kernel
theorem dX9_weights_24 : decode cX9_weights 24 = .ok (.iconst 0, 1) := by decide +kernel
theorem dX9_weights_25 : decode cX9_weights 25 = .ok (.goto 12, 3) := by decide +kernel
theorem dX9_weights_28 : decode cX9_weights 28 = .ok (.aload_n 0, 1) := by decide +kernel
theorem dX9_weights_29 : decode cX9_weights 29 = .ok (.iload 6, 2) := by decide +kernel
theorem dX9_weights_31 : decode cX9_weights 31 = .ok (.iload_n 1, 1) := by decide +kernel
theorem dX9_weights_32 : decode cX9_weights 32 = .ok (.iload_n 2, 1) := by decide +kernel
theorem dX9_weights_33 : decode cX9_weights 33 = .ok (.iload_n 3, 1) := by decide +kernel
theorem dX9_weights_34 : decode cX9_weights 34 = .ok (.invokevirtual 185, 3) := by decide +kernel
theorem dX9_weights_37 : decode cX9_weights 37 = .ok (.iadd, 1) := by decide +kernel
theorem dX9_weights_38 : decode cX9_weights 38 = .ok (.istore 5, 2) := by decide +kernel
theorem dX9_weights_40 : decode cX9_weights 40 = .ok (.iinc 6 1, 3) := by decide +kernel
theorem dX9_weights_43 : decode cX9_weights 43 = .ok (.goto (-37), 3) := by decide +kernel
theorem dX9_weights_46 : decode cX9_weights 46 = .ok (.iload 5, 2) := by decide +kernel
theorem dX9_weights_48 : decode cX9_weights 48 = .ok (.ireturn, 1) := by decide +kernel
theorem dX9_meanOf_0 : decode cX9_meanOf 0 = .ok (.lconst 0, 1) := by decide +kernel
theorem dX9_meanOf_1 : decode cX9_meanOf 1 = .ok (.lstore 5, 2) := by decide +kernel
theorem dX9_meanOf_3 : decode cX9_meanOf 3 = .ok (.iconst 0, 1) := by decide +kernel
theorem dX9_meanOf_4 : decode cX9_meanOf 4 = .ok (.istore 7, 2) := by decide +kernel
theorem dX9_meanOf_6 : decode cX9_meanOf 6 = .ok (.iload 7, 2) := by decide +kernel
theorem dX9_meanOf_8 : decode cX9_meanOf 8 = .ok (.aload_n 0, 1) := by decide +kernel
theorem dX9_meanOf_9 : decode cX9_meanOf 9 = .ok (.getfield 106, 3) := by decide +kernel
theorem dX9_meanOf_12 : decode cX9_meanOf 12 = .ok (.if_icmp .ge 43, 3) := by decide +kernel
theorem dX9_meanOf_15 : decode cX9_meanOf 15 = .ok (.lload 5, 2) := by decide +kernel
theorem dX9_meanOf_17 : decode cX9_meanOf 17 = .ok (.iload 7, 2) := by decide +kernel
theorem dX9_meanOf_19 : decode cX9_meanOf 19 = .ok (.iload 4, 2) := by decide +kernel
theorem dX9_meanOf_21 : decode cX9_meanOf 21 = .ok (.if_icmp .ne 7, 3) := by decide +kernel
theorem dX9_meanOf_24 : decode cX9_meanOf 24 = .ok (.lconst 0, 1) := by decide +kernel
theorem dX9_meanOf_25 : decode cX9_meanOf 25 = .ok (.goto 21, 3) := by decide +kernel
theorem dX9_meanOf_28 : decode cX9_meanOf 28 = .ok (.aload_n 0, 1) := by decide +kernel
theorem dX9_meanOf_29 : decode cX9_meanOf 29 = .ok (.iload 7, 2) := by decide +kernel
theorem dX9_meanOf_31 : decode cX9_meanOf 31 = .ok (.iload_n 1, 1) := by decide +kernel
theorem dX9_meanOf_32 : decode cX9_meanOf 32 = .ok (.iload_n 2, 1) := by decide +kernel
theorem dX9_meanOf_33 : decode cX9_meanOf 33 = .ok (.iload_n 3, 1) := by decide +kernel
theorem dX9_meanOf_34 : decode cX9_meanOf 34 = .ok (.invokevirtual 185, 3) := by decide +kernel
theorem dX9_meanOf_37 : decode cX9_meanOf 37 = .ok (.i2l, 1) := by decide +kernel
theorem dX9_meanOf_38 : decode cX9_meanOf 38 = .ok (.aload_n 0, 1) := by decide +kernel
theorem dX9_meanOf_39 : decode cX9_meanOf 39 = .ok (.iload 7, 2) := by decide +kernel
theorem dX9_meanOf_41 : decode cX9_meanOf 41 = .ok (.invokevirtual 170, 3) := by decide +kernel
theorem dX9_meanOf_44 : decode cX9_meanOf 44 = .ok (.i2l, 1) := by decide +kernel
theorem dX9_meanOf_45 : decode cX9_meanOf 45 = .ok (.lmul, 1) := by decide +kernel
theorem dX9_meanOf_46 : decode cX9_meanOf 46 = .ok (.ladd, 1) := by decide +kernel
theorem dX9_meanOf_47 : decode cX9_meanOf 47 = .ok (.lstore 5, 2) := by decide +kernel
theorem dX9_meanOf_49 : decode cX9_meanOf 49 = .ok (.iinc 7 1, 3) := by decide +kernel
theorem dX9_meanOf_52 : decode cX9_meanOf 52 = .ok (.goto (-46), 3) := by decide +kernel
theorem dX9_meanOf_55 : decode cX9_meanOf 55 = .ok (.lload 5, 2) := by decide +kernel
theorem dX9_meanOf_57 : decode cX9_meanOf 57 = .ok (.aload_n 0, 1) := by decide +kernel
theorem dX9_meanOf_58 : decode cX9_meanOf 58 = .ok (.iload_n 1, 1) := by decide +kernel
theorem dX9_meanOf_59 : decode cX9_meanOf 59 = .ok (.iload_n 2, 1) := by decide +kernel
theorem dX9_meanOf_60 : decode cX9_meanOf 60 = .ok (.iload_n 3, 1) := by decide +kernel
theorem dX9_meanOf_61 : decode cX9_meanOf 61 = .ok (.iload 4, 2) := by decide +kernel
theorem dX9_meanOf_63 : decode cX9_meanOf 63 = .ok (.invokevirtual 189, 3) := by decide +kernel
theorem dX9_meanOf_66 : decode cX9_meanOf 66 = .ok (.i2l, 1) := by decide +kernel
theorem dX9_meanOf_67 : decode cX9_meanOf 67 = .ok (.ldiv, 1) := by decide +kernel
theorem dX9_meanOf_68 : decode cX9_meanOf 68 = .ok (.l2i, 1) := by decide +kernel
theorem dX9_meanOf_69 : decode cX9_meanOf 69 = .ok (.ireturn, 1) := by decide +kernel
theorem dX9_misses_0 : decode cX9_misses 0 = .ok (.iload_n 1, 1) := by decide +kernel
theorem dX9_misses_1 : decode cX9_misses 1 = .ok (.invokestatic 116, 3) := by decide +kernel
theorem dX9_misses_4 : decode cX9_misses 4 = .ok (.ifCond .ne 7, 3) := by decide +kernel
theorem dX9_misses_7 : decode cX9_misses 7 = .ok (.iconst 1, 1) := by decide +kernel
theorem dX9_misses_8 : decode cX9_misses 8 = .ok (.goto 43, 3) := by decide +kernel
theorem dX9_misses_11 : decode cX9_misses 11 = .ok (.iload_n 2, 1) := by decide +kernel
theorem dX9_misses_12 : decode cX9_misses 12 = .ok (.iconst 0, 1) := by decide +kernel
theorem dX9_misses_13 : decode cX9_misses 13 = .ok (.sipush 1000, 3) := by decide +kernel
theorem dX9_misses_16 : decode cX9_misses 16 = .ok (.invokestatic 99, 3) := by decide +kernel
theorem dX9_misses_19 : decode cX9_misses 19 = .ok (.ifCond .eq 14, 3) := by decide +kernel
theorem dX9_misses_22 : decode cX9_misses 22 = .ok (.iload_n 3, 1) := by decide +kernel
theorem dX9_misses_23 : decode cX9_misses 23 = .ok (.iconst 0, 1) := by decide +kernel
theorem dX9_misses_24 : decode cX9_misses 24 = .ok (.sipush 1000, 3) := by decide +kernel
theorem dX9_misses_27 : decode cX9_misses 27 = .ok (.invokestatic 99, 3) := by decide +kernel
theorem dX9_misses_30 : decode cX9_misses 30 = .ok (.ifCond .ne 7, 3) := by decide +kernel
theorem dX9_misses_33 : decode cX9_misses 33 = .ok (.iconst 2, 1) := by decide +kernel
theorem dX9_misses_34 : decode cX9_misses 34 = .ok (.goto 17, 3) := by decide +kernel
theorem dX9_misses_37 : decode cX9_misses 37 = .ok (.aload_n 0, 1) := by decide +kernel
theorem dX9_misses_38 : decode cX9_misses 38 = .ok (.getfield 7, 3) := by decide +kernel
theorem dX9_misses_41 : decode cX9_misses 41 = .ok (.iload_n 1, 1) := by decide +kernel
theorem dX9_misses_42 : decode cX9_misses 42 = .ok (.baload, 1) := by decide +kernel
theorem dX9_misses_43 : decode cX9_misses 43 = .ok (.ifCond .eq 7, 3) := by decide +kernel
theorem dX9_misses_46 : decode cX9_misses 46 = .ok (.iconst 3, 1) := by decide +kernel
theorem dX9_misses_47 : decode cX9_misses 47 = .ok (.goto 4, 3) := by decide +kernel
theorem dX9_misses_50 : decode cX9_misses 50 = .ok (.iconst 0, 1) := by decide +kernel
theorem dX9_misses_51 : decode cX9_misses 51 = .ok (.ireturn, 1) := by decide +kernel
theorem dX9_mean_0 : decode cX9_mean 0 = .ok (.aload_n 0, 1) := by decide +kernel
theorem dX9_mean_1 : decode cX9_mean 1 = .ok (.aload_n 0, 1) := by decide +kernel
theorem dX9_mean_2 : decode cX9_mean 2 = .ok (.iload_n 1, 1) := by decide +kernel
theorem dX9_mean_3 : decode cX9_mean 3 = .ok (.iload_n 2, 1) := by decide +kernel
theorem dX9_mean_4 : decode cX9_mean 4 = .ok (.iload_n 3, 1) := by decide +kernel
theorem dX9_mean_5 : decode cX9_mean 5 = .ok (.invokevirtual 192, 3) := by decide +kernel
theorem dX9_mean_8 : decode cX9_mean 8 = .ok (.putfield 96, 3) := by decide +kernel
theorem dX9_mean_11 : decode cX9_mean 11 = .ok (.aload_n 0, 1) := by decide +kernel
theorem dX9_mean_12 : decode cX9_mean 12 = .ok (.aload_n 0, 1) := by decide +kernel
theorem dX9_mean_13 : decode cX9_mean 13 = .ok (.getfield 96, 3) := by decide +kernel
theorem dX9_mean_16 : decode cX9_mean 16 = .ok (.ifCond .ne 18, 3) := by decide +kernel
theorem dX9_mean_19 : decode cX9_mean 19 = .ok (.aload_n 0, 1) := by decide +kernel
theorem dX9_mean_20 : decode cX9_mean 20 = .ok (.iload_n 1, 1) := by decide +kernel
theorem dX9_mean_21 : decode cX9_mean 21 = .ok (.iload_n 2, 1) := by decide +kernel
theorem dX9_mean_22 : decode cX9_mean 22 = .ok (.iload_n 3, 1) := by decide +kernel
theorem dX9_mean_23 : decode cX9_mean 23 = .ok (.iconst (-1), 1) := by decide +kernel
theorem dX9_mean_24 : decode cX9_mean 24 = .ok (.invokevirtual 189, 3) := by decide +kernel
theorem dX9_mean_27 : decode cX9_mean 27 = .ok (.ifCond .ne 7, 3) := by decide +kernel
theorem dX9_mean_30 : decode cX9_mean 30 = .ok (.iconst 3, 1) := by decide +kernel
theorem dX9_mean_31 : decode cX9_mean 31 = .ok (.goto 7, 3) := by decide +kernel
theorem dX9_mean_34 : decode cX9_mean 34 = .ok (.aload_n 0, 1) := by decide +kernel
theorem dX9_mean_35 : decode cX9_mean 35 = .ok (.getfield 96, 3) := by decide +kernel
theorem dX9_mean_38 : decode cX9_mean 38 = .ok (.putfield 96, 3) := by decide +kernel
theorem dX9_mean_41 : decode cX9_mean 41 = .ok (.aload_n 0, 1) := by decide +kernel
theorem dX9_mean_42 : decode cX9_mean 42 = .ok (.getfield 96, 3) := by decide +kernel
theorem dX9_mean_45 : decode cX9_mean 45 = .ok (.ifCond .le 7, 3) := by decide +kernel
theorem dX9_mean_48 : decode cX9_mean 48 = .ok (.iconst 0, 1) := by decide +kernel
theorem dX9_mean_49 : decode cX9_mean 49 = .ok (.goto 11, 3) := by decide +kernel
theorem dX9_mean_52 : decode cX9_mean 52 = .ok (.aload_n 0, 1) := by decide +kernel
theorem dX9_mean_53 : decode cX9_mean 53 = .ok (.iload_n 1, 1) := by decide +kernel
theorem dX9_mean_54 : decode cX9_mean 54 = .ok (.iload_n 2, 1) := by decide +kernel
theorem dX9_mean_55 : decode cX9_mean 55 = .ok (.iload_n 3, 1) := by decide +kernel
theorem dX9_mean_56 : decode cX9_mean 56 = .ok (.iconst (-1), 1) := by decide +kernel
theorem dX9_mean_57 : decode cX9_mean 57 = .ok (.invokevirtual 196, 3) := by decide +kernel
theorem dX9_mean_60 : decode cX9_mean 60 = .ok (.ireturn, 1) := by decide +kernel
theorem dX9_error_0 : decode cX9_error 0 = .ok (.aload_n 0, 1) := by decide +kernel
theorem dX9_error_1 : decode cX9_error 1 = .ok (.aload_n 0, 1) := by decide +kernel
theorem dX9_error_2 : decode cX9_error 2 = .ok (.iload_n 1, 1) := by decide +kernel
theorem dX9_error_3 : decode cX9_error 3 = .ok (.iload_n 2, 1) := by decide +kernel
theorem dX9_error_4 : decode cX9_error 4 = .ok (.iload_n 3, 1) := by decide +kernel
theorem dX9_error_5 : decode cX9_error 5 = .ok (.invokevirtual 192, 3) := by decide +kernel
theorem dX9_error_8 : decode cX9_error 8 = .ok (.putfield 96, 3) := by decide +kernel
theorem dX9_error_11 : decode cX9_error 11 = .ok (.aload_n 0, 1) := by decide +kernel
theorem dX9_error_12 : decode cX9_error 12 = .ok (.getfield 96, 3) := by decide +kernel
theorem dX9_error_15 : decode cX9_error 15 = .ok (.ifCond .le 7, 3) := by decide +kernel
theorem dX9_error_18 : decode cX9_error 18 = .ok (.iconst 0, 1) := by decide +kernel
theorem dX9_error_19 : decode cX9_error 19 = .ok (.goto 17, 3) := by decide +kernel
theorem dX9_error_22 : decode cX9_error 22 = .ok (.sipush 1000, 3) := by decide +kernel
theorem dX9_error_25 : decode cX9_error 25 = .ok (.iconst 1, 1) := by decide +kernel
theorem dX9_error_26 : decode cX9_error 26 = .ok (.aload_n 0, 1) := by decide +kernel
theorem dX9_error_27 : decode cX9_error 27 = .ok (.iload_n 1, 1) := by decide +kernel
theorem dX9_error_28 : decode cX9_error 28 = .ok (.iload_n 2, 1) := by decide +kernel
theorem dX9_error_29 : decode cX9_error 29 = .ok (.iload_n 3, 1) := by decide +kernel
theorem dX9_error_30 : decode cX9_error 30 = .ok (.iconst (-1), 1) := by decide +kernel
theorem dX9_error_31 : decode cX9_error 31 = .ok (.invokevirtual 189, 3) := by decide +kernel
theorem dX9_error_34 : decode cX9_error 34 = .ok (.iadd, 1) := by decide +kernel
theorem dX9_error_35 : decode cX9_error 35 = .ok (.idiv, 1) := by decide +kernel
theorem dX9_error_36 : decode cX9_error 36 = .ok (.ireturn, 1) := by decide +kernel
theorem dX9_residual_0 : decode cX9_residual 0 = .ok (.aload_n 0, 1) := by decide +kernel
theorem dX9_residual_1 : decode cX9_residual 1 = .ok (.aload_n 0, 1) := by decide +kernel
theorem dX9_residual_2 : decode cX9_residual 2 = .ok (.iload_n 1, 1) := by decide +kernel
theorem dX9_residual_3 : decode cX9_residual 3 = .ok (.invokevirtual 173, 3) := by decide +kernel
theorem dX9_residual_6 : decode cX9_residual 6 = .ok (.ifCond .ne 7, 3) := by decide +kernel
theorem dX9_residual_9 : decode cX9_residual 9 = .ok (.iconst 1, 1) := by decide +kernel
theorem dX9_residual_10 : decode cX9_residual 10 = .ok (.goto 19, 3) := by decide +kernel
theorem dX9_residual_13 : decode cX9_residual 13 = .ok (.iload_n 2, 1) := by decide +kernel
theorem dX9_residual_14 : decode cX9_residual 14 = .ok (.iconst 0, 1) := by decide +kernel
theorem dX9_residual_15 : decode cX9_residual 15 = .ok (.sipush 1000, 3) := by decide +kernel
theorem dX9_residual_18 : decode cX9_residual 18 = .ok (.invokestatic 99, 3) := by decide +kernel
theorem dX9_residual_21 : decode cX9_residual 21 = .ok (.ifCond .ne 7, 3) := by decide +kernel
theorem dX9_residual_24 : decode cX9_residual 24 = .ok (.iconst 2, 1) := by decide +kernel
theorem dX9_residual_25 : decode cX9_residual 25 = .ok (.goto 4, 3) := by decide +kernel
theorem dX9_residual_28 : decode cX9_residual 28 = .ok (.iconst 0, 1) := by decide +kernel
theorem dX9_residual_29 : decode cX9_residual 29 = .ok (.putfield 96, 3) := by decide +kernel
theorem dX9_residual_32 : decode cX9_residual 32 = .ok (.aload_n 0, 1) := by decide +kernel
theorem dX9_residual_33 : decode cX9_residual 33 = .ok (.aload_n 0, 1) := by decide +kernel
theorem dX9_residual_34 : decode cX9_residual 34 = .ok (.getfield 96, 3) := by decide +kernel
theorem dX9_residual_37 : decode cX9_residual 37 = .ok (.ifCond .ne 28, 3) := by decide +kernel
theorem dX9_residual_40 : decode cX9_residual 40 = .ok (.aload_n 0, 1) := by decide +kernel
theorem dX9_residual_41 : decode cX9_residual 41 = .ok (.aload_n 0, 1) := by decide +kernel
theorem dX9_residual_42 : decode cX9_residual 42 = .ok (.getfield 65, 3) := by decide +kernel
theorem dX9_residual_45 : decode cX9_residual 45 = .ok (.iload_n 1, 1) := by decide +kernel
theorem dX9_residual_46 : decode cX9_residual 46 = .ok (.iaload, 1) := by decide +kernel
theorem dX9_residual_47 : decode cX9_residual 47 = .ok (.aload_n 0, 1) := by decide +kernel
theorem dX9_residual_48 : decode cX9_residual 48 = .ok (.getfield 62, 3) := by decide +kernel
theorem dX9_residual_51 : decode cX9_residual 51 = .ok (.iload_n 1, 1) := by decide +kernel
theorem dX9_residual_52 : decode cX9_residual 52 = .ok (.iaload, 1) := by decide +kernel
theorem dX9_residual_53 : decode cX9_residual 53 = .ok (.iload_n 2, 1) := by decide +kernel
theorem dX9_residual_54 : decode cX9_residual 54 = .ok (.iload_n 1, 1) := by decide +kernel
theorem dX9_residual_55 : decode cX9_residual 55 = .ok (.invokevirtual 189, 3) := by decide +kernel
theorem dX9_residual_58 : decode cX9_residual 58 = .ok (.ifCond .ne 7, 3) := by decide +kernel
theorem dX9_residual_61 : decode cX9_residual 61 = .ok (.iconst 3, 1) := by decide +kernel
theorem dX9_residual_62 : decode cX9_residual 62 = .ok (.goto 7, 3) := by decide +kernel
theorem dX9_residual_65 : decode cX9_residual 65 = .ok (.aload_n 0, 1) := by decide +kernel
theorem dX9_residual_66 : decode cX9_residual 66 = .ok (.getfield 96, 3) := by decide +kernel
theorem dX9_residual_69 : decode cX9_residual 69 = .ok (.putfield 96, 3) := by decide +kernel
theorem dX9_residual_72 : decode cX9_residual 72 = .ok (.aload_n 0, 1) := by decide +kernel
theorem dX9_residual_73 : decode cX9_residual 73 = .ok (.getfield 96, 3) := by decide +kernel
theorem dX9_residual_76 : decode cX9_residual 76 = .ok (.ifCond .le 7, 3) := by decide +kernel
theorem dX9_residual_79 : decode cX9_residual 79 = .ok (.iconst 0, 1) := by decide +kernel
theorem dX9_residual_80 : decode cX9_residual 80 = .ok (.goto 27, 3) := by decide +kernel
theorem dX9_residual_83 : decode cX9_residual 83 = .ok (.aload_n 0, 1) := by decide +kernel
theorem dX9_residual_84 : decode cX9_residual 84 = .ok (.iload_n 1, 1) := by decide +kernel
theorem dX9_residual_85 : decode cX9_residual 85 = .ok (.invokevirtual 170, 3) := by decide +kernel
theorem dX9_residual_88 : decode cX9_residual 88 = .ok (.aload_n 0, 1) := by decide +kernel
theorem dX9_residual_89 : decode cX9_residual 89 = .ok (.aload_n 0, 1) := by decide +kernel
theorem dX9_residual_90 : decode cX9_residual 90 = .ok (.getfield 65, 3) := by decide +kernel
theorem dX9_residual_93 : decode cX9_residual 93 = .ok (.iload_n 1, 1) := by decide +kernel
theorem dX9_residual_94 : decode cX9_residual 94 = .ok (.iaload, 1) := by decide +kernel
theorem dX9_residual_95 : decode cX9_residual 95 = .ok (.aload_n 0, 1) := by decide +kernel
theorem dX9_residual_96 : decode cX9_residual 96 = .ok (.getfield 62, 3) := by decide +kernel
theorem dX9_residual_99 : decode cX9_residual 99 = .ok (.iload_n 1, 1) := by decide +kernel
theorem dX9_residual_100 : decode cX9_residual 100 = .ok (.iaload, 1) := by decide +kernel
theorem dX9_residual_101 : decode cX9_residual 101 = .ok (.iload_n 2, 1) := by decide +kernel
theorem dX9_residual_102 : decode cX9_residual 102 = .ok (.iload_n 1, 1) := by decide +kernel
theorem dX9_residual_103 : decode cX9_residual 103 = .ok (.invokevirtual 196, 3) := by decide +kernel
theorem dX9_residual_106 : decode cX9_residual 106 = .ok (.isub, 1) := by decide +kernel
theorem dX9_residual_107 : decode cX9_residual 107 = .ok (.ireturn, 1) := by decide +kernel
theorem dX9_chance_0 : decode cX9_chance 0 = .ok (.aload_n 0, 1) := by decide +kernel
theorem dX9_chance_1 : decode cX9_chance 1 = .ok (.aload_n 0, 1) := by decide +kernel
theorem dX9_chance_2 : decode cX9_chance 2 = .ok (.iload_n 1, 1) := by decide +kernel
theorem dX9_chance_3 : decode cX9_chance 3 = .ok (.invokevirtual 179, 3) := by decide +kernel
theorem dX9_chance_6 : decode cX9_chance 6 = .ok (.ifCond .eq 14, 3) := by decide +kernel
theorem dX9_chance_9 : decode cX9_chance 9 = .ok (.iload_n 2, 1) := by decide +kernel
theorem dX9_chance_10 : decode cX9_chance 10 = .ok (.invokestatic 116, 3) := by decide +kernel
theorem dX9_chance_13 : decode cX9_chance 13 = .ok (.ifCond .eq 7, 3) := by decide +kernel
theorem dX9_chance_16 : decode cX9_chance 16 = .ok (.iconst 0, 1) := by decide +kernel
theorem dX9_chance_17 : decode cX9_chance 17 = .ok (.goto 4, 3) := by decide +kernel
theorem dX9_chance_20 : decode cX9_chance 20 = .ok (.iconst 1, 1) := by decide +kernel
theorem dX9_chance_21 : decode cX9_chance 21 = .ok (.putfield 96, 3) := by decide +kernel
theorem dX9_chance_24 : decode cX9_chance 24 = .ok (.aload_n 0, 1) := by decide +kernel
theorem dX9_chance_25 : decode cX9_chance 25 = .ok (.getfield 96, 3) := by decide +kernel
theorem dX9_chance_28 : decode cX9_chance 28 = .ok (.ifCond .le 7, 3) := by decide +kernel
theorem dX9_chance_31 : decode cX9_chance 31 = .ok (.iconst 0, 1) := by decide +kernel
theorem dX9_chance_32 : decode cX9_chance 32 = .ok (.goto 14, 3) := by decide +kernel
theorem dX9_chance_35 : decode cX9_chance 35 = .ok (.aload_n 0, 1) := by decide +kernel
theorem dX9_chance_36 : decode cX9_chance 36 = .ok (.getfield 84, 3) := by decide +kernel
theorem dX9_chance_39 : decode cX9_chance 39 = .ok (.bipush 60, 2) := by decide +kernel
theorem dX9_chance_41 : decode cX9_chance 41 = .ok (.iload_n 1, 1) := by decide +kernel
theorem dX9_chance_42 : decode cX9_chance 42 = .ok (.imul, 1) := by decide +kernel
theorem dX9_chance_43 : decode cX9_chance 43 = .ok (.iload_n 2, 1) := by decide +kernel
theorem dX9_chance_44 : decode cX9_chance 44 = .ok (.iadd, 1) := by decide +kernel
theorem dX9_chance_45 : decode cX9_chance 45 = .ok (.iaload, 1) := by decide +kernel
theorem dX9_chance_46 : decode cX9_chance 46 = .ok (.ireturn, 1) := by decide +kernel
theorem dX9_bestOf_0 : decode cX9_bestOf 0 = .ok (.iconst 0, 1) := by decide +kernel
theorem dX9_bestOf_1 : decode cX9_bestOf 1 = .ok (.istore_n 2, 1) := by decide +kernel
theorem dX9_bestOf_2 : decode cX9_bestOf 2 = .ok (.iconst 1, 1) := by decide +kernel
theorem dX9_bestOf_3 : decode cX9_bestOf 3 = .ok (.istore_n 3, 1) := by decide +kernel
theorem dX9_bestOf_4 : decode cX9_bestOf 4 = .ok (.iload_n 3, 1) := by decide +kernel
theorem dX9_bestOf_5 : decode cX9_bestOf 5 = .ok (.bipush 60, 2) := by decide +kernel
theorem dX9_bestOf_7 : decode cX9_bestOf 7 = .ok (.if_icmp .ge 40, 3) := by decide +kernel
theorem dX9_bestOf_10 : decode cX9_bestOf 10 = .ok (.aload_n 0, 1) := by decide +kernel
theorem dX9_bestOf_11 : decode cX9_bestOf 11 = .ok (.getfield 84, 3) := by decide +kernel
theorem dX9_bestOf_14 : decode cX9_bestOf 14 = .ok (.bipush 60, 2) := by decide +kernel
theorem dX9_bestOf_16 : decode cX9_bestOf 16 = .ok (.iload_n 1, 1) := by decide +kernel
theorem dX9_bestOf_17 : decode cX9_bestOf 17 = .ok (.imul, 1) := by decide +kernel
theorem dX9_bestOf_18 : decode cX9_bestOf 18 = .ok (.iload_n 3, 1) := by decide +kernel
theorem dX9_bestOf_19 : decode cX9_bestOf 19 = .ok (.iadd, 1) := by decide +kernel
theorem dX9_bestOf_20 : decode cX9_bestOf 20 = .ok (.iaload, 1) := by decide +kernel
theorem dX9_bestOf_21 : decode cX9_bestOf 21 = .ok (.aload_n 0, 1) := by decide +kernel
theorem dX9_bestOf_22 : decode cX9_bestOf 22 = .ok (.getfield 84, 3) := by decide +kernel
theorem dX9_bestOf_25 : decode cX9_bestOf 25 = .ok (.bipush 60, 2) := by decide +kernel
theorem dX9_bestOf_27 : decode cX9_bestOf 27 = .ok (.iload_n 1, 1) := by decide +kernel
theorem dX9_bestOf_28 : decode cX9_bestOf 28 = .ok (.imul, 1) := by decide +kernel
theorem dX9_bestOf_29 : decode cX9_bestOf 29 = .ok (.iload_n 2, 1) := by decide +kernel
theorem dX9_bestOf_30 : decode cX9_bestOf 30 = .ok (.iadd, 1) := by decide +kernel
theorem dX9_bestOf_31 : decode cX9_bestOf 31 = .ok (.iaload, 1) := by decide +kernel
theorem dX9_bestOf_32 : decode cX9_bestOf 32 = .ok (.if_icmp .le 7, 3) := by decide +kernel
theorem dX9_bestOf_35 : decode cX9_bestOf 35 = .ok (.iload_n 3, 1) := by decide +kernel
theorem dX9_bestOf_36 : decode cX9_bestOf 36 = .ok (.goto 4, 3) := by decide +kernel
theorem dX9_bestOf_39 : decode cX9_bestOf 39 = .ok (.iload_n 2, 1) := by decide +kernel
theorem dX9_bestOf_40 : decode cX9_bestOf 40 = .ok (.istore_n 2, 1) := by decide +kernel
theorem dX9_bestOf_41 : decode cX9_bestOf 41 = .ok (.iinc 3 1, 3) := by decide +kernel
theorem dX9_bestOf_44 : decode cX9_bestOf 44 = .ok (.goto (-40), 3) := by decide +kernel
theorem dX9_bestOf_47 : decode cX9_bestOf 47 = .ok (.iload_n 2, 1) := by decide +kernel
theorem dX9_bestOf_48 : decode cX9_bestOf 48 = .ok (.ireturn, 1) := by decide +kernel
theorem dX9_best_0 : decode cX9_best 0 = .ok (.aload_n 0, 1) := by decide +kernel
theorem dX9_best_1 : decode cX9_best 1 = .ok (.aload_n 0, 1) := by decide +kernel
theorem dX9_best_2 : decode cX9_best 2 = .ok (.iload_n 1, 1) := by decide +kernel
theorem dX9_best_3 : decode cX9_best 3 = .ok (.invokevirtual 179, 3) := by decide +kernel
theorem dX9_best_6 : decode cX9_best 6 = .ok (.ifCond .eq 7, 3) := by decide +kernel
theorem dX9_best_9 : decode cX9_best 9 = .ok (.iconst 0, 1) := by decide +kernel
theorem dX9_best_10 : decode cX9_best 10 = .ok (.goto 4, 3) := by decide +kernel
theorem dX9_best_13 : decode cX9_best 13 = .ok (.iconst 1, 1) := by decide +kernel
theorem dX9_best_14 : decode cX9_best 14 = .ok (.putfield 96, 3) := by decide +kernel
theorem dX9_best_17 : decode cX9_best 17 = .ok (.aload_n 0, 1) := by decide +kernel
theorem dX9_best_18 : decode cX9_best 18 = .ok (.getfield 96, 3) := by decide +kernel
theorem dX9_best_21 : decode cX9_best 21 = .ok (.ifCond .le 7, 3) := by decide +kernel
theorem dX9_best_24 : decode cX9_best 24 = .ok (.iconst 0, 1) := by decide +kernel
theorem dX9_best_25 : decode cX9_best 25 = .ok (.goto 8, 3) := by decide +kernel
theorem dX9_best_28 : decode cX9_best 28 = .ok (.aload_n 0, 1) := by decide +kernel
theorem dX9_best_29 : decode cX9_best 29 = .ok (.iload_n 1, 1) := by decide +kernel
theorem dX9_best_30 : decode cX9_best 30 = .ok (.invokevirtual 199, 3) := by decide +kernel
theorem dX9_best_33 : decode cX9_best 33 = .ok (.ireturn, 1) := by decide +kernel
theorem dX9_plan_0 : decode cX9_plan 0 = .ok (.aload_n 0, 1) := by decide +kernel
theorem dX9_plan_1 : decode cX9_plan 1 = .ok (.aload_n 0, 1) := by decide +kernel
theorem dX9_plan_2 : decode cX9_plan 2 = .ok (.iload_n 1, 1) := by decide +kernel
theorem dX9_plan_3 : decode cX9_plan 3 = .ok (.invokevirtual 179, 3) := by decide +kernel
theorem dX9_plan_6 : decode cX9_plan 6 = .ok (.ifCond .ne 7, 3) := by decide +kernel
theorem dX9_plan_9 : decode cX9_plan 9 = .ok (.iconst 1, 1) := by decide +kernel
theorem dX9_plan_10 : decode cX9_plan 10 = .ok (.goto 28, 3) := by decide +kernel
theorem dX9_plan_13 : decode cX9_plan 13 = .ok (.iload_n 2, 1) := by decide +kernel
theorem dX9_plan_14 : decode cX9_plan 14 = .ok (.iconst 1, 1) := by decide +kernel
theorem dX9_plan_15 : decode cX9_plan 15 = .ok (.bipush 20, 2) := by decide +kernel
theorem dX9_plan_17 : decode cX9_plan 17 = .ok (.invokestatic 99, 3) := by decide +kernel
theorem dX9_plan_20 : decode cX9_plan 20 = .ok (.ifCond .eq 13, 3) := by decide +kernel
theorem dX9_plan_23 : decode cX9_plan 23 = .ok (.iload_n 3, 1) := by decide +kernel
theorem dX9_plan_24 : decode cX9_plan 24 = .ok (.iconst 1, 1) := by decide +kernel
theorem dX9_plan_25 : decode cX9_plan 25 = .ok (.bipush 100, 2) := by decide +kernel
theorem dX9_plan_27 : decode cX9_plan 27 = .ok (.invokestatic 99, 3) := by decide +kernel
theorem dX9_plan_30 : decode cX9_plan 30 = .ok (.ifCond .ne 7, 3) := by decide +kernel
theorem dX9_plan_33 : decode cX9_plan 33 = .ok (.iconst 2, 1) := by decide +kernel
theorem dX9_plan_34 : decode cX9_plan 34 = .ok (.goto 4, 3) := by decide +kernel
theorem dX9_plan_37 : decode cX9_plan 37 = .ok (.iconst 0, 1) := by decide +kernel
theorem dX9_plan_38 : decode cX9_plan 38 = .ok (.putfield 96, 3) := by decide +kernel
theorem dX9_plan_41 : decode cX9_plan 41 = .ok (.aload_n 0, 1) := by decide +kernel
theorem dX9_plan_42 : decode cX9_plan 42 = .ok (.getfield 96, 3) := by decide +kernel
theorem dX9_plan_45 : decode cX9_plan 45 = .ok (.ifCond .le 5, 3) := by decide +kernel
theorem dX9_plan_48 : decode cX9_plan 48 = .ok (.iconst 0, 1) := by decide +kernel
theorem dX9_plan_49 : decode cX9_plan 49 = .ok (.ireturn, 1) := by decide +kernel
theorem dX9_plan_50 : decode cX9_plan 50 = .ok (.iconst 0, 1) := by decide +kernel
theorem dX9_plan_51 : decode cX9_plan 51 = .ok (.istore 4, 2) := by decide +kernel
theorem dX9_plan_53 : decode cX9_plan 53 = .ok (.iload 4, 2) := by decide +kernel
theorem dX9_plan_55 : decode cX9_plan 55 = .ok (.bipush 60, 2) := by decide +kernel
theorem dX9_plan_57 : decode cX9_plan 57 = .ok (.if_icmp .ge 32, 3) := by decide +kernel
theorem dX9_plan_60 : decode cX9_plan 60 = .ok (.aload_n 0, 1) := by decide +kernel
theorem dX9_plan_61 : decode cX9_plan 61 = .ok (.getfield 84, 3) := by decide +kernel
theorem dX9_plan_64 : decode cX9_plan 64 = .ok (.sipush 240, 3) := by decide +kernel
theorem dX9_plan_67 : decode cX9_plan 67 = .ok (.iload 4, 2) := by decide +kernel
theorem dX9_plan_69 : decode cX9_plan 69 = .ok (.iadd, 1) := by decide +kernel
theorem dX9_plan_70 : decode cX9_plan 70 = .ok (.aload_n 0, 1) := by decide +kernel
theorem dX9_plan_71 : decode cX9_plan 71 = .ok (.getfield 84, 3) := by decide +kernel
theorem dX9_plan_74 : decode cX9_plan 74 = .ok (.bipush 60, 2) := by decide +kernel
theorem dX9_plan_76 : decode cX9_plan 76 = .ok (.iload_n 1, 1) := by decide +kernel
theorem dX9_plan_77 : decode cX9_plan 77 = .ok (.imul, 1) := by decide +kernel
theorem dX9_plan_78 : decode cX9_plan 78 = .ok (.iload 4, 2) := by decide +kernel
theorem dX9_plan_80 : decode cX9_plan 80 = .ok (.iadd, 1) := by decide +kernel
theorem dX9_plan_81 : decode cX9_plan 81 = .ok (.iaload, 1) := by decide +kernel
theorem dX9_plan_82 : decode cX9_plan 82 = .ok (.iastore, 1) := by decide +kernel
theorem dX9_plan_83 : decode cX9_plan 83 = .ok (.iinc 4 1, 3) := by decide +kernel
theorem dX9_plan_86 : decode cX9_plan 86 = .ok (.goto (-33), 3) := by decide +kernel
theorem dX9_plan_89 : decode cX9_plan 89 = .ok (.iconst 0, 1) := by decide +kernel
theorem dX9_plan_90 : decode cX9_plan 90 = .ok (.istore 4, 2) := by decide +kernel
theorem dX9_plan_92 : decode cX9_plan 92 = .ok (.iconst 0, 1) := by decide +kernel
theorem dX9_plan_93 : decode cX9_plan 93 = .ok (.istore 5, 2) := by decide +kernel
theorem dX9_plan_95 : decode cX9_plan 95 = .ok (.iload 5, 2) := by decide +kernel
theorem dX9_plan_97 : decode cX9_plan 97 = .ok (.iload_n 2, 1) := by decide +kernel
theorem dX9_plan_98 : decode cX9_plan 98 = .ok (.if_icmp .ge 53, 3) := by decide +kernel
theorem dX9_plan_101 : decode cX9_plan 101 = .ok (.sipush 240, 3) := by decide +kernel
theorem dX9_plan_104 : decode cX9_plan 104 = .ok (.aload_n 0, 1) := by decide +kernel
theorem dX9_plan_105 : decode cX9_plan 105 = .ok (.iconst 4, 1) := by decide +kernel
theorem dX9_plan_106 : decode cX9_plan 106 = .ok (.invokevirtual 199, 3) := by decide +kernel
theorem dX9_plan_109 : decode cX9_plan 109 = .ok (.iadd, 1) := by decide +kernel
theorem dX9_plan_110 : decode cX9_plan 110 = .ok (.istore 6, 2) := by decide +kernel
theorem dX9_plan_112 : decode cX9_plan 112 = .ok (.aload_n 0, 1) := by decide +kernel
theorem dX9_plan_113 : decode cX9_plan 113 = .ok (.getfield 84, 3) := by decide +kernel
theorem dX9_plan_116 : decode cX9_plan 116 = .ok (.iload 6, 2) := by decide +kernel
theorem dX9_plan_118 : decode cX9_plan 118 = .ok (.iaload, 1) := by decide +kernel
theorem dX9_plan_119 : decode cX9_plan 119 = .ok (.iload_n 3, 1) := by decide +kernel
theorem dX9_plan_120 : decode cX9_plan 120 = .ok (.imul, 1) := by decide +kernel
theorem dX9_plan_121 : decode cX9_plan 121 = .ok (.bipush 100, 2) := by decide +kernel
theorem dX9_plan_123 : decode cX9_plan 123 = .ok (.idiv, 1) := by decide +kernel
theorem dX9_plan_124 : decode cX9_plan 124 = .ok (.istore 7, 2) := by decide +kernel
theorem dX9_plan_126 : decode cX9_plan 126 = .ok (.aload_n 0, 1) := by decide +kernel
theorem dX9_plan_127 : decode cX9_plan 127 = .ok (.getfield 84, 3) := by decide +kernel
theorem dX9_plan_130 : decode cX9_plan 130 = .ok (.iload 6, 2) := by decide +kernel
theorem dX9_plan_132 : decode cX9_plan 132 = .ok (.dup2, 1) := by decide +kernel
theorem dX9_plan_133 : decode cX9_plan 133 = .ok (.iaload, 1) := by decide +kernel
theorem dX9_plan_134 : decode cX9_plan 134 = .ok (.iload 7, 2) := by decide +kernel
theorem dX9_plan_136 : decode cX9_plan 136 = .ok (.isub, 1) := by decide +kernel
theorem dX9_plan_137 : decode cX9_plan 137 = .ok (.iastore, 1) := by decide +kernel
theorem dX9_plan_138 : decode cX9_plan 138 = .ok (.iload 4, 2) := by decide +kernel
theorem dX9_plan_140 : decode cX9_plan 140 = .ok (.iload 7, 2) := by decide +kernel
theorem dX9_plan_142 : decode cX9_plan 142 = .ok (.iadd, 1) := by decide +kernel
theorem dX9_plan_143 : decode cX9_plan 143 = .ok (.istore 4, 2) := by decide +kernel
theorem dX9_plan_145 : decode cX9_plan 145 = .ok (.iinc 5 1, 3) := by decide +kernel
theorem dX9_plan_148 : decode cX9_plan 148 = .ok (.goto (-53), 3) := by decide +kernel
theorem dX9_plan_151 : decode cX9_plan 151 = .ok (.iload 4, 2) := by decide +kernel
theorem dX9_plan_153 : decode cX9_plan 153 = .ok (.ireturn, 1) := by decide +kernel
theorem dX9_tideAt_0 : decode cX9_tideAt 0 = .ok (.iconst 0, 1) := by decide +kernel
theorem dX9_tideAt_1 : decode cX9_tideAt 1 = .ok (.istore_n 2, 1) := by decide +kernel
theorem dX9_tideAt_2 : decode cX9_tideAt 2 = .ok (.iconst 0, 1) := by decide +kernel
theorem dX9_tideAt_3 : decode cX9_tideAt 3 = .ok (.istore_n 3, 1) := by decide +kernel
theorem dX9_tideAt_4 : decode cX9_tideAt 4 = .ok (.iload_n 3, 1) := by decide +kernel
theorem dX9_tideAt_5 : decode cX9_tideAt 5 = .ok (.aload_n 0, 1) := by decide +kernel
theorem dX9_tideAt_6 : decode cX9_tideAt 6 = .ok (.getfield 182, 3) := by decide +kernel
theorem dX9_tideAt_9 : decode cX9_tideAt 9 = .ok (.if_icmp .ge 66, 3) := by decide +kernel
theorem dX9_tideAt_12 : decode cX9_tideAt 12 = .ok (.iload_n 1, 1) := by decide +kernel
theorem dX9_tideAt_13 : decode cX9_tideAt 13 = .ok (.aload_n 0, 1) := by decide +kernel
theorem dX9_tideAt_14 : decode cX9_tideAt 14 = .ok (.getfield 93, 3) := by decide +kernel
theorem dX9_tideAt_17 : decode cX9_tideAt 17 = .ok (.iload_n 3, 1) := by decide +kernel
theorem dX9_tideAt_18 : decode cX9_tideAt 18 = .ok (.iaload, 1) := by decide +kernel
theorem dX9_tideAt_19 : decode cX9_tideAt 19 = .ok (.iadd, 1) := by decide +kernel
theorem dX9_tideAt_20 : decode cX9_tideAt 20 = .ok (.aload_n 0, 1) := by decide +kernel
theorem dX9_tideAt_21 : decode cX9_tideAt 21 = .ok (.getfield 87, 3) := by decide +kernel
theorem dX9_tideAt_24 : decode cX9_tideAt 24 = .ok (.iload_n 3, 1) := by decide +kernel
theorem dX9_tideAt_25 : decode cX9_tideAt 25 = .ok (.iaload, 1) := by decide +kernel
theorem dX9_tideAt_26 : decode cX9_tideAt 26 = .ok (.irem, 1) := by decide +kernel
theorem dX9_tideAt_27 : decode cX9_tideAt 27 = .ok (.istore 4, 2) := by decide +kernel
theorem dX9_tideAt_29 : decode cX9_tideAt 29 = .ok (.iload_n 2, 1) := by decide +kernel
theorem dX9_tideAt_30 : decode cX9_tideAt 30 = .ok (.aload_n 0, 1) := by decide +kernel
theorem dX9_tideAt_31 : decode cX9_tideAt 31 = .ok (.getfield 90, 3) := by decide +kernel
theorem dX9_tideAt_34 : decode cX9_tideAt 34 = .ok (.iload_n 3, 1) := by decide +kernel
theorem dX9_tideAt_35 : decode cX9_tideAt 35 = .ok (.iaload, 1) := by decide +kernel
theorem dX9_tideAt_36 : decode cX9_tideAt 36 = .ok (.iconst 2, 1) := by decide +kernel
theorem dX9_tideAt_37 : decode cX9_tideAt 37 = .ok (.iconst 2, 1) := by decide +kernel
theorem dX9_tideAt_38 : decode cX9_tideAt 38 = .ok (.iload 4, 2) := by decide +kernel
theorem dX9_tideAt_40 : decode cX9_tideAt 40 = .ok (.imul, 1) := by decide +kernel
theorem dX9_tideAt_41 : decode cX9_tideAt 41 = .ok (.aload_n 0, 1) := by decide +kernel
theorem dX9_tideAt_42 : decode cX9_tideAt 42 = .ok (.getfield 87, 3) := by decide +kernel
theorem dX9_tideAt_45 : decode cX9_tideAt 45 = .ok (.iload_n 3, 1) := by decide +kernel
theorem dX9_tideAt_46 : decode cX9_tideAt 46 = .ok (.iaload, 1) := by decide +kernel
theorem dX9_tideAt_47 : decode cX9_tideAt 47 = .ok (.isub, 1) := by decide +kernel
theorem dX9_tideAt_48 : decode cX9_tideAt 48 = .ok (.invokestatic 161, 3) := by decide +kernel
theorem dX9_tideAt_51 : decode cX9_tideAt 51 = .ok (.imul, 1) := by decide +kernel
theorem dX9_tideAt_52 : decode cX9_tideAt 52 = .ok (.aload_n 0, 1) := by decide +kernel
theorem dX9_tideAt_53 : decode cX9_tideAt 53 = .ok (.getfield 87, 3) := by decide +kernel
theorem dX9_tideAt_56 : decode cX9_tideAt 56 = .ok (.iload_n 3, 1) := by decide +kernel
theorem dX9_tideAt_57 : decode cX9_tideAt 57 = .ok (.iaload, 1) := by decide +kernel
theorem dX9_tideAt_58 : decode cX9_tideAt 58 = .ok (.isub, 1) := by decide +kernel
theorem dX9_tideAt_59 : decode cX9_tideAt 59 = .ok (.imul, 1) := by decide +kernel
theorem dX9_tideAt_60 : decode cX9_tideAt 60 = .ok (.aload_n 0, 1) := by decide +kernel
theorem dX9_tideAt_61 : decode cX9_tideAt 61 = .ok (.getfield 87, 3) := by decide +kernel
theorem dX9_tideAt_64 : decode cX9_tideAt 64 = .ok (.iload_n 3, 1) := by decide +kernel
theorem dX9_tideAt_65 : decode cX9_tideAt 65 = .ok (.iaload, 1) := by decide +kernel
theorem dX9_tideAt_66 : decode cX9_tideAt 66 = .ok (.idiv, 1) := by decide +kernel
theorem dX9_tideAt_67 : decode cX9_tideAt 67 = .ok (.iadd, 1) := by decide +kernel
theorem dX9_tideAt_68 : decode cX9_tideAt 68 = .ok (.istore_n 2, 1) := by decide +kernel
theorem dX9_tideAt_69 : decode cX9_tideAt 69 = .ok (.iinc 3 1, 3) := by decide +kernel
theorem dX9_tideAt_72 : decode cX9_tideAt 72 = .ok (.goto (-68), 3) := by decide +kernel
theorem dX9_tideAt_75 : decode cX9_tideAt 75 = .ok (.iload_n 2, 1) := by decide +kernel
theorem dX9_tideAt_76 : decode cX9_tideAt 76 = .ok (.ireturn, 1) := by decide +kernel
theorem dX9_tide_0 : decode cX9_tide 0 = .ok (.aload_n 0, 1) := by decide +kernel
theorem dX9_tide_1 : decode cX9_tide 1 = .ok (.iload_n 1, 1) := by decide +kernel
theorem dX9_tide_2 : decode cX9_tide 2 = .ok (.iconst 0, 1) := by decide +kernel
theorem dX9_tide_3 : decode cX9_tide 3 = .ok (.ldc 202, 2) := by decide +kernel
theorem dX9_tide_5 : decode cX9_tide 5 = .ok (.invokestatic 99, 3) := by decide +kernel
theorem dX9_tide_8 : decode cX9_tide 8 = .ok (.ifCond .eq 7, 3) := by decide +kernel
theorem dX9_tide_11 : decode cX9_tide 11 = .ok (.iconst 0, 1) := by decide +kernel
theorem dX9_tide_12 : decode cX9_tide 12 = .ok (.goto 4, 3) := by decide +kernel
theorem dX9_tide_15 : decode cX9_tide 15 = .ok (.iconst 1, 1) := by decide +kernel
theorem dX9_tide_16 : decode cX9_tide 16 = .ok (.putfield 96, 3) := by decide +kernel
theorem dX9_tide_19 : decode cX9_tide 19 = .ok (.aload_n 0, 1) := by decide +kernel
theorem dX9_tide_20 : decode cX9_tide 20 = .ok (.getfield 96, 3) := by decide +kernel
theorem dX9_tide_23 : decode cX9_tide 23 = .ok (.ifCond .le 7, 3) := by decide +kernel
theorem dX9_tide_26 : decode cX9_tide 26 = .ok (.iconst 0, 1) := by decide +kernel
theorem dX9_tide_27 : decode cX9_tide 27 = .ok (.goto 8, 3) := by decide +kernel
theorem dX9_tide_30 : decode cX9_tide 30 = .ok (.aload_n 0, 1) := by decide +kernel
theorem dX9_tide_31 : decode cX9_tide 31 = .ok (.iload_n 1, 1) := by decide +kernel
theorem dX9_tide_32 : decode cX9_tide 32 = .ok (.invokevirtual 203, 3) := by decide +kernel
theorem dX9_tide_35 : decode cX9_tide 35 = .ok (.ireturn, 1) := by decide +kernel
theorem dX9_highest_0 : decode cX9_highest 0 = .ok (.aload_n 0, 1) := by decide +kernel
theorem dX9_highest_1 : decode cX9_highest 1 = .ok (.iload_n 1, 1) := by decide +kernel
theorem dX9_highest_2 : decode cX9_highest 2 = .ok (.iconst 0, 1) := by decide +kernel
theorem dX9_highest_3 : decode cX9_highest 3 = .ok (.ldc 202, 2) := by decide +kernel
theorem dX9_highest_5 : decode cX9_highest 5 = .ok (.invokestatic 99, 3) := by decide +kernel
theorem dX9_highest_8 : decode cX9_highest 8 = .ok (.ifCond .eq 31, 3) := by decide +kernel
theorem dX9_highest_11 : decode cX9_highest 11 = .ok (.iload_n 2, 1) := by decide +kernel
theorem dX9_highest_12 : decode cX9_highest 12 = .ok (.iload_n 1, 1) := by decide +kernel
theorem dX9_highest_13 : decode cX9_highest 13 = .ok (.iload_n 1, 1) := by decide +kernel
theorem dX9_highest_14 : decode cX9_highest 14 = .ok (.sipush 500, 3) := by decide +kernel
theorem dX9_highest_17 : decode cX9_highest 17 = .ok (.iadd, 1) := by decide +kernel
theorem dX9_highest_18 : decode cX9_highest 18 = .ok (.ldc 202, 2) := by decide +kernel
theorem dX9_highest_20 : decode cX9_highest 20 = .ok (.if_icmp .le 8, 3) := by decide +kernel
theorem dX9_highest_23 : decode cX9_highest 23 = .ok (.ldc 202, 2) := by decide +kernel
theorem dX9_highest_25 : decode cX9_highest 25 = .ok (.goto 8, 3) := by decide +kernel
theorem dX9_highest_28 : decode cX9_highest 28 = .ok (.iload_n 1, 1) := by decide +kernel
theorem dX9_highest_29 : decode cX9_highest 29 = .ok (.sipush 500, 3) := by decide +kernel
theorem dX9_highest_32 : decode cX9_highest 32 = .ok (.iadd, 1) := by decide +kernel
theorem dX9_highest_33 : decode cX9_highest 33 = .ok (.invokestatic 99, 3) := by decide +kernel
theorem dX9_highest_36 : decode cX9_highest 36 = .ok (.ifCond .ne 7, 3) := by decide +kernel
theorem dX9_highest_39 : decode cX9_highest 39 = .ok (.iconst 1, 1) := by decide +kernel
theorem dX9_highest_40 : decode cX9_highest 40 = .ok (.goto 4, 3) := by decide +kernel
theorem dX9_highest_43 : decode cX9_highest 43 = .ok (.iconst 0, 1) := by decide +kernel
theorem dX9_highest_44 : decode cX9_highest 44 = .ok (.putfield 96, 3) := by decide +kernel
theorem dX9_highest_47 : decode cX9_highest 47 = .ok (.aload_n 0, 1) := by decide +kernel
theorem dX9_highest_48 : decode cX9_highest 48 = .ok (.getfield 96, 3) := by decide +kernel
theorem dX9_highest_51 : decode cX9_highest 51 = .ok (.ifCond .le 5, 3) := by decide +kernel
theorem dX9_highest_54 : decode cX9_highest 54 = .ok (.iconst 0, 1) := by decide +kernel
theorem dX9_highest_55 : decode cX9_highest 55 = .ok (.ireturn, 1) := by decide +kernel
theorem dX9_highest_56 : decode cX9_highest 56 = .ok (.iload_n 1, 1) := by decide +kernel
theorem dX9_highest_57 : decode cX9_highest 57 = .ok (.istore_n 3, 1) := by decide +kernel
theorem dX9_highest_58 : decode cX9_highest 58 = .ok (.iload_n 1, 1) := by decide +kernel
theorem dX9_highest_59 : decode cX9_highest 59 = .ok (.iconst 1, 1) := by decide +kernel
theorem dX9_highest_60 : decode cX9_highest 60 = .ok (.iadd, 1) := by decide +kernel
theorem dX9_highest_61 : decode cX9_highest 61 = .ok (.istore 4, 2) := by decide +kernel
theorem dX9_highest_63 : decode cX9_highest 63 = .ok (.iload 4, 2) := by decide +kernel
theorem dX9_highest_65 : decode cX9_highest 65 = .ok (.iload_n 2, 1) := by decide +kernel
theorem dX9_highest_66 : decode cX9_highest 66 = .ok (.if_icmp .gt 30, 3) := by decide +kernel
theorem dX9_highest_69 : decode cX9_highest 69 = .ok (.aload_n 0, 1) := by decide +kernel
theorem dX9_highest_70 : decode cX9_highest 70 = .ok (.iload 4, 2) := by decide +kernel
theorem dX9_highest_72 : decode cX9_highest 72 = .ok (.invokevirtual 203, 3) := by decide +kernel
theorem dX9_highest_75 : decode cX9_highest 75 = .ok (.aload_n 0, 1) := by decide +kernel
theorem dX9_highest_76 : decode cX9_highest 76 = .ok (.iload_n 3, 1) := by decide +kernel
theorem dX9_highest_77 : decode cX9_highest 77 = .ok (.invokevirtual 203, 3) := by decide +kernel
theorem dX9_highest_80 : decode cX9_highest 80 = .ok (.if_icmp .le 8, 3) := by decide +kernel
theorem dX9_highest_83 : decode cX9_highest 83 = .ok (.iload 4, 2) := by decide +kernel
theorem dX9_highest_85 : decode cX9_highest 85 = .ok (.goto 4, 3) := by decide +kernel
theorem dX9_highest_88 : decode cX9_highest 88 = .ok (.iload_n 3, 1) := by decide +kernel
theorem dX9_highest_89 : decode cX9_highest 89 = .ok (.istore_n 3, 1) := by decide +kernel
theorem dX9_highest_90 : decode cX9_highest 90 = .ok (.iinc 4 1, 3) := by decide +kernel
theorem dX9_highest_93 : decode cX9_highest 93 = .ok (.goto (-30), 3) := by decide +kernel
theorem dX9_highest_96 : decode cX9_highest 96 = .ok (.iload_n 3, 1) := by decide +kernel
theorem dX9_highest_97 : decode cX9_highest 97 = .ok (.ireturn, 1) := by decide +kernel
theorem dJ9_abs_0f7a4_0 : decode cJ9_abs_0f7a4 0 = .ok (.iload_n 0, 1) := by decide +kernel
theorem dJ9_abs_0f7a4_1 : decode cJ9_abs_0f7a4 1 = .ok (.ifCond .ge 8, 3) := by decide +kernel
theorem dJ9_abs_0f7a4_4 : decode cJ9_abs_0f7a4 4 = .ok (.iload_n 0, 1) := by decide +kernel
theorem dJ9_abs_0f7a4_5 : decode cJ9_abs_0f7a4 5 = .ok (.ineg, 1) := by decide +kernel
theorem dJ9_abs_0f7a4_6 : decode cJ9_abs_0f7a4 6 = .ok (.goto 4, 3) := by decide +kernel
theorem dJ9_abs_0f7a4_9 : decode cJ9_abs_0f7a4 9 = .ok (.iload_n 0, 1) := by decide +kernel
theorem dJ9_abs_0f7a4_10 : decode cJ9_abs_0f7a4 10 = .ok (.ireturn, 1) := by decide +kernel
theorem dJ9_max_7cf53_0 : decode cJ9_max_7cf53 0 = .ok (.iload_n 0, 1) := by decide +kernel
theorem dJ9_max_7cf53_1 : decode cJ9_max_7cf53 1 = .ok (.iload_n 1, 1) := by decide +kernel
theorem dJ9_max_7cf53_2 : decode cJ9_max_7cf53 2 = .ok (.if_icmp .lt 7, 3) := by decide +kernel
theorem dJ9_max_7cf53_5 : decode cJ9_max_7cf53 5 = .ok (.iload_n 0, 1) := by decide +kernel
theorem dJ9_max_7cf53_6 : decode cJ9_max_7cf53 6 = .ok (.goto 4, 3) := by decide +kernel
theorem dJ9_max_7cf53_9 : decode cJ9_max_7cf53 9 = .ok (.iload_n 1, 1) := by decide +kernel
theorem dJ9_max_7cf53_10 : decode cJ9_max_7cf53 10 = .ok (.ireturn, 1) := by decide +kernel
theorem dJ9_min_7cf53_0 : decode cJ9_min_7cf53 0 = .ok (.iload_n 0, 1) := by decide +kernel
theorem dJ9_min_7cf53_1 : decode cJ9_min_7cf53 1 = .ok (.iload_n 1, 1) := by decide +kernel
theorem dJ9_min_7cf53_2 : decode cJ9_min_7cf53 2 = .ok (.if_icmp .gt 7, 3) := by decide +kernel
theorem dJ9_min_7cf53_5 : decode cJ9_min_7cf53 5 = .ok (.iload_n 0, 1) := by decide +kernel
theorem dJ9_min_7cf53_6 : decode cJ9_min_7cf53 6 = .ok (.goto 4, 3) := by decide +kernel
theorem dJ9_min_7cf53_9 : decode cJ9_min_7cf53 9 = .ok (.iload_n 1, 1) := by decide +kernel
theorem dJ9_min_7cf53_10 : decode cJ9_min_7cf53 10 = .ok (.ireturn, 1) := by decide +kernel
theorem dJ7_fill_53178_0 : decode cJ7_fill_53178 0 = .ok (.iconst 0, 1) := by decide +kernel
theorem dJ7_fill_53178_1 : decode cJ7_fill_53178 1 = .ok (.istore_n 2, 1) := by decide +kernel
theorem dJ7_fill_53178_2 : decode cJ7_fill_53178 2 = .ok (.aload_n 0, 1) := by decide +kernel
theorem dJ7_fill_53178_3 : decode cJ7_fill_53178 3 = .ok (.arraylength, 1) := by decide +kernel
theorem dJ7_fill_53178_4 : decode cJ7_fill_53178 4 = .ok (.istore_n 3, 1) := by decide +kernel
theorem dJ7_fill_53178_5 : decode cJ7_fill_53178 5 = .ok (.iload_n 2, 1) := by decide +kernel
theorem dJ7_fill_53178_6 : decode cJ7_fill_53178 6 = .ok (.iload_n 3, 1) := by decide +kernel
theorem dJ7_fill_53178_7 : decode cJ7_fill_53178 7 = .ok (.if_icmp .ge 13, 3) := by decide +kernel
theorem dJ7_fill_53178_10 : decode cJ7_fill_53178 10 = .ok (.aload_n 0, 1) := by decide +kernel
theorem dJ7_fill_53178_11 : decode cJ7_fill_53178 11 = .ok (.iload_n 2, 1) := by decide +kernel
theorem dJ7_fill_53178_12 : decode cJ7_fill_53178 12 = .ok (.iload_n 1, 1) := by decide +kernel
theorem dJ7_fill_53178_13 : decode cJ7_fill_53178 13 = .ok (.iastore, 1) := by decide +kernel
theorem dJ7_fill_53178_14 : decode cJ7_fill_53178 14 = .ok (.iinc 2 1, 3) := by decide +kernel
theorem dJ7_fill_53178_17 : decode cJ7_fill_53178 17 = .ok (.goto (-12), 3) := by decide +kernel
theorem dJ7_fill_53178_20 : decode cJ7_fill_53178 20 = .ok (.return_, 1) := by decide +kernel
theorem dL_land_0 : decode cL_land 0 = .ok (.aload_n 2, 1) := by decide +kernel
theorem dL_land_1 : decode cL_land 1 = .ok (.iconst 0, 1) := by decide +kernel
theorem dL_land_2 : decode cL_land 2 = .ok (.aload_n 0, 1) := by decide +kernel
theorem dL_land_3 : decode cL_land 3 = .ok (.iload_n 1, 1) := by decide +kernel
theorem dL_land_4 : decode cL_land 4 = .ok (.invokevirtual 7, 3) := by decide +kernel
theorem dL_land_7 : decode cL_land 7 = .ok (.i2l, 1) := by decide +kernel
theorem dL_land_8 : decode cL_land 8 = .ok (.lastore, 1) := by decide +kernel
theorem dL_land_9 : decode cL_land 9 = .ok (.goto 9, 3) := by decide +kernel
theorem dL_land_12 : decode cL_land 12 = .ok (.astore_n 3, 1) := by decide +kernel
theorem dL_land_13 : decode cL_land 13 = .ok (.iconst 1, 1) := by decide +kernel
theorem dL_land_14 : decode cL_land 14 = .ok (.ireturn, 1) := by decide +kernel
theorem dL_land_15 : decode cL_land 15 = .ok (.astore_n 3, 1) := by decide +kernel
theorem dL_land_16 : decode cL_land 16 = .ok (.iconst 2, 1) := by decide +kernel
theorem dL_land_17 : decode cL_land 17 = .ok (.ireturn, 1) := by decide +kernel
theorem dL_land_18 : decode cL_land 18 = .ok (.iconst 0, 1) := by decide +kernel
theorem dL_land_19 : decode cL_land 19 = .ok (.ireturn, 1) := by decide +kernel
theorem dL_current_0 : decode cL_current 0 = .ok (.aload_n 3, 1) := by decide +kernel
theorem dL_current_1 : decode cL_current 1 = .ok (.iconst 0, 1) := by decide +kernel
theorem dL_current_2 : decode cL_current 2 = .ok (.aload_n 0, 1) := by decide +kernel
theorem dL_current_3 : decode cL_current 3 = .ok (.iload_n 1, 1) := by decide +kernel
theorem dL_current_4 : decode cL_current 4 = .ok (.iload_n 2, 1) := by decide +kernel
theorem dL_current_5 : decode cL_current 5 = .ok (.invokevirtual 17, 3) := by decide +kernel
theorem dL_current_8 : decode cL_current 8 = .ok (.i2l, 1) := by decide +kernel
theorem dL_current_9 : decode cL_current 9 = .ok (.lastore, 1) := by decide +kernel
theorem dL_current_10 : decode cL_current 10 = .ok (.goto 11, 3) := by decide +kernel
theorem dL_current_13 : decode cL_current 13 = .ok (.astore 4, 2) := by decide +kernel
theorem dL_current_15 : decode cL_current 15 = .ok (.iconst 1, 1) := by decide +kernel
theorem dL_current_16 : decode cL_current 16 = .ok (.ireturn, 1) := by decide +kernel
theorem dL_current_17 : decode cL_current 17 = .ok (.astore 4, 2) := by decide +kernel
theorem dL_current_19 : decode cL_current 19 = .ok (.iconst 2, 1) := by decide +kernel
theorem dL_current_20 : decode cL_current 20 = .ok (.ireturn, 1) := by decide +kernel
theorem dL_current_21 : decode cL_current 21 = .ok (.iconst 0, 1) := by decide +kernel
theorem dL_current_22 : decode cL_current 22 = .ok (.ireturn, 1) := by decide +kernel
theorem dL_sun_0 : decode cL_sun 0 = .ok (.aload_n 3, 1) := by decide +kernel
theorem dL_sun_1 : decode cL_sun 1 = .ok (.iconst 0, 1) := by decide +kernel
theorem dL_sun_2 : decode cL_sun 2 = .ok (.aload_n 0, 1) := by decide +kernel
theorem dL_sun_3 : decode cL_sun 3 = .ok (.iload_n 1, 1) := by decide +kernel
theorem dL_sun_4 : decode cL_sun 4 = .ok (.iload_n 2, 1) := by decide +kernel
theorem dL_sun_5 : decode cL_sun 5 = .ok (.invokevirtual 23, 3) := by decide +kernel
theorem dL_sun_8 : decode cL_sun 8 = .ok (.i2l, 1) := by decide +kernel
theorem dL_sun_9 : decode cL_sun 9 = .ok (.lastore, 1) := by decide +kernel
theorem dL_sun_10 : decode cL_sun 10 = .ok (.goto 7, 3) := by decide +kernel
theorem dL_sun_13 : decode cL_sun 13 = .ok (.astore 4, 2) := by decide +kernel
theorem dL_sun_15 : decode cL_sun 15 = .ok (.iconst 1, 1) := by decide +kernel
theorem dL_sun_16 : decode cL_sun 16 = .ok (.ireturn, 1) := by decide +kernel
theorem dL_sun_17 : decode cL_sun 17 = .ok (.iconst 0, 1) := by decide +kernel
theorem dL_sun_18 : decode cL_sun 18 = .ok (.ireturn, 1) := by decide +kernel
theorem dL_pass_0 : decode cL_pass 0 = .ok (.aload_n 2, 1) := by decide +kernel
theorem dL_pass_1 : decode cL_pass 1 = .ok (.iconst 0, 1) := by decide +kernel
theorem dL_pass_2 : decode cL_pass 2 = .ok (.aload_n 0, 1) := by decide +kernel
theorem dL_pass_3 : decode cL_pass 3 = .ok (.iload_n 1, 1) := by decide +kernel
theorem dL_pass_4 : decode cL_pass 4 = .ok (.invokevirtual 26, 3) := by decide +kernel
theorem dL_pass_7 : decode cL_pass 7 = .ok (.i2l, 1) := by decide +kernel
theorem dL_pass_8 : decode cL_pass 8 = .ok (.lastore, 1) := by decide +kernel
theorem dL_pass_9 : decode cL_pass 9 = .ok (.goto 9, 3) := by decide +kernel
theorem dL_pass_12 : decode cL_pass 12 = .ok (.astore_n 3, 1) := by decide +kernel
theorem dL_pass_13 : decode cL_pass 13 = .ok (.iconst 1, 1) := by decide +kernel
theorem dL_pass_14 : decode cL_pass 14 = .ok (.ireturn, 1) := by decide +kernel
theorem dL_pass_15 : decode cL_pass 15 = .ok (.astore_n 3, 1) := by decide +kernel
end
section
theorem dL_pass_16 : decode cL_pass 16 = .ok (.iconst 2, 1) := by decide +kernel
theorem dL_pass_17 : decode cL_pass 17 = .ok (.ireturn, 1) := by decide +kernel
theorem dL_pass_18 : decode cL_pass 18 = .ok (.iconst 0, 1) := by decide +kernel
theorem dL_pass_19 : decode cL_pass 19 = .ok (.ireturn, 1) := by decide +kernel
theorem dL_lay_0 : decode cL_lay 0 = .ok (.aload 5, 2) := by decide +kernel
theorem dL_lay_2 : decode cL_lay 2 = .ok (.iconst 0, 1) := by decide +kernel
theorem dL_lay_3 : decode cL_lay 3 = .ok (.aload_n 0, 1) := by decide +kernel
theorem dL_lay_4 : decode cL_lay 4 = .ok (.iload_n 1, 1) := by decide +kernel
theorem dL_lay_5 : decode cL_lay 5 = .ok (.iload_n 2, 1) := by decide +kernel
theorem dL_lay_6 : decode cL_lay 6 = .ok (.iload_n 3, 1) := by decide +kernel
theorem dL_lay_7 : decode cL_lay 7 = .ok (.iload 4, 2) := by decide +kernel
theorem dL_lay_9 : decode cL_lay 9 = .ok (.invokevirtual 29, 3) := by decide +kernel
theorem dL_lay_12 : decode cL_lay 12 = .ok (.i2l, 1) := by decide +kernel
theorem dL_lay_13 : decode cL_lay 13 = .ok (.lastore, 1) := by decide +kernel
theorem dL_lay_14 : decode cL_lay 14 = .ok (.goto 15, 3) := by decide +kernel
theorem dL_lay_17 : decode cL_lay 17 = .ok (.astore 6, 2) := by decide +kernel
theorem dL_lay_19 : decode cL_lay 19 = .ok (.iconst 1, 1) := by decide +kernel
theorem dL_lay_20 : decode cL_lay 20 = .ok (.ireturn, 1) := by decide +kernel
theorem dL_lay_21 : decode cL_lay 21 = .ok (.astore 6, 2) := by decide +kernel
theorem dL_lay_23 : decode cL_lay 23 = .ok (.iconst 2, 1) := by decide +kernel
theorem dL_lay_24 : decode cL_lay 24 = .ok (.ireturn, 1) := by decide +kernel
theorem dL_lay_25 : decode cL_lay 25 = .ok (.astore 6, 2) := by decide +kernel
theorem dL_lay_27 : decode cL_lay 27 = .ok (.iconst 3, 1) := by decide +kernel
theorem dL_lay_28 : decode cL_lay 28 = .ok (.ireturn, 1) := by decide +kernel
theorem dL_lay_29 : decode cL_lay 29 = .ok (.iconst 0, 1) := by decide +kernel
theorem dL_lay_30 : decode cL_lay 30 = .ok (.ireturn, 1) := by decide +kernel
theorem dL_station_0 : decode cL_station 0 = .ok (.aload_n 3, 1) := by decide +kernel
theorem dL_station_1 : decode cL_station 1 = .ok (.iconst 0, 1) := by decide +kernel
theorem dL_station_2 : decode cL_station 2 = .ok (.aload_n 0, 1) := by decide +kernel
theorem dL_station_3 : decode cL_station 3 = .ok (.iload_n 1, 1) := by decide +kernel
theorem dL_station_4 : decode cL_station 4 = .ok (.iload_n 2, 1) := by decide +kernel
theorem dL_station_5 : decode cL_station 5 = .ok (.invokevirtual 33, 3) := by decide +kernel
theorem dL_station_8 : decode cL_station 8 = .ok (.i2l, 1) := by decide +kernel
theorem dL_station_9 : decode cL_station 9 = .ok (.lastore, 1) := by decide +kernel
theorem dL_station_10 : decode cL_station 10 = .ok (.goto 15, 3) := by decide +kernel
theorem dL_station_13 : decode cL_station 13 = .ok (.astore 4, 2) := by decide +kernel
theorem dL_station_15 : decode cL_station 15 = .ok (.iconst 1, 1) := by decide +kernel
theorem dL_station_16 : decode cL_station 16 = .ok (.ireturn, 1) := by decide +kernel
theorem dL_station_17 : decode cL_station 17 = .ok (.astore 4, 2) := by decide +kernel
theorem dL_station_19 : decode cL_station 19 = .ok (.iconst 2, 1) := by decide +kernel
theorem dL_station_20 : decode cL_station 20 = .ok (.ireturn, 1) := by decide +kernel
theorem dL_station_21 : decode cL_station 21 = .ok (.astore 4, 2) := by decide +kernel
theorem dL_station_23 : decode cL_station 23 = .ok (.iconst 3, 1) := by decide +kernel
theorem dL_station_24 : decode cL_station 24 = .ok (.ireturn, 1) := by decide +kernel
theorem dL_station_25 : decode cL_station 25 = .ok (.iconst 0, 1) := by decide +kernel
theorem dL_station_26 : decode cL_station 26 = .ok (.ireturn, 1) := by decide +kernel
theorem dL_storm_0 : decode cL_storm 0 = .ok (.aload_n 3, 1) := by decide +kernel
theorem dL_storm_1 : decode cL_storm 1 = .ok (.iconst 0, 1) := by decide +kernel
theorem dL_storm_2 : decode cL_storm 2 = .ok (.aload_n 0, 1) := by decide +kernel
theorem dL_storm_3 : decode cL_storm 3 = .ok (.iload_n 1, 1) := by decide +kernel
theorem dL_storm_4 : decode cL_storm 4 = .ok (.iload_n 2, 1) := by decide +kernel
theorem dL_storm_5 : decode cL_storm 5 = .ok (.invokevirtual 36, 3) := by decide +kernel
theorem dL_storm_8 : decode cL_storm 8 = .ok (.i2l, 1) := by decide +kernel
theorem dL_storm_9 : decode cL_storm 9 = .ok (.lastore, 1) := by decide +kernel
theorem dL_storm_10 : decode cL_storm 10 = .ok (.goto 11, 3) := by decide +kernel
theorem dL_storm_13 : decode cL_storm 13 = .ok (.astore 4, 2) := by decide +kernel
theorem dL_storm_15 : decode cL_storm 15 = .ok (.iconst 1, 1) := by decide +kernel
theorem dL_storm_16 : decode cL_storm 16 = .ok (.ireturn, 1) := by decide +kernel
theorem dL_storm_17 : decode cL_storm 17 = .ok (.astore 4, 2) := by decide +kernel
theorem dL_storm_19 : decode cL_storm 19 = .ok (.iconst 2, 1) := by decide +kernel
theorem dL_storm_20 : decode cL_storm 20 = .ok (.ireturn, 1) := by decide +kernel
theorem dL_storm_21 : decode cL_storm 21 = .ok (.iconst 0, 1) := by decide +kernel
theorem dL_storm_22 : decode cL_storm 22 = .ok (.ireturn, 1) := by decide +kernel
theorem dL_calibrate_0 : decode cL_calibrate 0 = .ok (.aload_n 2, 1) := by decide +kernel
theorem dL_calibrate_1 : decode cL_calibrate 1 = .ok (.iconst 0, 1) := by decide +kernel
theorem dL_calibrate_2 : decode cL_calibrate 2 = .ok (.aload_n 0, 1) := by decide +kernel
theorem dL_calibrate_3 : decode cL_calibrate 3 = .ok (.iload_n 1, 1) := by decide +kernel
theorem dL_calibrate_4 : decode cL_calibrate 4 = .ok (.invokevirtual 39, 3) := by decide +kernel
theorem dL_calibrate_7 : decode cL_calibrate 7 = .ok (.i2l, 1) := by decide +kernel
theorem dL_calibrate_8 : decode cL_calibrate 8 = .ok (.lastore, 1) := by decide +kernel
theorem dL_calibrate_9 : decode cL_calibrate 9 = .ok (.goto 9, 3) := by decide +kernel
theorem dL_calibrate_12 : decode cL_calibrate 12 = .ok (.astore_n 3, 1) := by decide +kernel
theorem dL_calibrate_13 : decode cL_calibrate 13 = .ok (.iconst 1, 1) := by decide +kernel
theorem dL_calibrate_14 : decode cL_calibrate 14 = .ok (.ireturn, 1) := by decide +kernel
theorem dL_calibrate_15 : decode cL_calibrate 15 = .ok (.astore_n 3, 1) := by decide +kernel
theorem dL_calibrate_16 : decode cL_calibrate 16 = .ok (.iconst 2, 1) := by decide +kernel
theorem dL_calibrate_17 : decode cL_calibrate 17 = .ok (.ireturn, 1) := by decide +kernel
theorem dL_calibrate_18 : decode cL_calibrate 18 = .ok (.iconst 0, 1) := by decide +kernel
theorem dL_calibrate_19 : decode cL_calibrate 19 = .ok (.ireturn, 1) := by decide +kernel
theorem dL_flag_0 : decode cL_flag 0 = .ok (.aload_n 3, 1) := by decide +kernel
theorem dL_flag_1 : decode cL_flag 1 = .ok (.iconst 0, 1) := by decide +kernel
theorem dL_flag_2 : decode cL_flag 2 = .ok (.aload_n 0, 1) := by decide +kernel
theorem dL_flag_3 : decode cL_flag 3 = .ok (.iload_n 1, 1) := by decide +kernel
theorem dL_flag_4 : decode cL_flag 4 = .ok (.iload_n 2, 1) := by decide +kernel
theorem dL_flag_5 : decode cL_flag 5 = .ok (.invokevirtual 42, 3) := by decide +kernel
theorem dL_flag_8 : decode cL_flag 8 = .ok (.i2l, 1) := by decide +kernel
theorem dL_flag_9 : decode cL_flag 9 = .ok (.lastore, 1) := by decide +kernel
theorem dL_flag_10 : decode cL_flag 10 = .ok (.goto 11, 3) := by decide +kernel
theorem dL_flag_13 : decode cL_flag 13 = .ok (.astore 4, 2) := by decide +kernel
theorem dL_flag_15 : decode cL_flag 15 = .ok (.iconst 1, 1) := by decide +kernel
theorem dL_flag_16 : decode cL_flag 16 = .ok (.ireturn, 1) := by decide +kernel
theorem dL_flag_17 : decode cL_flag 17 = .ok (.astore 4, 2) := by decide +kernel
theorem dL_flag_19 : decode cL_flag 19 = .ok (.iconst 2, 1) := by decide +kernel
theorem dL_flag_20 : decode cL_flag 20 = .ok (.ireturn, 1) := by decide +kernel
theorem dL_flag_21 : decode cL_flag 21 = .ok (.iconst 0, 1) := by decide +kernel
theorem dL_flag_22 : decode cL_flag 22 = .ok (.ireturn, 1) := by decide +kernel
theorem dL_bound_0 : decode cL_bound 0 = .ok (.aload_n 2, 1) := by decide +kernel
theorem dL_bound_1 : decode cL_bound 1 = .ok (.iconst 0, 1) := by decide +kernel
theorem dL_bound_2 : decode cL_bound 2 = .ok (.aload_n 0, 1) := by decide +kernel
theorem dL_bound_3 : decode cL_bound 3 = .ok (.iload_n 1, 1) := by decide +kernel
theorem dL_bound_4 : decode cL_bound 4 = .ok (.invokevirtual 45, 3) := by decide +kernel
theorem dL_bound_7 : decode cL_bound 7 = .ok (.i2l, 1) := by decide +kernel
theorem dL_bound_8 : decode cL_bound 8 = .ok (.lastore, 1) := by decide +kernel
theorem dL_bound_9 : decode cL_bound 9 = .ok (.goto 6, 3) := by decide +kernel
theorem dL_bound_12 : decode cL_bound 12 = .ok (.astore_n 3, 1) := by decide +kernel
theorem dL_bound_13 : decode cL_bound 13 = .ok (.iconst 1, 1) := by decide +kernel
theorem dL_bound_14 : decode cL_bound 14 = .ok (.ireturn, 1) := by decide +kernel
theorem dL_bound_15 : decode cL_bound 15 = .ok (.iconst 0, 1) := by decide +kernel
theorem dL_bound_16 : decode cL_bound 16 = .ok (.ireturn, 1) := by decide +kernel
theorem dL_search_0 : decode cL_search 0 = .ok (.aload_n 2, 1) := by decide +kernel
theorem dL_search_1 : decode cL_search 1 = .ok (.iconst 0, 1) := by decide +kernel
theorem dL_search_2 : decode cL_search 2 = .ok (.aload_n 0, 1) := by decide +kernel
theorem dL_search_3 : decode cL_search 3 = .ok (.iload_n 1, 1) := by decide +kernel
theorem dL_search_4 : decode cL_search 4 = .ok (.invokevirtual 48, 3) := by decide +kernel
theorem dL_search_7 : decode cL_search 7 = .ok (.i2l, 1) := by decide +kernel
theorem dL_search_8 : decode cL_search 8 = .ok (.lastore, 1) := by decide +kernel
theorem dL_search_9 : decode cL_search 9 = .ok (.goto 9, 3) := by decide +kernel
theorem dL_search_12 : decode cL_search 12 = .ok (.astore_n 3, 1) := by decide +kernel
theorem dL_search_13 : decode cL_search 13 = .ok (.iconst 1, 1) := by decide +kernel
theorem dL_search_14 : decode cL_search 14 = .ok (.ireturn, 1) := by decide +kernel
theorem dL_search_15 : decode cL_search 15 = .ok (.astore_n 3, 1) := by decide +kernel
theorem dL_search_16 : decode cL_search 16 = .ok (.iconst 2, 1) := by decide +kernel
theorem dL_search_17 : decode cL_search 17 = .ok (.ireturn, 1) := by decide +kernel
theorem dL_search_18 : decode cL_search 18 = .ok (.iconst 0, 1) := by decide +kernel
theorem dL_search_19 : decode cL_search 19 = .ok (.ireturn, 1) := by decide +kernel
theorem dL_leg_0 : decode cL_leg 0 = .ok (.aload 4, 2) := by decide +kernel
theorem dL_leg_2 : decode cL_leg 2 = .ok (.iconst 0, 1) := by decide +kernel
theorem dL_leg_3 : decode cL_leg 3 = .ok (.aload_n 0, 1) := by decide +kernel
theorem dL_leg_4 : decode cL_leg 4 = .ok (.iload_n 1, 1) := by decide +kernel
theorem dL_leg_5 : decode cL_leg 5 = .ok (.iload_n 2, 1) := by decide +kernel
theorem dL_leg_6 : decode cL_leg 6 = .ok (.iload_n 3, 1) := by decide +kernel
theorem dL_leg_7 : decode cL_leg 7 = .ok (.invokevirtual 51, 3) := by decide +kernel
theorem dL_leg_10 : decode cL_leg 10 = .ok (.i2l, 1) := by decide +kernel
theorem dL_leg_11 : decode cL_leg 11 = .ok (.lastore, 1) := by decide +kernel
theorem dL_leg_12 : decode cL_leg 12 = .ok (.goto 11, 3) := by decide +kernel
theorem dL_leg_15 : decode cL_leg 15 = .ok (.astore 5, 2) := by decide +kernel
theorem dL_leg_17 : decode cL_leg 17 = .ok (.iconst 1, 1) := by decide +kernel
theorem dL_leg_18 : decode cL_leg 18 = .ok (.ireturn, 1) := by decide +kernel
theorem dL_leg_19 : decode cL_leg 19 = .ok (.astore 5, 2) := by decide +kernel
theorem dL_leg_21 : decode cL_leg 21 = .ok (.iconst 2, 1) := by decide +kernel
theorem dL_leg_22 : decode cL_leg 22 = .ok (.ireturn, 1) := by decide +kernel
theorem dL_leg_23 : decode cL_leg 23 = .ok (.iconst 0, 1) := by decide +kernel
theorem dL_leg_24 : decode cL_leg 24 = .ok (.ireturn, 1) := by decide +kernel
theorem dL_part_0 : decode cL_part 0 = .ok (.aload 4, 2) := by decide +kernel
theorem dL_part_2 : decode cL_part 2 = .ok (.iconst 0, 1) := by decide +kernel
theorem dL_part_3 : decode cL_part 3 = .ok (.aload_n 0, 1) := by decide +kernel
theorem dL_part_4 : decode cL_part 4 = .ok (.iload_n 1, 1) := by decide +kernel
theorem dL_part_5 : decode cL_part 5 = .ok (.iload_n 2, 1) := by decide +kernel
theorem dL_part_6 : decode cL_part 6 = .ok (.iload_n 3, 1) := by decide +kernel
theorem dL_part_7 : decode cL_part 7 = .ok (.invokevirtual 55, 3) := by decide +kernel
theorem dL_part_10 : decode cL_part 10 = .ok (.i2l, 1) := by decide +kernel
theorem dL_part_11 : decode cL_part 11 = .ok (.lastore, 1) := by decide +kernel
theorem dL_part_12 : decode cL_part 12 = .ok (.goto 11, 3) := by decide +kernel
theorem dL_part_15 : decode cL_part 15 = .ok (.astore 5, 2) := by decide +kernel
theorem dL_part_17 : decode cL_part 17 = .ok (.iconst 1, 1) := by decide +kernel
theorem dL_part_18 : decode cL_part 18 = .ok (.ireturn, 1) := by decide +kernel
theorem dL_part_19 : decode cL_part 19 = .ok (.astore 5, 2) := by decide +kernel
theorem dL_part_21 : decode cL_part 21 = .ok (.iconst 2, 1) := by decide +kernel
theorem dL_part_22 : decode cL_part 22 = .ok (.ireturn, 1) := by decide +kernel
theorem dL_part_23 : decode cL_part 23 = .ok (.iconst 0, 1) := by decide +kernel
theorem dL_part_24 : decode cL_part 24 = .ok (.ireturn, 1) := by decide +kernel
theorem dL_ofLayer_0 : decode cL_ofLayer 0 = .ok (.aload 4, 2) := by decide +kernel
theorem dL_ofLayer_2 : decode cL_ofLayer 2 = .ok (.iconst 0, 1) := by decide +kernel
theorem dL_ofLayer_3 : decode cL_ofLayer 3 = .ok (.aload_n 0, 1) := by decide +kernel
theorem dL_ofLayer_4 : decode cL_ofLayer 4 = .ok (.iload_n 1, 1) := by decide +kernel
theorem dL_ofLayer_5 : decode cL_ofLayer 5 = .ok (.iload_n 2, 1) := by decide +kernel
theorem dL_ofLayer_6 : decode cL_ofLayer 6 = .ok (.iload_n 3, 1) := by decide +kernel
theorem dL_ofLayer_7 : decode cL_ofLayer 7 = .ok (.invokevirtual 58, 3) := by decide +kernel
theorem dL_ofLayer_10 : decode cL_ofLayer 10 = .ok (.i2l, 1) := by decide +kernel
theorem dL_ofLayer_11 : decode cL_ofLayer 11 = .ok (.lastore, 1) := by decide +kernel
theorem dL_ofLayer_12 : decode cL_ofLayer 12 = .ok (.goto 11, 3) := by decide +kernel
theorem dL_ofLayer_15 : decode cL_ofLayer 15 = .ok (.astore 5, 2) := by decide +kernel
theorem dL_ofLayer_17 : decode cL_ofLayer 17 = .ok (.iconst 1, 1) := by decide +kernel
theorem dL_ofLayer_18 : decode cL_ofLayer 18 = .ok (.ireturn, 1) := by decide +kernel
theorem dL_ofLayer_19 : decode cL_ofLayer 19 = .ok (.astore 5, 2) := by decide +kernel
theorem dL_ofLayer_21 : decode cL_ofLayer 21 = .ok (.iconst 2, 1) := by decide +kernel
theorem dL_ofLayer_22 : decode cL_ofLayer 22 = .ok (.ireturn, 1) := by decide +kernel
theorem dL_ofLayer_23 : decode cL_ofLayer 23 = .ok (.iconst 0, 1) := by decide +kernel
theorem dL_ofLayer_24 : decode cL_ofLayer 24 = .ok (.ireturn, 1) := by decide +kernel
theorem dL_total_0 : decode cL_total 0 = .ok (.aload_n 2, 1) := by decide +kernel
theorem dL_total_1 : decode cL_total 1 = .ok (.iconst 0, 1) := by decide +kernel
theorem dL_total_2 : decode cL_total 2 = .ok (.aload_n 0, 1) := by decide +kernel
theorem dL_total_3 : decode cL_total 3 = .ok (.iload_n 1, 1) := by decide +kernel
theorem dL_total_4 : decode cL_total 4 = .ok (.invokevirtual 61, 3) := by decide +kernel
theorem dL_total_7 : decode cL_total 7 = .ok (.i2l, 1) := by decide +kernel
theorem dL_total_8 : decode cL_total 8 = .ok (.lastore, 1) := by decide +kernel
theorem dL_total_9 : decode cL_total 9 = .ok (.goto 6, 3) := by decide +kernel
theorem dL_total_12 : decode cL_total 12 = .ok (.astore_n 3, 1) := by decide +kernel
theorem dL_total_13 : decode cL_total 13 = .ok (.iconst 1, 1) := by decide +kernel
theorem dL_total_14 : decode cL_total 14 = .ok (.ireturn, 1) := by decide +kernel
theorem dL_total_15 : decode cL_total 15 = .ok (.iconst 0, 1) := by decide +kernel
theorem dL_total_16 : decode cL_total 16 = .ok (.ireturn, 1) := by decide +kernel
theorem dL_ofFloat_0 : decode cL_ofFloat 0 = .ok (.aload_n 3, 1) := by decide +kernel
theorem dL_ofFloat_1 : decode cL_ofFloat 1 = .ok (.iconst 0, 1) := by decide +kernel
theorem dL_ofFloat_2 : decode cL_ofFloat 2 = .ok (.aload_n 0, 1) := by decide +kernel
theorem dL_ofFloat_3 : decode cL_ofFloat 3 = .ok (.iload_n 1, 1) := by decide +kernel
theorem dL_ofFloat_4 : decode cL_ofFloat 4 = .ok (.iload_n 2, 1) := by decide +kernel
theorem dL_ofFloat_5 : decode cL_ofFloat 5 = .ok (.invokevirtual 64, 3) := by decide +kernel
theorem dL_ofFloat_8 : decode cL_ofFloat 8 = .ok (.i2l, 1) := by decide +kernel
theorem dL_ofFloat_9 : decode cL_ofFloat 9 = .ok (.lastore, 1) := by decide +kernel
theorem dL_ofFloat_10 : decode cL_ofFloat 10 = .ok (.goto 11, 3) := by decide +kernel
theorem dL_ofFloat_13 : decode cL_ofFloat 13 = .ok (.astore 4, 2) := by decide +kernel
theorem dL_ofFloat_15 : decode cL_ofFloat 15 = .ok (.iconst 1, 1) := by decide +kernel
theorem dL_ofFloat_16 : decode cL_ofFloat 16 = .ok (.ireturn, 1) := by decide +kernel
theorem dL_ofFloat_17 : decode cL_ofFloat 17 = .ok (.astore 4, 2) := by decide +kernel
theorem dL_ofFloat_19 : decode cL_ofFloat 19 = .ok (.iconst 2, 1) := by decide +kernel
theorem dL_ofFloat_20 : decode cL_ofFloat 20 = .ok (.ireturn, 1) := by decide +kernel
theorem dL_ofFloat_21 : decode cL_ofFloat 21 = .ok (.iconst 0, 1) := by decide +kernel
theorem dL_ofFloat_22 : decode cL_ofFloat 22 = .ok (.ireturn, 1) := by decide +kernel
theorem dL_ofReading_0 : decode cL_ofReading 0 = .ok (.aload_n 3, 1) := by decide +kernel
theorem dL_ofReading_1 : decode cL_ofReading 1 = .ok (.iconst 0, 1) := by decide +kernel
theorem dL_ofReading_2 : decode cL_ofReading 2 = .ok (.aload_n 0, 1) := by decide +kernel
theorem dL_ofReading_3 : decode cL_ofReading 3 = .ok (.iload_n 1, 1) := by decide +kernel
theorem dL_ofReading_4 : decode cL_ofReading 4 = .ok (.iload_n 2, 1) := by decide +kernel
theorem dL_ofReading_5 : decode cL_ofReading 5 = .ok (.invokevirtual 67, 3) := by decide +kernel
theorem dL_ofReading_8 : decode cL_ofReading 8 = .ok (.i2l, 1) := by decide +kernel
theorem dL_ofReading_9 : decode cL_ofReading 9 = .ok (.lastore, 1) := by decide +kernel
theorem dL_ofReading_10 : decode cL_ofReading 10 = .ok (.goto 11, 3) := by decide +kernel
theorem dL_ofReading_13 : decode cL_ofReading 13 = .ok (.astore 4, 2) := by decide +kernel
theorem dL_ofReading_15 : decode cL_ofReading 15 = .ok (.iconst 1, 1) := by decide +kernel
theorem dL_ofReading_16 : decode cL_ofReading 16 = .ok (.ireturn, 1) := by decide +kernel
theorem dL_ofReading_17 : decode cL_ofReading 17 = .ok (.astore 4, 2) := by decide +kernel
theorem dL_ofReading_19 : decode cL_ofReading 19 = .ok (.iconst 2, 1) := by decide +kernel
theorem dL_ofReading_20 : decode cL_ofReading 20 = .ok (.ireturn, 1) := by decide +kernel
theorem dL_ofReading_21 : decode cL_ofReading 21 = .ok (.iconst 0, 1) := by decide +kernel
theorem dL_ofReading_22 : decode cL_ofReading 22 = .ok (.ireturn, 1) := by decide +kernel
theorem dL_mean_0 : decode cL_mean 0 = .ok (.aload 4, 2) := by decide +kernel
theorem dL_mean_2 : decode cL_mean 2 = .ok (.iconst 0, 1) := by decide +kernel
theorem dL_mean_3 : decode cL_mean 3 = .ok (.aload_n 0, 1) := by decide +kernel
theorem dL_mean_4 : decode cL_mean 4 = .ok (.iload_n 1, 1) := by decide +kernel
theorem dL_mean_5 : decode cL_mean 5 = .ok (.iload_n 2, 1) := by decide +kernel
theorem dL_mean_6 : decode cL_mean 6 = .ok (.iload_n 3, 1) := by decide +kernel
theorem dL_mean_7 : decode cL_mean 7 = .ok (.invokevirtual 70, 3) := by decide +kernel
theorem dL_mean_10 : decode cL_mean 10 = .ok (.i2l, 1) := by decide +kernel
theorem dL_mean_11 : decode cL_mean 11 = .ok (.lastore, 1) := by decide +kernel
theorem dL_mean_12 : decode cL_mean 12 = .ok (.goto 15, 3) := by decide +kernel
theorem dL_mean_15 : decode cL_mean 15 = .ok (.astore 5, 2) := by decide +kernel
theorem dL_mean_17 : decode cL_mean 17 = .ok (.iconst 1, 1) := by decide +kernel
theorem dL_mean_18 : decode cL_mean 18 = .ok (.ireturn, 1) := by decide +kernel
theorem dL_mean_19 : decode cL_mean 19 = .ok (.astore 5, 2) := by decide +kernel
theorem dL_mean_21 : decode cL_mean 21 = .ok (.iconst 2, 1) := by decide +kernel
theorem dL_mean_22 : decode cL_mean 22 = .ok (.ireturn, 1) := by decide +kernel
theorem dL_mean_23 : decode cL_mean 23 = .ok (.astore 5, 2) := by decide +kernel
theorem dL_mean_25 : decode cL_mean 25 = .ok (.iconst 3, 1) := by decide +kernel
theorem dL_mean_26 : decode cL_mean 26 = .ok (.ireturn, 1) := by decide +kernel
theorem dL_mean_27 : decode cL_mean 27 = .ok (.iconst 0, 1) := by decide +kernel
theorem dL_mean_28 : decode cL_mean 28 = .ok (.ireturn, 1) := by decide +kernel
theorem dL_error_0 : decode cL_error 0 = .ok (.aload 4, 2) := by decide +kernel
theorem dL_error_2 : decode cL_error 2 = .ok (.iconst 0, 1) := by decide +kernel
theorem dL_error_3 : decode cL_error 3 = .ok (.aload_n 0, 1) := by decide +kernel
theorem dL_error_4 : decode cL_error 4 = .ok (.iload_n 1, 1) := by decide +kernel
theorem dL_error_5 : decode cL_error 5 = .ok (.iload_n 2, 1) := by decide +kernel
theorem dL_error_6 : decode cL_error 6 = .ok (.iload_n 3, 1) := by decide +kernel
theorem dL_error_7 : decode cL_error 7 = .ok (.invokevirtual 73, 3) := by decide +kernel
theorem dL_error_10 : decode cL_error 10 = .ok (.i2l, 1) := by decide +kernel
theorem dL_error_11 : decode cL_error 11 = .ok (.lastore, 1) := by decide +kernel
theorem dL_error_12 : decode cL_error 12 = .ok (.goto 15, 3) := by decide +kernel
theorem dL_error_15 : decode cL_error 15 = .ok (.astore 5, 2) := by decide +kernel
theorem dL_error_17 : decode cL_error 17 = .ok (.iconst 1, 1) := by decide +kernel
theorem dL_error_18 : decode cL_error 18 = .ok (.ireturn, 1) := by decide +kernel
theorem dL_error_19 : decode cL_error 19 = .ok (.astore 5, 2) := by decide +kernel
theorem dL_error_21 : decode cL_error 21 = .ok (.iconst 2, 1) := by decide +kernel
theorem dL_error_22 : decode cL_error 22 = .ok (.ireturn, 1) := by decide +kernel
theorem dL_error_23 : decode cL_error 23 = .ok (.astore 5, 2) := by decide +kernel
theorem dL_error_25 : decode cL_error 25 = .ok (.iconst 3, 1) := by decide +kernel
theorem dL_error_26 : decode cL_error 26 = .ok (.ireturn, 1) := by decide +kernel
theorem dL_error_27 : decode cL_error 27 = .ok (.iconst 0, 1) := by decide +kernel
theorem dL_error_28 : decode cL_error 28 = .ok (.ireturn, 1) := by decide +kernel
theorem dL_residual_0 : decode cL_residual 0 = .ok (.aload_n 3, 1) := by decide +kernel
theorem dL_residual_1 : decode cL_residual 1 = .ok (.iconst 0, 1) := by decide +kernel
theorem dL_residual_2 : decode cL_residual 2 = .ok (.aload_n 0, 1) := by decide +kernel
theorem dL_residual_3 : decode cL_residual 3 = .ok (.iload_n 1, 1) := by decide +kernel
theorem dL_residual_4 : decode cL_residual 4 = .ok (.iload_n 2, 1) := by decide +kernel
theorem dL_residual_5 : decode cL_residual 5 = .ok (.invokevirtual 76, 3) := by decide +kernel
theorem dL_residual_8 : decode cL_residual 8 = .ok (.i2l, 1) := by decide +kernel
theorem dL_residual_9 : decode cL_residual 9 = .ok (.lastore, 1) := by decide +kernel
theorem dL_residual_10 : decode cL_residual 10 = .ok (.goto 15, 3) := by decide +kernel
theorem dL_residual_13 : decode cL_residual 13 = .ok (.astore 4, 2) := by decide +kernel
theorem dL_residual_15 : decode cL_residual 15 = .ok (.iconst 1, 1) := by decide +kernel
theorem dL_residual_16 : decode cL_residual 16 = .ok (.ireturn, 1) := by decide +kernel
theorem dL_residual_17 : decode cL_residual 17 = .ok (.astore 4, 2) := by decide +kernel
theorem dL_residual_19 : decode cL_residual 19 = .ok (.iconst 2, 1) := by decide +kernel
theorem dL_residual_20 : decode cL_residual 20 = .ok (.ireturn, 1) := by decide +kernel
theorem dL_residual_21 : decode cL_residual 21 = .ok (.astore 4, 2) := by decide +kernel
theorem dL_residual_23 : decode cL_residual 23 = .ok (.iconst 3, 1) := by decide +kernel
theorem dL_residual_24 : decode cL_residual 24 = .ok (.ireturn, 1) := by decide +kernel
theorem dL_residual_25 : decode cL_residual 25 = .ok (.iconst 0, 1) := by decide +kernel
theorem dL_residual_26 : decode cL_residual 26 = .ok (.ireturn, 1) := by decide +kernel
theorem dL_chance_0 : decode cL_chance 0 = .ok (.aload_n 3, 1) := by decide +kernel
theorem dL_chance_1 : decode cL_chance 1 = .ok (.iconst 0, 1) := by decide +kernel
theorem dL_chance_2 : decode cL_chance 2 = .ok (.aload_n 0, 1) := by decide +kernel
theorem dL_chance_3 : decode cL_chance 3 = .ok (.iload_n 1, 1) := by decide +kernel
theorem dL_chance_4 : decode cL_chance 4 = .ok (.iload_n 2, 1) := by decide +kernel
theorem dL_chance_5 : decode cL_chance 5 = .ok (.invokevirtual 79, 3) := by decide +kernel
theorem dL_chance_8 : decode cL_chance 8 = .ok (.i2l, 1) := by decide +kernel
theorem dL_chance_9 : decode cL_chance 9 = .ok (.lastore, 1) := by decide +kernel
theorem dL_chance_10 : decode cL_chance 10 = .ok (.goto 7, 3) := by decide +kernel
theorem dL_chance_13 : decode cL_chance 13 = .ok (.astore 4, 2) := by decide +kernel
theorem dL_chance_15 : decode cL_chance 15 = .ok (.iconst 1, 1) := by decide +kernel
theorem dL_chance_16 : decode cL_chance 16 = .ok (.ireturn, 1) := by decide +kernel
theorem dL_chance_17 : decode cL_chance 17 = .ok (.iconst 0, 1) := by decide +kernel
theorem dL_chance_18 : decode cL_chance 18 = .ok (.ireturn, 1) := by decide +kernel
theorem dL_best_0 : decode cL_best 0 = .ok (.aload_n 2, 1) := by decide +kernel
theorem dL_best_1 : decode cL_best 1 = .ok (.iconst 0, 1) := by decide +kernel
theorem dL_best_2 : decode cL_best 2 = .ok (.aload_n 0, 1) := by decide +kernel
theorem dL_best_3 : decode cL_best 3 = .ok (.iload_n 1, 1) := by decide +kernel
theorem dL_best_4 : decode cL_best 4 = .ok (.invokevirtual 82, 3) := by decide +kernel
theorem dL_best_7 : decode cL_best 7 = .ok (.i2l, 1) := by decide +kernel
theorem dL_best_8 : decode cL_best 8 = .ok (.lastore, 1) := by decide +kernel
theorem dL_best_9 : decode cL_best 9 = .ok (.goto 6, 3) := by decide +kernel
theorem dL_best_12 : decode cL_best 12 = .ok (.astore_n 3, 1) := by decide +kernel
theorem dL_best_13 : decode cL_best 13 = .ok (.iconst 1, 1) := by decide +kernel
theorem dL_best_14 : decode cL_best 14 = .ok (.ireturn, 1) := by decide +kernel
theorem dL_best_15 : decode cL_best 15 = .ok (.iconst 0, 1) := by decide +kernel
theorem dL_best_16 : decode cL_best 16 = .ok (.ireturn, 1) := by decide +kernel
theorem dL_plan_0 : decode cL_plan 0 = .ok (.aload 4, 2) := by decide +kernel
theorem dL_plan_2 : decode cL_plan 2 = .ok (.iconst 0, 1) := by decide +kernel
theorem dL_plan_3 : decode cL_plan 3 = .ok (.aload_n 0, 1) := by decide +kernel
theorem dL_plan_4 : decode cL_plan 4 = .ok (.iload_n 1, 1) := by decide +kernel
theorem dL_plan_5 : decode cL_plan 5 = .ok (.iload_n 2, 1) := by decide +kernel
theorem dL_plan_6 : decode cL_plan 6 = .ok (.iload_n 3, 1) := by decide +kernel
theorem dL_plan_7 : decode cL_plan 7 = .ok (.invokevirtual 85, 3) := by decide +kernel
theorem dL_plan_10 : decode cL_plan 10 = .ok (.i2l, 1) := by decide +kernel
theorem dL_plan_11 : decode cL_plan 11 = .ok (.lastore, 1) := by decide +kernel
theorem dL_plan_12 : decode cL_plan 12 = .ok (.goto 11, 3) := by decide +kernel
theorem dL_plan_15 : decode cL_plan 15 = .ok (.astore 5, 2) := by decide +kernel
theorem dL_plan_17 : decode cL_plan 17 = .ok (.iconst 1, 1) := by decide +kernel
theorem dL_plan_18 : decode cL_plan 18 = .ok (.ireturn, 1) := by decide +kernel
theorem dL_plan_19 : decode cL_plan 19 = .ok (.astore 5, 2) := by decide +kernel
theorem dL_plan_21 : decode cL_plan 21 = .ok (.iconst 2, 1) := by decide +kernel
theorem dL_plan_22 : decode cL_plan 22 = .ok (.ireturn, 1) := by decide +kernel
theorem dL_plan_23 : decode cL_plan 23 = .ok (.iconst 0, 1) := by decide +kernel
theorem dL_plan_24 : decode cL_plan 24 = .ok (.ireturn, 1) := by decide +kernel
theorem dL_tide_0 : decode cL_tide 0 = .ok (.aload_n 2, 1) := by decide +kernel
theorem dL_tide_1 : decode cL_tide 1 = .ok (.iconst 0, 1) := by decide +kernel
theorem dL_tide_2 : decode cL_tide 2 = .ok (.aload_n 0, 1) := by decide +kernel
theorem dL_tide_3 : decode cL_tide 3 = .ok (.iload_n 1, 1) := by decide +kernel
theorem dL_tide_4 : decode cL_tide 4 = .ok (.invokevirtual 88, 3) := by decide +kernel
theorem dL_tide_7 : decode cL_tide 7 = .ok (.i2l, 1) := by decide +kernel
theorem dL_tide_8 : decode cL_tide 8 = .ok (.lastore, 1) := by decide +kernel
theorem dL_tide_9 : decode cL_tide 9 = .ok (.goto 6, 3) := by decide +kernel
theorem dL_tide_12 : decode cL_tide 12 = .ok (.astore_n 3, 1) := by decide +kernel
theorem dL_tide_13 : decode cL_tide 13 = .ok (.iconst 1, 1) := by decide +kernel
theorem dL_tide_14 : decode cL_tide 14 = .ok (.ireturn, 1) := by decide +kernel
theorem dL_tide_15 : decode cL_tide 15 = .ok (.iconst 0, 1) := by decide +kernel
theorem dL_tide_16 : decode cL_tide 16 = .ok (.ireturn, 1) := by decide +kernel
theorem dL_highest_0 : decode cL_highest 0 = .ok (.aload_n 3, 1) := by decide +kernel
theorem dL_highest_1 : decode cL_highest 1 = .ok (.iconst 0, 1) := by decide +kernel
theorem dL_highest_2 : decode cL_highest 2 = .ok (.aload_n 0, 1) := by decide +kernel
theorem dL_highest_3 : decode cL_highest 3 = .ok (.iload_n 1, 1) := by decide +kernel
theorem dL_highest_4 : decode cL_highest 4 = .ok (.iload_n 2, 1) := by decide +kernel
theorem dL_highest_5 : decode cL_highest 5 = .ok (.invokevirtual 91, 3) := by decide +kernel
theorem dL_highest_8 : decode cL_highest 8 = .ok (.i2l, 1) := by decide +kernel
theorem dL_highest_9 : decode cL_highest 9 = .ok (.lastore, 1) := by decide +kernel
theorem dL_highest_10 : decode cL_highest 10 = .ok (.goto 7, 3) := by decide +kernel
theorem dL_highest_13 : decode cL_highest 13 = .ok (.astore 4, 2) := by decide +kernel
theorem dL_highest_15 : decode cL_highest 15 = .ok (.iconst 1, 1) := by decide +kernel
theorem dL_highest_16 : decode cL_highest 16 = .ok (.ireturn, 1) := by decide +kernel
theorem dL_highest_17 : decode cL_highest 17 = .ok (.iconst 0, 1) := by decide +kernel
theorem dL_highest_18 : decode cL_highest 18 = .ok (.ireturn, 1) := by decide +kernel
theorem dL_law_0 : decode cL_law 0 = .ok (.new 8, 3) := by decide +kernel
theorem dL_law_3 : decode cL_law 3 = .ok (.dup, 1) := by decide +kernel
theorem dL_law_4 : decode cL_law 4 = .ok (.invokespecial 94, 3) := by decide +kernel
theorem dL_law_7 : decode cL_law 7 = .ok (.astore_n 1, 1) := by decide +kernel
theorem dL_law_8 : decode cL_law 8 = .ok (.new 95, 3) := by decide +kernel
theorem dL_law_11 : decode cL_law 11 = .ok (.dup, 1) := by decide +kernel
theorem dL_law_12 : decode cL_law 12 = .ok (.invokespecial 97, 3) := by decide +kernel
theorem dL_law_15 : decode cL_law 15 = .ok (.astore_n 2, 1) := by decide +kernel
theorem dL_law_16 : decode cL_law 16 = .ok (.iconst 1, 1) := by decide +kernel
theorem dL_law_17 : decode cL_law 17 = .ok (.newarray .long, 2) := by decide +kernel
theorem dL_law_19 : decode cL_law 19 = .ok (.astore_n 3, 1) := by decide +kernel
theorem dL_law_20 : decode cL_law 20 = .ok (.iconst 0, 1) := by decide +kernel
theorem dL_law_21 : decode cL_law 21 = .ok (.istore 4, 2) := by decide +kernel
theorem dL_law_23 : decode cL_law 23 = .ok (.iload 4, 2) := by decide +kernel
theorem dL_law_25 : decode cL_law 25 = .ok (.aload_n 0, 1) := by decide +kernel
theorem dL_law_26 : decode cL_law 26 = .ok (.arraylength, 1) := by decide +kernel
theorem dL_law_27 : decode cL_law 27 = .ok (.iconst 5, 1) := by decide +kernel
theorem dL_law_28 : decode cL_law 28 = .ok (.isub, 1) := by decide +kernel
theorem dL_law_29 : decode cL_law 29 = .ok (.if_icmp .gt 1880, 3) := by decide +kernel
theorem dL_law_32 : decode cL_law 32 = .ok (.aload_n 0, 1) := by decide +kernel
theorem dL_law_33 : decode cL_law 33 = .ok (.iload 4, 2) := by decide +kernel
theorem dL_law_35 : decode cL_law 35 = .ok (.iaload, 1) := by decide +kernel
theorem dL_law_36 : decode cL_law 36 = .ok (.bipush 31, 2) := by decide +kernel
theorem dL_law_38 : decode cL_law 38 = .ok (.iand, 1) := by decide +kernel
theorem dL_law_39 : decode cL_law 39 = .ok (.tableswitch 1864 0 27 #[125, 181, 249, 317, 373, 465, 533, 601, 657, 725, 781, 837, 917, 997, 1010, 1090, 1146, 1214, 1227, 1240, 1308, 1388, 1468, 1536, 1604, 1660, 1740, 1796], 125) := by decide +kernel
theorem dL_law_164 : decode cL_law 164 = .ok (.aload_n 1, 1) := by decide +kernel
theorem dL_law_165 : decode cL_law 165 = .ok (.aload_n 0, 1) := by decide +kernel
theorem dL_law_166 : decode cL_law 166 = .ok (.iload 4, 2) := by decide +kernel
theorem dL_law_168 : decode cL_law 168 = .ok (.iconst 1, 1) := by decide +kernel
theorem dL_law_169 : decode cL_law 169 = .ok (.iadd, 1) := by decide +kernel
theorem dL_law_170 : decode cL_law 170 = .ok (.iaload, 1) := by decide +kernel
theorem dL_law_171 : decode cL_law 171 = .ok (.aload_n 3, 1) := by decide +kernel
theorem dL_law_172 : decode cL_law 172 = .ok (.invokestatic 98, 3) := by decide +kernel
theorem dL_law_175 : decode cL_law 175 = .ok (.istore 5, 2) := by decide +kernel
theorem dL_law_177 : decode cL_law 177 = .ok (.aload_n 2, 1) := by decide +kernel
theorem dL_law_178 : decode cL_law 178 = .ok (.aload_n 0, 1) := by decide +kernel
theorem dL_law_179 : decode cL_law 179 = .ok (.iload 4, 2) := by decide +kernel
theorem dL_law_181 : decode cL_law 181 = .ok (.iconst 1, 1) := by decide +kernel
theorem dL_law_182 : decode cL_law 182 = .ok (.iadd, 1) := by decide +kernel
theorem dL_law_183 : decode cL_law 183 = .ok (.iaload, 1) := by decide +kernel
theorem dL_law_184 : decode cL_law 184 = .ok (.invokevirtual 103, 3) := by decide +kernel
theorem dL_law_187 : decode cL_law 187 = .ok (.istore 6, 2) := by decide +kernel
theorem dL_law_189 : decode cL_law 189 = .ok (.aload_n 2, 1) := by decide +kernel
theorem dL_law_190 : decode cL_law 190 = .ok (.invokevirtual 104, 3) := by decide +kernel
theorem dL_law_193 : decode cL_law 193 = .ok (.iload 5, 2) := by decide +kernel
theorem dL_law_195 : decode cL_law 195 = .ok (.if_icmp .eq 5, 3) := by decide +kernel
theorem dL_law_198 : decode cL_law 198 = .ok (.iconst 0, 1) := by decide +kernel
theorem dL_law_199 : decode cL_law 199 = .ok (.ireturn, 1) := by decide +kernel
theorem dL_law_200 : decode cL_law 200 = .ok (.iload 5, 2) := by decide +kernel
theorem dL_law_202 : decode cL_law 202 = .ok (.ifCond .ne 15, 3) := by decide +kernel
theorem dL_law_205 : decode cL_law 205 = .ok (.aload_n 3, 1) := by decide +kernel
theorem dL_law_206 : decode cL_law 206 = .ok (.iconst 0, 1) := by decide +kernel
theorem dL_law_207 : decode cL_law 207 = .ok (.laload, 1) := by decide +kernel
theorem dL_law_208 : decode cL_law 208 = .ok (.iload 6, 2) := by decide +kernel
theorem dL_law_210 : decode cL_law 210 = .ok (.i2l, 1) := by decide +kernel
theorem dL_law_211 : decode cL_law 211 = .ok (.lcmp, 1) := by decide +kernel
theorem dL_law_212 : decode cL_law 212 = .ok (.ifCond .eq 5, 3) := by decide +kernel
theorem dL_law_215 : decode cL_law 215 = .ok (.iconst 0, 1) := by decide +kernel
theorem dL_law_216 : decode cL_law 216 = .ok (.ireturn, 1) := by decide +kernel
theorem dL_law_217 : decode cL_law 217 = .ok (.goto 1686, 3) := by decide +kernel
theorem dL_law_220 : decode cL_law 220 = .ok (.aload_n 1, 1) := by decide +kernel
theorem dL_law_221 : decode cL_law 221 = .ok (.aload_n 0, 1) := by decide +kernel
theorem dL_law_222 : decode cL_law 222 = .ok (.iload 4, 2) := by decide +kernel
theorem dL_law_224 : decode cL_law 224 = .ok (.iconst 1, 1) := by decide +kernel
theorem dL_law_225 : decode cL_law 225 = .ok (.iadd, 1) := by decide +kernel
theorem dL_law_226 : decode cL_law 226 = .ok (.iaload, 1) := by decide +kernel
theorem dL_law_227 : decode cL_law 227 = .ok (.aload_n 0, 1) := by decide +kernel
theorem dL_law_228 : decode cL_law 228 = .ok (.iload 4, 2) := by decide +kernel
theorem dL_law_230 : decode cL_law 230 = .ok (.iconst 2, 1) := by decide +kernel
theorem dL_law_231 : decode cL_law 231 = .ok (.iadd, 1) := by decide +kernel
theorem dL_law_232 : decode cL_law 232 = .ok (.iaload, 1) := by decide +kernel
theorem dL_law_233 : decode cL_law 233 = .ok (.aload_n 3, 1) := by decide +kernel
theorem dL_law_234 : decode cL_law 234 = .ok (.invokestatic 108, 3) := by decide +kernel
theorem dL_law_237 : decode cL_law 237 = .ok (.istore 5, 2) := by decide +kernel
theorem dL_law_239 : decode cL_law 239 = .ok (.aload_n 2, 1) := by decide +kernel
theorem dL_law_240 : decode cL_law 240 = .ok (.aload_n 0, 1) := by decide +kernel
theorem dL_law_241 : decode cL_law 241 = .ok (.iload 4, 2) := by decide +kernel
theorem dL_law_243 : decode cL_law 243 = .ok (.iconst 1, 1) := by decide +kernel
theorem dL_law_244 : decode cL_law 244 = .ok (.iadd, 1) := by decide +kernel
theorem dL_law_245 : decode cL_law 245 = .ok (.iaload, 1) := by decide +kernel
theorem dL_law_246 : decode cL_law 246 = .ok (.aload_n 0, 1) := by decide +kernel
theorem dL_law_247 : decode cL_law 247 = .ok (.iload 4, 2) := by decide +kernel
theorem dL_law_249 : decode cL_law 249 = .ok (.iconst 2, 1) := by decide +kernel
theorem dL_law_250 : decode cL_law 250 = .ok (.iadd, 1) := by decide +kernel
theorem dL_law_251 : decode cL_law 251 = .ok (.iaload, 1) := by decide +kernel
theorem dL_law_252 : decode cL_law 252 = .ok (.invokevirtual 111, 3) := by decide +kernel
theorem dL_law_255 : decode cL_law 255 = .ok (.istore 6, 2) := by decide +kernel
theorem dL_law_257 : decode cL_law 257 = .ok (.aload_n 2, 1) := by decide +kernel
theorem dL_law_258 : decode cL_law 258 = .ok (.invokevirtual 104, 3) := by decide +kernel
theorem dL_law_261 : decode cL_law 261 = .ok (.iload 5, 2) := by decide +kernel
theorem dL_law_263 : decode cL_law 263 = .ok (.if_icmp .eq 5, 3) := by decide +kernel
theorem dL_law_266 : decode cL_law 266 = .ok (.iconst 0, 1) := by decide +kernel
theorem dL_law_267 : decode cL_law 267 = .ok (.ireturn, 1) := by decide +kernel
theorem dL_law_268 : decode cL_law 268 = .ok (.iload 5, 2) := by decide +kernel
theorem dL_law_270 : decode cL_law 270 = .ok (.ifCond .ne 15, 3) := by decide +kernel
theorem dL_law_273 : decode cL_law 273 = .ok (.aload_n 3, 1) := by decide +kernel
theorem dL_law_274 : decode cL_law 274 = .ok (.iconst 0, 1) := by decide +kernel
theorem dL_law_275 : decode cL_law 275 = .ok (.laload, 1) := by decide +kernel
theorem dL_law_276 : decode cL_law 276 = .ok (.iload 6, 2) := by decide +kernel
theorem dL_law_278 : decode cL_law 278 = .ok (.i2l, 1) := by decide +kernel
theorem dL_law_279 : decode cL_law 279 = .ok (.lcmp, 1) := by decide +kernel
theorem dL_law_280 : decode cL_law 280 = .ok (.ifCond .eq 5, 3) := by decide +kernel
theorem dL_law_283 : decode cL_law 283 = .ok (.iconst 0, 1) := by decide +kernel
theorem dL_law_284 : decode cL_law 284 = .ok (.ireturn, 1) := by decide +kernel
theorem dL_law_285 : decode cL_law 285 = .ok (.goto 1618, 3) := by decide +kernel
theorem dL_law_288 : decode cL_law 288 = .ok (.aload_n 1, 1) := by decide +kernel
theorem dL_law_289 : decode cL_law 289 = .ok (.aload_n 0, 1) := by decide +kernel
theorem dL_law_290 : decode cL_law 290 = .ok (.iload 4, 2) := by decide +kernel
theorem dL_law_292 : decode cL_law 292 = .ok (.iconst 1, 1) := by decide +kernel
theorem dL_law_293 : decode cL_law 293 = .ok (.iadd, 1) := by decide +kernel
theorem dL_law_294 : decode cL_law 294 = .ok (.iaload, 1) := by decide +kernel
theorem dL_law_295 : decode cL_law 295 = .ok (.aload_n 0, 1) := by decide +kernel
theorem dL_law_296 : decode cL_law 296 = .ok (.iload 4, 2) := by decide +kernel
theorem dL_law_298 : decode cL_law 298 = .ok (.iconst 2, 1) := by decide +kernel
theorem dL_law_299 : decode cL_law 299 = .ok (.iadd, 1) := by decide +kernel
theorem dL_law_300 : decode cL_law 300 = .ok (.iaload, 1) := by decide +kernel
theorem dL_law_301 : decode cL_law 301 = .ok (.aload_n 3, 1) := by decide +kernel
theorem dL_law_302 : decode cL_law 302 = .ok (.invokestatic 112, 3) := by decide +kernel
theorem dL_law_305 : decode cL_law 305 = .ok (.istore 5, 2) := by decide +kernel
theorem dL_law_307 : decode cL_law 307 = .ok (.aload_n 2, 1) := by decide +kernel
theorem dL_law_308 : decode cL_law 308 = .ok (.aload_n 0, 1) := by decide +kernel
theorem dL_law_309 : decode cL_law 309 = .ok (.iload 4, 2) := by decide +kernel
theorem dL_law_311 : decode cL_law 311 = .ok (.iconst 1, 1) := by decide +kernel
theorem dL_law_312 : decode cL_law 312 = .ok (.iadd, 1) := by decide +kernel
theorem dL_law_313 : decode cL_law 313 = .ok (.iaload, 1) := by decide +kernel
theorem dL_law_314 : decode cL_law 314 = .ok (.aload_n 0, 1) := by decide +kernel
theorem dL_law_315 : decode cL_law 315 = .ok (.iload 4, 2) := by decide +kernel
theorem dL_law_317 : decode cL_law 317 = .ok (.iconst 2, 1) := by decide +kernel
theorem dL_law_318 : decode cL_law 318 = .ok (.iadd, 1) := by decide +kernel
theorem dL_law_319 : decode cL_law 319 = .ok (.iaload, 1) := by decide +kernel
theorem dL_law_320 : decode cL_law 320 = .ok (.invokevirtual 114, 3) := by decide +kernel
theorem dL_law_323 : decode cL_law 323 = .ok (.istore 6, 2) := by decide +kernel
theorem dL_law_325 : decode cL_law 325 = .ok (.aload_n 2, 1) := by decide +kernel
theorem dL_law_326 : decode cL_law 326 = .ok (.invokevirtual 104, 3) := by decide +kernel
theorem dL_law_329 : decode cL_law 329 = .ok (.iload 5, 2) := by decide +kernel
theorem dL_law_331 : decode cL_law 331 = .ok (.if_icmp .eq 5, 3) := by decide +kernel
theorem dL_law_334 : decode cL_law 334 = .ok (.iconst 0, 1) := by decide +kernel
theorem dL_law_335 : decode cL_law 335 = .ok (.ireturn, 1) := by decide +kernel
theorem dL_law_336 : decode cL_law 336 = .ok (.iload 5, 2) := by decide +kernel
theorem dL_law_338 : decode cL_law 338 = .ok (.ifCond .ne 15, 3) := by decide +kernel
theorem dL_law_341 : decode cL_law 341 = .ok (.aload_n 3, 1) := by decide +kernel
theorem dL_law_342 : decode cL_law 342 = .ok (.iconst 0, 1) := by decide +kernel
theorem dL_law_343 : decode cL_law 343 = .ok (.laload, 1) := by decide +kernel
theorem dL_law_344 : decode cL_law 344 = .ok (.iload 6, 2) := by decide +kernel
theorem dL_law_346 : decode cL_law 346 = .ok (.i2l, 1) := by decide +kernel
theorem dL_law_347 : decode cL_law 347 = .ok (.lcmp, 1) := by decide +kernel
theorem dL_law_348 : decode cL_law 348 = .ok (.ifCond .eq 5, 3) := by decide +kernel
theorem dL_law_351 : decode cL_law 351 = .ok (.iconst 0, 1) := by decide +kernel
theorem dL_law_352 : decode cL_law 352 = .ok (.ireturn, 1) := by decide +kernel
theorem dL_law_353 : decode cL_law 353 = .ok (.goto 1550, 3) := by decide +kernel
theorem dL_law_356 : decode cL_law 356 = .ok (.aload_n 1, 1) := by decide +kernel
theorem dL_law_357 : decode cL_law 357 = .ok (.aload_n 0, 1) := by decide +kernel
theorem dL_law_358 : decode cL_law 358 = .ok (.iload 4, 2) := by decide +kernel
theorem dL_law_360 : decode cL_law 360 = .ok (.iconst 1, 1) := by decide +kernel
theorem dL_law_361 : decode cL_law 361 = .ok (.iadd, 1) := by decide +kernel
theorem dL_law_362 : decode cL_law 362 = .ok (.iaload, 1) := by decide +kernel
theorem dL_law_363 : decode cL_law 363 = .ok (.aload_n 3, 1) := by decide +kernel
theorem dL_law_364 : decode cL_law 364 = .ok (.invokestatic 115, 3) := by decide +kernel
theorem dL_law_367 : decode cL_law 367 = .ok (.istore 5, 2) := by decide +kernel
theorem dL_law_369 : decode cL_law 369 = .ok (.aload_n 2, 1) := by decide +kernel
theorem dL_law_370 : decode cL_law 370 = .ok (.aload_n 0, 1) := by decide +kernel
theorem dL_law_371 : decode cL_law 371 = .ok (.iload 4, 2) := by decide +kernel
theorem dL_law_373 : decode cL_law 373 = .ok (.iconst 1, 1) := by decide +kernel
theorem dL_law_374 : decode cL_law 374 = .ok (.iadd, 1) := by decide +kernel
theorem dL_law_375 : decode cL_law 375 = .ok (.iaload, 1) := by decide +kernel
theorem dL_law_376 : decode cL_law 376 = .ok (.invokevirtual 117, 3) := by decide +kernel
theorem dL_law_379 : decode cL_law 379 = .ok (.istore 6, 2) := by decide +kernel
theorem dL_law_381 : decode cL_law 381 = .ok (.aload_n 2, 1) := by decide +kernel
theorem dL_law_382 : decode cL_law 382 = .ok (.invokevirtual 104, 3) := by decide +kernel
theorem dL_law_385 : decode cL_law 385 = .ok (.iload 5, 2) := by decide +kernel
theorem dL_law_387 : decode cL_law 387 = .ok (.if_icmp .eq 5, 3) := by decide +kernel
theorem dL_law_390 : decode cL_law 390 = .ok (.iconst 0, 1) := by decide +kernel
theorem dL_law_391 : decode cL_law 391 = .ok (.ireturn, 1) := by decide +kernel
theorem dL_law_392 : decode cL_law 392 = .ok (.iload 5, 2) := by decide +kernel
theorem dL_law_394 : decode cL_law 394 = .ok (.ifCond .ne 15, 3) := by decide +kernel
theorem dL_law_397 : decode cL_law 397 = .ok (.aload_n 3, 1) := by decide +kernel
theorem dL_law_398 : decode cL_law 398 = .ok (.iconst 0, 1) := by decide +kernel
theorem dL_law_399 : decode cL_law 399 = .ok (.laload, 1) := by decide +kernel
theorem dL_law_400 : decode cL_law 400 = .ok (.iload 6, 2) := by decide +kernel
theorem dL_law_402 : decode cL_law 402 = .ok (.i2l, 1) := by decide +kernel
theorem dL_law_403 : decode cL_law 403 = .ok (.lcmp, 1) := by decide +kernel
theorem dL_law_404 : decode cL_law 404 = .ok (.ifCond .eq 5, 3) := by decide +kernel
theorem dL_law_407 : decode cL_law 407 = .ok (.iconst 0, 1) := by decide +kernel
theorem dL_law_408 : decode cL_law 408 = .ok (.ireturn, 1) := by decide +kernel
theorem dL_law_409 : decode cL_law 409 = .ok (.goto 1494, 3) := by decide +kernel
theorem dL_law_412 : decode cL_law 412 = .ok (.aload_n 1, 1) := by decide +kernel
theorem dL_law_413 : decode cL_law 413 = .ok (.aload_n 0, 1) := by decide +kernel
theorem dL_law_414 : decode cL_law 414 = .ok (.iload 4, 2) := by decide +kernel
theorem dL_law_416 : decode cL_law 416 = .ok (.iconst 1, 1) := by decide +kernel
theorem dL_law_417 : decode cL_law 417 = .ok (.iadd, 1) := by decide +kernel
theorem dL_law_418 : decode cL_law 418 = .ok (.iaload, 1) := by decide +kernel
theorem dL_law_419 : decode cL_law 419 = .ok (.aload_n 0, 1) := by decide +kernel
theorem dL_law_420 : decode cL_law 420 = .ok (.iload 4, 2) := by decide +kernel
theorem dL_law_422 : decode cL_law 422 = .ok (.iconst 2, 1) := by decide +kernel
theorem dL_law_423 : decode cL_law 423 = .ok (.iadd, 1) := by decide +kernel
theorem dL_law_424 : decode cL_law 424 = .ok (.iaload, 1) := by decide +kernel
theorem dL_law_425 : decode cL_law 425 = .ok (.aload_n 0, 1) := by decide +kernel
theorem dL_law_426 : decode cL_law 426 = .ok (.iload 4, 2) := by decide +kernel
theorem dL_law_428 : decode cL_law 428 = .ok (.iconst 3, 1) := by decide +kernel
theorem dL_law_429 : decode cL_law 429 = .ok (.iadd, 1) := by decide +kernel
theorem dL_law_430 : decode cL_law 430 = .ok (.iaload, 1) := by decide +kernel
theorem dL_law_431 : decode cL_law 431 = .ok (.aload_n 0, 1) := by decide +kernel
theorem dL_law_432 : decode cL_law 432 = .ok (.iload 4, 2) := by decide +kernel
theorem dL_law_434 : decode cL_law 434 = .ok (.iconst 4, 1) := by decide +kernel
theorem dL_law_435 : decode cL_law 435 = .ok (.iadd, 1) := by decide +kernel
theorem dL_law_436 : decode cL_law 436 = .ok (.iaload, 1) := by decide +kernel
theorem dL_law_437 : decode cL_law 437 = .ok (.aload_n 3, 1) := by decide +kernel
theorem dL_law_438 : decode cL_law 438 = .ok (.invokestatic 118, 3) := by decide +kernel
theorem dL_law_441 : decode cL_law 441 = .ok (.istore 5, 2) := by decide +kernel
theorem dL_law_443 : decode cL_law 443 = .ok (.aload_n 2, 1) := by decide +kernel
theorem dL_law_444 : decode cL_law 444 = .ok (.aload_n 0, 1) := by decide +kernel
theorem dL_law_445 : decode cL_law 445 = .ok (.iload 4, 2) := by decide +kernel
theorem dL_law_447 : decode cL_law 447 = .ok (.iconst 1, 1) := by decide +kernel
theorem dL_law_448 : decode cL_law 448 = .ok (.iadd, 1) := by decide +kernel
theorem dL_law_449 : decode cL_law 449 = .ok (.iaload, 1) := by decide +kernel
theorem dL_law_450 : decode cL_law 450 = .ok (.aload_n 0, 1) := by decide +kernel
theorem dL_law_451 : decode cL_law 451 = .ok (.iload 4, 2) := by decide +kernel
theorem dL_law_453 : decode cL_law 453 = .ok (.iconst 2, 1) := by decide +kernel
theorem dL_law_454 : decode cL_law 454 = .ok (.iadd, 1) := by decide +kernel
theorem dL_law_455 : decode cL_law 455 = .ok (.iaload, 1) := by decide +kernel
theorem dL_law_456 : decode cL_law 456 = .ok (.aload_n 0, 1) := by decide +kernel
theorem dL_law_457 : decode cL_law 457 = .ok (.iload 4, 2) := by decide +kernel
theorem dL_law_459 : decode cL_law 459 = .ok (.iconst 3, 1) := by decide +kernel
theorem dL_law_460 : decode cL_law 460 = .ok (.iadd, 1) := by decide +kernel
theorem dL_law_461 : decode cL_law 461 = .ok (.iaload, 1) := by decide +kernel
theorem dL_law_462 : decode cL_law 462 = .ok (.aload_n 0, 1) := by decide +kernel
theorem dL_law_463 : decode cL_law 463 = .ok (.iload 4, 2) := by decide +kernel
theorem dL_law_465 : decode cL_law 465 = .ok (.iconst 4, 1) := by decide +kernel
theorem dL_law_466 : decode cL_law 466 = .ok (.iadd, 1) := by decide +kernel
theorem dL_law_467 : decode cL_law 467 = .ok (.iaload, 1) := by decide +kernel
theorem dL_law_468 : decode cL_law 468 = .ok (.invokevirtual 121, 3) := by decide +kernel
theorem dL_law_471 : decode cL_law 471 = .ok (.istore 6, 2) := by decide +kernel
theorem dL_law_473 : decode cL_law 473 = .ok (.aload_n 2, 1) := by decide +kernel
theorem dL_law_474 : decode cL_law 474 = .ok (.invokevirtual 104, 3) := by decide +kernel
theorem dL_law_477 : decode cL_law 477 = .ok (.iload 5, 2) := by decide +kernel
theorem dL_law_479 : decode cL_law 479 = .ok (.if_icmp .eq 5, 3) := by decide +kernel
theorem dL_law_482 : decode cL_law 482 = .ok (.iconst 0, 1) := by decide +kernel
theorem dL_law_483 : decode cL_law 483 = .ok (.ireturn, 1) := by decide +kernel
theorem dL_law_484 : decode cL_law 484 = .ok (.iload 5, 2) := by decide +kernel
theorem dL_law_486 : decode cL_law 486 = .ok (.ifCond .ne 15, 3) := by decide +kernel
theorem dL_law_489 : decode cL_law 489 = .ok (.aload_n 3, 1) := by decide +kernel
theorem dL_law_490 : decode cL_law 490 = .ok (.iconst 0, 1) := by decide +kernel
theorem dL_law_491 : decode cL_law 491 = .ok (.laload, 1) := by decide +kernel
theorem dL_law_492 : decode cL_law 492 = .ok (.iload 6, 2) := by decide +kernel
theorem dL_law_494 : decode cL_law 494 = .ok (.i2l, 1) := by decide +kernel
theorem dL_law_495 : decode cL_law 495 = .ok (.lcmp, 1) := by decide +kernel
theorem dL_law_496 : decode cL_law 496 = .ok (.ifCond .eq 5, 3) := by decide +kernel
theorem dL_law_499 : decode cL_law 499 = .ok (.iconst 0, 1) := by decide +kernel
theorem dL_law_500 : decode cL_law 500 = .ok (.ireturn, 1) := by decide +kernel
theorem dL_law_501 : decode cL_law 501 = .ok (.goto 1402, 3) := by decide +kernel
theorem dL_law_504 : decode cL_law 504 = .ok (.aload_n 1, 1) := by decide +kernel
theorem dL_law_505 : decode cL_law 505 = .ok (.aload_n 0, 1) := by decide +kernel
theorem dL_law_506 : decode cL_law 506 = .ok (.iload 4, 2) := by decide +kernel
theorem dL_law_508 : decode cL_law 508 = .ok (.iconst 1, 1) := by decide +kernel
theorem dL_law_509 : decode cL_law 509 = .ok (.iadd, 1) := by decide +kernel
theorem dL_law_510 : decode cL_law 510 = .ok (.iaload, 1) := by decide +kernel
theorem dL_law_511 : decode cL_law 511 = .ok (.aload_n 0, 1) := by decide +kernel
theorem dL_law_512 : decode cL_law 512 = .ok (.iload 4, 2) := by decide +kernel
theorem dL_law_514 : decode cL_law 514 = .ok (.iconst 2, 1) := by decide +kernel
theorem dL_law_515 : decode cL_law 515 = .ok (.iadd, 1) := by decide +kernel
theorem dL_law_516 : decode cL_law 516 = .ok (.iaload, 1) := by decide +kernel
theorem dL_law_517 : decode cL_law 517 = .ok (.aload_n 3, 1) := by decide +kernel
theorem dL_law_518 : decode cL_law 518 = .ok (.invokestatic 122, 3) := by decide +kernel
theorem dL_law_521 : decode cL_law 521 = .ok (.istore 5, 2) := by decide +kernel
theorem dL_law_523 : decode cL_law 523 = .ok (.aload_n 2, 1) := by decide +kernel
theorem dL_law_524 : decode cL_law 524 = .ok (.aload_n 0, 1) := by decide +kernel
theorem dL_law_525 : decode cL_law 525 = .ok (.iload 4, 2) := by decide +kernel
theorem dL_law_527 : decode cL_law 527 = .ok (.iconst 1, 1) := by decide +kernel
theorem dL_law_528 : decode cL_law 528 = .ok (.iadd, 1) := by decide +kernel
theorem dL_law_529 : decode cL_law 529 = .ok (.iaload, 1) := by decide +kernel
theorem dL_law_530 : decode cL_law 530 = .ok (.aload_n 0, 1) := by decide +kernel
theorem dL_law_531 : decode cL_law 531 = .ok (.iload 4, 2) := by decide +kernel
theorem dL_law_533 : decode cL_law 533 = .ok (.iconst 2, 1) := by decide +kernel
theorem dL_law_534 : decode cL_law 534 = .ok (.iadd, 1) := by decide +kernel
theorem dL_law_535 : decode cL_law 535 = .ok (.iaload, 1) := by decide +kernel
theorem dL_law_536 : decode cL_law 536 = .ok (.invokevirtual 124, 3) := by decide +kernel
theorem dL_law_539 : decode cL_law 539 = .ok (.istore 6, 2) := by decide +kernel
theorem dL_law_541 : decode cL_law 541 = .ok (.aload_n 2, 1) := by decide +kernel
theorem dL_law_542 : decode cL_law 542 = .ok (.invokevirtual 104, 3) := by decide +kernel
theorem dL_law_545 : decode cL_law 545 = .ok (.iload 5, 2) := by decide +kernel
theorem dL_law_547 : decode cL_law 547 = .ok (.if_icmp .eq 5, 3) := by decide +kernel
theorem dL_law_550 : decode cL_law 550 = .ok (.iconst 0, 1) := by decide +kernel
theorem dL_law_551 : decode cL_law 551 = .ok (.ireturn, 1) := by decide +kernel
theorem dL_law_552 : decode cL_law 552 = .ok (.iload 5, 2) := by decide +kernel
theorem dL_law_554 : decode cL_law 554 = .ok (.ifCond .ne 15, 3) := by decide +kernel
theorem dL_law_557 : decode cL_law 557 = .ok (.aload_n 3, 1) := by decide +kernel
theorem dL_law_558 : decode cL_law 558 = .ok (.iconst 0, 1) := by decide +kernel
theorem dL_law_559 : decode cL_law 559 = .ok (.laload, 1) := by decide +kernel
theorem dL_law_560 : decode cL_law 560 = .ok (.iload 6, 2) := by decide +kernel
theorem dL_law_562 : decode cL_law 562 = .ok (.i2l, 1) := by decide +kernel
theorem dL_law_563 : decode cL_law 563 = .ok (.lcmp, 1) := by decide +kernel
theorem dL_law_564 : decode cL_law 564 = .ok (.ifCond .eq 5, 3) := by decide +kernel
theorem dL_law_567 : decode cL_law 567 = .ok (.iconst 0, 1) := by decide +kernel
theorem dL_law_568 : decode cL_law 568 = .ok (.ireturn, 1) := by decide +kernel
theorem dL_law_569 : decode cL_law 569 = .ok (.goto 1334, 3) := by decide +kernel
theorem dL_law_572 : decode cL_law 572 = .ok (.aload_n 1, 1) := by decide +kernel
theorem dL_law_573 : decode cL_law 573 = .ok (.aload_n 0, 1) := by decide +kernel
theorem dL_law_574 : decode cL_law 574 = .ok (.iload 4, 2) := by decide +kernel
theorem dL_law_576 : decode cL_law 576 = .ok (.iconst 1, 1) := by decide +kernel
theorem dL_law_577 : decode cL_law 577 = .ok (.iadd, 1) := by decide +kernel
theorem dL_law_578 : decode cL_law 578 = .ok (.iaload, 1) := by decide +kernel
theorem dL_law_579 : decode cL_law 579 = .ok (.aload_n 0, 1) := by decide +kernel
theorem dL_law_580 : decode cL_law 580 = .ok (.iload 4, 2) := by decide +kernel
theorem dL_law_582 : decode cL_law 582 = .ok (.iconst 2, 1) := by decide +kernel
theorem dL_law_583 : decode cL_law 583 = .ok (.iadd, 1) := by decide +kernel
theorem dL_law_584 : decode cL_law 584 = .ok (.iaload, 1) := by decide +kernel
theorem dL_law_585 : decode cL_law 585 = .ok (.aload_n 3, 1) := by decide +kernel
theorem dL_law_586 : decode cL_law 586 = .ok (.invokestatic 125, 3) := by decide +kernel
theorem dL_law_589 : decode cL_law 589 = .ok (.istore 5, 2) := by decide +kernel
theorem dL_law_591 : decode cL_law 591 = .ok (.aload_n 2, 1) := by decide +kernel
theorem dL_law_592 : decode cL_law 592 = .ok (.aload_n 0, 1) := by decide +kernel
theorem dL_law_593 : decode cL_law 593 = .ok (.iload 4, 2) := by decide +kernel
theorem dL_law_595 : decode cL_law 595 = .ok (.iconst 1, 1) := by decide +kernel
theorem dL_law_596 : decode cL_law 596 = .ok (.iadd, 1) := by decide +kernel
theorem dL_law_597 : decode cL_law 597 = .ok (.iaload, 1) := by decide +kernel
theorem dL_law_598 : decode cL_law 598 = .ok (.aload_n 0, 1) := by decide +kernel
theorem dL_law_599 : decode cL_law 599 = .ok (.iload 4, 2) := by decide +kernel
theorem dL_law_601 : decode cL_law 601 = .ok (.iconst 2, 1) := by decide +kernel
theorem dL_law_602 : decode cL_law 602 = .ok (.iadd, 1) := by decide +kernel
theorem dL_law_603 : decode cL_law 603 = .ok (.iaload, 1) := by decide +kernel
theorem dL_law_604 : decode cL_law 604 = .ok (.invokevirtual 127, 3) := by decide +kernel
theorem dL_law_607 : decode cL_law 607 = .ok (.istore 6, 2) := by decide +kernel
theorem dL_law_609 : decode cL_law 609 = .ok (.aload_n 2, 1) := by decide +kernel
theorem dL_law_610 : decode cL_law 610 = .ok (.invokevirtual 104, 3) := by decide +kernel
theorem dL_law_613 : decode cL_law 613 = .ok (.iload 5, 2) := by decide +kernel
theorem dL_law_615 : decode cL_law 615 = .ok (.if_icmp .eq 5, 3) := by decide +kernel
theorem dL_law_618 : decode cL_law 618 = .ok (.iconst 0, 1) := by decide +kernel
theorem dL_law_619 : decode cL_law 619 = .ok (.ireturn, 1) := by decide +kernel
theorem dL_law_620 : decode cL_law 620 = .ok (.iload 5, 2) := by decide +kernel
theorem dL_law_622 : decode cL_law 622 = .ok (.ifCond .ne 15, 3) := by decide +kernel
theorem dL_law_625 : decode cL_law 625 = .ok (.aload_n 3, 1) := by decide +kernel
theorem dL_law_626 : decode cL_law 626 = .ok (.iconst 0, 1) := by decide +kernel
theorem dL_law_627 : decode cL_law 627 = .ok (.laload, 1) := by decide +kernel
theorem dL_law_628 : decode cL_law 628 = .ok (.iload 6, 2) := by decide +kernel
theorem dL_law_630 : decode cL_law 630 = .ok (.i2l, 1) := by decide +kernel
theorem dL_law_631 : decode cL_law 631 = .ok (.lcmp, 1) := by decide +kernel
theorem dL_law_632 : decode cL_law 632 = .ok (.ifCond .eq 5, 3) := by decide +kernel
theorem dL_law_635 : decode cL_law 635 = .ok (.iconst 0, 1) := by decide +kernel
theorem dL_law_636 : decode cL_law 636 = .ok (.ireturn, 1) := by decide +kernel
theorem dL_law_637 : decode cL_law 637 = .ok (.goto 1266, 3) := by decide +kernel
theorem dL_law_640 : decode cL_law 640 = .ok (.aload_n 1, 1) := by decide +kernel
theorem dL_law_641 : decode cL_law 641 = .ok (.aload_n 0, 1) := by decide +kernel
theorem dL_law_642 : decode cL_law 642 = .ok (.iload 4, 2) := by decide +kernel
theorem dL_law_644 : decode cL_law 644 = .ok (.iconst 1, 1) := by decide +kernel
theorem dL_law_645 : decode cL_law 645 = .ok (.iadd, 1) := by decide +kernel
theorem dL_law_646 : decode cL_law 646 = .ok (.iaload, 1) := by decide +kernel
theorem dL_law_647 : decode cL_law 647 = .ok (.aload_n 3, 1) := by decide +kernel
theorem dL_law_648 : decode cL_law 648 = .ok (.invokestatic 128, 3) := by decide +kernel
theorem dL_law_651 : decode cL_law 651 = .ok (.istore 5, 2) := by decide +kernel
theorem dL_law_653 : decode cL_law 653 = .ok (.aload_n 2, 1) := by decide +kernel
theorem dL_law_654 : decode cL_law 654 = .ok (.aload_n 0, 1) := by decide +kernel
theorem dL_law_655 : decode cL_law 655 = .ok (.iload 4, 2) := by decide +kernel
theorem dL_law_657 : decode cL_law 657 = .ok (.iconst 1, 1) := by decide +kernel
theorem dL_law_658 : decode cL_law 658 = .ok (.iadd, 1) := by decide +kernel
theorem dL_law_659 : decode cL_law 659 = .ok (.iaload, 1) := by decide +kernel
theorem dL_law_660 : decode cL_law 660 = .ok (.invokevirtual 130, 3) := by decide +kernel
theorem dL_law_663 : decode cL_law 663 = .ok (.istore 6, 2) := by decide +kernel
theorem dL_law_665 : decode cL_law 665 = .ok (.aload_n 2, 1) := by decide +kernel
theorem dL_law_666 : decode cL_law 666 = .ok (.invokevirtual 104, 3) := by decide +kernel
theorem dL_law_669 : decode cL_law 669 = .ok (.iload 5, 2) := by decide +kernel
theorem dL_law_671 : decode cL_law 671 = .ok (.if_icmp .eq 5, 3) := by decide +kernel
theorem dL_law_674 : decode cL_law 674 = .ok (.iconst 0, 1) := by decide +kernel
theorem dL_law_675 : decode cL_law 675 = .ok (.ireturn, 1) := by decide +kernel
theorem dL_law_676 : decode cL_law 676 = .ok (.iload 5, 2) := by decide +kernel
theorem dL_law_678 : decode cL_law 678 = .ok (.ifCond .ne 15, 3) := by decide +kernel
theorem dL_law_681 : decode cL_law 681 = .ok (.aload_n 3, 1) := by decide +kernel
theorem dL_law_682 : decode cL_law 682 = .ok (.iconst 0, 1) := by decide +kernel
theorem dL_law_683 : decode cL_law 683 = .ok (.laload, 1) := by decide +kernel
theorem dL_law_684 : decode cL_law 684 = .ok (.iload 6, 2) := by decide +kernel
theorem dL_law_686 : decode cL_law 686 = .ok (.i2l, 1) := by decide +kernel
theorem dL_law_687 : decode cL_law 687 = .ok (.lcmp, 1) := by decide +kernel
theorem dL_law_688 : decode cL_law 688 = .ok (.ifCond .eq 5, 3) := by decide +kernel
theorem dL_law_691 : decode cL_law 691 = .ok (.iconst 0, 1) := by decide +kernel
theorem dL_law_692 : decode cL_law 692 = .ok (.ireturn, 1) := by decide +kernel
theorem dL_law_693 : decode cL_law 693 = .ok (.goto 1210, 3) := by decide +kernel
theorem dL_law_696 : decode cL_law 696 = .ok (.aload_n 1, 1) := by decide +kernel
theorem dL_law_697 : decode cL_law 697 = .ok (.aload_n 0, 1) := by decide +kernel
theorem dL_law_698 : decode cL_law 698 = .ok (.iload 4, 2) := by decide +kernel
theorem dL_law_700 : decode cL_law 700 = .ok (.iconst 1, 1) := by decide +kernel
theorem dL_law_701 : decode cL_law 701 = .ok (.iadd, 1) := by decide +kernel
theorem dL_law_702 : decode cL_law 702 = .ok (.iaload, 1) := by decide +kernel
theorem dL_law_703 : decode cL_law 703 = .ok (.aload_n 0, 1) := by decide +kernel
theorem dL_law_704 : decode cL_law 704 = .ok (.iload 4, 2) := by decide +kernel
theorem dL_law_706 : decode cL_law 706 = .ok (.iconst 2, 1) := by decide +kernel
theorem dL_law_707 : decode cL_law 707 = .ok (.iadd, 1) := by decide +kernel
theorem dL_law_708 : decode cL_law 708 = .ok (.iaload, 1) := by decide +kernel
theorem dL_law_709 : decode cL_law 709 = .ok (.aload_n 3, 1) := by decide +kernel
theorem dL_law_710 : decode cL_law 710 = .ok (.invokestatic 131, 3) := by decide +kernel
theorem dL_law_713 : decode cL_law 713 = .ok (.istore 5, 2) := by decide +kernel
theorem dL_law_715 : decode cL_law 715 = .ok (.aload_n 2, 1) := by decide +kernel
theorem dL_law_716 : decode cL_law 716 = .ok (.aload_n 0, 1) := by decide +kernel
theorem dL_law_717 : decode cL_law 717 = .ok (.iload 4, 2) := by decide +kernel
theorem dL_law_719 : decode cL_law 719 = .ok (.iconst 1, 1) := by decide +kernel
theorem dL_law_720 : decode cL_law 720 = .ok (.iadd, 1) := by decide +kernel
theorem dL_law_721 : decode cL_law 721 = .ok (.iaload, 1) := by decide +kernel
theorem dL_law_722 : decode cL_law 722 = .ok (.aload_n 0, 1) := by decide +kernel
theorem dL_law_723 : decode cL_law 723 = .ok (.iload 4, 2) := by decide +kernel
theorem dL_law_725 : decode cL_law 725 = .ok (.iconst 2, 1) := by decide +kernel
theorem dL_law_726 : decode cL_law 726 = .ok (.iadd, 1) := by decide +kernel
theorem dL_law_727 : decode cL_law 727 = .ok (.iaload, 1) := by decide +kernel
theorem dL_law_728 : decode cL_law 728 = .ok (.invokevirtual 133, 3) := by decide +kernel
theorem dL_law_731 : decode cL_law 731 = .ok (.istore 6, 2) := by decide +kernel
theorem dL_law_733 : decode cL_law 733 = .ok (.aload_n 2, 1) := by decide +kernel
theorem dL_law_734 : decode cL_law 734 = .ok (.invokevirtual 104, 3) := by decide +kernel
theorem dL_law_737 : decode cL_law 737 = .ok (.iload 5, 2) := by decide +kernel
theorem dL_law_739 : decode cL_law 739 = .ok (.if_icmp .eq 5, 3) := by decide +kernel
theorem dL_law_742 : decode cL_law 742 = .ok (.iconst 0, 1) := by decide +kernel
theorem dL_law_743 : decode cL_law 743 = .ok (.ireturn, 1) := by decide +kernel
theorem dL_law_744 : decode cL_law 744 = .ok (.iload 5, 2) := by decide +kernel
theorem dL_law_746 : decode cL_law 746 = .ok (.ifCond .ne 15, 3) := by decide +kernel
theorem dL_law_749 : decode cL_law 749 = .ok (.aload_n 3, 1) := by decide +kernel
theorem dL_law_750 : decode cL_law 750 = .ok (.iconst 0, 1) := by decide +kernel
theorem dL_law_751 : decode cL_law 751 = .ok (.laload, 1) := by decide +kernel
theorem dL_law_752 : decode cL_law 752 = .ok (.iload 6, 2) := by decide +kernel
theorem dL_law_754 : decode cL_law 754 = .ok (.i2l, 1) := by decide +kernel
theorem dL_law_755 : decode cL_law 755 = .ok (.lcmp, 1) := by decide +kernel
theorem dL_law_756 : decode cL_law 756 = .ok (.ifCond .eq 5, 3) := by decide +kernel
theorem dL_law_759 : decode cL_law 759 = .ok (.iconst 0, 1) := by decide +kernel
theorem dL_law_760 : decode cL_law 760 = .ok (.ireturn, 1) := by decide +kernel
theorem dL_law_761 : decode cL_law 761 = .ok (.goto 1142, 3) := by decide +kernel
theorem dL_law_764 : decode cL_law 764 = .ok (.aload_n 1, 1) := by decide +kernel
theorem dL_law_765 : decode cL_law 765 = .ok (.aload_n 0, 1) := by decide +kernel
theorem dL_law_766 : decode cL_law 766 = .ok (.iload 4, 2) := by decide +kernel
theorem dL_law_768 : decode cL_law 768 = .ok (.iconst 1, 1) := by decide +kernel
theorem dL_law_769 : decode cL_law 769 = .ok (.iadd, 1) := by decide +kernel
theorem dL_law_770 : decode cL_law 770 = .ok (.iaload, 1) := by decide +kernel
theorem dL_law_771 : decode cL_law 771 = .ok (.aload_n 3, 1) := by decide +kernel
theorem dL_law_772 : decode cL_law 772 = .ok (.invokestatic 134, 3) := by decide +kernel
theorem dL_law_775 : decode cL_law 775 = .ok (.istore 5, 2) := by decide +kernel
theorem dL_law_777 : decode cL_law 777 = .ok (.aload_n 2, 1) := by decide +kernel
theorem dL_law_778 : decode cL_law 778 = .ok (.aload_n 0, 1) := by decide +kernel
theorem dL_law_779 : decode cL_law 779 = .ok (.iload 4, 2) := by decide +kernel
theorem dL_law_781 : decode cL_law 781 = .ok (.iconst 1, 1) := by decide +kernel
theorem dL_law_782 : decode cL_law 782 = .ok (.iadd, 1) := by decide +kernel
theorem dL_law_783 : decode cL_law 783 = .ok (.iaload, 1) := by decide +kernel
theorem dL_law_784 : decode cL_law 784 = .ok (.invokevirtual 136, 3) := by decide +kernel
theorem dL_law_787 : decode cL_law 787 = .ok (.istore 6, 2) := by decide +kernel
theorem dL_law_789 : decode cL_law 789 = .ok (.aload_n 2, 1) := by decide +kernel
theorem dL_law_790 : decode cL_law 790 = .ok (.invokevirtual 104, 3) := by decide +kernel
theorem dL_law_793 : decode cL_law 793 = .ok (.iload 5, 2) := by decide +kernel
theorem dL_law_795 : decode cL_law 795 = .ok (.if_icmp .eq 5, 3) := by decide +kernel
theorem dL_law_798 : decode cL_law 798 = .ok (.iconst 0, 1) := by decide +kernel
theorem dL_law_799 : decode cL_law 799 = .ok (.ireturn, 1) := by decide +kernel
theorem dL_law_800 : decode cL_law 800 = .ok (.iload 5, 2) := by decide +kernel
theorem dL_law_802 : decode cL_law 802 = .ok (.ifCond .ne 15, 3) := by decide +kernel
theorem dL_law_805 : decode cL_law 805 = .ok (.aload_n 3, 1) := by decide +kernel
theorem dL_law_806 : decode cL_law 806 = .ok (.iconst 0, 1) := by decide +kernel
theorem dL_law_807 : decode cL_law 807 = .ok (.laload, 1) := by decide +kernel
theorem dL_law_808 : decode cL_law 808 = .ok (.iload 6, 2) := by decide +kernel
theorem dL_law_810 : decode cL_law 810 = .ok (.i2l, 1) := by decide +kernel
theorem dL_law_811 : decode cL_law 811 = .ok (.lcmp, 1) := by decide +kernel
theorem dL_law_812 : decode cL_law 812 = .ok (.ifCond .eq 5, 3) := by decide +kernel
theorem dL_law_815 : decode cL_law 815 = .ok (.iconst 0, 1) := by decide +kernel
theorem dL_law_816 : decode cL_law 816 = .ok (.ireturn, 1) := by decide +kernel
theorem dL_law_817 : decode cL_law 817 = .ok (.goto 1086, 3) := by decide +kernel
theorem dL_law_820 : decode cL_law 820 = .ok (.aload_n 1, 1) := by decide +kernel
theorem dL_law_821 : decode cL_law 821 = .ok (.aload_n 0, 1) := by decide +kernel
theorem dL_law_822 : decode cL_law 822 = .ok (.iload 4, 2) := by decide +kernel
theorem dL_law_824 : decode cL_law 824 = .ok (.iconst 1, 1) := by decide +kernel
theorem dL_law_825 : decode cL_law 825 = .ok (.iadd, 1) := by decide +kernel
theorem dL_law_826 : decode cL_law 826 = .ok (.iaload, 1) := by decide +kernel
theorem dL_law_827 : decode cL_law 827 = .ok (.aload_n 3, 1) := by decide +kernel
theorem dL_law_828 : decode cL_law 828 = .ok (.invokestatic 137, 3) := by decide +kernel
theorem dL_law_831 : decode cL_law 831 = .ok (.istore 5, 2) := by decide +kernel
theorem dL_law_833 : decode cL_law 833 = .ok (.aload_n 2, 1) := by decide +kernel
theorem dL_law_834 : decode cL_law 834 = .ok (.aload_n 0, 1) := by decide +kernel
theorem dL_law_835 : decode cL_law 835 = .ok (.iload 4, 2) := by decide +kernel
theorem dL_law_837 : decode cL_law 837 = .ok (.iconst 1, 1) := by decide +kernel
theorem dL_law_838 : decode cL_law 838 = .ok (.iadd, 1) := by decide +kernel
theorem dL_law_839 : decode cL_law 839 = .ok (.iaload, 1) := by decide +kernel
theorem dL_law_840 : decode cL_law 840 = .ok (.invokevirtual 139, 3) := by decide +kernel
theorem dL_law_843 : decode cL_law 843 = .ok (.istore 6, 2) := by decide +kernel
theorem dL_law_845 : decode cL_law 845 = .ok (.aload_n 2, 1) := by decide +kernel
theorem dL_law_846 : decode cL_law 846 = .ok (.invokevirtual 104, 3) := by decide +kernel
theorem dL_law_849 : decode cL_law 849 = .ok (.iload 5, 2) := by decide +kernel
theorem dL_law_851 : decode cL_law 851 = .ok (.if_icmp .eq 5, 3) := by decide +kernel
theorem dL_law_854 : decode cL_law 854 = .ok (.iconst 0, 1) := by decide +kernel
theorem dL_law_855 : decode cL_law 855 = .ok (.ireturn, 1) := by decide +kernel
theorem dL_law_856 : decode cL_law 856 = .ok (.iload 5, 2) := by decide +kernel
theorem dL_law_858 : decode cL_law 858 = .ok (.ifCond .ne 15, 3) := by decide +kernel
theorem dL_law_861 : decode cL_law 861 = .ok (.aload_n 3, 1) := by decide +kernel
theorem dL_law_862 : decode cL_law 862 = .ok (.iconst 0, 1) := by decide +kernel
theorem dL_law_863 : decode cL_law 863 = .ok (.laload, 1) := by decide +kernel
theorem dL_law_864 : decode cL_law 864 = .ok (.iload 6, 2) := by decide +kernel
theorem dL_law_866 : decode cL_law 866 = .ok (.i2l, 1) := by decide +kernel
theorem dL_law_867 : decode cL_law 867 = .ok (.lcmp, 1) := by decide +kernel
theorem dL_law_868 : decode cL_law 868 = .ok (.ifCond .eq 5, 3) := by decide +kernel
theorem dL_law_871 : decode cL_law 871 = .ok (.iconst 0, 1) := by decide +kernel
theorem dL_law_872 : decode cL_law 872 = .ok (.ireturn, 1) := by decide +kernel
theorem dL_law_873 : decode cL_law 873 = .ok (.goto 1030, 3) := by decide +kernel
theorem dL_law_876 : decode cL_law 876 = .ok (.aload_n 1, 1) := by decide +kernel
theorem dL_law_877 : decode cL_law 877 = .ok (.aload_n 0, 1) := by decide +kernel
theorem dL_law_878 : decode cL_law 878 = .ok (.iload 4, 2) := by decide +kernel
theorem dL_law_880 : decode cL_law 880 = .ok (.iconst 1, 1) := by decide +kernel
theorem dL_law_881 : decode cL_law 881 = .ok (.iadd, 1) := by decide +kernel
theorem dL_law_882 : decode cL_law 882 = .ok (.iaload, 1) := by decide +kernel
theorem dL_law_883 : decode cL_law 883 = .ok (.aload_n 0, 1) := by decide +kernel
theorem dL_law_884 : decode cL_law 884 = .ok (.iload 4, 2) := by decide +kernel
theorem dL_law_886 : decode cL_law 886 = .ok (.iconst 2, 1) := by decide +kernel
theorem dL_law_887 : decode cL_law 887 = .ok (.iadd, 1) := by decide +kernel
theorem dL_law_888 : decode cL_law 888 = .ok (.iaload, 1) := by decide +kernel
theorem dL_law_889 : decode cL_law 889 = .ok (.aload_n 0, 1) := by decide +kernel
theorem dL_law_890 : decode cL_law 890 = .ok (.iload 4, 2) := by decide +kernel
theorem dL_law_892 : decode cL_law 892 = .ok (.iconst 3, 1) := by decide +kernel
theorem dL_law_893 : decode cL_law 893 = .ok (.iadd, 1) := by decide +kernel
theorem dL_law_894 : decode cL_law 894 = .ok (.iaload, 1) := by decide +kernel
theorem dL_law_895 : decode cL_law 895 = .ok (.aload_n 3, 1) := by decide +kernel
theorem dL_law_896 : decode cL_law 896 = .ok (.invokestatic 140, 3) := by decide +kernel
theorem dL_law_899 : decode cL_law 899 = .ok (.istore 5, 2) := by decide +kernel
theorem dL_law_901 : decode cL_law 901 = .ok (.aload_n 2, 1) := by decide +kernel
theorem dL_law_902 : decode cL_law 902 = .ok (.aload_n 0, 1) := by decide +kernel
theorem dL_law_903 : decode cL_law 903 = .ok (.iload 4, 2) := by decide +kernel
theorem dL_law_905 : decode cL_law 905 = .ok (.iconst 1, 1) := by decide +kernel
theorem dL_law_906 : decode cL_law 906 = .ok (.iadd, 1) := by decide +kernel
theorem dL_law_907 : decode cL_law 907 = .ok (.iaload, 1) := by decide +kernel
theorem dL_law_908 : decode cL_law 908 = .ok (.aload_n 0, 1) := by decide +kernel
theorem dL_law_909 : decode cL_law 909 = .ok (.iload 4, 2) := by decide +kernel
theorem dL_law_911 : decode cL_law 911 = .ok (.iconst 2, 1) := by decide +kernel
theorem dL_law_912 : decode cL_law 912 = .ok (.iadd, 1) := by decide +kernel
theorem dL_law_913 : decode cL_law 913 = .ok (.iaload, 1) := by decide +kernel
theorem dL_law_914 : decode cL_law 914 = .ok (.aload_n 0, 1) := by decide +kernel
theorem dL_law_915 : decode cL_law 915 = .ok (.iload 4, 2) := by decide +kernel
theorem dL_law_917 : decode cL_law 917 = .ok (.iconst 3, 1) := by decide +kernel
theorem dL_law_918 : decode cL_law 918 = .ok (.iadd, 1) := by decide +kernel
theorem dL_law_919 : decode cL_law 919 = .ok (.iaload, 1) := by decide +kernel
theorem dL_law_920 : decode cL_law 920 = .ok (.invokevirtual 143, 3) := by decide +kernel
theorem dL_law_923 : decode cL_law 923 = .ok (.istore 6, 2) := by decide +kernel
theorem dL_law_925 : decode cL_law 925 = .ok (.aload_n 2, 1) := by decide +kernel
theorem dL_law_926 : decode cL_law 926 = .ok (.invokevirtual 104, 3) := by decide +kernel
theorem dL_law_929 : decode cL_law 929 = .ok (.iload 5, 2) := by decide +kernel
theorem dL_law_931 : decode cL_law 931 = .ok (.if_icmp .eq 5, 3) := by decide +kernel
theorem dL_law_934 : decode cL_law 934 = .ok (.iconst 0, 1) := by decide +kernel
theorem dL_law_935 : decode cL_law 935 = .ok (.ireturn, 1) := by decide +kernel
theorem dL_law_936 : decode cL_law 936 = .ok (.iload 5, 2) := by decide +kernel
theorem dL_law_938 : decode cL_law 938 = .ok (.ifCond .ne 15, 3) := by decide +kernel
theorem dL_law_941 : decode cL_law 941 = .ok (.aload_n 3, 1) := by decide +kernel
theorem dL_law_942 : decode cL_law 942 = .ok (.iconst 0, 1) := by decide +kernel
theorem dL_law_943 : decode cL_law 943 = .ok (.laload, 1) := by decide +kernel
theorem dL_law_944 : decode cL_law 944 = .ok (.iload 6, 2) := by decide +kernel
theorem dL_law_946 : decode cL_law 946 = .ok (.i2l, 1) := by decide +kernel
theorem dL_law_947 : decode cL_law 947 = .ok (.lcmp, 1) := by decide +kernel
theorem dL_law_948 : decode cL_law 948 = .ok (.ifCond .eq 5, 3) := by decide +kernel
theorem dL_law_951 : decode cL_law 951 = .ok (.iconst 0, 1) := by decide +kernel
theorem dL_law_952 : decode cL_law 952 = .ok (.ireturn, 1) := by decide +kernel
theorem dL_law_953 : decode cL_law 953 = .ok (.goto 950, 3) := by decide +kernel
theorem dL_law_956 : decode cL_law 956 = .ok (.aload_n 1, 1) := by decide +kernel
theorem dL_law_957 : decode cL_law 957 = .ok (.aload_n 0, 1) := by decide +kernel
theorem dL_law_958 : decode cL_law 958 = .ok (.iload 4, 2) := by decide +kernel
theorem dL_law_960 : decode cL_law 960 = .ok (.iconst 1, 1) := by decide +kernel
theorem dL_law_961 : decode cL_law 961 = .ok (.iadd, 1) := by decide +kernel
theorem dL_law_962 : decode cL_law 962 = .ok (.iaload, 1) := by decide +kernel
theorem dL_law_963 : decode cL_law 963 = .ok (.aload_n 0, 1) := by decide +kernel
theorem dL_law_964 : decode cL_law 964 = .ok (.iload 4, 2) := by decide +kernel
theorem dL_law_966 : decode cL_law 966 = .ok (.iconst 2, 1) := by decide +kernel
theorem dL_law_967 : decode cL_law 967 = .ok (.iadd, 1) := by decide +kernel
theorem dL_law_968 : decode cL_law 968 = .ok (.iaload, 1) := by decide +kernel
theorem dL_law_969 : decode cL_law 969 = .ok (.aload_n 0, 1) := by decide +kernel
theorem dL_law_970 : decode cL_law 970 = .ok (.iload 4, 2) := by decide +kernel
theorem dL_law_972 : decode cL_law 972 = .ok (.iconst 3, 1) := by decide +kernel
theorem dL_law_973 : decode cL_law 973 = .ok (.iadd, 1) := by decide +kernel
theorem dL_law_974 : decode cL_law 974 = .ok (.iaload, 1) := by decide +kernel
theorem dL_law_975 : decode cL_law 975 = .ok (.aload_n 3, 1) := by decide +kernel
theorem dL_law_976 : decode cL_law 976 = .ok (.invokestatic 144, 3) := by decide +kernel
theorem dL_law_979 : decode cL_law 979 = .ok (.istore 5, 2) := by decide +kernel
theorem dL_law_981 : decode cL_law 981 = .ok (.aload_n 2, 1) := by decide +kernel
theorem dL_law_982 : decode cL_law 982 = .ok (.aload_n 0, 1) := by decide +kernel
theorem dL_law_983 : decode cL_law 983 = .ok (.iload 4, 2) := by decide +kernel
theorem dL_law_985 : decode cL_law 985 = .ok (.iconst 1, 1) := by decide +kernel
theorem dL_law_986 : decode cL_law 986 = .ok (.iadd, 1) := by decide +kernel
theorem dL_law_987 : decode cL_law 987 = .ok (.iaload, 1) := by decide +kernel
theorem dL_law_988 : decode cL_law 988 = .ok (.aload_n 0, 1) := by decide +kernel
theorem dL_law_989 : decode cL_law 989 = .ok (.iload 4, 2) := by decide +kernel
theorem dL_law_991 : decode cL_law 991 = .ok (.iconst 2, 1) := by decide +kernel
theorem dL_law_992 : decode cL_law 992 = .ok (.iadd, 1) := by decide +kernel
theorem dL_law_993 : decode cL_law 993 = .ok (.iaload, 1) := by decide +kernel
theorem dL_law_994 : decode cL_law 994 = .ok (.aload_n 0, 1) := by decide +kernel
theorem dL_law_995 : decode cL_law 995 = .ok (.iload 4, 2) := by decide +kernel
theorem dL_law_997 : decode cL_law 997 = .ok (.iconst 3, 1) := by decide +kernel
theorem dL_law_998 : decode cL_law 998 = .ok (.iadd, 1) := by decide +kernel
theorem dL_law_999 : decode cL_law 999 = .ok (.iaload, 1) := by decide +kernel
theorem dL_law_1000 : decode cL_law 1000 = .ok (.invokevirtual 146, 3) := by decide +kernel
theorem dL_law_1003 : decode cL_law 1003 = .ok (.istore 6, 2) := by decide +kernel
theorem dL_law_1005 : decode cL_law 1005 = .ok (.aload_n 2, 1) := by decide +kernel
theorem dL_law_1006 : decode cL_law 1006 = .ok (.invokevirtual 104, 3) := by decide +kernel
theorem dL_law_1009 : decode cL_law 1009 = .ok (.iload 5, 2) := by decide +kernel
theorem dL_law_1011 : decode cL_law 1011 = .ok (.if_icmp .eq 5, 3) := by decide +kernel
theorem dL_law_1014 : decode cL_law 1014 = .ok (.iconst 0, 1) := by decide +kernel
theorem dL_law_1015 : decode cL_law 1015 = .ok (.ireturn, 1) := by decide +kernel
theorem dL_law_1016 : decode cL_law 1016 = .ok (.iload 5, 2) := by decide +kernel
theorem dL_law_1018 : decode cL_law 1018 = .ok (.ifCond .ne 15, 3) := by decide +kernel
theorem dL_law_1021 : decode cL_law 1021 = .ok (.aload_n 3, 1) := by decide +kernel
theorem dL_law_1022 : decode cL_law 1022 = .ok (.iconst 0, 1) := by decide +kernel
theorem dL_law_1023 : decode cL_law 1023 = .ok (.laload, 1) := by decide +kernel
theorem dL_law_1024 : decode cL_law 1024 = .ok (.iload 6, 2) := by decide +kernel
theorem dL_law_1026 : decode cL_law 1026 = .ok (.i2l, 1) := by decide +kernel
theorem dL_law_1027 : decode cL_law 1027 = .ok (.lcmp, 1) := by decide +kernel
theorem dL_law_1028 : decode cL_law 1028 = .ok (.ifCond .eq 5, 3) := by decide +kernel
theorem dL_law_1031 : decode cL_law 1031 = .ok (.iconst 0, 1) := by decide +kernel
theorem dL_law_1032 : decode cL_law 1032 = .ok (.ireturn, 1) := by decide +kernel
theorem dL_law_1033 : decode cL_law 1033 = .ok (.goto 870, 3) := by decide +kernel
theorem dL_law_1036 : decode cL_law 1036 = .ok (.aload_n 1, 1) := by decide +kernel
theorem dL_law_1037 : decode cL_law 1037 = .ok (.invokevirtual 147, 3) := by decide +kernel
theorem dL_law_1040 : decode cL_law 1040 = .ok (.aload_n 2, 1) := by decide +kernel
theorem dL_law_1041 : decode cL_law 1041 = .ok (.invokevirtual 150, 3) := by decide +kernel
theorem dL_law_1044 : decode cL_law 1044 = .ok (.if_icmp .eq 859, 3) := by decide +kernel
theorem dL_law_1047 : decode cL_law 1047 = .ok (.iconst 0, 1) := by decide +kernel
theorem dL_law_1048 : decode cL_law 1048 = .ok (.ireturn, 1) := by decide +kernel
theorem dL_law_1049 : decode cL_law 1049 = .ok (.aload_n 1, 1) := by decide +kernel
theorem dL_law_1050 : decode cL_law 1050 = .ok (.aload_n 0, 1) := by decide +kernel
theorem dL_law_1051 : decode cL_law 1051 = .ok (.iload 4, 2) := by decide +kernel
theorem dL_law_1053 : decode cL_law 1053 = .ok (.iconst 1, 1) := by decide +kernel
theorem dL_law_1054 : decode cL_law 1054 = .ok (.iadd, 1) := by decide +kernel
theorem dL_law_1055 : decode cL_law 1055 = .ok (.iaload, 1) := by decide +kernel
theorem dL_law_1056 : decode cL_law 1056 = .ok (.aload_n 0, 1) := by decide +kernel
theorem dL_law_1057 : decode cL_law 1057 = .ok (.iload 4, 2) := by decide +kernel
theorem dL_law_1059 : decode cL_law 1059 = .ok (.iconst 2, 1) := by decide +kernel
theorem dL_law_1060 : decode cL_law 1060 = .ok (.iadd, 1) := by decide +kernel
theorem dL_law_1061 : decode cL_law 1061 = .ok (.iaload, 1) := by decide +kernel
theorem dL_law_1062 : decode cL_law 1062 = .ok (.aload_n 0, 1) := by decide +kernel
theorem dL_law_1063 : decode cL_law 1063 = .ok (.iload 4, 2) := by decide +kernel
theorem dL_law_1065 : decode cL_law 1065 = .ok (.iconst 3, 1) := by decide +kernel
theorem dL_law_1066 : decode cL_law 1066 = .ok (.iadd, 1) := by decide +kernel
theorem dL_law_1067 : decode cL_law 1067 = .ok (.iaload, 1) := by decide +kernel
theorem dL_law_1068 : decode cL_law 1068 = .ok (.aload_n 3, 1) := by decide +kernel
theorem dL_law_1069 : decode cL_law 1069 = .ok (.invokestatic 151, 3) := by decide +kernel
theorem dL_law_1072 : decode cL_law 1072 = .ok (.istore 5, 2) := by decide +kernel
theorem dL_law_1074 : decode cL_law 1074 = .ok (.aload_n 2, 1) := by decide +kernel
theorem dL_law_1075 : decode cL_law 1075 = .ok (.aload_n 0, 1) := by decide +kernel
theorem dL_law_1076 : decode cL_law 1076 = .ok (.iload 4, 2) := by decide +kernel
theorem dL_law_1078 : decode cL_law 1078 = .ok (.iconst 1, 1) := by decide +kernel
theorem dL_law_1079 : decode cL_law 1079 = .ok (.iadd, 1) := by decide +kernel
theorem dL_law_1080 : decode cL_law 1080 = .ok (.iaload, 1) := by decide +kernel
theorem dL_law_1081 : decode cL_law 1081 = .ok (.aload_n 0, 1) := by decide +kernel
theorem dL_law_1082 : decode cL_law 1082 = .ok (.iload 4, 2) := by decide +kernel
theorem dL_law_1084 : decode cL_law 1084 = .ok (.iconst 2, 1) := by decide +kernel
theorem dL_law_1085 : decode cL_law 1085 = .ok (.iadd, 1) := by decide +kernel
theorem dL_law_1086 : decode cL_law 1086 = .ok (.iaload, 1) := by decide +kernel
theorem dL_law_1087 : decode cL_law 1087 = .ok (.aload_n 0, 1) := by decide +kernel
theorem dL_law_1088 : decode cL_law 1088 = .ok (.iload 4, 2) := by decide +kernel
theorem dL_law_1090 : decode cL_law 1090 = .ok (.iconst 3, 1) := by decide +kernel
theorem dL_law_1091 : decode cL_law 1091 = .ok (.iadd, 1) := by decide +kernel
theorem dL_law_1092 : decode cL_law 1092 = .ok (.iaload, 1) := by decide +kernel
theorem dL_law_1093 : decode cL_law 1093 = .ok (.invokevirtual 153, 3) := by decide +kernel
theorem dL_law_1096 : decode cL_law 1096 = .ok (.istore 6, 2) := by decide +kernel
theorem dL_law_1098 : decode cL_law 1098 = .ok (.aload_n 2, 1) := by decide +kernel
theorem dL_law_1099 : decode cL_law 1099 = .ok (.invokevirtual 104, 3) := by decide +kernel
theorem dL_law_1102 : decode cL_law 1102 = .ok (.iload 5, 2) := by decide +kernel
theorem dL_law_1104 : decode cL_law 1104 = .ok (.if_icmp .eq 5, 3) := by decide +kernel
theorem dL_law_1107 : decode cL_law 1107 = .ok (.iconst 0, 1) := by decide +kernel
theorem dL_law_1108 : decode cL_law 1108 = .ok (.ireturn, 1) := by decide +kernel
theorem dL_law_1109 : decode cL_law 1109 = .ok (.iload 5, 2) := by decide +kernel
theorem dL_law_1111 : decode cL_law 1111 = .ok (.ifCond .ne 15, 3) := by decide +kernel
theorem dL_law_1114 : decode cL_law 1114 = .ok (.aload_n 3, 1) := by decide +kernel
theorem dL_law_1115 : decode cL_law 1115 = .ok (.iconst 0, 1) := by decide +kernel
theorem dL_law_1116 : decode cL_law 1116 = .ok (.laload, 1) := by decide +kernel
theorem dL_law_1117 : decode cL_law 1117 = .ok (.iload 6, 2) := by decide +kernel
theorem dL_law_1119 : decode cL_law 1119 = .ok (.i2l, 1) := by decide +kernel
theorem dL_law_1120 : decode cL_law 1120 = .ok (.lcmp, 1) := by decide +kernel
theorem dL_law_1121 : decode cL_law 1121 = .ok (.ifCond .eq 5, 3) := by decide +kernel
theorem dL_law_1124 : decode cL_law 1124 = .ok (.iconst 0, 1) := by decide +kernel
theorem dL_law_1125 : decode cL_law 1125 = .ok (.ireturn, 1) := by decide +kernel
theorem dL_law_1126 : decode cL_law 1126 = .ok (.goto 777, 3) := by decide +kernel
theorem dL_law_1129 : decode cL_law 1129 = .ok (.aload_n 1, 1) := by decide +kernel
theorem dL_law_1130 : decode cL_law 1130 = .ok (.aload_n 0, 1) := by decide +kernel
theorem dL_law_1131 : decode cL_law 1131 = .ok (.iload 4, 2) := by decide +kernel
theorem dL_law_1133 : decode cL_law 1133 = .ok (.iconst 1, 1) := by decide +kernel
theorem dL_law_1134 : decode cL_law 1134 = .ok (.iadd, 1) := by decide +kernel
theorem dL_law_1135 : decode cL_law 1135 = .ok (.iaload, 1) := by decide +kernel
theorem dL_law_1136 : decode cL_law 1136 = .ok (.aload_n 3, 1) := by decide +kernel
theorem dL_law_1137 : decode cL_law 1137 = .ok (.invokestatic 154, 3) := by decide +kernel
theorem dL_law_1140 : decode cL_law 1140 = .ok (.istore 5, 2) := by decide +kernel
theorem dL_law_1142 : decode cL_law 1142 = .ok (.aload_n 2, 1) := by decide +kernel
theorem dL_law_1143 : decode cL_law 1143 = .ok (.aload_n 0, 1) := by decide +kernel
theorem dL_law_1144 : decode cL_law 1144 = .ok (.iload 4, 2) := by decide +kernel
theorem dL_law_1146 : decode cL_law 1146 = .ok (.iconst 1, 1) := by decide +kernel
theorem dL_law_1147 : decode cL_law 1147 = .ok (.iadd, 1) := by decide +kernel
theorem dL_law_1148 : decode cL_law 1148 = .ok (.iaload, 1) := by decide +kernel
theorem dL_law_1149 : decode cL_law 1149 = .ok (.invokevirtual 156, 3) := by decide +kernel
theorem dL_law_1152 : decode cL_law 1152 = .ok (.istore 6, 2) := by decide +kernel
theorem dL_law_1154 : decode cL_law 1154 = .ok (.aload_n 2, 1) := by decide +kernel
theorem dL_law_1155 : decode cL_law 1155 = .ok (.invokevirtual 104, 3) := by decide +kernel
theorem dL_law_1158 : decode cL_law 1158 = .ok (.iload 5, 2) := by decide +kernel
theorem dL_law_1160 : decode cL_law 1160 = .ok (.if_icmp .eq 5, 3) := by decide +kernel
theorem dL_law_1163 : decode cL_law 1163 = .ok (.iconst 0, 1) := by decide +kernel
theorem dL_law_1164 : decode cL_law 1164 = .ok (.ireturn, 1) := by decide +kernel
theorem dL_law_1165 : decode cL_law 1165 = .ok (.iload 5, 2) := by decide +kernel
theorem dL_law_1167 : decode cL_law 1167 = .ok (.ifCond .ne 15, 3) := by decide +kernel
theorem dL_law_1170 : decode cL_law 1170 = .ok (.aload_n 3, 1) := by decide +kernel
theorem dL_law_1171 : decode cL_law 1171 = .ok (.iconst 0, 1) := by decide +kernel
theorem dL_law_1172 : decode cL_law 1172 = .ok (.laload, 1) := by decide +kernel
theorem dL_law_1173 : decode cL_law 1173 = .ok (.iload 6, 2) := by decide +kernel
theorem dL_law_1175 : decode cL_law 1175 = .ok (.i2l, 1) := by decide +kernel
theorem dL_law_1176 : decode cL_law 1176 = .ok (.lcmp, 1) := by decide +kernel
theorem dL_law_1177 : decode cL_law 1177 = .ok (.ifCond .eq 5, 3) := by decide +kernel
theorem dL_law_1180 : decode cL_law 1180 = .ok (.iconst 0, 1) := by decide +kernel
theorem dL_law_1181 : decode cL_law 1181 = .ok (.ireturn, 1) := by decide +kernel
theorem dL_law_1182 : decode cL_law 1182 = .ok (.goto 721, 3) := by decide +kernel
theorem dL_law_1185 : decode cL_law 1185 = .ok (.aload_n 1, 1) := by decide +kernel
theorem dL_law_1186 : decode cL_law 1186 = .ok (.aload_n 0, 1) := by decide +kernel
theorem dL_law_1187 : decode cL_law 1187 = .ok (.iload 4, 2) := by decide +kernel
theorem dL_law_1189 : decode cL_law 1189 = .ok (.iconst 1, 1) := by decide +kernel
theorem dL_law_1190 : decode cL_law 1190 = .ok (.iadd, 1) := by decide +kernel
theorem dL_law_1191 : decode cL_law 1191 = .ok (.iaload, 1) := by decide +kernel
theorem dL_law_1192 : decode cL_law 1192 = .ok (.aload_n 0, 1) := by decide +kernel
theorem dL_law_1193 : decode cL_law 1193 = .ok (.iload 4, 2) := by decide +kernel
theorem dL_law_1195 : decode cL_law 1195 = .ok (.iconst 2, 1) := by decide +kernel
theorem dL_law_1196 : decode cL_law 1196 = .ok (.iadd, 1) := by decide +kernel
theorem dL_law_1197 : decode cL_law 1197 = .ok (.iaload, 1) := by decide +kernel
theorem dL_law_1198 : decode cL_law 1198 = .ok (.aload_n 3, 1) := by decide +kernel
theorem dL_law_1199 : decode cL_law 1199 = .ok (.invokestatic 157, 3) := by decide +kernel
theorem dL_law_1202 : decode cL_law 1202 = .ok (.istore 5, 2) := by decide +kernel
theorem dL_law_1204 : decode cL_law 1204 = .ok (.aload_n 2, 1) := by decide +kernel
theorem dL_law_1205 : decode cL_law 1205 = .ok (.aload_n 0, 1) := by decide +kernel
theorem dL_law_1206 : decode cL_law 1206 = .ok (.iload 4, 2) := by decide +kernel
theorem dL_law_1208 : decode cL_law 1208 = .ok (.iconst 1, 1) := by decide +kernel
theorem dL_law_1209 : decode cL_law 1209 = .ok (.iadd, 1) := by decide +kernel
theorem dL_law_1210 : decode cL_law 1210 = .ok (.iaload, 1) := by decide +kernel
theorem dL_law_1211 : decode cL_law 1211 = .ok (.aload_n 0, 1) := by decide +kernel
theorem dL_law_1212 : decode cL_law 1212 = .ok (.iload 4, 2) := by decide +kernel
theorem dL_law_1214 : decode cL_law 1214 = .ok (.iconst 2, 1) := by decide +kernel
theorem dL_law_1215 : decode cL_law 1215 = .ok (.iadd, 1) := by decide +kernel
theorem dL_law_1216 : decode cL_law 1216 = .ok (.iaload, 1) := by decide +kernel
theorem dL_law_1217 : decode cL_law 1217 = .ok (.invokevirtual 159, 3) := by decide +kernel
theorem dL_law_1220 : decode cL_law 1220 = .ok (.istore 6, 2) := by decide +kernel
theorem dL_law_1222 : decode cL_law 1222 = .ok (.aload_n 2, 1) := by decide +kernel
theorem dL_law_1223 : decode cL_law 1223 = .ok (.invokevirtual 104, 3) := by decide +kernel
theorem dL_law_1226 : decode cL_law 1226 = .ok (.iload 5, 2) := by decide +kernel
theorem dL_law_1228 : decode cL_law 1228 = .ok (.if_icmp .eq 5, 3) := by decide +kernel
theorem dL_law_1231 : decode cL_law 1231 = .ok (.iconst 0, 1) := by decide +kernel
theorem dL_law_1232 : decode cL_law 1232 = .ok (.ireturn, 1) := by decide +kernel
theorem dL_law_1233 : decode cL_law 1233 = .ok (.iload 5, 2) := by decide +kernel
theorem dL_law_1235 : decode cL_law 1235 = .ok (.ifCond .ne 15, 3) := by decide +kernel
theorem dL_law_1238 : decode cL_law 1238 = .ok (.aload_n 3, 1) := by decide +kernel
theorem dL_law_1239 : decode cL_law 1239 = .ok (.iconst 0, 1) := by decide +kernel
theorem dL_law_1240 : decode cL_law 1240 = .ok (.laload, 1) := by decide +kernel
theorem dL_law_1241 : decode cL_law 1241 = .ok (.iload 6, 2) := by decide +kernel
theorem dL_law_1243 : decode cL_law 1243 = .ok (.i2l, 1) := by decide +kernel
theorem dL_law_1244 : decode cL_law 1244 = .ok (.lcmp, 1) := by decide +kernel
theorem dL_law_1245 : decode cL_law 1245 = .ok (.ifCond .eq 5, 3) := by decide +kernel
theorem dL_law_1248 : decode cL_law 1248 = .ok (.iconst 0, 1) := by decide +kernel
theorem dL_law_1249 : decode cL_law 1249 = .ok (.ireturn, 1) := by decide +kernel
theorem dL_law_1250 : decode cL_law 1250 = .ok (.goto 653, 3) := by decide +kernel
theorem dL_law_1253 : decode cL_law 1253 = .ok (.aload_n 1, 1) := by decide +kernel
theorem dL_law_1254 : decode cL_law 1254 = .ok (.invokevirtual 160, 3) := by decide +kernel
theorem dL_law_1257 : decode cL_law 1257 = .ok (.aload_n 2, 1) := by decide +kernel
theorem dL_law_1258 : decode cL_law 1258 = .ok (.invokevirtual 163, 3) := by decide +kernel
theorem dL_law_1261 : decode cL_law 1261 = .ok (.if_icmp .eq 642, 3) := by decide +kernel
theorem dL_law_1264 : decode cL_law 1264 = .ok (.iconst 0, 1) := by decide +kernel
theorem dL_law_1265 : decode cL_law 1265 = .ok (.ireturn, 1) := by decide +kernel
theorem dL_law_1266 : decode cL_law 1266 = .ok (.aload_n 1, 1) := by decide +kernel
theorem dL_law_1267 : decode cL_law 1267 = .ok (.invokevirtual 164, 3) := by decide +kernel
theorem dL_law_1270 : decode cL_law 1270 = .ok (.aload_n 2, 1) := by decide +kernel
theorem dL_law_1271 : decode cL_law 1271 = .ok (.invokevirtual 167, 3) := by decide +kernel
theorem dL_law_1274 : decode cL_law 1274 = .ok (.if_icmp .eq 629, 3) := by decide +kernel
theorem dL_law_1277 : decode cL_law 1277 = .ok (.iconst 0, 1) := by decide +kernel
theorem dL_law_1278 : decode cL_law 1278 = .ok (.ireturn, 1) := by decide +kernel
theorem dL_law_1279 : decode cL_law 1279 = .ok (.aload_n 1, 1) := by decide +kernel
theorem dL_law_1280 : decode cL_law 1280 = .ok (.aload_n 0, 1) := by decide +kernel
theorem dL_law_1281 : decode cL_law 1281 = .ok (.iload 4, 2) := by decide +kernel
theorem dL_law_1283 : decode cL_law 1283 = .ok (.iconst 1, 1) := by decide +kernel
theorem dL_law_1284 : decode cL_law 1284 = .ok (.iadd, 1) := by decide +kernel
theorem dL_law_1285 : decode cL_law 1285 = .ok (.iaload, 1) := by decide +kernel
theorem dL_law_1286 : decode cL_law 1286 = .ok (.aload_n 0, 1) := by decide +kernel
theorem dL_law_1287 : decode cL_law 1287 = .ok (.iload 4, 2) := by decide +kernel
theorem dL_law_1289 : decode cL_law 1289 = .ok (.iconst 2, 1) := by decide +kernel
theorem dL_law_1290 : decode cL_law 1290 = .ok (.iadd, 1) := by decide +kernel
theorem dL_law_1291 : decode cL_law 1291 = .ok (.iaload, 1) := by decide +kernel
theorem dL_law_1292 : decode cL_law 1292 = .ok (.aload_n 3, 1) := by decide +kernel
theorem dL_law_1293 : decode cL_law 1293 = .ok (.invokestatic 168, 3) := by decide +kernel
theorem dL_law_1296 : decode cL_law 1296 = .ok (.istore 5, 2) := by decide +kernel
theorem dL_law_1298 : decode cL_law 1298 = .ok (.aload_n 2, 1) := by decide +kernel
theorem dL_law_1299 : decode cL_law 1299 = .ok (.aload_n 0, 1) := by decide +kernel
theorem dL_law_1300 : decode cL_law 1300 = .ok (.iload 4, 2) := by decide +kernel
theorem dL_law_1302 : decode cL_law 1302 = .ok (.iconst 1, 1) := by decide +kernel
theorem dL_law_1303 : decode cL_law 1303 = .ok (.iadd, 1) := by decide +kernel
theorem dL_law_1304 : decode cL_law 1304 = .ok (.iaload, 1) := by decide +kernel
theorem dL_law_1305 : decode cL_law 1305 = .ok (.aload_n 0, 1) := by decide +kernel
theorem dL_law_1306 : decode cL_law 1306 = .ok (.iload 4, 2) := by decide +kernel
theorem dL_law_1308 : decode cL_law 1308 = .ok (.iconst 2, 1) := by decide +kernel
theorem dL_law_1309 : decode cL_law 1309 = .ok (.iadd, 1) := by decide +kernel
theorem dL_law_1310 : decode cL_law 1310 = .ok (.iaload, 1) := by decide +kernel
theorem dL_law_1311 : decode cL_law 1311 = .ok (.invokevirtual 170, 3) := by decide +kernel
theorem dL_law_1314 : decode cL_law 1314 = .ok (.istore 6, 2) := by decide +kernel
theorem dL_law_1316 : decode cL_law 1316 = .ok (.aload_n 2, 1) := by decide +kernel
theorem dL_law_1317 : decode cL_law 1317 = .ok (.invokevirtual 104, 3) := by decide +kernel
theorem dL_law_1320 : decode cL_law 1320 = .ok (.iload 5, 2) := by decide +kernel
theorem dL_law_1322 : decode cL_law 1322 = .ok (.if_icmp .eq 5, 3) := by decide +kernel
theorem dL_law_1325 : decode cL_law 1325 = .ok (.iconst 0, 1) := by decide +kernel
theorem dL_law_1326 : decode cL_law 1326 = .ok (.ireturn, 1) := by decide +kernel
theorem dL_law_1327 : decode cL_law 1327 = .ok (.iload 5, 2) := by decide +kernel
theorem dL_law_1329 : decode cL_law 1329 = .ok (.ifCond .ne 15, 3) := by decide +kernel
theorem dL_law_1332 : decode cL_law 1332 = .ok (.aload_n 3, 1) := by decide +kernel
theorem dL_law_1333 : decode cL_law 1333 = .ok (.iconst 0, 1) := by decide +kernel
theorem dL_law_1334 : decode cL_law 1334 = .ok (.laload, 1) := by decide +kernel
theorem dL_law_1335 : decode cL_law 1335 = .ok (.iload 6, 2) := by decide +kernel
theorem dL_law_1337 : decode cL_law 1337 = .ok (.i2l, 1) := by decide +kernel
theorem dL_law_1338 : decode cL_law 1338 = .ok (.lcmp, 1) := by decide +kernel
theorem dL_law_1339 : decode cL_law 1339 = .ok (.ifCond .eq 5, 3) := by decide +kernel
theorem dL_law_1342 : decode cL_law 1342 = .ok (.iconst 0, 1) := by decide +kernel
theorem dL_law_1343 : decode cL_law 1343 = .ok (.ireturn, 1) := by decide +kernel
theorem dL_law_1344 : decode cL_law 1344 = .ok (.goto 559, 3) := by decide +kernel
theorem dL_law_1347 : decode cL_law 1347 = .ok (.aload_n 1, 1) := by decide +kernel
theorem dL_law_1348 : decode cL_law 1348 = .ok (.aload_n 0, 1) := by decide +kernel
theorem dL_law_1349 : decode cL_law 1349 = .ok (.iload 4, 2) := by decide +kernel
theorem dL_law_1351 : decode cL_law 1351 = .ok (.iconst 1, 1) := by decide +kernel
theorem dL_law_1352 : decode cL_law 1352 = .ok (.iadd, 1) := by decide +kernel
theorem dL_law_1353 : decode cL_law 1353 = .ok (.iaload, 1) := by decide +kernel
theorem dL_law_1354 : decode cL_law 1354 = .ok (.aload_n 0, 1) := by decide +kernel
theorem dL_law_1355 : decode cL_law 1355 = .ok (.iload 4, 2) := by decide +kernel
theorem dL_law_1357 : decode cL_law 1357 = .ok (.iconst 2, 1) := by decide +kernel
theorem dL_law_1358 : decode cL_law 1358 = .ok (.iadd, 1) := by decide +kernel
theorem dL_law_1359 : decode cL_law 1359 = .ok (.iaload, 1) := by decide +kernel
theorem dL_law_1360 : decode cL_law 1360 = .ok (.aload_n 0, 1) := by decide +kernel
theorem dL_law_1361 : decode cL_law 1361 = .ok (.iload 4, 2) := by decide +kernel
theorem dL_law_1363 : decode cL_law 1363 = .ok (.iconst 3, 1) := by decide +kernel
theorem dL_law_1364 : decode cL_law 1364 = .ok (.iadd, 1) := by decide +kernel
theorem dL_law_1365 : decode cL_law 1365 = .ok (.iaload, 1) := by decide +kernel
theorem dL_law_1366 : decode cL_law 1366 = .ok (.aload_n 3, 1) := by decide +kernel
theorem dL_law_1367 : decode cL_law 1367 = .ok (.invokestatic 171, 3) := by decide +kernel
theorem dL_law_1370 : decode cL_law 1370 = .ok (.istore 5, 2) := by decide +kernel
theorem dL_law_1372 : decode cL_law 1372 = .ok (.aload_n 2, 1) := by decide +kernel
theorem dL_law_1373 : decode cL_law 1373 = .ok (.aload_n 0, 1) := by decide +kernel
theorem dL_law_1374 : decode cL_law 1374 = .ok (.iload 4, 2) := by decide +kernel
theorem dL_law_1376 : decode cL_law 1376 = .ok (.iconst 1, 1) := by decide +kernel
theorem dL_law_1377 : decode cL_law 1377 = .ok (.iadd, 1) := by decide +kernel
theorem dL_law_1378 : decode cL_law 1378 = .ok (.iaload, 1) := by decide +kernel
theorem dL_law_1379 : decode cL_law 1379 = .ok (.aload_n 0, 1) := by decide +kernel
theorem dL_law_1380 : decode cL_law 1380 = .ok (.iload 4, 2) := by decide +kernel
theorem dL_law_1382 : decode cL_law 1382 = .ok (.iconst 2, 1) := by decide +kernel
theorem dL_law_1383 : decode cL_law 1383 = .ok (.iadd, 1) := by decide +kernel
theorem dL_law_1384 : decode cL_law 1384 = .ok (.iaload, 1) := by decide +kernel
theorem dL_law_1385 : decode cL_law 1385 = .ok (.aload_n 0, 1) := by decide +kernel
theorem dL_law_1386 : decode cL_law 1386 = .ok (.iload 4, 2) := by decide +kernel
theorem dL_law_1388 : decode cL_law 1388 = .ok (.iconst 3, 1) := by decide +kernel
theorem dL_law_1389 : decode cL_law 1389 = .ok (.iadd, 1) := by decide +kernel
theorem dL_law_1390 : decode cL_law 1390 = .ok (.iaload, 1) := by decide +kernel
theorem dL_law_1391 : decode cL_law 1391 = .ok (.invokevirtual 173, 3) := by decide +kernel
theorem dL_law_1394 : decode cL_law 1394 = .ok (.istore 6, 2) := by decide +kernel
theorem dL_law_1396 : decode cL_law 1396 = .ok (.aload_n 2, 1) := by decide +kernel
theorem dL_law_1397 : decode cL_law 1397 = .ok (.invokevirtual 104, 3) := by decide +kernel
theorem dL_law_1400 : decode cL_law 1400 = .ok (.iload 5, 2) := by decide +kernel
theorem dL_law_1402 : decode cL_law 1402 = .ok (.if_icmp .eq 5, 3) := by decide +kernel
theorem dL_law_1405 : decode cL_law 1405 = .ok (.iconst 0, 1) := by decide +kernel
theorem dL_law_1406 : decode cL_law 1406 = .ok (.ireturn, 1) := by decide +kernel
theorem dL_law_1407 : decode cL_law 1407 = .ok (.iload 5, 2) := by decide +kernel
theorem dL_law_1409 : decode cL_law 1409 = .ok (.ifCond .ne 15, 3) := by decide +kernel
theorem dL_law_1412 : decode cL_law 1412 = .ok (.aload_n 3, 1) := by decide +kernel
theorem dL_law_1413 : decode cL_law 1413 = .ok (.iconst 0, 1) := by decide +kernel
theorem dL_law_1414 : decode cL_law 1414 = .ok (.laload, 1) := by decide +kernel
theorem dL_law_1415 : decode cL_law 1415 = .ok (.iload 6, 2) := by decide +kernel
theorem dL_law_1417 : decode cL_law 1417 = .ok (.i2l, 1) := by decide +kernel
theorem dL_law_1418 : decode cL_law 1418 = .ok (.lcmp, 1) := by decide +kernel
theorem dL_law_1419 : decode cL_law 1419 = .ok (.ifCond .eq 5, 3) := by decide +kernel
theorem dL_law_1422 : decode cL_law 1422 = .ok (.iconst 0, 1) := by decide +kernel
theorem dL_law_1423 : decode cL_law 1423 = .ok (.ireturn, 1) := by decide +kernel
theorem dL_law_1424 : decode cL_law 1424 = .ok (.goto 479, 3) := by decide +kernel
theorem dL_law_1427 : decode cL_law 1427 = .ok (.aload_n 1, 1) := by decide +kernel
theorem dL_law_1428 : decode cL_law 1428 = .ok (.aload_n 0, 1) := by decide +kernel
theorem dL_law_1429 : decode cL_law 1429 = .ok (.iload 4, 2) := by decide +kernel
theorem dL_law_1431 : decode cL_law 1431 = .ok (.iconst 1, 1) := by decide +kernel
theorem dL_law_1432 : decode cL_law 1432 = .ok (.iadd, 1) := by decide +kernel
theorem dL_law_1433 : decode cL_law 1433 = .ok (.iaload, 1) := by decide +kernel
theorem dL_law_1434 : decode cL_law 1434 = .ok (.aload_n 0, 1) := by decide +kernel
theorem dL_law_1435 : decode cL_law 1435 = .ok (.iload 4, 2) := by decide +kernel
theorem dL_law_1437 : decode cL_law 1437 = .ok (.iconst 2, 1) := by decide +kernel
theorem dL_law_1438 : decode cL_law 1438 = .ok (.iadd, 1) := by decide +kernel
theorem dL_law_1439 : decode cL_law 1439 = .ok (.iaload, 1) := by decide +kernel
theorem dL_law_1440 : decode cL_law 1440 = .ok (.aload_n 0, 1) := by decide +kernel
theorem dL_law_1441 : decode cL_law 1441 = .ok (.iload 4, 2) := by decide +kernel
theorem dL_law_1443 : decode cL_law 1443 = .ok (.iconst 3, 1) := by decide +kernel
theorem dL_law_1444 : decode cL_law 1444 = .ok (.iadd, 1) := by decide +kernel
theorem dL_law_1445 : decode cL_law 1445 = .ok (.iaload, 1) := by decide +kernel
theorem dL_law_1446 : decode cL_law 1446 = .ok (.aload_n 3, 1) := by decide +kernel
theorem dL_law_1447 : decode cL_law 1447 = .ok (.invokestatic 174, 3) := by decide +kernel
theorem dL_law_1450 : decode cL_law 1450 = .ok (.istore 5, 2) := by decide +kernel
theorem dL_law_1452 : decode cL_law 1452 = .ok (.aload_n 2, 1) := by decide +kernel
theorem dL_law_1453 : decode cL_law 1453 = .ok (.aload_n 0, 1) := by decide +kernel
theorem dL_law_1454 : decode cL_law 1454 = .ok (.iload 4, 2) := by decide +kernel
theorem dL_law_1456 : decode cL_law 1456 = .ok (.iconst 1, 1) := by decide +kernel
theorem dL_law_1457 : decode cL_law 1457 = .ok (.iadd, 1) := by decide +kernel
theorem dL_law_1458 : decode cL_law 1458 = .ok (.iaload, 1) := by decide +kernel
theorem dL_law_1459 : decode cL_law 1459 = .ok (.aload_n 0, 1) := by decide +kernel
theorem dL_law_1460 : decode cL_law 1460 = .ok (.iload 4, 2) := by decide +kernel
theorem dL_law_1462 : decode cL_law 1462 = .ok (.iconst 2, 1) := by decide +kernel
theorem dL_law_1463 : decode cL_law 1463 = .ok (.iadd, 1) := by decide +kernel
theorem dL_law_1464 : decode cL_law 1464 = .ok (.iaload, 1) := by decide +kernel
theorem dL_law_1465 : decode cL_law 1465 = .ok (.aload_n 0, 1) := by decide +kernel
theorem dL_law_1466 : decode cL_law 1466 = .ok (.iload 4, 2) := by decide +kernel
theorem dL_law_1468 : decode cL_law 1468 = .ok (.iconst 3, 1) := by decide +kernel
theorem dL_law_1469 : decode cL_law 1469 = .ok (.iadd, 1) := by decide +kernel
theorem dL_law_1470 : decode cL_law 1470 = .ok (.iaload, 1) := by decide +kernel
theorem dL_law_1471 : decode cL_law 1471 = .ok (.invokevirtual 176, 3) := by decide +kernel
theorem dL_law_1474 : decode cL_law 1474 = .ok (.istore 6, 2) := by decide +kernel
theorem dL_law_1476 : decode cL_law 1476 = .ok (.aload_n 2, 1) := by decide +kernel
theorem dL_law_1477 : decode cL_law 1477 = .ok (.invokevirtual 104, 3) := by decide +kernel
theorem dL_law_1480 : decode cL_law 1480 = .ok (.iload 5, 2) := by decide +kernel
theorem dL_law_1482 : decode cL_law 1482 = .ok (.if_icmp .eq 5, 3) := by decide +kernel
theorem dL_law_1485 : decode cL_law 1485 = .ok (.iconst 0, 1) := by decide +kernel
theorem dL_law_1486 : decode cL_law 1486 = .ok (.ireturn, 1) := by decide +kernel
theorem dL_law_1487 : decode cL_law 1487 = .ok (.iload 5, 2) := by decide +kernel
theorem dL_law_1489 : decode cL_law 1489 = .ok (.ifCond .ne 15, 3) := by decide +kernel
theorem dL_law_1492 : decode cL_law 1492 = .ok (.aload_n 3, 1) := by decide +kernel
theorem dL_law_1493 : decode cL_law 1493 = .ok (.iconst 0, 1) := by decide +kernel
theorem dL_law_1494 : decode cL_law 1494 = .ok (.laload, 1) := by decide +kernel
theorem dL_law_1495 : decode cL_law 1495 = .ok (.iload 6, 2) := by decide +kernel
theorem dL_law_1497 : decode cL_law 1497 = .ok (.i2l, 1) := by decide +kernel
theorem dL_law_1498 : decode cL_law 1498 = .ok (.lcmp, 1) := by decide +kernel
theorem dL_law_1499 : decode cL_law 1499 = .ok (.ifCond .eq 5, 3) := by decide +kernel
theorem dL_law_1502 : decode cL_law 1502 = .ok (.iconst 0, 1) := by decide +kernel
theorem dL_law_1503 : decode cL_law 1503 = .ok (.ireturn, 1) := by decide +kernel
theorem dL_law_1504 : decode cL_law 1504 = .ok (.goto 399, 3) := by decide +kernel
theorem dL_law_1507 : decode cL_law 1507 = .ok (.aload_n 1, 1) := by decide +kernel
theorem dL_law_1508 : decode cL_law 1508 = .ok (.aload_n 0, 1) := by decide +kernel
theorem dL_law_1509 : decode cL_law 1509 = .ok (.iload 4, 2) := by decide +kernel
theorem dL_law_1511 : decode cL_law 1511 = .ok (.iconst 1, 1) := by decide +kernel
theorem dL_law_1512 : decode cL_law 1512 = .ok (.iadd, 1) := by decide +kernel
theorem dL_law_1513 : decode cL_law 1513 = .ok (.iaload, 1) := by decide +kernel
theorem dL_law_1514 : decode cL_law 1514 = .ok (.aload_n 0, 1) := by decide +kernel
theorem dL_law_1515 : decode cL_law 1515 = .ok (.iload 4, 2) := by decide +kernel
theorem dL_law_1517 : decode cL_law 1517 = .ok (.iconst 2, 1) := by decide +kernel
theorem dL_law_1518 : decode cL_law 1518 = .ok (.iadd, 1) := by decide +kernel
theorem dL_law_1519 : decode cL_law 1519 = .ok (.iaload, 1) := by decide +kernel
theorem dL_law_1520 : decode cL_law 1520 = .ok (.aload_n 3, 1) := by decide +kernel
theorem dL_law_1521 : decode cL_law 1521 = .ok (.invokestatic 177, 3) := by decide +kernel
theorem dL_law_1524 : decode cL_law 1524 = .ok (.istore 5, 2) := by decide +kernel
theorem dL_law_1526 : decode cL_law 1526 = .ok (.aload_n 2, 1) := by decide +kernel
theorem dL_law_1527 : decode cL_law 1527 = .ok (.aload_n 0, 1) := by decide +kernel
theorem dL_law_1528 : decode cL_law 1528 = .ok (.iload 4, 2) := by decide +kernel
theorem dL_law_1530 : decode cL_law 1530 = .ok (.iconst 1, 1) := by decide +kernel
theorem dL_law_1531 : decode cL_law 1531 = .ok (.iadd, 1) := by decide +kernel
theorem dL_law_1532 : decode cL_law 1532 = .ok (.iaload, 1) := by decide +kernel
theorem dL_law_1533 : decode cL_law 1533 = .ok (.aload_n 0, 1) := by decide +kernel
theorem dL_law_1534 : decode cL_law 1534 = .ok (.iload 4, 2) := by decide +kernel
theorem dL_law_1536 : decode cL_law 1536 = .ok (.iconst 2, 1) := by decide +kernel
theorem dL_law_1537 : decode cL_law 1537 = .ok (.iadd, 1) := by decide +kernel
theorem dL_law_1538 : decode cL_law 1538 = .ok (.iaload, 1) := by decide +kernel
theorem dL_law_1539 : decode cL_law 1539 = .ok (.invokevirtual 179, 3) := by decide +kernel
theorem dL_law_1542 : decode cL_law 1542 = .ok (.istore 6, 2) := by decide +kernel
theorem dL_law_1544 : decode cL_law 1544 = .ok (.aload_n 2, 1) := by decide +kernel
theorem dL_law_1545 : decode cL_law 1545 = .ok (.invokevirtual 104, 3) := by decide +kernel
theorem dL_law_1548 : decode cL_law 1548 = .ok (.iload 5, 2) := by decide +kernel
theorem dL_law_1550 : decode cL_law 1550 = .ok (.if_icmp .eq 5, 3) := by decide +kernel
theorem dL_law_1553 : decode cL_law 1553 = .ok (.iconst 0, 1) := by decide +kernel
theorem dL_law_1554 : decode cL_law 1554 = .ok (.ireturn, 1) := by decide +kernel
theorem dL_law_1555 : decode cL_law 1555 = .ok (.iload 5, 2) := by decide +kernel
theorem dL_law_1557 : decode cL_law 1557 = .ok (.ifCond .ne 15, 3) := by decide +kernel
theorem dL_law_1560 : decode cL_law 1560 = .ok (.aload_n 3, 1) := by decide +kernel
theorem dL_law_1561 : decode cL_law 1561 = .ok (.iconst 0, 1) := by decide +kernel
theorem dL_law_1562 : decode cL_law 1562 = .ok (.laload, 1) := by decide +kernel
theorem dL_law_1563 : decode cL_law 1563 = .ok (.iload 6, 2) := by decide +kernel
theorem dL_law_1565 : decode cL_law 1565 = .ok (.i2l, 1) := by decide +kernel
theorem dL_law_1566 : decode cL_law 1566 = .ok (.lcmp, 1) := by decide +kernel
theorem dL_law_1567 : decode cL_law 1567 = .ok (.ifCond .eq 5, 3) := by decide +kernel
theorem dL_law_1570 : decode cL_law 1570 = .ok (.iconst 0, 1) := by decide +kernel
theorem dL_law_1571 : decode cL_law 1571 = .ok (.ireturn, 1) := by decide +kernel
theorem dL_law_1572 : decode cL_law 1572 = .ok (.goto 331, 3) := by decide +kernel
theorem dL_law_1575 : decode cL_law 1575 = .ok (.aload_n 1, 1) := by decide +kernel
theorem dL_law_1576 : decode cL_law 1576 = .ok (.aload_n 0, 1) := by decide +kernel
theorem dL_law_1577 : decode cL_law 1577 = .ok (.iload 4, 2) := by decide +kernel
theorem dL_law_1579 : decode cL_law 1579 = .ok (.iconst 1, 1) := by decide +kernel
theorem dL_law_1580 : decode cL_law 1580 = .ok (.iadd, 1) := by decide +kernel
theorem dL_law_1581 : decode cL_law 1581 = .ok (.iaload, 1) := by decide +kernel
theorem dL_law_1582 : decode cL_law 1582 = .ok (.aload_n 0, 1) := by decide +kernel
theorem dL_law_1583 : decode cL_law 1583 = .ok (.iload 4, 2) := by decide +kernel
theorem dL_law_1585 : decode cL_law 1585 = .ok (.iconst 2, 1) := by decide +kernel
theorem dL_law_1586 : decode cL_law 1586 = .ok (.iadd, 1) := by decide +kernel
theorem dL_law_1587 : decode cL_law 1587 = .ok (.iaload, 1) := by decide +kernel
theorem dL_law_1588 : decode cL_law 1588 = .ok (.aload_n 3, 1) := by decide +kernel
theorem dL_law_1589 : decode cL_law 1589 = .ok (.invokestatic 180, 3) := by decide +kernel
theorem dL_law_1592 : decode cL_law 1592 = .ok (.istore 5, 2) := by decide +kernel
theorem dL_law_1594 : decode cL_law 1594 = .ok (.aload_n 2, 1) := by decide +kernel
theorem dL_law_1595 : decode cL_law 1595 = .ok (.aload_n 0, 1) := by decide +kernel
theorem dL_law_1596 : decode cL_law 1596 = .ok (.iload 4, 2) := by decide +kernel
theorem dL_law_1598 : decode cL_law 1598 = .ok (.iconst 1, 1) := by decide +kernel
theorem dL_law_1599 : decode cL_law 1599 = .ok (.iadd, 1) := by decide +kernel
theorem dL_law_1600 : decode cL_law 1600 = .ok (.iaload, 1) := by decide +kernel
theorem dL_law_1601 : decode cL_law 1601 = .ok (.aload_n 0, 1) := by decide +kernel
theorem dL_law_1602 : decode cL_law 1602 = .ok (.iload 4, 2) := by decide +kernel
theorem dL_law_1604 : decode cL_law 1604 = .ok (.iconst 2, 1) := by decide +kernel
theorem dL_law_1605 : decode cL_law 1605 = .ok (.iadd, 1) := by decide +kernel
theorem dL_law_1606 : decode cL_law 1606 = .ok (.iaload, 1) := by decide +kernel
theorem dL_law_1607 : decode cL_law 1607 = .ok (.invokevirtual 182, 3) := by decide +kernel
theorem dL_law_1610 : decode cL_law 1610 = .ok (.istore 6, 2) := by decide +kernel
theorem dL_law_1612 : decode cL_law 1612 = .ok (.aload_n 2, 1) := by decide +kernel
theorem dL_law_1613 : decode cL_law 1613 = .ok (.invokevirtual 104, 3) := by decide +kernel
theorem dL_law_1616 : decode cL_law 1616 = .ok (.iload 5, 2) := by decide +kernel
theorem dL_law_1618 : decode cL_law 1618 = .ok (.if_icmp .eq 5, 3) := by decide +kernel
theorem dL_law_1621 : decode cL_law 1621 = .ok (.iconst 0, 1) := by decide +kernel
theorem dL_law_1622 : decode cL_law 1622 = .ok (.ireturn, 1) := by decide +kernel
theorem dL_law_1623 : decode cL_law 1623 = .ok (.iload 5, 2) := by decide +kernel
theorem dL_law_1625 : decode cL_law 1625 = .ok (.ifCond .ne 15, 3) := by decide +kernel
theorem dL_law_1628 : decode cL_law 1628 = .ok (.aload_n 3, 1) := by decide +kernel
theorem dL_law_1629 : decode cL_law 1629 = .ok (.iconst 0, 1) := by decide +kernel
theorem dL_law_1630 : decode cL_law 1630 = .ok (.laload, 1) := by decide +kernel
theorem dL_law_1631 : decode cL_law 1631 = .ok (.iload 6, 2) := by decide +kernel
theorem dL_law_1633 : decode cL_law 1633 = .ok (.i2l, 1) := by decide +kernel
theorem dL_law_1634 : decode cL_law 1634 = .ok (.lcmp, 1) := by decide +kernel
theorem dL_law_1635 : decode cL_law 1635 = .ok (.ifCond .eq 5, 3) := by decide +kernel
theorem dL_law_1638 : decode cL_law 1638 = .ok (.iconst 0, 1) := by decide +kernel
theorem dL_law_1639 : decode cL_law 1639 = .ok (.ireturn, 1) := by decide +kernel
theorem dL_law_1640 : decode cL_law 1640 = .ok (.goto 263, 3) := by decide +kernel
theorem dL_law_1643 : decode cL_law 1643 = .ok (.aload_n 1, 1) := by decide +kernel
theorem dL_law_1644 : decode cL_law 1644 = .ok (.aload_n 0, 1) := by decide +kernel
theorem dL_law_1645 : decode cL_law 1645 = .ok (.iload 4, 2) := by decide +kernel
theorem dL_law_1647 : decode cL_law 1647 = .ok (.iconst 1, 1) := by decide +kernel
theorem dL_law_1648 : decode cL_law 1648 = .ok (.iadd, 1) := by decide +kernel
theorem dL_law_1649 : decode cL_law 1649 = .ok (.iaload, 1) := by decide +kernel
theorem dL_law_1650 : decode cL_law 1650 = .ok (.aload_n 3, 1) := by decide +kernel
theorem dL_law_1651 : decode cL_law 1651 = .ok (.invokestatic 183, 3) := by decide +kernel
theorem dL_law_1654 : decode cL_law 1654 = .ok (.istore 5, 2) := by decide +kernel
theorem dL_law_1656 : decode cL_law 1656 = .ok (.aload_n 2, 1) := by decide +kernel
theorem dL_law_1657 : decode cL_law 1657 = .ok (.aload_n 0, 1) := by decide +kernel
theorem dL_law_1658 : decode cL_law 1658 = .ok (.iload 4, 2) := by decide +kernel
theorem dL_law_1660 : decode cL_law 1660 = .ok (.iconst 1, 1) := by decide +kernel
theorem dL_law_1661 : decode cL_law 1661 = .ok (.iadd, 1) := by decide +kernel
theorem dL_law_1662 : decode cL_law 1662 = .ok (.iaload, 1) := by decide +kernel
theorem dL_law_1663 : decode cL_law 1663 = .ok (.invokevirtual 185, 3) := by decide +kernel
theorem dL_law_1666 : decode cL_law 1666 = .ok (.istore 6, 2) := by decide +kernel
theorem dL_law_1668 : decode cL_law 1668 = .ok (.aload_n 2, 1) := by decide +kernel
theorem dL_law_1669 : decode cL_law 1669 = .ok (.invokevirtual 104, 3) := by decide +kernel
theorem dL_law_1672 : decode cL_law 1672 = .ok (.iload 5, 2) := by decide +kernel
theorem dL_law_1674 : decode cL_law 1674 = .ok (.if_icmp .eq 5, 3) := by decide +kernel
theorem dL_law_1677 : decode cL_law 1677 = .ok (.iconst 0, 1) := by decide +kernel
theorem dL_law_1678 : decode cL_law 1678 = .ok (.ireturn, 1) := by decide +kernel
theorem dL_law_1679 : decode cL_law 1679 = .ok (.iload 5, 2) := by decide +kernel
theorem dL_law_1681 : decode cL_law 1681 = .ok (.ifCond .ne 15, 3) := by decide +kernel
theorem dL_law_1684 : decode cL_law 1684 = .ok (.aload_n 3, 1) := by decide +kernel
theorem dL_law_1685 : decode cL_law 1685 = .ok (.iconst 0, 1) := by decide +kernel
theorem dL_law_1686 : decode cL_law 1686 = .ok (.laload, 1) := by decide +kernel
theorem dL_law_1687 : decode cL_law 1687 = .ok (.iload 6, 2) := by decide +kernel
theorem dL_law_1689 : decode cL_law 1689 = .ok (.i2l, 1) := by decide +kernel
theorem dL_law_1690 : decode cL_law 1690 = .ok (.lcmp, 1) := by decide +kernel
theorem dL_law_1691 : decode cL_law 1691 = .ok (.ifCond .eq 5, 3) := by decide +kernel
theorem dL_law_1694 : decode cL_law 1694 = .ok (.iconst 0, 1) := by decide +kernel
theorem dL_law_1695 : decode cL_law 1695 = .ok (.ireturn, 1) := by decide +kernel
theorem dL_law_1696 : decode cL_law 1696 = .ok (.goto 207, 3) := by decide +kernel
theorem dL_law_1699 : decode cL_law 1699 = .ok (.aload_n 1, 1) := by decide +kernel
theorem dL_law_1700 : decode cL_law 1700 = .ok (.aload_n 0, 1) := by decide +kernel
theorem dL_law_1701 : decode cL_law 1701 = .ok (.iload 4, 2) := by decide +kernel
theorem dL_law_1703 : decode cL_law 1703 = .ok (.iconst 1, 1) := by decide +kernel
theorem dL_law_1704 : decode cL_law 1704 = .ok (.iadd, 1) := by decide +kernel
theorem dL_law_1705 : decode cL_law 1705 = .ok (.iaload, 1) := by decide +kernel
theorem dL_law_1706 : decode cL_law 1706 = .ok (.aload_n 0, 1) := by decide +kernel
theorem dL_law_1707 : decode cL_law 1707 = .ok (.iload 4, 2) := by decide +kernel
theorem dL_law_1709 : decode cL_law 1709 = .ok (.iconst 2, 1) := by decide +kernel
theorem dL_law_1710 : decode cL_law 1710 = .ok (.iadd, 1) := by decide +kernel
theorem dL_law_1711 : decode cL_law 1711 = .ok (.iaload, 1) := by decide +kernel
theorem dL_law_1712 : decode cL_law 1712 = .ok (.aload_n 0, 1) := by decide +kernel
theorem dL_law_1713 : decode cL_law 1713 = .ok (.iload 4, 2) := by decide +kernel
theorem dL_law_1715 : decode cL_law 1715 = .ok (.iconst 3, 1) := by decide +kernel
theorem dL_law_1716 : decode cL_law 1716 = .ok (.iadd, 1) := by decide +kernel
theorem dL_law_1717 : decode cL_law 1717 = .ok (.iaload, 1) := by decide +kernel
theorem dL_law_1718 : decode cL_law 1718 = .ok (.aload_n 3, 1) := by decide +kernel
theorem dL_law_1719 : decode cL_law 1719 = .ok (.invokestatic 186, 3) := by decide +kernel
theorem dL_law_1722 : decode cL_law 1722 = .ok (.istore 5, 2) := by decide +kernel
theorem dL_law_1724 : decode cL_law 1724 = .ok (.aload_n 2, 1) := by decide +kernel
theorem dL_law_1725 : decode cL_law 1725 = .ok (.aload_n 0, 1) := by decide +kernel
theorem dL_law_1726 : decode cL_law 1726 = .ok (.iload 4, 2) := by decide +kernel
theorem dL_law_1728 : decode cL_law 1728 = .ok (.iconst 1, 1) := by decide +kernel
theorem dL_law_1729 : decode cL_law 1729 = .ok (.iadd, 1) := by decide +kernel
theorem dL_law_1730 : decode cL_law 1730 = .ok (.iaload, 1) := by decide +kernel
theorem dL_law_1731 : decode cL_law 1731 = .ok (.aload_n 0, 1) := by decide +kernel
theorem dL_law_1732 : decode cL_law 1732 = .ok (.iload 4, 2) := by decide +kernel
theorem dL_law_1734 : decode cL_law 1734 = .ok (.iconst 2, 1) := by decide +kernel
theorem dL_law_1735 : decode cL_law 1735 = .ok (.iadd, 1) := by decide +kernel
theorem dL_law_1736 : decode cL_law 1736 = .ok (.iaload, 1) := by decide +kernel
theorem dL_law_1737 : decode cL_law 1737 = .ok (.aload_n 0, 1) := by decide +kernel
theorem dL_law_1738 : decode cL_law 1738 = .ok (.iload 4, 2) := by decide +kernel
theorem dL_law_1740 : decode cL_law 1740 = .ok (.iconst 3, 1) := by decide +kernel
theorem dL_law_1741 : decode cL_law 1741 = .ok (.iadd, 1) := by decide +kernel
theorem dL_law_1742 : decode cL_law 1742 = .ok (.iaload, 1) := by decide +kernel
theorem dL_law_1743 : decode cL_law 1743 = .ok (.invokevirtual 188, 3) := by decide +kernel
theorem dL_law_1746 : decode cL_law 1746 = .ok (.istore 6, 2) := by decide +kernel
theorem dL_law_1748 : decode cL_law 1748 = .ok (.aload_n 2, 1) := by decide +kernel
theorem dL_law_1749 : decode cL_law 1749 = .ok (.invokevirtual 104, 3) := by decide +kernel
theorem dL_law_1752 : decode cL_law 1752 = .ok (.iload 5, 2) := by decide +kernel
theorem dL_law_1754 : decode cL_law 1754 = .ok (.if_icmp .eq 5, 3) := by decide +kernel
theorem dL_law_1757 : decode cL_law 1757 = .ok (.iconst 0, 1) := by decide +kernel
theorem dL_law_1758 : decode cL_law 1758 = .ok (.ireturn, 1) := by decide +kernel
theorem dL_law_1759 : decode cL_law 1759 = .ok (.iload 5, 2) := by decide +kernel
theorem dL_law_1761 : decode cL_law 1761 = .ok (.ifCond .ne 15, 3) := by decide +kernel
theorem dL_law_1764 : decode cL_law 1764 = .ok (.aload_n 3, 1) := by decide +kernel
theorem dL_law_1765 : decode cL_law 1765 = .ok (.iconst 0, 1) := by decide +kernel
theorem dL_law_1766 : decode cL_law 1766 = .ok (.laload, 1) := by decide +kernel
theorem dL_law_1767 : decode cL_law 1767 = .ok (.iload 6, 2) := by decide +kernel
theorem dL_law_1769 : decode cL_law 1769 = .ok (.i2l, 1) := by decide +kernel
theorem dL_law_1770 : decode cL_law 1770 = .ok (.lcmp, 1) := by decide +kernel
theorem dL_law_1771 : decode cL_law 1771 = .ok (.ifCond .eq 5, 3) := by decide +kernel
theorem dL_law_1774 : decode cL_law 1774 = .ok (.iconst 0, 1) := by decide +kernel
theorem dL_law_1775 : decode cL_law 1775 = .ok (.ireturn, 1) := by decide +kernel
theorem dL_law_1776 : decode cL_law 1776 = .ok (.goto 127, 3) := by decide +kernel
theorem dL_law_1779 : decode cL_law 1779 = .ok (.aload_n 1, 1) := by decide +kernel
theorem dL_law_1780 : decode cL_law 1780 = .ok (.aload_n 0, 1) := by decide +kernel
theorem dL_law_1781 : decode cL_law 1781 = .ok (.iload 4, 2) := by decide +kernel
theorem dL_law_1783 : decode cL_law 1783 = .ok (.iconst 1, 1) := by decide +kernel
theorem dL_law_1784 : decode cL_law 1784 = .ok (.iadd, 1) := by decide +kernel
theorem dL_law_1785 : decode cL_law 1785 = .ok (.iaload, 1) := by decide +kernel
theorem dL_law_1786 : decode cL_law 1786 = .ok (.aload_n 3, 1) := by decide +kernel
theorem dL_law_1787 : decode cL_law 1787 = .ok (.invokestatic 189, 3) := by decide +kernel
theorem dL_law_1790 : decode cL_law 1790 = .ok (.istore 5, 2) := by decide +kernel
theorem dL_law_1792 : decode cL_law 1792 = .ok (.aload_n 2, 1) := by decide +kernel
theorem dL_law_1793 : decode cL_law 1793 = .ok (.aload_n 0, 1) := by decide +kernel
theorem dL_law_1794 : decode cL_law 1794 = .ok (.iload 4, 2) := by decide +kernel
theorem dL_law_1796 : decode cL_law 1796 = .ok (.iconst 1, 1) := by decide +kernel
theorem dL_law_1797 : decode cL_law 1797 = .ok (.iadd, 1) := by decide +kernel
theorem dL_law_1798 : decode cL_law 1798 = .ok (.iaload, 1) := by decide +kernel
theorem dL_law_1799 : decode cL_law 1799 = .ok (.invokevirtual 191, 3) := by decide +kernel
theorem dL_law_1802 : decode cL_law 1802 = .ok (.istore 6, 2) := by decide +kernel
theorem dL_law_1804 : decode cL_law 1804 = .ok (.aload_n 2, 1) := by decide +kernel
theorem dL_law_1805 : decode cL_law 1805 = .ok (.invokevirtual 104, 3) := by decide +kernel
theorem dL_law_1808 : decode cL_law 1808 = .ok (.iload 5, 2) := by decide +kernel
theorem dL_law_1810 : decode cL_law 1810 = .ok (.if_icmp .eq 5, 3) := by decide +kernel
theorem dL_law_1813 : decode cL_law 1813 = .ok (.iconst 0, 1) := by decide +kernel
theorem dL_law_1814 : decode cL_law 1814 = .ok (.ireturn, 1) := by decide +kernel
theorem dL_law_1815 : decode cL_law 1815 = .ok (.iload 5, 2) := by decide +kernel
theorem dL_law_1817 : decode cL_law 1817 = .ok (.ifCond .ne 15, 3) := by decide +kernel
theorem dL_law_1820 : decode cL_law 1820 = .ok (.aload_n 3, 1) := by decide +kernel
theorem dL_law_1821 : decode cL_law 1821 = .ok (.iconst 0, 1) := by decide +kernel
theorem dL_law_1822 : decode cL_law 1822 = .ok (.laload, 1) := by decide +kernel
theorem dL_law_1823 : decode cL_law 1823 = .ok (.iload 6, 2) := by decide +kernel
theorem dL_law_1825 : decode cL_law 1825 = .ok (.i2l, 1) := by decide +kernel
theorem dL_law_1826 : decode cL_law 1826 = .ok (.lcmp, 1) := by decide +kernel
theorem dL_law_1827 : decode cL_law 1827 = .ok (.ifCond .eq 5, 3) := by decide +kernel
theorem dL_law_1830 : decode cL_law 1830 = .ok (.iconst 0, 1) := by decide +kernel
theorem dL_law_1831 : decode cL_law 1831 = .ok (.ireturn, 1) := by decide +kernel
theorem dL_law_1832 : decode cL_law 1832 = .ok (.goto 71, 3) := by decide +kernel
theorem dL_law_1835 : decode cL_law 1835 = .ok (.aload_n 1, 1) := by decide +kernel
theorem dL_law_1836 : decode cL_law 1836 = .ok (.aload_n 0, 1) := by decide +kernel
theorem dL_law_1837 : decode cL_law 1837 = .ok (.iload 4, 2) := by decide +kernel
theorem dL_law_1839 : decode cL_law 1839 = .ok (.iconst 1, 1) := by decide +kernel
theorem dL_law_1840 : decode cL_law 1840 = .ok (.iadd, 1) := by decide +kernel
theorem dL_law_1841 : decode cL_law 1841 = .ok (.iaload, 1) := by decide +kernel
theorem dL_law_1842 : decode cL_law 1842 = .ok (.aload_n 0, 1) := by decide +kernel
theorem dL_law_1843 : decode cL_law 1843 = .ok (.iload 4, 2) := by decide +kernel
theorem dL_law_1845 : decode cL_law 1845 = .ok (.iconst 2, 1) := by decide +kernel
theorem dL_law_1846 : decode cL_law 1846 = .ok (.iadd, 1) := by decide +kernel
theorem dL_law_1847 : decode cL_law 1847 = .ok (.iaload, 1) := by decide +kernel
theorem dL_law_1848 : decode cL_law 1848 = .ok (.aload_n 3, 1) := by decide +kernel
theorem dL_law_1849 : decode cL_law 1849 = .ok (.invokestatic 192, 3) := by decide +kernel
theorem dL_law_1852 : decode cL_law 1852 = .ok (.istore 5, 2) := by decide +kernel
theorem dL_law_1854 : decode cL_law 1854 = .ok (.aload_n 2, 1) := by decide +kernel
theorem dL_law_1855 : decode cL_law 1855 = .ok (.aload_n 0, 1) := by decide +kernel
theorem dL_law_1856 : decode cL_law 1856 = .ok (.iload 4, 2) := by decide +kernel
theorem dL_law_1858 : decode cL_law 1858 = .ok (.iconst 1, 1) := by decide +kernel
theorem dL_law_1859 : decode cL_law 1859 = .ok (.iadd, 1) := by decide +kernel
theorem dL_law_1860 : decode cL_law 1860 = .ok (.iaload, 1) := by decide +kernel
theorem dL_law_1861 : decode cL_law 1861 = .ok (.aload_n 0, 1) := by decide +kernel
theorem dL_law_1862 : decode cL_law 1862 = .ok (.iload 4, 2) := by decide +kernel
theorem dL_law_1864 : decode cL_law 1864 = .ok (.iconst 2, 1) := by decide +kernel
theorem dL_law_1865 : decode cL_law 1865 = .ok (.iadd, 1) := by decide +kernel
theorem dL_law_1866 : decode cL_law 1866 = .ok (.iaload, 1) := by decide +kernel
theorem dL_law_1867 : decode cL_law 1867 = .ok (.invokevirtual 194, 3) := by decide +kernel
theorem dL_law_1870 : decode cL_law 1870 = .ok (.istore 6, 2) := by decide +kernel
theorem dL_law_1872 : decode cL_law 1872 = .ok (.aload_n 2, 1) := by decide +kernel
theorem dL_law_1873 : decode cL_law 1873 = .ok (.invokevirtual 104, 3) := by decide +kernel
theorem dL_law_1876 : decode cL_law 1876 = .ok (.iload 5, 2) := by decide +kernel
theorem dL_law_1878 : decode cL_law 1878 = .ok (.if_icmp .eq 5, 3) := by decide +kernel
theorem dL_law_1881 : decode cL_law 1881 = .ok (.iconst 0, 1) := by decide +kernel
theorem dL_law_1882 : decode cL_law 1882 = .ok (.ireturn, 1) := by decide +kernel
theorem dL_law_1883 : decode cL_law 1883 = .ok (.iload 5, 2) := by decide +kernel
theorem dL_law_1885 : decode cL_law 1885 = .ok (.ifCond .ne 15, 3) := by decide +kernel
theorem dL_law_1888 : decode cL_law 1888 = .ok (.aload_n 3, 1) := by decide +kernel
theorem dL_law_1889 : decode cL_law 1889 = .ok (.iconst 0, 1) := by decide +kernel
theorem dL_law_1890 : decode cL_law 1890 = .ok (.laload, 1) := by decide +kernel
theorem dL_law_1891 : decode cL_law 1891 = .ok (.iload 6, 2) := by decide +kernel
theorem dL_law_1893 : decode cL_law 1893 = .ok (.i2l, 1) := by decide +kernel
theorem dL_law_1894 : decode cL_law 1894 = .ok (.lcmp, 1) := by decide +kernel
theorem dL_law_1895 : decode cL_law 1895 = .ok (.ifCond .eq 5, 3) := by decide +kernel
theorem dL_law_1898 : decode cL_law 1898 = .ok (.iconst 0, 1) := by decide +kernel
theorem dL_law_1899 : decode cL_law 1899 = .ok (.ireturn, 1) := by decide +kernel
theorem dL_law_1900 : decode cL_law 1900 = .ok (.goto 3, 3) := by decide +kernel
theorem dL_law_1903 : decode cL_law 1903 = .ok (.iinc 4 5, 3) := by decide +kernel
theorem dL_law_1906 : decode cL_law 1906 = .ok (.goto (-1883), 3) := by decide +kernel
theorem dL_law_1909 : decode cL_law 1909 = .ok (.iconst 1, 1) := by decide +kernel
theorem dL_law_1910 : decode cL_law 1910 = .ok (.ireturn, 1) := by decide +kernel
end
section
/-! THE CLAIM OUT OF ONE WALK OF THE LAW'S BODY. Your part is whole_start (and what it stands on); all else here is the same for every law, but numbers. -/
def R_law : String := "GyreWatchLaw"
def lw_P (b : Addr) (xs : List Int32) (args : Array Value) (s : State) : Prop := args = #[.ref b] ∧ s.IntsAt b xs ∧ xs.length ≤ 2560 ∧ (Jvm.Cond.and given_1 narrow_1).before args s = true
def lw_Q (_ : Array Value) (s : State) (o : Outcome) (t : State) : Prop := o = .returned (some (.int 1)) ∧ Framed s o t [] 601024 7293034
def lw_Z (below : List Frame) (a : Array Value) (s : State) : State → Prop := fun t => ∃ o, t.status = .running ∧ Ended t below o ∧ lw_Q a s o t
/-- the law's own end, with 1 on the stack, nothing written that was there before, its room as the claim has it -/
theorem lw_ret {p : Program} {l : Launch} {e : Env} {s : State} {m : MethodId} {below : List Frame} {meth : Method} {c : Code} {b : Nat} (hx : p.tables.exec = Jvm.exec) (hb : c.code = code) (hr : meth.sig.returnType = ret) (hlocks : meth.locks = false) {pc : Nat} {H : Heap} {ls : Array Slot} (hdg : decode code pc = .ok (.ireturn, 1)) : W p l e room_1 s m #[Value.ref b] below meth c H [] 601024 7293034 (lw_Z below #[Value.ref b] s) (F0 m pc ls [.int 1]) := by
  intro T hT X
  obtain ⟨fs, hret, hrun, hended, hW, hframe⟩ := X.leave (v := some (.int 1)) (hlocks := hlocks) (fun h => by rw [hr] at h; cases h)
  have hmeth' : T.vm.method? m = some meth := X.method'
  refine ⟨T.setFrames fs, ?_, .returned (some (.int 1)), hrun, hended, rfl, ⟨_, rfl⟩, hW, hframe⟩
  jvm_step X.here [X.here.top, hx, hb, hdg, hmeth', hr, ret, narrow_b1]
  (try refine ⟨rfl, ?_⟩); (try refine ⟨rfl, ?_⟩)
  first | (intro acts; rw [hret _ acts rfl rfl rfl]) | rw [hret _ _ rfl rfl rfl]
  exact Steps.refl _
/-- what holds at the law's entry: the machine, the code, the tables' words (any of lw_tbl by 'hts w (by decide +kernel)'), the script of L ints xs at the cell b, what the Statement gives of the start (any of its parts by flat_of_before) -/
def lw_At (p : Program) (s : State) (m : MethodId) (meth : Method) (c : Code) (b L : Nat) (xs : Nat → Int32) : Prop :=
  p.tables.exec = Jvm.exec ∧ c.code = code ∧ meth.sig.returnType = ret ∧ c.maxLocals = 7 ∧ s.vm.findClass R_law = some m.cls ∧ (∀ w ∈ lw_tbl, w.before #[Value.ref b] s = true) ∧ va_X b L xs s s.heap ∧ b < s.heap.size ∧ meth.locks = false ∧ (Jvm.Cond.and given_1 narrow_1).before #[Value.ref b] s = true
end
section
/-! small machine: values, heap, worlds -/
abbrev MV : Type := Int32 ⊕ (Option Nat ⊕ Int64)
abbrev vI (x : Int32) : MV := Sum.inl x
abbrev vR (r : Option Nat) : MV := Sum.inr (Sum.inl r)
abbrev vL (x : Int64) : MV := Sum.inr (Sum.inr x)
def cv (ad : Nat → Nat) (v : MV) : Value := match v with
  | .inl x => .int x
  | .inr (.inl r) => va_rf (r.map ad)
  | .inr (.inr x) => .long x
def cvl (ad : Nat → Nat) (q : Nat × MV) : Nat × Value := (q.1, cv ad q.2)
def okv (n : Nat) (v : MV) : Prop := ∀ a : Nat, v = vR (some a) → a ≤ n
theorem okv_I {n : Nat} {x : Int32} : okv n (vI x) := fun a h => by cases h
theorem okv_L {n : Nat} {x : Int64} : okv n (vL x) := fun a h => by cases h
theorem okv_N {n : Nat} : okv n (vR none) := fun a h => by cases h
theorem okv_mono {n m : Nat} {v : MV} (h : okv n v) (hm : n ≤ m) : okv m v := fun a e => Nat.le_trans (h a e) hm
theorem cv_congr {n : Nat} {v : MV} {ad ad' : Nat → Nat} (h : okv n v) (e : ∀ z, z < n + 1 → ad' z = ad z) : cv ad' v = cv ad v := by
  rcases v with x | r | x
  · rfl
  · cases r with
    | none => rfl
    | some a =>
      show va_rf (some (ad' a)) = va_rf (some (ad a))
      rw [e a (by have := h a rfl; omega)]
  · rfl
theorem map_cv_congr {n : Nat} {st : List MV} {ad ad' : Nat → Nat} (h : ∀ v ∈ st, okv n v) (e : ∀ z, z < n + 1 → ad' z = ad z) : st.map (cv ad') = st.map (cv ad) :=
  List.map_congr_left fun v hv => cv_congr (h v hv) e
theorem map_cvl_congr {n : Nat} {L : List (Nat × MV)} {ad ad' : Nat → Nat} (h : ∀ q ∈ L, okv n q.2) (e : ∀ z, z < n + 1 → ad' z = ad z) : L.map (cvl ad') = L.map (cvl ad) :=
  List.map_congr_left fun q hq => by unfold cvl; rw [cv_congr (h q hq) e]
abbrev MH : Type := (Nat → Nat) × (Nat → Nat) × (Nat → Nat → Int32) × (Nat → Nat → Option Nat) × (Nat → Nat → Int64) × Nat × Nat × Nat
def hk (h : MH) : Nat → Nat := h.1
def hl (h : MH) : Nat → Nat := h.2.1
def hi (h : MH) : Nat → Nat → Int32 := h.2.2.1
def hr (h : MH) : Nat → Nat → Option Nat := h.2.2.2.1
def hq (h : MH) : Nat → Nat → Int64 := h.2.2.2.2.1
def hn (h : MH) : Nat := h.2.2.2.2.2.1
def hc (h : MH) : Nat := h.2.2.2.2.2.2.1
def hs (h : MH) : Nat := h.2.2.2.2.2.2.2
def up2 {α : Type} (f : Nat → Nat → α) (a j : Nat) (v : α) : Nat → Nat → α := fun b k => if b = a ∧ k = j then v else f b k
def upr {α : Type} (f : Nat → Nat → α) (a : Nat) (g : Nat → α) : Nat → Nat → α := fun b k => if b = a then g k else f b k
def up1 {α : Type} (f : Nat → α) (a : Nat) (v : α) : Nat → α := fun b => if b = a then v else f b
def sI (h : MH) (a j : Nat) (v : Int32) : MH := (hk h, hl h, up2 (hi h) a j v, hr h, hq h, hn h, hc h, hs h)
def sR (h : MH) (a j : Nat) (v : Option Nat) : MH := (hk h, hl h, hi h, up2 (hr h) a j v, hq h, hn h, hc h, hs h)
def sQ (h : MH) (a j : Nat) (v : Int64) : MH := (hk h, hl h, hi h, hr h, up2 (hq h) a j v, hn h, hc h, hs h)
def sIr (h : MH) (a : Nat) (f : Nat → Int32) : MH := (hk h, hl h, upr (hi h) a f, hr h, hq h, hn h, hc h, hs h)
def alc (h : MH) (k n : Nat) : MH := (up1 (hk h) (hn h + 1) k, up1 (hl h) (hn h + 1) n, upr (hi h) (hn h + 1) (fun _ => 0), upr (hr h) (hn h + 1) (fun _ => none), upr (hq h) (hn h + 1) (fun _ => 0), hn h + 1, hc h + 1, hs h + n)
def exc (h : MH) : MH := (hk h, hl h, hi h, hr h, hq h, hn h, hc h + 1, hs h + 6)
def Hle (h h' : MH) : Prop := hn h ≤ hn h' ∧ hc h ≤ hc h' ∧ hs h ≤ hs h'
theorem Hle.rf {h : MH} : Hle h h := ⟨Nat.le_refl _, Nat.le_refl _, Nat.le_refl _⟩
theorem Hle.tr {a b c : MH} (h1 : Hle a b) (h2 : Hle b c) : Hle a c := ⟨Nat.le_trans h1.1 h2.1, Nat.le_trans h1.2.1 h2.2.1, Nat.le_trans h1.2.2 h2.2.2⟩
/-! tables of the classes -/
def CL : List vw_C := [(RX0, TX0, 9), (RX1, TX1, 2), (RX2, TX2, 3), (RX3, TX3, 3), (RX4, TX4, 7), (RX5, TX5, 8), (RX6, TX6, 3), (RX7, TX7, 5), (RX8, TX8, 10), (RX9, TX9, 37)]
def nF (k : Nat) : Nat := [9, 2, 3, 3, 7, 8, 3, 5, 10, 37].getD k 0
def RN (k : Nat) : String := [RX0, RX1, RX2, RX3, RX4, RX5, RX6, RX7, RX8, RX9].getD k ""
def TN (k : Nat) : u_T := [TX0, TX1, TX2, TX3, TX4, TX5, TX6, TX7, TX8, TX9].getD k TX0
def tyN (k : Nat) : Nat → FieldType := [tyX0, tyX1, tyX2, tyX3, tyX4, tyX5, tyX6, tyX7, tyX8, tyX9].getD k tyX0
def isRt (t : FieldType) : Bool := match t with
  | .object _ => true
  | .array _ => true
  | _ => false
def isR (k j : Nat) : Bool := isRt (tyN k j)
def AK : List Nat := [20, 21, 22, 23, 24, 25, 30]
def tyK (k : Nat) : FieldType := match k with
  | 20 => .int
  | 21 => .boolean
  | 22 => .object RX0
  | 23 => .object RX3
  | 24 => .object RX4
  | 25 => .object RX6
  | _ => .long
def coK (k : Nat) : Nat := match k with
  | 22 => 0
  | 23 => 3
  | 24 => 4
  | _ => 6
def TYL (cy : Nat → ClassId) : List (ClassId × FieldType) := AK.map fun k => (cy k, tyK k)
def clO (cy : Nat → ClassId) (ad : Nat → Nat) (h : MH) (a : Nat) : va_E :=
  if hk h a < 20 then .inr (hk h a, (List.range (nF (hk h a))).map fun j => if isR (hk h a) j = true then va_rf ((hr h a j).map ad) else .int (hi h a j))
  else if hk h a < 22 then .inl (cy (hk h a), hl h a, .inl (hi h a))
  else if hk h a < 30 then .inl (cy (hk h a), hl h a, .inr (.inr (.inr (.inr fun j => (hr h a j).map ad))))
  else .inl (cy (hk h a), hl h a, .inr (.inl (hq h a)))
def wsO (cy : Nat → ClassId) (ad : Nat → Nat) (h : MH) : va_W := (List.range (hn h)).map fun k => (ad (k + 1), clO cy ad h (k + 1))
abbrev bA (base : Nat) : Nat → Prop := fun q => base ≤ q
def Wld (D : va_G) (cy : Nat → ClassId) (base : Nat) (ad : Nat → Nat) (h : MH) (H : Heap) : Prop :=
  va_P D CL (wsO cy ad h) H ∧ va_D (bA base) (wsO cy ad h) ∧ (∀ a, (a = 0 ∨ hn h < a) → 40 ≤ hk h a) ∧ ∀ a j r, hr h a j = some r → r ≤ hn h
theorem wsO_len {cy : Nat → ClassId} {ad : Nat → Nat} {h : MH} : (wsO cy ad h).length = hn h := by simp [wsO]
theorem wsO_at {cy : Nat → ClassId} {ad : Nat → Nat} {h : MH} {k : Nat} (hk : k < hn h) : (wsO cy ad h)[k]? = some (ad (k + 1), clO cy ad h (k + 1)) := by
  simp [wsO, hk]
theorem Wld.inb {D : va_G} {cy : Nat → ClassId} {base : Nat} {ad : Nat → Nat} {h : MH} {H : Heap} (w : Wld D cy base ad h H) {a : Nat} (ha : hk h a < 40) : ∃ q, q < hn h ∧ a = q + 1 := by
  have h1 : ¬ (a = 0 ∨ hn h < a) := fun q => absurd (w.2.2.1 a q) (by omega)
  exact ⟨a - 1, by omega, by omega⟩
theorem clO_obj {cy : Nat → ClassId} {ad : Nat → Nat} {h : MH} {a ci : Nat} (hka : hk h a = ci) (hci : ci < 20) : clO cy ad h a = .inr (ci, (List.range (nF ci)).map fun j => if isR ci j = true then va_rf ((hr h a j).map ad) else .int (hi h a j)) := by
  unfold clO; rw [hka, if_pos hci]
theorem clO_int {cy : Nat → ClassId} {ad : Nat → Nat} {h : MH} {a k : Nat} (hka : hk h a = k) (h1 : ¬ k < 20) (h2 : k < 22) : clO cy ad h a = .inl (cy k, hl h a, .inl (hi h a)) := by
  unfold clO; rw [hka, if_neg h1, if_pos h2]
theorem clO_ref {cy : Nat → ClassId} {ad : Nat → Nat} {h : MH} {a k : Nat} (hka : hk h a = k) (h1 : ¬ k < 22) (h2 : k < 30) : clO cy ad h a = .inl (cy k, hl h a, .inr (.inr (.inr (.inr fun j => (hr h a j).map ad)))) := by
  unfold clO; rw [hka, if_neg (by omega), if_neg h1, if_pos h2]
theorem clO_lng {cy : Nat → ClassId} {ad : Nat → Nat} {h : MH} {a : Nat} (hka : hk h a = 30) : clO cy ad h a = .inl (cy 30, hl h a, .inr (.inl (hq h a))) := by
  unfold clO; rw [hka, if_neg (by omega), if_neg (by omega), if_neg (by omega)]
theorem TYL_at {cy : Nat → ClassId} {k : Nat} (hk : k ∈ AK) : ∃ t0 : Nat, (TYL cy)[t0]? = some (cy k, tyK k) := by
  obtain ⟨t0, ht⟩ := List.getElem?_of_mem hk
  exact ⟨t0, by simp [TYL, ht]⟩
theorem clO_arr {cy : Nat → ClassId} {ad : Nat → Nat} {h : MH} {a k : Nat} (hka : hk h a = k) (h1 : ¬ k < 20) : ∃ x : vp_A, clO cy ad h a = .inl (cy k, x) ∧ x.1 = hl h a := by
  unfold clO
  rw [hka, if_neg h1]
  by_cases h2 : k < 22
  · rw [if_pos h2]; exact ⟨_, rfl, rfl⟩
  · rw [if_neg h2]
    by_cases h3 : k < 30
    · rw [if_pos h3]; exact ⟨_, rfl, rfl⟩
    · rw [if_neg h3]; exact ⟨_, rfl, rfl⟩
theorem CL_at {ci : Nat} (h : ci < 10) : CL[ci]? = some (RN ci, TN ci, nF ci) := by
  match ci, h with
  | 0, _ => rfl
  | 1, _ => rfl
  | 2, _ => rfl
  | 3, _ => rfl
  | 4, _ => rfl
  | 5, _ => rfl
  | 6, _ => rfl
  | 7, _ => rfl
  | 8, _ => rfl
  | 9, _ => rfl
  | n + 10, h => exact absurd h (by omega)
theorem tyN_ok {ci : Nat} (h : ci < 10) : ∀ k, k < nF ci → parseFieldDescriptor ((TN ci) k).2.2.1 = some (tyN ci k) := by
  match ci, h with
  | 0, _ => exact tyX0_ok
  | 1, _ => exact tyX1_ok
  | 2, _ => exact tyX2_ok
  | 3, _ => exact tyX3_ok
  | 4, _ => exact tyX4_ok
  | 5, _ => exact tyX5_ok
  | 6, _ => exact tyX6_ok
  | 7, _ => exact tyX7_ok
  | 8, _ => exact tyX8_ok
  | 9, _ => exact tyX9_ok
  | n + 10, h => exact absurd h (by omega)
theorem nmN {ci : Nat} (h : ci < 10) : ∀ a, a < nF ci → ∀ b, b < nF ci → a ≠ b → ((TN ci) a).2.1 ≠ ((TN ci) b).2.1 := by
  match ci, h with
  | 0, _ => exact nmX0
  | 1, _ => exact nmX1
  | 2, _ => exact nmX2
  | 3, _ => exact nmX3
  | 4, _ => exact nmX4
  | 5, _ => exact nmX5
  | 6, _ => exact nmX6
  | 7, _ => exact nmX7
  | 8, _ => exact nmX8
  | 9, _ => exact nmX9
  | n + 10, h => exact absurd h (by omega)
def GW : List Cond := lw_tbl.filter goodWord
theorem GW_of {w : Cond} (h : w ∈ lw_tbl) (g : goodWord w = true) : w ∈ GW := List.mem_filter.mpr ⟨h, g⟩
theorem GW_t {w : Cond} (h : w ∈ GW) : w ∈ lw_tbl := (List.mem_filter.mp h).1
theorem GW_g {w : Cond} (h : w ∈ GW) : goodWord w = true := (List.mem_filter.mp h).2
theorem uws_g (C : String) (T : u_T) (N : Nat) : ∀ w ∈ u_ws C T N, goodWord w = true := by
  intro w hw
  obtain ⟨k, -, rfl⟩ := List.mem_map.mp hw
  unfold u_lay
  split <;> rfl
theorem inN0 : ∀ w ∈ wsX00, w ∈ lw_tbl := by decide +kernel
theorem inN1 : ∀ w ∈ wsX10, w ∈ lw_tbl := by decide +kernel
theorem inN2 : ∀ w ∈ wsX20, w ∈ lw_tbl := by decide +kernel
theorem inN3 : ∀ w ∈ wsX30, w ∈ lw_tbl := by decide +kernel
theorem inN4 : ∀ w ∈ wsX40, w ∈ lw_tbl := by decide +kernel
theorem inN5 : ∀ w ∈ wsX50, w ∈ lw_tbl := by decide +kernel
theorem inN6 : ∀ w ∈ wsX60, w ∈ lw_tbl := by decide +kernel
theorem inN7 : ∀ w ∈ wsX70, w ∈ lw_tbl := by decide +kernel
theorem inN8 : ∀ w ∈ wsX80, w ∈ lw_tbl := by decide +kernel
theorem inN9 : ∀ w ∈ wsX90, w ∈ lw_tbl := by decide +kernel
theorem inN {ci : Nat} (h : ci < 10) : ∀ w ∈ u_ws (RN ci) (TN ci) (nF ci), w ∈ GW := by
  intro w hw
  refine GW_of ?_ (uws_g _ _ _ w hw)
  match ci, h with
  | 0, _ => exact inN0 w hw
  | 1, _ => exact inN1 w hw
  | 2, _ => exact inN2 w hw
  | 3, _ => exact inN3 w hw
  | 4, _ => exact inN4 w hw
  | 5, _ => exact inN5 w hw
  | 6, _ => exact inN6 w hw
  | 7, _ => exact inN7 w hw
  | 8, _ => exact inN8 w hw
  | 9, _ => exact inN9 w hw
  | n + 10, h => exact absurd h (by omega)
/-! worlds change -/
theorem map_set_eq {α : Type} {n k : Nat} {f g : Nat → α} (hk : k < n) (h : ∀ j, j < n → j ≠ k → g j = f j) : ((List.range n).map f).set k (g k) = (List.range n).map g := by
  apply List.ext_getElem?
  intro i
  by_cases hi : i < n
  · by_cases e : i = k
    · subst e
      rw [List.getElem?_set_self (by simp [hk])]
      simp [hk]
    · rw [List.getElem?_set_ne (Ne.symm e)]
      simp [hi, h i hi e]
  · have h1 : ((List.range n).map g)[i]? = none := by simp; omega
    rw [h1]
    rw [List.getElem?_eq_none_iff]
    simp; omega
theorem wsO_set {cy : Nat → ClassId} {ad : Nat → Nat} {h h2 : MH} {q : Nat} {e : va_E} (hq : q < hn h) (hn2 : hn h2 = hn h) (he : e = clO cy ad h2 (q + 1)) (ho : ∀ b, b ≠ q + 1 → clO cy ad h2 b = clO cy ad h b) : (wsO cy ad h).set q (ad (q + 1), e) = wsO cy ad h2 := by
  subst he
  unfold wsO
  rw [hn2]
  exact map_set_eq (f := fun k => (ad (k + 1), clO cy ad h (k + 1))) (g := fun k => (ad (k + 1), clO cy ad h2 (k + 1))) hq (fun j _ hj => by show (_, _) = (_, _); rw [ho (j + 1) (by omega)])
theorem up2_s {α : Type} {f : Nat → Nat → α} {a j : Nat} {v : α} : up2 f a j v a j = v := by simp [up2]
theorem up2_o {α : Type} {f : Nat → Nat → α} {a j b k : Nat} {v : α} (h : ¬ (b = a ∧ k = j)) : up2 f a j v b k = f b k := by simp [up2, h]
theorem up2_row {f : Nat → Nat → Int32} {a j : Nat} {v : Int32} : up2 f a j v a = upd (f a) j v := by
  funext k; simp [up2, upd]
theorem up2_oth {α : Type} {f : Nat → Nat → α} {a j b : Nat} {v : α} (h : b ≠ a) : up2 f a j v b = f b := by
  funext k; simp [up2, h]
theorem upr_s {α : Type} {f : Nat → Nat → α} {a : Nat} {g : Nat → α} : upr f a g a = g := by funext k; simp [upr]
theorem upr_o {α : Type} {f : Nat → Nat → α} {a b : Nat} {g : Nat → α} (h : b ≠ a) : upr f a g b = f b := by funext k; simp [upr, h]
theorem clO_same {cy : Nat → ClassId} {ad ad' : Nat → Nat} {h h2 : MH} {b : Nat} (e1 : hk h2 b = hk h b) (e2 : hl h2 b = hl h b) (e3 : hi h2 b = hi h b) (e4 : hr h2 b = hr h b) (e5 : hq h2 b = hq h b) (ea : ∀ j, (hr h b j).map ad' = (hr h b j).map ad) : clO cy ad' h2 b = clO cy ad h b := by
  unfold clO
  rw [e1, e2, e3, e4, e5]
  simp only [ea]
end
section
/-! results, contexts, the judgement V -/
abbrev MR : Type := Option MV ⊕ Nat
abbrev Res : Type := Option (MR × MH)
def exN (x : Nat) : String := match x with
  | 1 => "java/lang/IndexOutOfBoundsException"
  | 2 => "java/lang/IllegalArgumentException"
  | _ => "java/lang/IllegalStateException"
def NML : List (String × Nat × MethodName × String) := [("GyreWatch", 11, ⟨"GyreWatch$Sea", "<init>", "()V"⟩, "GyreWatch"), ("GyreWatch", 24, ⟨"GyreWatch$Log", "<init>", "()V"⟩, "GyreWatch"), ("GyreWatch", 31, ⟨"GyreWatch$Ships", "<init>", "()V"⟩, "GyreWatch"), ("GyreWatch$Layer", 24, ⟨"GyreWatch", "isCell", "(I)Z"⟩, "GyreWatch"), ("GyreWatch$Log", 24, ⟨"GyreWatch", "isIndex", "(II)Z"⟩, "GyreWatch"), ("GyreWatch$Sea", 37, ⟨"GyreWatch", "isCell", "(I)Z"⟩, "GyreWatch"), ("GyreWatch$Sea", 52, ⟨"GyreWatch", "isIndex", "(II)Z"⟩, "GyreWatch"), ("GyreWatch$Search", 22, ⟨"GyreWatch", "isCell", "(I)Z"⟩, "GyreWatch"), ("GyreWatch$Search", 54, ⟨"GyreWatch", "isIndex", "(II)Z"⟩, "GyreWatch"), ("GyreWatch$Ships", 21, ⟨"GyreWatch", "isIndex", "(II)Z"⟩, "GyreWatch")]
def SRL : List (String × Nat × String) := [("GyreWatch", 109, "no station can be told there"), ("GyreWatch", 118, "20 storms were told"), ("GyreWatch", 150, "no reading of a ship is near"), ("GyreWatch", 168, "no search can begin there"), ("GyreWatch", 186, "there are 6 parts"), ("GyreWatch", 281, "there is no such cell"), ("GyreWatch", 286, "an argument is out of its range"), ("GyreWatch", 289, "the cell is LAND"), ("GyreWatch", 291, "there is no such float"), ("GyreWatch", 297, "there is no such reading"), ("GyreWatch", 299, "there is no such search"), ("GyreWatch", 307, "no reading has a weight"), ("GyreWatch", 65, "the cell can't be made LAND"), ("GyreWatch", 85, "the day would be above 1000"), ("GyreWatch", 97, "no float can be laid out there")]
def NCL : List (String × String) := [(exN 1, exN 2), (exN 1, exN 3), (exN 2, exN 1), (exN 2, exN 3), (exN 3, exN 1), (exN 3, exN 2)]
def AOL : List String := [RX0, RX3, RX4, RX6]
def EnvO (D : va_G) (cy : Nat → ClassId) (base : Nat) (U : State) : Prop :=
  va_K D CL (TYL cy) U ∧ (∀ q ∈ NML, va_Nw (.methodLinkNest q.1 q.2.1 q.2.2.1 q.2.2.2) U) ∧ (∀ x, va_Nw (.castable (exN x) (exN x)) U) ∧ (∀ C ∈ AOL, va_AO C U) ∧ (∀ q ∈ NCL, va_Nc q.1 q.2 U) ∧
  (∀ q ∈ SRL, ∃ a : Nat, vk_R q.1 q.2.1 q.2.2 a U) ∧ vx_Zq Bundle.tN "UNASSIGNED_STACK" Bundle.steD (bA base) U U.heap ∧ vx_Zq Bundle.tN "SUPPRESSED_SENTINEL" Bundle.listD (bA base) U U.heap ∧ base ≤ U.heap.size
theorem EnvO.go {D : va_G} {cy : Nat → ClassId} {base : Nat} {s U : State} {locs : List Loc} (h : EnvO D cy base s) (hW : s.WarmedH U.vm) (hS : va_S (bA base) s.heap U.heap locs) : EnvO D cy base U := by
  obtain ⟨h1, h2, h3, h4, h5, h6, h7, h8, h9⟩ := h
  refine ⟨va_K.moved hW.alike h1, fun q hq => va_Nw.warmM hW (h2 q hq), fun x => va_Nw.warmC hW (h3 x), fun C hC => va_AO.moved hW.alike (h4 C hC), fun q hq => va_Nc.moved hW.alike (h5 q hq), fun q hq => ?_, vx_Zq.moved hW.alike (h7.kept hS.2.1), vx_Zq.moved hW.alike (h8.kept hS.2.1), Nat.le_trans h9 hS.1⟩
  obtain ⟨a, ha⟩ := h6 q hq
  exact ⟨a, vk_R.warm hW ha⟩
theorem EnvO.calling {D : va_G} {cy : Nat → ClassId} {base : Nat} {U : State} (h : EnvO D cy base U) (g : JFrame) (mk : MethodId) (a : Array Value) : EnvO D cy base (U.calling g mk a) :=
  h.go (s := U) (U := U.calling g mk a) (locs := []) (State.WarmedH.refl U) va_S.rf
def PcF (D : va_G) (cy : Nat → ClassId) (base : Nat) (ad0 : Nat → Nat) (vs : List MV) (h : MH) : Array Value → State → Prop := fun a U =>
  a = (vs.map (cv ad0)).toArray ∧ EnvO D cy base U ∧ Wld D cy base ad0 h U.heap ∧ ∀ v ∈ vs, okv (hn h) v
theorem PcF.blind {D : va_G} {cy : Nat → ClassId} {base : Nat} {ad0 : Nat → Nat} {vs : List MV} {h : MH} : FrameBlind (PcF D cy base ad0 vs h) :=
  fun a _ g mk q => ⟨q.1, q.2.1.calling g mk a, q.2.2.1, q.2.2.2⟩
def QcF (D : va_G) (cy : Nat → ClassId) (base : Nat) (ad0 : Nat → Nat) (n0 : Nat) (r : MR) (h' : MH) : Array Value → State → Outcome → State → Prop := fun _ st o t =>
  ∃ v : Option MV, r = .inl v ∧ (∃ ad' : Nat → Nat, (∀ z, z < n0 → ad' z = ad0 z) ∧ o = .returned (v.map (cv ad')) ∧ (∀ w, v = some w → okv (hn h') w) ∧ Wld D cy base ad' h' t.heap) ∧ va_F (bA base) st t
def XcF (D : va_G) (cy : Nat → ClassId) (base : Nat) (ad0 : Nat → Nat) (n0 : Nat) (r : MR) (h' : MH) : String → State → State → Prop := fun E st t =>
  ∃ x : Nat, r = .inr x ∧ E = exN x ∧ (∃ ad' : Nat → Nat, (∀ z, z < n0 → ad' z = ad0 z) ∧ Wld D cy base ad' h' t.heap) ∧ va_F (bA base) st t
abbrev CT0 : Type := Program × Launch × Env × Room × State × MethodId × Array Value × List Frame × Method × Code × va_G × (Nat → ClassId) × Nat × (Nat → Nat) × Nat × Nat × Nat
/-- a method's walk: what its end is owed, its locals, its name, and where it stands on a machine (or nowhere: the bare sums) -/
abbrev CT : Type := Nat × Nat × String × Option CT0
/-- what the end of a method is owed: 0 returns only, 1 returns or throws, else the law -/
def QFd (md : Nat) (K : CT0) (r : MR) (h' : MH) : State → Prop := match K with
  | (_, _, _, _, s, _, args, below, _, _, D, cy, base, ad0, n0, mc, ms) =>
    match md with
    | 0 => MQ below (QcF D cy base ad0 n0 r h') args s mc ms (bA base)
    | 1 => vx_MQ below (QcF D cy base ad0 n0 r h') (XcF D cy base ad0 n0 r h') args s mc ms (bA base)
    | _ => lw_Z below args s
def V (K : CT) (pc : Nat) (L : List (Nat × MV)) (st : List MV) (h : MH) (res : Res) : Prop :=
  ∀ (r : MR) (h' : MH), res = some (r, h') → (Hle h h' ∧ (K.1 = 0 → ∃ v : Option MV, r = Sum.inl v)) ∧
    match K.2.2.2 with
    | none => True
    | some (p, l, e, R, s, m, args, below, meth, c, D, cy, base, ad0, n0, mc, ms) =>
      ∀ (ad : Nat → Nat) (H : Heap) (locs : List Loc) (cells slots : Nat) (ls : Array Slot),
        Wld D cy base ad h H → va_S (bA base) s.heap H locs → ((∀ z, z < n0 → ad z = ad0 z) ∧ n0 ≤ hn h + 1) → lv_has ls K.2.1 (L.map (cvl ad)) →
        (∀ v ∈ st, okv (hn h) v) → (∀ q ∈ L, okv (hn h) q.2) →
        (cells + (hc h' - hc h) ≤ mc ∧ slots + (hs h' - hs h) ≤ ms) →
        W p l e R s m args below meth c H locs cells slots (QFd K.1 (p, l, e, R, s, m, args, below, meth, c, D, cy, base, ad0, n0, mc, ms) r h') (F0 m pc ls (st.map (cv ad)))
def Fr (K : CT) (cc : ByteArray) (own : String) (ret : Option FieldType) (hh : List (Nat × Nat × Nat × Nat)) (lvl md : Nat) : Prop := K.1 = md ∧ match K.2.2.2 with
  | none => True
  | some (p, l, _, R, s, m, args, _, meth, c, D, cy, base, _, _, mc, ms) =>
    p.tables.exec = Jvm.exec ∧ c.code = cc ∧ c.maxLocals = K.2.1 ∧ s.vm.findClass own = some m.cls ∧ (∀ w ∈ GW, w.before args s = true) ∧ meth.locks = false ∧ EnvO D cy base s ∧ mc ≤ R.cells ∧ ms ≤ R.slots ∧
    l.stackTraces = false ∧ meth.sig.returnType = ret ∧ (md = 0 ∨ c.exceptionTable.toList = tableOf hh) ∧ lvl ≤ R.frames ∧ 40 * lvl + 12 ≤ R.locals ∧ meth.name = K.2.2.1
theorem V_none {K : CT} {pc : Nat} {L : List (Nat × MV)} {st : List MV} {h : MH} : V K pc L st h none := fun r h' q => by cases q
theorem V_sub {K : CT} {pc : Nat} {L L' : List (Nat × MV)} {st : List MV} {h : MH} {res : Res} (ks : List Nat) (hL : ks.filterMap (fun k => L[k]?) = L') (k : V K pc L' st h res) : V K pc L st h res := by
  intro r h' q
  obtain ⟨a, b⟩ := k r h' q
  have hin : ∀ z ∈ L', z ∈ L := by
    intro z hz
    rw [← hL] at hz
    obtain ⟨i, -, hi⟩ := List.mem_filterMap.mp hz
    exact List.mem_of_getElem? hi
  refine ⟨a, ?_⟩
  rcases K with ⟨md1, nL, nm, _ | ⟨p, l, e, R, s, m, args, below, meth, c, D, cy, base, ad0, n0, mc, ms⟩⟩
  · exact True.intro
  refine fun ad H locs cells slots ls w1 w2 w3 w4 w5 w6 w7 => b ad H locs cells slots ls w1 w2 w3 ?_ w5 (fun z hz => w6 z (hin z hz)) w7
  refine ⟨w4.1, w4.2.1, fun z hz => w4.2.2 z ?_⟩
  obtain ⟨z0, h0, rfl⟩ := List.mem_map.mp hz
  exact List.mem_map.mpr ⟨z0, hin z0 h0, rfl⟩
/-- a step that leaves the heap as it is -/
theorem V_step {K : CT} {pc pc' : Nat} {L L' : List (Nat × MV)} {st st' : List MV} {h : MH} {res : Res}
    (hok : ∀ n, (∀ v ∈ st, okv n v) → (∀ q ∈ L, okv n q.2) → (∀ v ∈ st', okv n v) ∧ ∀ q ∈ L', okv n q.2)
    (row : match K.2.2.2 with
      | none => True
      | some (p, l, e, R, s, m, args, below, meth, c, _, _, _, _, _, _, _) =>
        ∀ (ad : Nat → Nat) (H : Heap) (locs : List Loc) (cells slots : Nat) (ls : Array Slot) (Q : State → Prop), lv_has ls K.2.1 (L.map (cvl ad)) →
          (∀ ls', lv_has ls' K.2.1 (L'.map (cvl ad)) → W p l e R s m args below meth c H locs cells slots Q (F0 m pc' ls' (st'.map (cv ad)))) → W p l e R s m args below meth c H locs cells slots Q (F0 m pc ls (st.map (cv ad))))
    (k : V K pc' L' st' h res) : V K pc L st h res := by
  intro r h' q
  obtain ⟨a, b⟩ := k r h' q
  refine ⟨a, ?_⟩
  rcases K with ⟨md1, nL, nm, _ | ⟨p, l, e, R, s, m, args, below, meth, c, D, cy, base, ad0, n0, mc, ms⟩⟩
  · exact True.intro
  intro ad H locs cells slots ls w1 w2 w3 w4 w5 w6 w7
  obtain ⟨o1, o2⟩ := hok _ w5 w6
  exact row ad H locs cells slots ls _ w4 fun ls' hl' => b ad H locs cells slots ls' w1 w2 w3 hl' o1 o2 w7
def bnd {α : Type} (v : α) (k : α → Res) : Res := k v
theorem ok_pop {n : Nat} {a : MV} {st : List MV} (h : ∀ v ∈ a :: st, okv n v) : ∀ v ∈ st, okv n v := fun v hv => h v (List.mem_cons_of_mem _ hv)
theorem ok_psh {n : Nat} {a : MV} {st : List MV} (ha : okv n a) (h : ∀ v ∈ st, okv n v) : ∀ v ∈ a :: st, okv n v := fun v hv => (List.mem_cons.mp hv).elim (fun e => by rw [e]; exact ha) (h v)
theorem ok_hd {n : Nat} {a : MV} {st : List MV} (h : ∀ v ∈ a :: st, okv n v) : okv n a := h a List.mem_cons_self
theorem okl_psh {n i : Nat} {a : MV} {L : List (Nat × MV)} (ha : okv n a) (h : ∀ q ∈ L, okv n q.2) : ∀ q ∈ (i, a) :: L, okv n q.2 := fun q hq => (List.mem_cons.mp hq).elim (fun e => by rw [e]; exact ha) (h q)
theorem okl_at {n k i : Nat} {v : MV} {L : List (Nat × MV)} (h : ∀ q ∈ L, okv n q.2) (hk : L[k]? = some (i, v)) : okv n v := h (i, v) (List.mem_of_getElem? hk)
theorem lvm_at {ls : Array Slot} {nL k i : Nat} {v : MV} {L : List (Nat × MV)} {ad : Nat → Nat} (h : lv_has ls nL (L.map (cvl ad))) (hk : L[k]? = some (i, v)) : ls[i]? = some (.val (cv ad v)) :=
  lv_at h k (by rw [List.getElem?_map, hk]; rfl)
def mcat (v : MV) : Nat := match v with
  | .inr (.inr _) => 2
  | _ => 1
theorem mcat_cv {ad : Nat → Nat} (v : MV) : (cv ad v).category = mcat v := by
  rcases v with x | r | x
  · rfl
  · cases r <;> rfl
  · rfl
/-- the locals behind a store of one word -/
def lst (i : Nat) (v : MV) (L : List (Nat × MV)) : List (Nat × MV) := (i, v) :: L.filter fun q => !(q.1 == i) && !(q.1 + 1 == i && mcat q.2 == 2)
def lst2 (i : Nat) (v : MV) (L : List (Nat × MV)) : List (Nat × MV) := (i, v) :: L.filter fun q => !(q.1 == i) && (!(q.1 == i + 1) && !(q.1 + 1 == i && mcat q.2 == 2))
theorem lst_map {ad : Nat → Nat} {i : Nat} {v : MV} {L : List (Nat × MV)} : (i, cv ad v) :: (L.map (cvl ad)).filter (fun q => !(q.1 == i) && !(q.1 + 1 == i && q.2.category == 2)) = (lst i v L).map (cvl ad) := by
  unfold lst
  rw [List.map_cons, List.filter_map]
  refine congrArg (fun z => (i, cv ad v) :: z) (congrArg _ (List.filter_congr fun q _ => ?_))
  simp [cvl, mcat_cv]
theorem lst2_map {ad : Nat → Nat} {i : Nat} {v : MV} {L : List (Nat × MV)} : (i, cv ad v) :: (L.map (cvl ad)).filter (fun q => !(q.1 == i) && (!(q.1 == i + 1) && !(q.1 + 1 == i && q.2.category == 2))) = (lst2 i v L).map (cvl ad) := by
  unfold lst2
  rw [List.map_cons, List.filter_map]
  refine congrArg (fun z => (i, cv ad v) :: z) (congrArg _ (List.filter_congr fun q _ => ?_))
  simp [cvl, mcat_cv]
theorem lst_ok {n i : Nat} {v : MV} {L : List (Nat × MV)} (hv : okv n v) (h : ∀ q ∈ L, okv n q.2) : ∀ q ∈ lst i v L, okv n q.2 :=
  okl_psh hv fun q hq => h q (List.mem_filter.mp hq).1
theorem lst2_ok {n i : Nat} {v : MV} {L : List (Nat × MV)} (hv : okv n v) (h : ∀ q ∈ L, okv n q.2) : ∀ q ∈ lst2 i v L, okv n q.2 :=
  okl_psh hv fun q hq => h q (List.mem_filter.mp hq).1
end
section
/-! steps without the heap -/
def mxL (K : CT) : Nat := K.2.1
def nmK (K : CT) (n : String) : Prop := K.2.2.1 = n
theorem V_iadd {K : CT} {cc : ByteArray} {own : String} {ret : Option FieldType} {hh : List (Nat × Nat × Nat × Nat)} {lvl md : Nat} (F : Fr K cc own ret hh lvl md) {pc : Nat} {L : List (Nat × MV)} {st : List MV} {h : MH} {x y : Int32} {res : Int32 → Res} (d : decode cc pc = .ok (.iadd, 1)) (n : ∀ z, V K (pc + 1) L (vI z :: st) h (res z)) : V K pc L (vI y :: vI x :: st) h (bnd (x + y) res) := by
  refine V_step (fun n h1 h2 => ⟨ok_psh okv_I (ok_pop (ok_pop h1)), h2⟩) ?_ (n (x + y))
  rcases K with ⟨md1, nL, nm, _ | ⟨p, l, e, R, s, m, args, below, meth, c, D, cy, base, ad0, n0, mc, ms⟩⟩
  · exact True.intro
  obtain ⟨hmd, hx, hb, hml, hown, hts, hlk, henv, hmc, hms, hstk, hret, htab, hlv1, hlv2, hnm⟩ := F
  intro ad H locs cells slots ls Q hl kk
  exact lv_iadd hx hb d (kk ls hl)
theorem V_isub {K : CT} {cc : ByteArray} {own : String} {ret : Option FieldType} {hh : List (Nat × Nat × Nat × Nat)} {lvl md : Nat} (F : Fr K cc own ret hh lvl md) {pc : Nat} {L : List (Nat × MV)} {st : List MV} {h : MH} {x y : Int32} {res : Int32 → Res} (d : decode cc pc = .ok (.isub, 1)) (n : ∀ z, V K (pc + 1) L (vI z :: st) h (res z)) : V K pc L (vI y :: vI x :: st) h (bnd (x - y) res) := by
  refine V_step (fun n h1 h2 => ⟨ok_psh okv_I (ok_pop (ok_pop h1)), h2⟩) ?_ (n (x - y))
  rcases K with ⟨md1, nL, nm, _ | ⟨p, l, e, R, s, m, args, below, meth, c, D, cy, base, ad0, n0, mc, ms⟩⟩
  · exact True.intro
  obtain ⟨hmd, hx, hb, hml, hown, hts, hlk, henv, hmc, hms, hstk, hret, htab, hlv1, hlv2, hnm⟩ := F
  intro ad H locs cells slots ls Q hl kk
  exact lv_isub hx hb d (kk ls hl)
theorem V_imul {K : CT} {cc : ByteArray} {own : String} {ret : Option FieldType} {hh : List (Nat × Nat × Nat × Nat)} {lvl md : Nat} (F : Fr K cc own ret hh lvl md) {pc : Nat} {L : List (Nat × MV)} {st : List MV} {h : MH} {x y : Int32} {res : Int32 → Res} (d : decode cc pc = .ok (.imul, 1)) (n : ∀ z, V K (pc + 1) L (vI z :: st) h (res z)) : V K pc L (vI y :: vI x :: st) h (bnd (x * y) res) := by
  refine V_step (fun n h1 h2 => ⟨ok_psh okv_I (ok_pop (ok_pop h1)), h2⟩) ?_ (n (x * y))
  rcases K with ⟨md1, nL, nm, _ | ⟨p, l, e, R, s, m, args, below, meth, c, D, cy, base, ad0, n0, mc, ms⟩⟩
  · exact True.intro
  obtain ⟨hmd, hx, hb, hml, hown, hts, hlk, henv, hmc, hms, hstk, hret, htab, hlv1, hlv2, hnm⟩ := F
  intro ad H locs cells slots ls Q hl kk
  exact lv_imul hx hb d (kk ls hl)
theorem V_iand {K : CT} {cc : ByteArray} {own : String} {ret : Option FieldType} {hh : List (Nat × Nat × Nat × Nat)} {lvl md : Nat} (F : Fr K cc own ret hh lvl md) {pc : Nat} {L : List (Nat × MV)} {st : List MV} {h : MH} {x y : Int32} {res : Int32 → Res} (d : decode cc pc = .ok (.iand, 1)) (n : ∀ z, V K (pc + 1) L (vI z :: st) h (res z)) : V K pc L (vI y :: vI x :: st) h (bnd (x &&& y) res) := by
  refine V_step (fun n h1 h2 => ⟨ok_psh okv_I (ok_pop (ok_pop h1)), h2⟩) ?_ (n (x &&& y))
  rcases K with ⟨md1, nL, nm, _ | ⟨p, l, e, R, s, m, args, below, meth, c, D, cy, base, ad0, n0, mc, ms⟩⟩
  · exact True.intro
  obtain ⟨hmd, hx, hb, hml, hown, hts, hlk, henv, hmc, hms, hstk, hret, htab, hlv1, hlv2, hnm⟩ := F
  intro ad H locs cells slots ls Q hl kk
  exact lv_iand hx hb d (kk ls hl)
theorem V_ladd {K : CT} {cc : ByteArray} {own : String} {ret : Option FieldType} {hh : List (Nat × Nat × Nat × Nat)} {lvl md : Nat} (F : Fr K cc own ret hh lvl md) {pc : Nat} {L : List (Nat × MV)} {st : List MV} {h : MH} {x y : Int64} {res : Int64 → Res} (d : decode cc pc = .ok (.ladd, 1)) (n : ∀ z, V K (pc + 1) L (vL z :: st) h (res z)) : V K pc L (vL y :: vL x :: st) h (bnd (x + y) res) := by
  refine V_step (fun n h1 h2 => ⟨ok_psh okv_L (ok_pop (ok_pop h1)), h2⟩) ?_ (n (x + y))
  rcases K with ⟨md1, nL, nm, _ | ⟨p, l, e, R, s, m, args, below, meth, c, D, cy, base, ad0, n0, mc, ms⟩⟩
  · exact True.intro
  obtain ⟨hmd, hx, hb, hml, hown, hts, hlk, henv, hmc, hms, hstk, hret, htab, hlv1, hlv2, hnm⟩ := F
  intro ad H locs cells slots ls Q hl kk
  exact lv_ladd hx hb d (kk ls hl)
theorem V_lmul {K : CT} {cc : ByteArray} {own : String} {ret : Option FieldType} {hh : List (Nat × Nat × Nat × Nat)} {lvl md : Nat} (F : Fr K cc own ret hh lvl md) {pc : Nat} {L : List (Nat × MV)} {st : List MV} {h : MH} {x y : Int64} {res : Int64 → Res} (d : decode cc pc = .ok (.lmul, 1)) (n : ∀ z, V K (pc + 1) L (vL z :: st) h (res z)) : V K pc L (vL y :: vL x :: st) h (bnd (x * y) res) := by
  refine V_step (fun n h1 h2 => ⟨ok_psh okv_L (ok_pop (ok_pop h1)), h2⟩) ?_ (n (x * y))
  rcases K with ⟨md1, nL, nm, _ | ⟨p, l, e, R, s, m, args, below, meth, c, D, cy, base, ad0, n0, mc, ms⟩⟩
  · exact True.intro
  obtain ⟨hmd, hx, hb, hml, hown, hts, hlk, henv, hmc, hms, hstk, hret, htab, hlv1, hlv2, hnm⟩ := F
  intro ad H locs cells slots ls Q hl kk
  exact lv_lmul hx hb d (kk ls hl)
theorem V_idiv {K : CT} {cc : ByteArray} {own : String} {ret : Option FieldType} {hh : List (Nat × Nat × Nat × Nat)} {lvl md : Nat} (F : Fr K cc own ret hh lvl md) {pc : Nat} {L : List (Nat × MV)} {st : List MV} {h : MH} {x y : Int32} {res : Int32 → Res} (d : decode cc pc = .ok (.idiv, 1)) (n : ∀ z, V K (pc + 1) L (vI z :: st) h (res z)) : V K pc L (vI y :: vI x :: st) h (if y = 0 then none else res (x / y)) := by
  by_cases h0 : y = 0
  · rw [if_pos h0]; exact V_none
  · rw [if_neg h0]
    refine V_step (fun n h1 h2 => ⟨ok_psh okv_I (ok_pop (ok_pop h1)), h2⟩) ?_ (n (x / y))
    rcases K with ⟨md1, nL, nm, _ | ⟨p, l, e, R, s, m, args, below, meth, c, D, cy, base, ad0, n0, mc, ms⟩⟩
    · exact True.intro
    obtain ⟨hmd, hx, hb, hml, hown, hts, hlk, henv, hmc, hms, hstk, hret, htab, hlv1, hlv2, hnm⟩ := F
    intro ad H locs cells slots ls Q hl kk
    exact lv_idiv hx hb d h0 (kk ls hl)
theorem V_irem {K : CT} {cc : ByteArray} {own : String} {ret : Option FieldType} {hh : List (Nat × Nat × Nat × Nat)} {lvl md : Nat} (F : Fr K cc own ret hh lvl md) {pc : Nat} {L : List (Nat × MV)} {st : List MV} {h : MH} {x y : Int32} {res : Int32 → Res} (d : decode cc pc = .ok (.irem, 1)) (n : ∀ z, V K (pc + 1) L (vI z :: st) h (res z)) : V K pc L (vI y :: vI x :: st) h (if y = 0 then none else res (x - x / y * y)) := by
  by_cases h0 : y = 0
  · rw [if_pos h0]; exact V_none
  · rw [if_neg h0]
    refine V_step (fun n h1 h2 => ⟨ok_psh okv_I (ok_pop (ok_pop h1)), h2⟩) ?_ (n (x - x / y * y))
    rcases K with ⟨md1, nL, nm, _ | ⟨p, l, e, R, s, m, args, below, meth, c, D, cy, base, ad0, n0, mc, ms⟩⟩
    · exact True.intro
    obtain ⟨hmd, hx, hb, hml, hown, hts, hlk, henv, hmc, hms, hstk, hret, htab, hlv1, hlv2, hnm⟩ := F
    intro ad H locs cells slots ls Q hl kk
    exact lv_irem hx hb d h0 (kk ls hl)
theorem V_ldiv {K : CT} {cc : ByteArray} {own : String} {ret : Option FieldType} {hh : List (Nat × Nat × Nat × Nat)} {lvl md : Nat} (F : Fr K cc own ret hh lvl md) {pc : Nat} {L : List (Nat × MV)} {st : List MV} {h : MH} {x y : Int64} {res : Int64 → Res} (d : decode cc pc = .ok (.ldiv, 1)) (n : ∀ z, V K (pc + 1) L (vL z :: st) h (res z)) : V K pc L (vL y :: vL x :: st) h (if y = 0 then none else res (x / y)) := by
  by_cases h0 : y = 0
  · rw [if_pos h0]; exact V_none
  · rw [if_neg h0]
    refine V_step (fun n h1 h2 => ⟨ok_psh okv_L (ok_pop (ok_pop h1)), h2⟩) ?_ (n (x / y))
    rcases K with ⟨md1, nL, nm, _ | ⟨p, l, e, R, s, m, args, below, meth, c, D, cy, base, ad0, n0, mc, ms⟩⟩
    · exact True.intro
    obtain ⟨hmd, hx, hb, hml, hown, hts, hlk, henv, hmc, hms, hstk, hret, htab, hlv1, hlv2, hnm⟩ := F
    intro ad H locs cells slots ls Q hl kk
    exact lv_ldiv hx hb d h0 (kk ls hl)
theorem V_ineg {K : CT} {cc : ByteArray} {own : String} {ret : Option FieldType} {hh : List (Nat × Nat × Nat × Nat)} {lvl md : Nat} (F : Fr K cc own ret hh lvl md) {pc : Nat} {L : List (Nat × MV)} {st : List MV} {h : MH} {x : Int32} {res : Int32 → Res} (d : decode cc pc = .ok (.ineg, 1)) (n : ∀ z, V K (pc + 1) L (vI z :: st) h (res z)) : V K pc L (vI x :: st) h (bnd (-x) res) := by
  refine V_step (fun n h1 h2 => ⟨ok_psh okv_I (ok_pop h1), h2⟩) ?_ (n (-x))
  rcases K with ⟨md1, nL, nm, _ | ⟨p, l, e, R, s, m, args, below, meth, c, D, cy, base, ad0, n0, mc, ms⟩⟩
  · exact True.intro
  obtain ⟨hmd, hx, hb, hml, hown, hts, hlk, henv, hmc, hms, hstk, hret, htab, hlv1, hlv2, hnm⟩ := F
  intro ad H locs cells slots ls Q hl kk
  exact lv_ineg hx hb d (kk ls hl)
theorem V_i2l {K : CT} {cc : ByteArray} {own : String} {ret : Option FieldType} {hh : List (Nat × Nat × Nat × Nat)} {lvl md : Nat} (F : Fr K cc own ret hh lvl md) {pc : Nat} {L : List (Nat × MV)} {st : List MV} {h : MH} {x : Int32} {res : Int64 → Res} (d : decode cc pc = .ok (.i2l, 1)) (n : ∀ z, V K (pc + 1) L (vL z :: st) h (res z)) : V K pc L (vI x :: st) h (bnd x.toInt64 res) := by
  refine V_step (fun n h1 h2 => ⟨ok_psh okv_L (ok_pop h1), h2⟩) ?_ (n x.toInt64)
  rcases K with ⟨md1, nL, nm, _ | ⟨p, l, e, R, s, m, args, below, meth, c, D, cy, base, ad0, n0, mc, ms⟩⟩
  · exact True.intro
  obtain ⟨hmd, hx, hb, hml, hown, hts, hlk, henv, hmc, hms, hstk, hret, htab, hlv1, hlv2, hnm⟩ := F
  intro ad H locs cells slots ls Q hl kk
  exact lv_i2l hx hb d rfl (kk ls hl)
theorem V_l2i {K : CT} {cc : ByteArray} {own : String} {ret : Option FieldType} {hh : List (Nat × Nat × Nat × Nat)} {lvl md : Nat} (F : Fr K cc own ret hh lvl md) {pc : Nat} {L : List (Nat × MV)} {st : List MV} {h : MH} {x : Int64} {res : Int32 → Res} (d : decode cc pc = .ok (.l2i, 1)) (n : ∀ z, V K (pc + 1) L (vI z :: st) h (res z)) : V K pc L (vL x :: st) h (bnd x.toInt32 res) := by
  refine V_step (fun n h1 h2 => ⟨ok_psh okv_I (ok_pop h1), h2⟩) ?_ (n x.toInt32)
  rcases K with ⟨md1, nL, nm, _ | ⟨p, l, e, R, s, m, args, below, meth, c, D, cy, base, ad0, n0, mc, ms⟩⟩
  · exact True.intro
  obtain ⟨hmd, hx, hb, hml, hown, hts, hlk, henv, hmc, hms, hstk, hret, htab, hlv1, hlv2, hnm⟩ := F
  intro ad H locs cells slots ls Q hl kk
  exact lv_l2i hx hb d rfl (kk ls hl)
theorem V_lcmp {K : CT} {cc : ByteArray} {own : String} {ret : Option FieldType} {hh : List (Nat × Nat × Nat × Nat)} {lvl md : Nat} (F : Fr K cc own ret hh lvl md) {pc : Nat} {L : List (Nat × MV)} {st : List MV} {h : MH} {x y : Int64} {res : Int32 → Res} (d : decode cc pc = .ok (.lcmp, 1)) (n : ∀ z, V K (pc + 1) L (vI z :: st) h (res z)) : V K pc L (vL y :: vL x :: st) h (bnd (lg_cmp x y) res) := by
  refine V_step (fun n h1 h2 => ⟨ok_psh okv_I (ok_pop (ok_pop h1)), h2⟩) ?_ (n (lg_cmp x y))
  rcases K with ⟨md1, nL, nm, _ | ⟨p, l, e, R, s, m, args, below, meth, c, D, cy, base, ad0, n0, mc, ms⟩⟩
  · exact True.intro
  obtain ⟨hmd, hx, hb, hml, hown, hts, hlk, henv, hmc, hms, hstk, hret, htab, hlv1, hlv2, hnm⟩ := F
  intro ad H locs cells slots ls Q hl kk
  exact W.lcmp hx hb d (kk ls hl)
theorem V_iconst {K : CT} {cc : ByteArray} {own : String} {ret : Option FieldType} {hh : List (Nat × Nat × Nat × Nat)} {lvl md : Nat} (F : Fr K cc own ret hh lvl md) {pc : Nat} {L : List (Nat × MV)} {st : List MV} {h : MH} {res : Res} {n : Int} {x : Int32} (d : decode cc pc = .ok (.iconst n, 1)) (hv : Int32.ofInt n = x) (k : V K (pc + 1) L (vI x :: st) h res) : V K pc L st h res := by
  refine V_step (fun n h1 h2 => ⟨ok_psh okv_I h1, h2⟩) ?_ k
  rcases K with ⟨md1, nL, nm, _ | ⟨p, l, e, R, s, m, args, below, meth, c, D, cy, base, ad0, n0, mc, ms⟩⟩
  · exact True.intro
  obtain ⟨hmd, hx, hb, hml, hown, hts, hlk, henv, hmc, hms, hstk, hret, htab, hlv1, hlv2, hnm⟩ := F
  intro ad H locs cells slots ls Q hl kk
  exact lv_iconst hx hb d hv (kk ls hl)
theorem V_bipush {K : CT} {cc : ByteArray} {own : String} {ret : Option FieldType} {hh : List (Nat × Nat × Nat × Nat)} {lvl md : Nat} (F : Fr K cc own ret hh lvl md) {pc : Nat} {L : List (Nat × MV)} {st : List MV} {h : MH} {res : Res} {n : Int} {x : Int32} (d : decode cc pc = .ok (.bipush n, 2)) (hv : (Int8.ofInt n).toInt32 = x) (k : V K (pc + 2) L (vI x :: st) h res) : V K pc L st h res := by
  refine V_step (fun n h1 h2 => ⟨ok_psh okv_I h1, h2⟩) ?_ k
  rcases K with ⟨md1, nL, nm, _ | ⟨p, l, e, R, s, m, args, below, meth, c, D, cy, base, ad0, n0, mc, ms⟩⟩
  · exact True.intro
  obtain ⟨hmd, hx, hb, hml, hown, hts, hlk, henv, hmc, hms, hstk, hret, htab, hlv1, hlv2, hnm⟩ := F
  intro ad H locs cells slots ls Q hl kk
  exact lv_bipush hx hb d hv (kk ls hl)
theorem V_sipush {K : CT} {cc : ByteArray} {own : String} {ret : Option FieldType} {hh : List (Nat × Nat × Nat × Nat)} {lvl md : Nat} (F : Fr K cc own ret hh lvl md) {pc : Nat} {L : List (Nat × MV)} {st : List MV} {h : MH} {res : Res} {n : Int} {x : Int32} (d : decode cc pc = .ok (.sipush n, 3)) (hv : (Int16.ofInt n).toInt32 = x) (k : V K (pc + 3) L (vI x :: st) h res) : V K pc L st h res := by
  refine V_step (fun n h1 h2 => ⟨ok_psh okv_I h1, h2⟩) ?_ k
  rcases K with ⟨md1, nL, nm, _ | ⟨p, l, e, R, s, m, args, below, meth, c, D, cy, base, ad0, n0, mc, ms⟩⟩
  · exact True.intro
  obtain ⟨hmd, hx, hb, hml, hown, hts, hlk, henv, hmc, hms, hstk, hret, htab, hlv1, hlv2, hnm⟩ := F
  intro ad H locs cells slots ls Q hl kk
  exact lv_sipush hx hb d hv (kk ls hl)
theorem V_ldc {K : CT} {cc : ByteArray} {own : String} {ret : Option FieldType} {hh : List (Nat × Nat × Nat × Nat)} {lvl md : Nat} (F : Fr K cc own ret hh lvl md) {pc : Nat} {L : List (Nat × MV)} {st : List MV} {h : MH} {res : Res} {i : Nat} {x : Int32} (hc : Cond.constant own i x ∈ GW) (d : decode cc pc = .ok (.ldc i, 2)) (k : V K (pc + 2) L (vI x :: st) h res) : V K pc L st h res := by
  refine V_step (fun n h1 h2 => ⟨ok_psh okv_I h1, h2⟩) ?_ k
  rcases K with ⟨md1, nL, nm, _ | ⟨p, l, e, R, s, m, args, below, meth, c, D, cy, base, ad0, n0, mc, ms⟩⟩
  · exact True.intro
  obtain ⟨hmd, hx, hb, hml, hown, hts, hlk, henv, hmc, hms, hstk, hret, htab, hlv1, hlv2, hnm⟩ := F
  intro ad H locs cells slots ls Q hl kk
  exact lv_ldc hx hb hown (hts _ hc) d (kk ls hl)
theorem V_ldcw {K : CT} {cc : ByteArray} {own : String} {ret : Option FieldType} {hh : List (Nat × Nat × Nat × Nat)} {lvl md : Nat} (F : Fr K cc own ret hh lvl md) {pc : Nat} {L : List (Nat × MV)} {st : List MV} {h : MH} {res : Res} {i : Nat} {x : Int32} (hc : Cond.constant own i x ∈ GW) (d : decode cc pc = .ok (.ldc_w i, 3)) (k : V K (pc + 3) L (vI x :: st) h res) : V K pc L st h res := by
  refine V_step (fun n h1 h2 => ⟨ok_psh okv_I h1, h2⟩) ?_ k
  rcases K with ⟨md1, nL, nm, _ | ⟨p, l, e, R, s, m, args, below, meth, c, D, cy, base, ad0, n0, mc, ms⟩⟩
  · exact True.intro
  obtain ⟨hmd, hx, hb, hml, hown, hts, hlk, henv, hmc, hms, hstk, hret, htab, hlv1, hlv2, hnm⟩ := F
  intro ad H locs cells slots ls Q hl kk
  exact lv_ldcw hx hb hown (hts _ hc) d (kk ls hl)
theorem V_lconst {K : CT} {cc : ByteArray} {own : String} {ret : Option FieldType} {hh : List (Nat × Nat × Nat × Nat)} {lvl md : Nat} (F : Fr K cc own ret hh lvl md) {pc : Nat} {L : List (Nat × MV)} {st : List MV} {h : MH} {res : Res} {n : Fin 2} {x : Int64} (d : decode cc pc = .ok (.lconst n, 1)) (hv : Int64.ofNat (n : Nat) = x) (k : V K (pc + 1) L (vL x :: st) h res) : V K pc L st h res := by
  refine V_step (fun n h1 h2 => ⟨ok_psh okv_L h1, h2⟩) ?_ k
  rcases K with ⟨md1, nL, nm, _ | ⟨p, l, e, R, s, m, args, below, meth, c, D, cy, base, ad0, n0, mc, ms⟩⟩
  · exact True.intro
  obtain ⟨hmd, hx, hb, hml, hown, hts, hlk, henv, hmc, hms, hstk, hret, htab, hlv1, hlv2, hnm⟩ := F
  intro ad H locs cells slots ls Q hl kk
  exact lv_lconst hx hb d hv (kk ls hl)
theorem V_null {K : CT} {cc : ByteArray} {own : String} {ret : Option FieldType} {hh : List (Nat × Nat × Nat × Nat)} {lvl md : Nat} (F : Fr K cc own ret hh lvl md) {pc : Nat} {L : List (Nat × MV)} {st : List MV} {h : MH} {res : Res} (d : decode cc pc = .ok (.aconst_null, 1)) (k : V K (pc + 1) L (vR none :: st) h res) : V K pc L st h res := by
  refine V_step (fun n h1 h2 => ⟨ok_psh okv_N h1, h2⟩) ?_ k
  rcases K with ⟨md1, nL, nm, _ | ⟨p, l, e, R, s, m, args, below, meth, c, D, cy, base, ad0, n0, mc, ms⟩⟩
  · exact True.intro
  obtain ⟨hmd, hx, hb, hml, hown, hts, hlk, henv, hmc, hms, hstk, hret, htab, hlv1, hlv2, hnm⟩ := F
  intro ad H locs cells slots ls Q hl kk
  exact lv_null hx hb d (kk ls hl)
theorem V_iload {K : CT} {cc : ByteArray} {own : String} {ret : Option FieldType} {hh : List (Nat × Nat × Nat × Nat)} {lvl md : Nat} (F : Fr K cc own ret hh lvl md) {pc : Nat} {L : List (Nat × MV)} {st : List MV} {h : MH} {res : Res} {i : Nat} {x : Int32} (d : decode cc pc = .ok (.iload i, 2)) (j : Nat) (hj : L[j]? = some (i, vI x)) (k : V K (pc + 2) L (vI x :: st) h res) : V K pc L st h res := by
  refine V_step (fun n h1 h2 => ⟨ok_psh (okl_at h2 hj) h1, h2⟩) ?_ k
  rcases K with ⟨md1, nL, nm, _ | ⟨p, l, e, R, s, m, args, below, meth, c, D, cy, base, ad0, n0, mc, ms⟩⟩
  · exact True.intro
  obtain ⟨hmd, hx, hb, hml, hown, hts, hlk, henv, hmc, hms, hstk, hret, htab, hlv1, hlv2, hnm⟩ := F
  intro ad H locs cells slots ls Q hl kk
  exact lv_iload hx hb d (lvm_at hl hj) (kk ls hl)
theorem V_lload {K : CT} {cc : ByteArray} {own : String} {ret : Option FieldType} {hh : List (Nat × Nat × Nat × Nat)} {lvl md : Nat} (F : Fr K cc own ret hh lvl md) {pc : Nat} {L : List (Nat × MV)} {st : List MV} {h : MH} {res : Res} {i : Nat} {x : Int64} (d : decode cc pc = .ok (.lload i, 2)) (j : Nat) (hj : L[j]? = some (i, vL x)) (k : V K (pc + 2) L (vL x :: st) h res) : V K pc L st h res := by
  refine V_step (fun n h1 h2 => ⟨ok_psh (okl_at h2 hj) h1, h2⟩) ?_ k
  rcases K with ⟨md1, nL, nm, _ | ⟨p, l, e, R, s, m, args, below, meth, c, D, cy, base, ad0, n0, mc, ms⟩⟩
  · exact True.intro
  obtain ⟨hmd, hx, hb, hml, hown, hts, hlk, henv, hmc, hms, hstk, hret, htab, hlv1, hlv2, hnm⟩ := F
  intro ad H locs cells slots ls Q hl kk
  exact lv_lload hx hb d (lvm_at hl hj) (kk ls hl)
theorem V_iload_n {K : CT} {cc : ByteArray} {own : String} {ret : Option FieldType} {hh : List (Nat × Nat × Nat × Nat)} {lvl md : Nat} (F : Fr K cc own ret hh lvl md) {pc : Nat} {L : List (Nat × MV)} {st : List MV} {h : MH} {res : Res} {i : Fin 4} {x : Int32} (d : decode cc pc = .ok (.iload_n i, 1)) (j : Nat) (hj : L[j]? = some ((i : Nat), vI x)) (k : V K (pc + 1) L (vI x :: st) h res) : V K pc L st h res := by
  refine V_step (fun n h1 h2 => ⟨ok_psh (okl_at h2 hj) h1, h2⟩) ?_ k
  rcases K with ⟨md1, nL, nm, _ | ⟨p, l, e, R, s, m, args, below, meth, c, D, cy, base, ad0, n0, mc, ms⟩⟩
  · exact True.intro
  obtain ⟨hmd, hx, hb, hml, hown, hts, hlk, henv, hmc, hms, hstk, hret, htab, hlv1, hlv2, hnm⟩ := F
  intro ad H locs cells slots ls Q hl kk
  exact lv_iload_n hx hb d rfl (lvm_at hl hj) (kk ls hl)
theorem V_aload {K : CT} {cc : ByteArray} {own : String} {ret : Option FieldType} {hh : List (Nat × Nat × Nat × Nat)} {lvl md : Nat} (F : Fr K cc own ret hh lvl md) {pc : Nat} {L : List (Nat × MV)} {st : List MV} {h : MH} {res : Res} {i : Nat} {x : Option Nat} (d : decode cc pc = .ok (.aload i, 2)) (j : Nat) (hj : L[j]? = some (i, vR x)) (k : V K (pc + 2) L (vR x :: st) h res) : V K pc L st h res := by
  refine V_step (fun n h1 h2 => ⟨ok_psh (okl_at h2 hj) h1, h2⟩) ?_ k
  rcases K with ⟨md1, nL, nm, _ | ⟨p, l, e, R, s, m, args, below, meth, c, D, cy, base, ad0, n0, mc, ms⟩⟩
  · exact True.intro
  obtain ⟨hmd, hx, hb, hml, hown, hts, hlk, henv, hmc, hms, hstk, hret, htab, hlv1, hlv2, hnm⟩ := F
  intro ad H locs cells slots ls Q hl kk
  cases x with
  | none => exact lv_aloadN hx hb d (lvm_at hl hj) (kk ls hl)
  | some a => exact lv_aload hx hb d (lvm_at hl hj) (kk ls hl)
theorem V_aload_n {K : CT} {cc : ByteArray} {own : String} {ret : Option FieldType} {hh : List (Nat × Nat × Nat × Nat)} {lvl md : Nat} (F : Fr K cc own ret hh lvl md) {pc : Nat} {L : List (Nat × MV)} {st : List MV} {h : MH} {res : Res} {i : Fin 4} {x : Option Nat} (d : decode cc pc = .ok (.aload_n i, 1)) (j : Nat) (hj : L[j]? = some ((i : Nat), vR x)) (k : V K (pc + 1) L (vR x :: st) h res) : V K pc L st h res := by
  refine V_step (fun n h1 h2 => ⟨ok_psh (okl_at h2 hj) h1, h2⟩) ?_ k
  rcases K with ⟨md1, nL, nm, _ | ⟨p, l, e, R, s, m, args, below, meth, c, D, cy, base, ad0, n0, mc, ms⟩⟩
  · exact True.intro
  obtain ⟨hmd, hx, hb, hml, hown, hts, hlk, henv, hmc, hms, hstk, hret, htab, hlv1, hlv2, hnm⟩ := F
  intro ad H locs cells slots ls Q hl kk
  cases x with
  | none => exact lv_aload_nN hx hb d rfl (lvm_at hl hj) (kk ls hl)
  | some a => exact lv_aload_n hx hb d rfl (lvm_at hl hj) (kk ls hl)
theorem V_istore {K : CT} {cc : ByteArray} {own : String} {ret : Option FieldType} {hh : List (Nat × Nat × Nat × Nat)} {lvl md : Nat} (F : Fr K cc own ret hh lvl md) {pc : Nat} {L : List (Nat × MV)} {st : List MV} {h : MH} {res : Res} {i : Nat} {x : Int32} (L' : List (Nat × MV)) (d : decode cc pc = .ok (.istore i, 2)) (hn : i < mxL K) (hL : lst i (vI x) L = L') (k : V K (pc + 2) L' st h res) : V K pc L (vI x :: st) h res := by
  subst hL
  refine V_step (fun n h1 h2 => ⟨ok_pop h1, lst_ok (ok_hd h1) h2⟩) ?_ k
  rcases K with ⟨md1, nL, nm, _ | ⟨p, l, e, R, s, m, args, below, meth, c, D, cy, base, ad0, n0, mc, ms⟩⟩
  · exact True.intro
  obtain ⟨hmd, hx, hb, hml, hown, hts, hlk, henv, hmc, hms, hstk, hret, htab, hlv1, hlv2, hnm⟩ := F
  intro ad H locs cells slots ls Q hl kk
  exact lv_istore hx hb d hl hn (lst_map (ad := ad) (v := vI x)) kk
theorem V_istore_n {K : CT} {cc : ByteArray} {own : String} {ret : Option FieldType} {hh : List (Nat × Nat × Nat × Nat)} {lvl md : Nat} (F : Fr K cc own ret hh lvl md) {pc : Nat} {L : List (Nat × MV)} {st : List MV} {h : MH} {res : Res} {i : Fin 4} {x : Int32} (L' : List (Nat × MV)) (d : decode cc pc = .ok (.istore_n i, 1)) (hn : (i : Nat) < mxL K) (hL : lst i (vI x) L = L') (k : V K (pc + 1) L' st h res) : V K pc L (vI x :: st) h res := by
  subst hL
  refine V_step (fun n h1 h2 => ⟨ok_pop h1, lst_ok (ok_hd h1) h2⟩) ?_ k
  rcases K with ⟨md1, nL, nm, _ | ⟨p, l, e, R, s, m, args, below, meth, c, D, cy, base, ad0, n0, mc, ms⟩⟩
  · exact True.intro
  obtain ⟨hmd, hx, hb, hml, hown, hts, hlk, henv, hmc, hms, hstk, hret, htab, hlv1, hlv2, hnm⟩ := F
  intro ad H locs cells slots ls Q hl kk
  exact lv_istore_n hx hb d rfl hl hn (lst_map (ad := ad) (v := vI x)) kk
theorem V_lstore {K : CT} {cc : ByteArray} {own : String} {ret : Option FieldType} {hh : List (Nat × Nat × Nat × Nat)} {lvl md : Nat} (F : Fr K cc own ret hh lvl md) {pc : Nat} {L : List (Nat × MV)} {st : List MV} {h : MH} {res : Res} {i : Nat} {x : Int64} (L' : List (Nat × MV)) (d : decode cc pc = .ok (.lstore i, 2)) (hn : i + 1 < mxL K) (hL : lst2 i (vL x) L = L') (k : V K (pc + 2) L' st h res) : V K pc L (vL x :: st) h res := by
  subst hL
  refine V_step (fun n h1 h2 => ⟨ok_pop h1, lst2_ok (ok_hd h1) h2⟩) ?_ k
  rcases K with ⟨md1, nL, nm, _ | ⟨p, l, e, R, s, m, args, below, meth, c, D, cy, base, ad0, n0, mc, ms⟩⟩
  · exact True.intro
  obtain ⟨hmd, hx, hb, hml, hown, hts, hlk, henv, hmc, hms, hstk, hret, htab, hlv1, hlv2, hnm⟩ := F
  intro ad H locs cells slots ls Q hl kk
  exact lv_lstore hx hb d hl hn (lst2_map (ad := ad) (v := vL x)) kk
theorem V_astore {K : CT} {cc : ByteArray} {own : String} {ret : Option FieldType} {hh : List (Nat × Nat × Nat × Nat)} {lvl md : Nat} (F : Fr K cc own ret hh lvl md) {pc : Nat} {L : List (Nat × MV)} {st : List MV} {h : MH} {res : Res} {i : Nat} {x : Option Nat} (L' : List (Nat × MV)) (d : decode cc pc = .ok (.astore i, 2)) (hn : i < mxL K) (hL : lst i (vR x) L = L') (k : V K (pc + 2) L' st h res) : V K pc L (vR x :: st) h res := by
  subst hL
  refine V_step (fun n h1 h2 => ⟨ok_pop h1, lst_ok (ok_hd h1) h2⟩) ?_ k
  rcases K with ⟨md1, nL, nm, _ | ⟨p, l, e, R, s, m, args, below, meth, c, D, cy, base, ad0, n0, mc, ms⟩⟩
  · exact True.intro
  obtain ⟨hmd, hx, hb, hml, hown, hts, hlk, henv, hmc, hms, hstk, hret, htab, hlv1, hlv2, hnm⟩ := F
  intro ad H locs cells slots ls Q hl kk
  cases x with
  | none => exact lv_astoreN hx hb d hl hn (lst_map (ad := ad) (v := vR none)) kk
  | some a => exact lv_astore hx hb d hl hn (lst_map (ad := ad) (v := vR (some a))) kk
theorem V_astore_n {K : CT} {cc : ByteArray} {own : String} {ret : Option FieldType} {hh : List (Nat × Nat × Nat × Nat)} {lvl md : Nat} (F : Fr K cc own ret hh lvl md) {pc : Nat} {L : List (Nat × MV)} {st : List MV} {h : MH} {res : Res} {i : Fin 4} {x : Option Nat} (L' : List (Nat × MV)) (d : decode cc pc = .ok (.astore_n i, 1)) (hn : (i : Nat) < mxL K) (hL : lst i (vR x) L = L') (k : V K (pc + 1) L' st h res) : V K pc L (vR x :: st) h res := by
  subst hL
  refine V_step (fun n h1 h2 => ⟨ok_pop h1, lst_ok (ok_hd h1) h2⟩) ?_ k
  rcases K with ⟨md1, nL, nm, _ | ⟨p, l, e, R, s, m, args, below, meth, c, D, cy, base, ad0, n0, mc, ms⟩⟩
  · exact True.intro
  obtain ⟨hmd, hx, hb, hml, hown, hts, hlk, henv, hmc, hms, hstk, hret, htab, hlv1, hlv2, hnm⟩ := F
  intro ad H locs cells slots ls Q hl kk
  cases x with
  | none => exact lv_astore_nN hx hb d rfl hl hn (lst_map (ad := ad) (v := vR none)) kk
  | some a => exact lv_astore_n hx hb d rfl hl hn (lst_map (ad := ad) (v := vR (some a))) kk
theorem V_iinc {K : CT} {cc : ByteArray} {own : String} {ret : Option FieldType} {hh : List (Nat × Nat × Nat × Nat)} {lvl md : Nat} (F : Fr K cc own ret hh lvl md) {pc : Nat} {L : List (Nat × MV)} {st : List MV} {h : MH} {i : Nat} {n : Int} {x : Int32} {res : Int32 → Res} (L' : Int32 → List (Nat × MV)) (d : decode cc pc = .ok (.iinc i n, 3)) (hn : i < mxL K) (j : Nat) (hj : L[j]? = some (i, vI x)) {dx : Int32} (hd : Int32.ofInt n = dx) (hL : ∀ z, lst i (vI z) L = L' z) (k : ∀ z, V K (pc + 3) (L' z) st h (res z)) : V K pc L st h (bnd (x + dx) res) := by
  subst hd
  refine V_step (L' := lst i (vI (x + Int32.ofInt n)) L) (fun n h1 h2 => ⟨h1, lst_ok okv_I h2⟩) ?_ (by rw [hL]; exact k _)
  rcases K with ⟨md1, nL, nm, _ | ⟨p, l, e, R, s, m, args, below, meth, c, D, cy, base, ad0, n0, mc, ms⟩⟩
  · exact True.intro
  obtain ⟨hmd, hx, hb, hml, hown, hts, hlk, henv, hmc, hms, hstk, hret, htab, hlv1, hlv2, hnm⟩ := F
  intro ad H locs cells slots ls Q hl kk
  exact lv_iinc hx hb d hl (k := j) (by rw [List.getElem?_map, hj]; rfl) rfl hn (lst_map (ad := ad) (v := vI (x + Int32.ofInt n))) kk
theorem V_dup {K : CT} {cc : ByteArray} {own : String} {ret : Option FieldType} {hh : List (Nat × Nat × Nat × Nat)} {lvl md : Nat} (F : Fr K cc own ret hh lvl md) {pc : Nat} {L : List (Nat × MV)} {st : List MV} {h : MH} {res : Res} {v : MV} (d : decode cc pc = .ok (.dup, 1)) (hv : mcat v = 1) (k : V K (pc + 1) L (v :: v :: st) h res) : V K pc L (v :: st) h res := by
  refine V_step (fun n h1 h2 => ⟨ok_psh (ok_hd h1) h1, h2⟩) ?_ k
  rcases K with ⟨md1, nL, nm, _ | ⟨p, l, e, R, s, m, args, below, meth, c, D, cy, base, ad0, n0, mc, ms⟩⟩
  · exact True.intro
  obtain ⟨hmd, hx, hb, hml, hown, hts, hlk, henv, hmc, hms, hstk, hret, htab, hlv1, hlv2, hnm⟩ := F
  intro ad H locs cells slots ls Q hl kk
  exact lv_dup hx hb d (by rw [mcat_cv]; exact hv) (kk ls hl)
theorem V_dup2 {K : CT} {cc : ByteArray} {own : String} {ret : Option FieldType} {hh : List (Nat × Nat × Nat × Nat)} {lvl md : Nat} (F : Fr K cc own ret hh lvl md) {pc : Nat} {L : List (Nat × MV)} {st : List MV} {h : MH} {res : Res} {v w : MV} (d : decode cc pc = .ok (.dup2, 1)) (hv : mcat v = 1) (hw : mcat w = 1) (k : V K (pc + 1) L (v :: w :: v :: w :: st) h res) : V K pc L (v :: w :: st) h res := by
  refine V_step (fun n h1 h2 => ⟨ok_psh (ok_hd h1) (ok_psh (ok_hd (ok_pop h1)) h1), h2⟩) ?_ k
  rcases K with ⟨md1, nL, nm, _ | ⟨p, l, e, R, s, m, args, below, meth, c, D, cy, base, ad0, n0, mc, ms⟩⟩
  · exact True.intro
  obtain ⟨hmd, hx, hb, hml, hown, hts, hlk, henv, hmc, hms, hstk, hret, htab, hlv1, hlv2, hnm⟩ := F
  intro ad H locs cells slots ls Q hl kk
  exact lv_dup2_11 hx hb d (by rw [mcat_cv]; exact hv) (by rw [mcat_cv]; exact hw) (kk ls hl)
theorem V_goto {K : CT} {cc : ByteArray} {own : String} {ret : Option FieldType} {hh : List (Nat × Nat × Nat × Nat)} {lvl md : Nat} (F : Fr K cc own ret hh lvl md) {pc : Nat} {L : List (Nat × MV)} {st : List MV} {h : MH} {res : Res} {off : Int} (tgt : Nat) (d : decode cc pc = .ok (.goto off, 3)) (ht : (pc : Int) + off = (tgt : Int)) (k : V K tgt L st h res) : V K pc L st h res := by
  refine V_step (fun n h1 h2 => ⟨h1, h2⟩) ?_ k
  rcases K with ⟨md1, nL, nm, _ | ⟨p, l, e, R, s, m, args, below, meth, c, D, cy, base, ad0, n0, mc, ms⟩⟩
  · exact True.intro
  obtain ⟨hmd, hx, hb, hml, hown, hts, hlk, henv, hmc, hms, hstk, hret, htab, hlv1, hlv2, hnm⟩ := F
  intro ad H locs cells slots ls Q hl kk
  exact lv_goto hx hb d ht (kk ls hl)
theorem V_if_eq {K : CT} {cc : ByteArray} {own : String} {ret : Option FieldType} {hh : List (Nat × Nat × Nat × Nat)} {lvl md : Nat} (F : Fr K cc own ret hh lvl md) {pc : Nat} {L : List (Nat × MV)} {st : List MV} {h : MH} {A B : Res} {x : Int32} {off : Int} (tgt : Nat) (d : decode cc pc = .ok (.ifCond .eq off, 3)) (ht : (pc : Int) + off = (tgt : Int)) (kt : V K tgt L st h A) (kf : V K (pc + 3) L st h B) : V K pc L (vI x :: st) h (if x = 0 then A else B) := by
  by_cases q : x = 0
  · rw [if_pos q]
    refine V_step (fun n h1 h2 => ⟨ok_pop h1, h2⟩) ?_ kt
    rcases K with ⟨md1, nL, nm, _ | ⟨p, l, e, R, s, m, args, below, meth, c, D, cy, base, ad0, n0, mc, ms⟩⟩
    · exact True.intro
    obtain ⟨hmd, hx, hb, hml, hown, hts, hlk, henv, hmc, hms, hstk, hret, htab, hlv1, hlv2, hnm⟩ := F
    intro ad H locs cells slots ls Q hl kk
    exact lv_if_eq hx hb d ht (fun _ => kk ls hl) (fun z => absurd q z)
  · rw [if_neg q]
    refine V_step (fun n h1 h2 => ⟨ok_pop h1, h2⟩) ?_ kf
    rcases K with ⟨md1, nL, nm, _ | ⟨p, l, e, R, s, m, args, below, meth, c, D, cy, base, ad0, n0, mc, ms⟩⟩
    · exact True.intro
    obtain ⟨hmd, hx, hb, hml, hown, hts, hlk, henv, hmc, hms, hstk, hret, htab, hlv1, hlv2, hnm⟩ := F
    intro ad H locs cells slots ls Q hl kk
    exact lv_if_eq hx hb d ht (fun z => absurd z q) (fun _ => kk ls hl)
theorem V_if_ne {K : CT} {cc : ByteArray} {own : String} {ret : Option FieldType} {hh : List (Nat × Nat × Nat × Nat)} {lvl md : Nat} (F : Fr K cc own ret hh lvl md) {pc : Nat} {L : List (Nat × MV)} {st : List MV} {h : MH} {A B : Res} {x : Int32} {off : Int} (tgt : Nat) (d : decode cc pc = .ok (.ifCond .ne off, 3)) (ht : (pc : Int) + off = (tgt : Int)) (kt : V K tgt L st h A) (kf : V K (pc + 3) L st h B) : V K pc L (vI x :: st) h (if x ≠ 0 then A else B) := by
  by_cases q : x ≠ 0
  · rw [if_pos q]
    refine V_step (fun n h1 h2 => ⟨ok_pop h1, h2⟩) ?_ kt
    rcases K with ⟨md1, nL, nm, _ | ⟨p, l, e, R, s, m, args, below, meth, c, D, cy, base, ad0, n0, mc, ms⟩⟩
    · exact True.intro
    obtain ⟨hmd, hx, hb, hml, hown, hts, hlk, henv, hmc, hms, hstk, hret, htab, hlv1, hlv2, hnm⟩ := F
    intro ad H locs cells slots ls Q hl kk
    exact lv_if_ne hx hb d ht (fun _ => kk ls hl) (fun z => absurd z q)
  · rw [if_neg q]
    refine V_step (fun n h1 h2 => ⟨ok_pop h1, h2⟩) ?_ kf
    rcases K with ⟨md1, nL, nm, _ | ⟨p, l, e, R, s, m, args, below, meth, c, D, cy, base, ad0, n0, mc, ms⟩⟩
    · exact True.intro
    obtain ⟨hmd, hx, hb, hml, hown, hts, hlk, henv, hmc, hms, hstk, hret, htab, hlv1, hlv2, hnm⟩ := F
    intro ad H locs cells slots ls Q hl kk
    exact lv_if_ne hx hb d ht (fun z => absurd z q) (fun _ => kk ls hl)
theorem V_if_lt {K : CT} {cc : ByteArray} {own : String} {ret : Option FieldType} {hh : List (Nat × Nat × Nat × Nat)} {lvl md : Nat} (F : Fr K cc own ret hh lvl md) {pc : Nat} {L : List (Nat × MV)} {st : List MV} {h : MH} {A B : Res} {x : Int32} {off : Int} (tgt : Nat) (d : decode cc pc = .ok (.ifCond .lt off, 3)) (ht : (pc : Int) + off = (tgt : Int)) (kt : V K tgt L st h A) (kf : V K (pc + 3) L st h B) : V K pc L (vI x :: st) h (if x < 0 then A else B) := by
  by_cases q : x < 0
  · rw [if_pos q]
    refine V_step (fun n h1 h2 => ⟨ok_pop h1, h2⟩) ?_ kt
    rcases K with ⟨md1, nL, nm, _ | ⟨p, l, e, R, s, m, args, below, meth, c, D, cy, base, ad0, n0, mc, ms⟩⟩
    · exact True.intro
    obtain ⟨hmd, hx, hb, hml, hown, hts, hlk, henv, hmc, hms, hstk, hret, htab, hlv1, hlv2, hnm⟩ := F
    intro ad H locs cells slots ls Q hl kk
    exact lv_if_lt hx hb d ht (fun _ => kk ls hl) (fun z => absurd q z)
  · rw [if_neg q]
    refine V_step (fun n h1 h2 => ⟨ok_pop h1, h2⟩) ?_ kf
    rcases K with ⟨md1, nL, nm, _ | ⟨p, l, e, R, s, m, args, below, meth, c, D, cy, base, ad0, n0, mc, ms⟩⟩
    · exact True.intro
    obtain ⟨hmd, hx, hb, hml, hown, hts, hlk, henv, hmc, hms, hstk, hret, htab, hlv1, hlv2, hnm⟩ := F
    intro ad H locs cells slots ls Q hl kk
    exact lv_if_lt hx hb d ht (fun z => absurd z q) (fun _ => kk ls hl)
theorem V_if_ge {K : CT} {cc : ByteArray} {own : String} {ret : Option FieldType} {hh : List (Nat × Nat × Nat × Nat)} {lvl md : Nat} (F : Fr K cc own ret hh lvl md) {pc : Nat} {L : List (Nat × MV)} {st : List MV} {h : MH} {A B : Res} {x : Int32} {off : Int} (tgt : Nat) (d : decode cc pc = .ok (.ifCond .ge off, 3)) (ht : (pc : Int) + off = (tgt : Int)) (kt : V K tgt L st h A) (kf : V K (pc + 3) L st h B) : V K pc L (vI x :: st) h (if 0 ≤ x then A else B) := by
  by_cases q : 0 ≤ x
  · rw [if_pos q]
    refine V_step (fun n h1 h2 => ⟨ok_pop h1, h2⟩) ?_ kt
    rcases K with ⟨md1, nL, nm, _ | ⟨p, l, e, R, s, m, args, below, meth, c, D, cy, base, ad0, n0, mc, ms⟩⟩
    · exact True.intro
    obtain ⟨hmd, hx, hb, hml, hown, hts, hlk, henv, hmc, hms, hstk, hret, htab, hlv1, hlv2, hnm⟩ := F
    intro ad H locs cells slots ls Q hl kk
    exact lv_if_ge hx hb d ht (fun _ => kk ls hl) (fun z => absurd q z)
  · rw [if_neg q]
    refine V_step (fun n h1 h2 => ⟨ok_pop h1, h2⟩) ?_ kf
    rcases K with ⟨md1, nL, nm, _ | ⟨p, l, e, R, s, m, args, below, meth, c, D, cy, base, ad0, n0, mc, ms⟩⟩
    · exact True.intro
    obtain ⟨hmd, hx, hb, hml, hown, hts, hlk, henv, hmc, hms, hstk, hret, htab, hlv1, hlv2, hnm⟩ := F
    intro ad H locs cells slots ls Q hl kk
    exact lv_if_ge hx hb d ht (fun z => absurd z q) (fun _ => kk ls hl)
theorem V_if_gt {K : CT} {cc : ByteArray} {own : String} {ret : Option FieldType} {hh : List (Nat × Nat × Nat × Nat)} {lvl md : Nat} (F : Fr K cc own ret hh lvl md) {pc : Nat} {L : List (Nat × MV)} {st : List MV} {h : MH} {A B : Res} {x : Int32} {off : Int} (tgt : Nat) (d : decode cc pc = .ok (.ifCond .gt off, 3)) (ht : (pc : Int) + off = (tgt : Int)) (kt : V K tgt L st h A) (kf : V K (pc + 3) L st h B) : V K pc L (vI x :: st) h (if 0 < x then A else B) := by
  by_cases q : 0 < x
  · rw [if_pos q]
    refine V_step (fun n h1 h2 => ⟨ok_pop h1, h2⟩) ?_ kt
    rcases K with ⟨md1, nL, nm, _ | ⟨p, l, e, R, s, m, args, below, meth, c, D, cy, base, ad0, n0, mc, ms⟩⟩
    · exact True.intro
    obtain ⟨hmd, hx, hb, hml, hown, hts, hlk, henv, hmc, hms, hstk, hret, htab, hlv1, hlv2, hnm⟩ := F
    intro ad H locs cells slots ls Q hl kk
    exact lv_if_gt hx hb d ht (fun _ => kk ls hl) (fun z => absurd q z)
  · rw [if_neg q]
    refine V_step (fun n h1 h2 => ⟨ok_pop h1, h2⟩) ?_ kf
    rcases K with ⟨md1, nL, nm, _ | ⟨p, l, e, R, s, m, args, below, meth, c, D, cy, base, ad0, n0, mc, ms⟩⟩
    · exact True.intro
    obtain ⟨hmd, hx, hb, hml, hown, hts, hlk, henv, hmc, hms, hstk, hret, htab, hlv1, hlv2, hnm⟩ := F
    intro ad H locs cells slots ls Q hl kk
    exact lv_if_gt hx hb d ht (fun z => absurd z q) (fun _ => kk ls hl)
theorem V_if_le {K : CT} {cc : ByteArray} {own : String} {ret : Option FieldType} {hh : List (Nat × Nat × Nat × Nat)} {lvl md : Nat} (F : Fr K cc own ret hh lvl md) {pc : Nat} {L : List (Nat × MV)} {st : List MV} {h : MH} {A B : Res} {x : Int32} {off : Int} (tgt : Nat) (d : decode cc pc = .ok (.ifCond .le off, 3)) (ht : (pc : Int) + off = (tgt : Int)) (kt : V K tgt L st h A) (kf : V K (pc + 3) L st h B) : V K pc L (vI x :: st) h (if x ≤ 0 then A else B) := by
  by_cases q : x ≤ 0
  · rw [if_pos q]
    refine V_step (fun n h1 h2 => ⟨ok_pop h1, h2⟩) ?_ kt
    rcases K with ⟨md1, nL, nm, _ | ⟨p, l, e, R, s, m, args, below, meth, c, D, cy, base, ad0, n0, mc, ms⟩⟩
    · exact True.intro
    obtain ⟨hmd, hx, hb, hml, hown, hts, hlk, henv, hmc, hms, hstk, hret, htab, hlv1, hlv2, hnm⟩ := F
    intro ad H locs cells slots ls Q hl kk
    exact lv_if_le hx hb d ht (fun _ => kk ls hl) (fun z => absurd q z)
  · rw [if_neg q]
    refine V_step (fun n h1 h2 => ⟨ok_pop h1, h2⟩) ?_ kf
    rcases K with ⟨md1, nL, nm, _ | ⟨p, l, e, R, s, m, args, below, meth, c, D, cy, base, ad0, n0, mc, ms⟩⟩
    · exact True.intro
    obtain ⟨hmd, hx, hb, hml, hown, hts, hlk, henv, hmc, hms, hstk, hret, htab, hlv1, hlv2, hnm⟩ := F
    intro ad H locs cells slots ls Q hl kk
    exact lv_if_le hx hb d ht (fun z => absurd z q) (fun _ => kk ls hl)
theorem V_icmp_eq {K : CT} {cc : ByteArray} {own : String} {ret : Option FieldType} {hh : List (Nat × Nat × Nat × Nat)} {lvl md : Nat} (F : Fr K cc own ret hh lvl md) {pc : Nat} {L : List (Nat × MV)} {st : List MV} {h : MH} {A B : Res} {x y : Int32} {off : Int} (tgt : Nat) (d : decode cc pc = .ok (.if_icmp .eq off, 3)) (ht : (pc : Int) + off = (tgt : Int)) (kt : V K tgt L st h A) (kf : V K (pc + 3) L st h B) : V K pc L (vI y :: vI x :: st) h (if x = y then A else B) := by
  by_cases q : x = y
  · rw [if_pos q]
    refine V_step (fun n h1 h2 => ⟨ok_pop (ok_pop h1), h2⟩) ?_ kt
    rcases K with ⟨md1, nL, nm, _ | ⟨p, l, e, R, s, m, args, below, meth, c, D, cy, base, ad0, n0, mc, ms⟩⟩
    · exact True.intro
    obtain ⟨hmd, hx, hb, hml, hown, hts, hlk, henv, hmc, hms, hstk, hret, htab, hlv1, hlv2, hnm⟩ := F
    intro ad H locs cells slots ls Q hl kk
    exact lv_icmp_eq hx hb d ht (fun _ => kk ls hl) (fun z => absurd q z)
  · rw [if_neg q]
    refine V_step (fun n h1 h2 => ⟨ok_pop (ok_pop h1), h2⟩) ?_ kf
    rcases K with ⟨md1, nL, nm, _ | ⟨p, l, e, R, s, m, args, below, meth, c, D, cy, base, ad0, n0, mc, ms⟩⟩
    · exact True.intro
    obtain ⟨hmd, hx, hb, hml, hown, hts, hlk, henv, hmc, hms, hstk, hret, htab, hlv1, hlv2, hnm⟩ := F
    intro ad H locs cells slots ls Q hl kk
    exact lv_icmp_eq hx hb d ht (fun z => absurd z q) (fun _ => kk ls hl)
theorem V_icmp_ne {K : CT} {cc : ByteArray} {own : String} {ret : Option FieldType} {hh : List (Nat × Nat × Nat × Nat)} {lvl md : Nat} (F : Fr K cc own ret hh lvl md) {pc : Nat} {L : List (Nat × MV)} {st : List MV} {h : MH} {A B : Res} {x y : Int32} {off : Int} (tgt : Nat) (d : decode cc pc = .ok (.if_icmp .ne off, 3)) (ht : (pc : Int) + off = (tgt : Int)) (kt : V K tgt L st h A) (kf : V K (pc + 3) L st h B) : V K pc L (vI y :: vI x :: st) h (if x ≠ y then A else B) := by
  by_cases q : x ≠ y
  · rw [if_pos q]
    refine V_step (fun n h1 h2 => ⟨ok_pop (ok_pop h1), h2⟩) ?_ kt
    rcases K with ⟨md1, nL, nm, _ | ⟨p, l, e, R, s, m, args, below, meth, c, D, cy, base, ad0, n0, mc, ms⟩⟩
    · exact True.intro
    obtain ⟨hmd, hx, hb, hml, hown, hts, hlk, henv, hmc, hms, hstk, hret, htab, hlv1, hlv2, hnm⟩ := F
    intro ad H locs cells slots ls Q hl kk
    exact lv_icmp_ne hx hb d ht (fun _ => kk ls hl) (fun z => absurd z q)
  · rw [if_neg q]
    refine V_step (fun n h1 h2 => ⟨ok_pop (ok_pop h1), h2⟩) ?_ kf
    rcases K with ⟨md1, nL, nm, _ | ⟨p, l, e, R, s, m, args, below, meth, c, D, cy, base, ad0, n0, mc, ms⟩⟩
    · exact True.intro
    obtain ⟨hmd, hx, hb, hml, hown, hts, hlk, henv, hmc, hms, hstk, hret, htab, hlv1, hlv2, hnm⟩ := F
    intro ad H locs cells slots ls Q hl kk
    exact lv_icmp_ne hx hb d ht (fun z => absurd z q) (fun _ => kk ls hl)
theorem V_icmp_lt {K : CT} {cc : ByteArray} {own : String} {ret : Option FieldType} {hh : List (Nat × Nat × Nat × Nat)} {lvl md : Nat} (F : Fr K cc own ret hh lvl md) {pc : Nat} {L : List (Nat × MV)} {st : List MV} {h : MH} {A B : Res} {x y : Int32} {off : Int} (tgt : Nat) (d : decode cc pc = .ok (.if_icmp .lt off, 3)) (ht : (pc : Int) + off = (tgt : Int)) (kt : V K tgt L st h A) (kf : V K (pc + 3) L st h B) : V K pc L (vI y :: vI x :: st) h (if x < y then A else B) := by
  by_cases q : x < y
  · rw [if_pos q]
    refine V_step (fun n h1 h2 => ⟨ok_pop (ok_pop h1), h2⟩) ?_ kt
    rcases K with ⟨md1, nL, nm, _ | ⟨p, l, e, R, s, m, args, below, meth, c, D, cy, base, ad0, n0, mc, ms⟩⟩
    · exact True.intro
    obtain ⟨hmd, hx, hb, hml, hown, hts, hlk, henv, hmc, hms, hstk, hret, htab, hlv1, hlv2, hnm⟩ := F
    intro ad H locs cells slots ls Q hl kk
    exact lv_icmp_lt hx hb d ht (fun _ => kk ls hl) (fun z => absurd q z)
  · rw [if_neg q]
    refine V_step (fun n h1 h2 => ⟨ok_pop (ok_pop h1), h2⟩) ?_ kf
    rcases K with ⟨md1, nL, nm, _ | ⟨p, l, e, R, s, m, args, below, meth, c, D, cy, base, ad0, n0, mc, ms⟩⟩
    · exact True.intro
    obtain ⟨hmd, hx, hb, hml, hown, hts, hlk, henv, hmc, hms, hstk, hret, htab, hlv1, hlv2, hnm⟩ := F
    intro ad H locs cells slots ls Q hl kk
    exact lv_icmp_lt hx hb d ht (fun z => absurd z q) (fun _ => kk ls hl)
theorem V_icmp_ge {K : CT} {cc : ByteArray} {own : String} {ret : Option FieldType} {hh : List (Nat × Nat × Nat × Nat)} {lvl md : Nat} (F : Fr K cc own ret hh lvl md) {pc : Nat} {L : List (Nat × MV)} {st : List MV} {h : MH} {A B : Res} {x y : Int32} {off : Int} (tgt : Nat) (d : decode cc pc = .ok (.if_icmp .ge off, 3)) (ht : (pc : Int) + off = (tgt : Int)) (kt : V K tgt L st h A) (kf : V K (pc + 3) L st h B) : V K pc L (vI y :: vI x :: st) h (if y ≤ x then A else B) := by
  by_cases q : y ≤ x
  · rw [if_pos q]
    refine V_step (fun n h1 h2 => ⟨ok_pop (ok_pop h1), h2⟩) ?_ kt
    rcases K with ⟨md1, nL, nm, _ | ⟨p, l, e, R, s, m, args, below, meth, c, D, cy, base, ad0, n0, mc, ms⟩⟩
    · exact True.intro
    obtain ⟨hmd, hx, hb, hml, hown, hts, hlk, henv, hmc, hms, hstk, hret, htab, hlv1, hlv2, hnm⟩ := F
    intro ad H locs cells slots ls Q hl kk
    exact lv_icmp_ge hx hb d ht (fun _ => kk ls hl) (fun z => absurd q z)
  · rw [if_neg q]
    refine V_step (fun n h1 h2 => ⟨ok_pop (ok_pop h1), h2⟩) ?_ kf
    rcases K with ⟨md1, nL, nm, _ | ⟨p, l, e, R, s, m, args, below, meth, c, D, cy, base, ad0, n0, mc, ms⟩⟩
    · exact True.intro
    obtain ⟨hmd, hx, hb, hml, hown, hts, hlk, henv, hmc, hms, hstk, hret, htab, hlv1, hlv2, hnm⟩ := F
    intro ad H locs cells slots ls Q hl kk
    exact lv_icmp_ge hx hb d ht (fun z => absurd z q) (fun _ => kk ls hl)
theorem V_icmp_gt {K : CT} {cc : ByteArray} {own : String} {ret : Option FieldType} {hh : List (Nat × Nat × Nat × Nat)} {lvl md : Nat} (F : Fr K cc own ret hh lvl md) {pc : Nat} {L : List (Nat × MV)} {st : List MV} {h : MH} {A B : Res} {x y : Int32} {off : Int} (tgt : Nat) (d : decode cc pc = .ok (.if_icmp .gt off, 3)) (ht : (pc : Int) + off = (tgt : Int)) (kt : V K tgt L st h A) (kf : V K (pc + 3) L st h B) : V K pc L (vI y :: vI x :: st) h (if y < x then A else B) := by
  by_cases q : y < x
  · rw [if_pos q]
    refine V_step (fun n h1 h2 => ⟨ok_pop (ok_pop h1), h2⟩) ?_ kt
    rcases K with ⟨md1, nL, nm, _ | ⟨p, l, e, R, s, m, args, below, meth, c, D, cy, base, ad0, n0, mc, ms⟩⟩
    · exact True.intro
    obtain ⟨hmd, hx, hb, hml, hown, hts, hlk, henv, hmc, hms, hstk, hret, htab, hlv1, hlv2, hnm⟩ := F
    intro ad H locs cells slots ls Q hl kk
    exact lv_icmp_gt hx hb d ht (fun _ => kk ls hl) (fun z => absurd q z)
  · rw [if_neg q]
    refine V_step (fun n h1 h2 => ⟨ok_pop (ok_pop h1), h2⟩) ?_ kf
    rcases K with ⟨md1, nL, nm, _ | ⟨p, l, e, R, s, m, args, below, meth, c, D, cy, base, ad0, n0, mc, ms⟩⟩
    · exact True.intro
    obtain ⟨hmd, hx, hb, hml, hown, hts, hlk, henv, hmc, hms, hstk, hret, htab, hlv1, hlv2, hnm⟩ := F
    intro ad H locs cells slots ls Q hl kk
    exact lv_icmp_gt hx hb d ht (fun z => absurd z q) (fun _ => kk ls hl)
theorem V_icmp_le {K : CT} {cc : ByteArray} {own : String} {ret : Option FieldType} {hh : List (Nat × Nat × Nat × Nat)} {lvl md : Nat} (F : Fr K cc own ret hh lvl md) {pc : Nat} {L : List (Nat × MV)} {st : List MV} {h : MH} {A B : Res} {x y : Int32} {off : Int} (tgt : Nat) (d : decode cc pc = .ok (.if_icmp .le off, 3)) (ht : (pc : Int) + off = (tgt : Int)) (kt : V K tgt L st h A) (kf : V K (pc + 3) L st h B) : V K pc L (vI y :: vI x :: st) h (if x ≤ y then A else B) := by
  by_cases q : x ≤ y
  · rw [if_pos q]
    refine V_step (fun n h1 h2 => ⟨ok_pop (ok_pop h1), h2⟩) ?_ kt
    rcases K with ⟨md1, nL, nm, _ | ⟨p, l, e, R, s, m, args, below, meth, c, D, cy, base, ad0, n0, mc, ms⟩⟩
    · exact True.intro
    obtain ⟨hmd, hx, hb, hml, hown, hts, hlk, henv, hmc, hms, hstk, hret, htab, hlv1, hlv2, hnm⟩ := F
    intro ad H locs cells slots ls Q hl kk
    exact lv_icmp_le hx hb d ht (fun _ => kk ls hl) (fun z => absurd q z)
  · rw [if_neg q]
    refine V_step (fun n h1 h2 => ⟨ok_pop (ok_pop h1), h2⟩) ?_ kf
    rcases K with ⟨md1, nL, nm, _ | ⟨p, l, e, R, s, m, args, below, meth, c, D, cy, base, ad0, n0, mc, ms⟩⟩
    · exact True.intro
    obtain ⟨hmd, hx, hb, hml, hown, hts, hlk, henv, hmc, hms, hstk, hret, htab, hlv1, hlv2, hnm⟩ := F
    intro ad H locs cells slots ls Q hl kk
    exact lv_icmp_le hx hb d ht (fun z => absurd z q) (fun _ => kk ls hl)
theorem V_ifnull {K : CT} {cc : ByteArray} {own : String} {ret : Option FieldType} {hh : List (Nat × Nat × Nat × Nat)} {lvl md : Nat} (F : Fr K cc own ret hh lvl md) {pc : Nat} {L : List (Nat × MV)} {st : List MV} {h : MH} {A B : Res} {x : Option Nat} {off : Int} (tgt : Nat) (d : decode cc pc = .ok (.ifnull off, 3)) (ht : (pc : Int) + off = (tgt : Int)) (kt : V K tgt L st h A) (kf : V K (pc + 3) L st h B) : V K pc L (vR x :: st) h (if x = none then A else B) := by
  cases x with
  | none =>
    rw [if_pos rfl]
    refine V_step (fun n h1 h2 => ⟨ok_pop h1, h2⟩) ?_ kt
    rcases K with ⟨md1, nL, nm, _ | ⟨p, l, e, R, s, m, args, below, meth, c, D, cy, base, ad0, n0, mc, ms⟩⟩
    · exact True.intro
    obtain ⟨hmd, hx, hb, hml, hown, hts, hlk, henv, hmc, hms, hstk, hret, htab, hlv1, hlv2, hnm⟩ := F
    intro ad H locs cells slots ls Q hl kk
    exact lv_ifnullN hx hb d ht (kk ls hl)
  | some a =>
    rw [if_neg (fun z => by cases z)]
    refine V_step (fun n h1 h2 => ⟨ok_pop h1, h2⟩) ?_ kf
    rcases K with ⟨md1, nL, nm, _ | ⟨p, l, e, R, s, m, args, below, meth, c, D, cy, base, ad0, n0, mc, ms⟩⟩
    · exact True.intro
    obtain ⟨hmd, hx, hb, hml, hown, hts, hlk, henv, hmc, hms, hstk, hret, htab, hlv1, hlv2, hnm⟩ := F
    intro ad H locs cells slots ls Q hl kk
    exact lv_ifnull hx hb d (kk ls hl)
theorem V_ifnonnull {K : CT} {cc : ByteArray} {own : String} {ret : Option FieldType} {hh : List (Nat × Nat × Nat × Nat)} {lvl md : Nat} (F : Fr K cc own ret hh lvl md) {pc : Nat} {L : List (Nat × MV)} {st : List MV} {h : MH} {A B : Res} {x : Option Nat} {off : Int} (tgt : Nat) (d : decode cc pc = .ok (.ifnonnull off, 3)) (ht : (pc : Int) + off = (tgt : Int)) (kt : V K tgt L st h A) (kf : V K (pc + 3) L st h B) : V K pc L (vR x :: st) h (if x ≠ none then A else B) := by
  cases x with
  | none =>
    rw [if_neg (fun z => z rfl)]
    refine V_step (fun n h1 h2 => ⟨ok_pop h1, h2⟩) ?_ kf
    rcases K with ⟨md1, nL, nm, _ | ⟨p, l, e, R, s, m, args, below, meth, c, D, cy, base, ad0, n0, mc, ms⟩⟩
    · exact True.intro
    obtain ⟨hmd, hx, hb, hml, hown, hts, hlk, henv, hmc, hms, hstk, hret, htab, hlv1, hlv2, hnm⟩ := F
    intro ad H locs cells slots ls Q hl kk
    exact lv_ifnonnullN hx hb d (kk ls hl)
  | some a =>
    rw [if_pos (fun z => by cases z)]
    refine V_step (fun n h1 h2 => ⟨ok_pop h1, h2⟩) ?_ kt
    rcases K with ⟨md1, nL, nm, _ | ⟨p, l, e, R, s, m, args, below, meth, c, D, cy, base, ad0, n0, mc, ms⟩⟩
    · exact True.intro
    obtain ⟨hmd, hx, hb, hml, hown, hts, hlk, henv, hmc, hms, hstk, hret, htab, hlv1, hlv2, hnm⟩ := F
    intro ad H locs cells slots ls Q hl kk
    exact lv_ifnonnull hx hb d ht (kk ls hl)
end
section
/-! the heap read and written -/
def gfI (h : MH) (r : Option Nat) (ci j : Nat) (k : Int32 → Res) : Res := match r with
  | none => none
  | some a => if hk h a = ci then k (hi h a j) else none
def gfR (h : MH) (r : Option Nat) (ci j : Nat) (k : Option Nat → Res) : Res := match r with
  | none => none
  | some a => if hk h a = ci then k (hr h a j) else none
def pfI (h : MH) (r : Option Nat) (ci j : Nat) (v : Int32) (k : MH → Res) : Res := match r with
  | none => none
  | some a => if hk h a = ci then k (sI h a j v) else none
def pfR (h : MH) (r : Option Nat) (ci j : Nat) (v : Option Nat) (k : MH → Res) : Res := match r with
  | none => none
  | some a => if hk h a = ci then k (sR h a j v) else none
def rdI (h : MH) (r : Option Nat) (kd : Nat) (i : Int32) (k : Int32 → Res) : Res := match r with
  | none => none
  | some a => if hk h a = kd ∧ 0 ≤ i ∧ i.toNatClampNeg < hl h a then k (hi h a i.toNatClampNeg) else none
def wrI (h : MH) (r : Option Nat) (kd : Nat) (i v : Int32) (k : MH → Res) : Res := match r with
  | none => none
  | some a => if hk h a = kd ∧ 0 ≤ i ∧ i.toNatClampNeg < hl h a ∧ (kd = 21 → v = 0 ∨ v = 1) then k (sI h a i.toNatClampNeg v) else none
def rdR (h : MH) (r : Option Nat) (i : Int32) (k : Option Nat → Res) : Res := match r with
  | none => none
  | some a => if (22 ≤ hk h a ∧ hk h a < 26) ∧ 0 ≤ i ∧ i.toNatClampNeg < hl h a then k (hr h a i.toNatClampNeg) else none
def wrR (h : MH) (r : Option Nat) (i : Int32) (v : Option Nat) (k : MH → Res) : Res := match r with
  | none => none
  | some a => match v with
    | none => none
    | some b => if (22 ≤ hk h a ∧ hk h a < 26) ∧ 0 ≤ i ∧ i.toNatClampNeg < hl h a ∧ hk h b = coK (hk h a) then k (sR h a i.toNatClampNeg (some b)) else none
def rdQ (h : MH) (r : Option Nat) (i : Int32) (k : Int64 → Res) : Res := match r with
  | none => none
  | some a => if hk h a = 30 ∧ 0 ≤ i ∧ i.toNatClampNeg < hl h a then k (hq h a i.toNatClampNeg) else none
def wrQ (h : MH) (r : Option Nat) (i : Int32) (v : Int64) (k : MH → Res) : Res := match r with
  | none => none
  | some a => if hk h a = 30 ∧ 0 ≤ i ∧ i.toNatClampNeg < hl h a then k (sQ h a i.toNatClampNeg v) else none
def aln (h : MH) (r : Option Nat) (k : Int32 → Res) : Res := match r with
  | none => none
  | some a => if hk h a ∈ AK then k (Int32.ofNat (hl h a)) else none
def nwO (h : MH) (ci : Nat) (k : Option Nat → MH → Res) : Res := k (some (hn h + 1)) (alc h ci (nF ci))
def nwA (h : MH) (kd : Nat) (n : Int32) (k : Option Nat → MH → Res) : Res := if 0 ≤ n ∧ n.toNatClampNeg ≤ 1000 then k (some (hn h + 1)) (alc h kd n.toNatClampNeg) else none
theorem up1_o {α : Type} {f : Nat → α} {a b : Nat} {v : α} (h : b ≠ a) : up1 f a v b = f b := if_neg h
theorem up1_s {α : Type} {f : Nat → α} {a : Nat} {v : α} : up1 f a v a = v := if_pos rfl
theorem vpin {i : Int32} {n : Nat} (h0 : 0 ≤ i) (h1 : i.toNatClampNeg < n) : vp_in i n := by
  rintro (h | h)
  · exact absurd h (Int32.not_lt.mpr h0)
  · omega
theorem nwf {t : FieldType} (h : isRt t = true) (v : Option Nat) : narrow t (va_rf v) = va_rf v ∧ fits t (va_rf v) = true := by
  cases t <;> first | (cases v <;> exact ⟨rfl, rfl⟩) | (simp [isRt] at h)
theorem AK40 {k : Nat} (h : k ∈ AK) : 20 ≤ k ∧ k < 40 := by
  simp [AK] at h; omega
theorem Wld.low {D : va_G} {cy : Nat → ClassId} {base : Nat} {ad : Nat → Nat} {h : MH} {H : Heap} (w : Wld D cy base ad h H) {a k : Nat} (hka : hk h a = k) (h4 : k < 40) : ∃ q, q < hn h ∧ a = q + 1 := w.inb (by omega)
theorem RA_inj {s : State} {a b : ClassId} {ty : FieldType} (h1 : va_RA s a ty) (h2 : va_RA s b ty) : a = b := by
  cases ty with
  | object C =>
    obtain ⟨_, _, _, _, _, g1⟩ := h1
    obtain ⟨_, _, _, _, _, g2⟩ := h2
    exact Option.some.inj (g1.symm.trans g2)
  | _ => exact Option.some.inj (Eq.trans (Eq.symm h1) h2)
theorem Wld.sIo {D : va_G} {cy : Nat → ClassId} {base : Nat} {ad : Nat → Nat} {h : MH} {H H1 : Heap} {q ci j : Nat} {v : Int32} (w : Wld D cy base ad h H) (hq0 : q < hn h) (hka : hk h (q + 1) = ci) (hci : ci < 20) (hj : j < nF ci) (hI : isR ci j = false)
    (hP : va_P D CL ((wsO cy ad h).set q (ad (q + 1), .inr (ci, ((List.range (nF ci)).map fun j => if isR ci j = true then va_rf ((hr h (q + 1) j).map ad) else .int (hi h (q + 1) j)).set j (.int v)))) H1)
    (hD : va_D (bA base) ((wsO cy ad h).set q (ad (q + 1), .inr (ci, ((List.range (nF ci)).map fun j => if isR ci j = true then va_rf ((hr h (q + 1) j).map ad) else .int (hi h (q + 1) j)).set j (.int v))))) : Wld D cy base ad (sI h (q + 1) j v) H1 := by
  have e : (wsO cy ad h).set q (ad (q + 1), .inr (ci, ((List.range (nF ci)).map fun j => if isR ci j = true then va_rf ((hr h (q + 1) j).map ad) else .int (hi h (q + 1) j)).set j (.int v))) = wsO cy ad (sI h (q + 1) j v) := by
    refine wsO_set hq0 rfl ?_ (fun b hb => clO_same rfl rfl (up2_oth hb) rfl rfl (fun _ => rfl))
    rw [clO_obj (h := sI h (q + 1) j v) (ci := ci) hka hci]
    refine congrArg _ (congrArg _ ?_)
    have := map_set_eq (n := nF ci) (k := j) (f := fun j => if isR ci j = true then va_rf ((hr h (q + 1) j).map ad) else Value.int (hi h (q + 1) j)) (g := fun k => if isR ci k = true then va_rf ((hr h (q + 1) k).map ad) else Value.int (hi (sI h (q + 1) j v) (q + 1) k)) hj (fun k _ hne => by
      show (if _ then _ else Value.int (up2 (hi h) (q + 1) j v (q + 1) k)) = _
      rw [up2_o (by rintro ⟨-, e⟩; exact hne e)])
    rw [← show (fun k => if isR ci k = true then va_rf ((hr h (q + 1) k).map ad) else Value.int (hi (sI h (q + 1) j v) (q + 1) k)) j = Value.int v by
      show (if isR ci j = true then _ else Value.int (up2 (hi h) (q + 1) j v (q + 1) j)) = _
      rw [hI, up2_s]; rfl]
    exact this
  rw [e] at hP hD
  exact ⟨hP, hD, w.2.2.1, w.2.2.2⟩
theorem Wld.sRo {D : va_G} {cy : Nat → ClassId} {base : Nat} {ad : Nat → Nat} {h : MH} {H H1 : Heap} {q ci j : Nat} {v : Option Nat} (w : Wld D cy base ad h H) (hq0 : q < hn h) (hka : hk h (q + 1) = ci) (hci : ci < 20) (hj : j < nF ci) (hR : isR ci j = true) (hv : okv (hn h) (vR v))
    (hP : va_P D CL ((wsO cy ad h).set q (ad (q + 1), .inr (ci, ((List.range (nF ci)).map fun j => if isR ci j = true then va_rf ((hr h (q + 1) j).map ad) else .int (hi h (q + 1) j)).set j (va_rf (v.map ad))))) H1)
    (hD : va_D (bA base) ((wsO cy ad h).set q (ad (q + 1), .inr (ci, ((List.range (nF ci)).map fun j => if isR ci j = true then va_rf ((hr h (q + 1) j).map ad) else .int (hi h (q + 1) j)).set j (va_rf (v.map ad)))))) : Wld D cy base ad (sR h (q + 1) j v) H1 := by
  have e : (wsO cy ad h).set q (ad (q + 1), .inr (ci, ((List.range (nF ci)).map fun j => if isR ci j = true then va_rf ((hr h (q + 1) j).map ad) else .int (hi h (q + 1) j)).set j (va_rf (v.map ad)))) = wsO cy ad (sR h (q + 1) j v) := by
    refine wsO_set hq0 rfl ?_ (fun b hb => clO_same rfl rfl rfl (up2_oth hb) rfl (fun _ => rfl))
    rw [clO_obj (h := sR h (q + 1) j v) (ci := ci) hka hci]
    refine congrArg _ (congrArg _ ?_)
    have := map_set_eq (n := nF ci) (k := j) (f := fun j => if isR ci j = true then va_rf ((hr h (q + 1) j).map ad) else Value.int (hi h (q + 1) j)) (g := fun k => if isR ci k = true then va_rf ((hr (sR h (q + 1) j v) (q + 1) k).map ad) else Value.int (hi h (q + 1) k)) hj (fun k _ hne => by
      show (if _ then va_rf ((up2 (hr h) (q + 1) j v (q + 1) k).map ad) else _) = _
      rw [up2_o (by rintro ⟨-, e⟩; exact hne e)])
    rw [← show (fun k => if isR ci k = true then va_rf ((hr (sR h (q + 1) j v) (q + 1) k).map ad) else Value.int (hi h (q + 1) k)) j = va_rf (v.map ad) by
      show (if isR ci j = true then va_rf ((up2 (hr h) (q + 1) j v (q + 1) j).map ad) else _) = _
      rw [hR, up2_s]; rfl]
    exact this
  rw [e] at hP hD
  refine ⟨hP, hD, w.2.2.1, fun a k r hra => ?_⟩
  by_cases q9 : a = q + 1 ∧ k = j
  · have h1 : up2 (hr h) (q + 1) j v a k = some r := hra
    obtain ⟨rfl, rfl⟩ := q9
    rw [up2_s] at h1
    exact hv r (by rw [h1])
  · have h1 : up2 (hr h) (q + 1) j v a k = some r := hra
    rw [up2_o q9] at h1
    exact w.2.2.2 a k r h1
theorem Wld.sIa {D : va_G} {cy : Nat → ClassId} {base : Nat} {ad : Nat → Nat} {h : MH} {H H1 : Heap} {q kd : Nat} {f : Nat → Int32} (w : Wld D cy base ad h H) (hq0 : q < hn h) (hka : hk h (q + 1) = kd) (h1 : ¬ kd < 20) (h2 : kd < 22)
    (hP : va_P D CL ((wsO cy ad h).set q (ad (q + 1), .inl (cy kd, hl h (q + 1), .inl f))) H1) (hD : va_D (bA base) ((wsO cy ad h).set q (ad (q + 1), .inl (cy kd, hl h (q + 1), .inl f)))) {h9 : MH} (e9 : h9 = sIr h (q + 1) f) : Wld D cy base ad h9 H1 := by
  subst e9
  have e : (wsO cy ad h).set q (ad (q + 1), .inl (cy kd, hl h (q + 1), .inl f)) = wsO cy ad (sIr h (q + 1) f) := by
    refine wsO_set hq0 rfl ?_ (fun b hb => clO_same rfl rfl (upr_o hb) rfl rfl (fun _ => rfl))
    rw [clO_int (h := sIr h (q + 1) f) (k := kd) hka h1 h2]
    show _ = Sum.inl (cy kd, hl h (q + 1), Sum.inl (upr (hi h) (q + 1) f (q + 1)))
    rw [upr_s]
  rw [e] at hP hD
  exact ⟨hP, hD, w.2.2.1, w.2.2.2⟩
theorem sI_row {h : MH} {a j : Nat} {v : Int32} : sI h a j v = sIr h a (upd (hi h a) j v) := by
  unfold sI sIr
  have : up2 (hi h) a j v = upr (hi h) a (upd (hi h a) j v) := by
    funext b k
    by_cases e : b = a
    · subst e; simp [up2, upr, upd]
    · simp [up2, upr, e]
  rw [this]
theorem Wld.sRa {D : va_G} {cy : Nat → ClassId} {base : Nat} {ad : Nat → Nat} {h : MH} {H H1 : Heap} {q kd j b : Nat} (w : Wld D cy base ad h H) (hq0 : q < hn h) (hka : hk h (q + 1) = kd) (h1 : ¬ kd < 22) (h2 : kd < 30) (hb : b ≤ hn h)
    (hP : va_P D CL ((wsO cy ad h).set q (ad (q + 1), .inl (cy kd, hl h (q + 1), .inr (.inr (.inr (.inr (va_up (fun j => (hr h (q + 1) j).map ad) j (some (ad b))))))))) H1)
    (hD : va_D (bA base) ((wsO cy ad h).set q (ad (q + 1), .inl (cy kd, hl h (q + 1), .inr (.inr (.inr (.inr (va_up (fun j => (hr h (q + 1) j).map ad) j (some (ad b)))))))))) : Wld D cy base ad (sR h (q + 1) j (some b)) H1 := by
  have e : (wsO cy ad h).set q (ad (q + 1), .inl (cy kd, hl h (q + 1), .inr (.inr (.inr (.inr (va_up (fun j => (hr h (q + 1) j).map ad) j (some (ad b)))))))) = wsO cy ad (sR h (q + 1) j (some b)) := by
    refine wsO_set hq0 rfl ?_ (fun b hb => clO_same rfl rfl rfl (up2_oth hb) rfl (fun _ => rfl))
    rw [clO_ref (h := sR h (q + 1) j (some b)) (k := kd) hka h1 h2]
    refine congrArg (fun z => Sum.inl (cy kd, hl h (q + 1), Sum.inr (Sum.inr (Sum.inr (Sum.inr z))))) ?_
    funext k
    show _ = (up2 (hr h) (q + 1) j (some b) (q + 1) k).map ad
    by_cases ek : k = j
    · subst ek; rw [up2_s]; simp [va_up]
    · rw [up2_o (by rintro ⟨-, z⟩; exact ek z)]; simp [va_up, ek, hr]
  rw [e] at hP hD
  refine ⟨hP, hD, w.2.2.1, fun a k r hra => ?_⟩
  by_cases q9 : a = q + 1 ∧ k = j
  · have h1 : up2 (hr h) (q + 1) j (some b) a k = some r := hra
    obtain ⟨rfl, rfl⟩ := q9
    rw [up2_s] at h1
    cases h1
    exact hb
  · have h1 : up2 (hr h) (q + 1) j (some b) a k = some r := hra
    rw [up2_o q9] at h1
    exact w.2.2.2 a k r h1
theorem Wld.sQa {D : va_G} {cy : Nat → ClassId} {base : Nat} {ad : Nat → Nat} {h : MH} {H H1 : Heap} {q j : Nat} {v : Int64} (w : Wld D cy base ad h H) (hq0 : q < hn h) (hka : hk h (q + 1) = 30)
    (hP : va_P D CL ((wsO cy ad h).set q (ad (q + 1), .inl (cy 30, hl h (q + 1), .inr (.inl (vp_updL (hq h (q + 1)) j v))))) H1)
    (hD : va_D (bA base) ((wsO cy ad h).set q (ad (q + 1), .inl (cy 30, hl h (q + 1), .inr (.inl (vp_updL (hq h (q + 1)) j v)))))) : Wld D cy base ad (sQ h (q + 1) j v) H1 := by
  have e : (wsO cy ad h).set q (ad (q + 1), .inl (cy 30, hl h (q + 1), .inr (.inl (vp_updL (hq h (q + 1)) j v)))) = wsO cy ad (sQ h (q + 1) j v) := by
    refine wsO_set hq0 rfl ?_ (fun b hb => clO_same rfl rfl rfl rfl (up2_oth hb) (fun _ => rfl))
    rw [clO_lng (h := sQ h (q + 1) j v) hka]
    refine congrArg (fun z => Sum.inl (cy 30, hl h (q + 1), Sum.inr (Sum.inl z))) ?_
    funext k
    show _ = up2 (hq h) (q + 1) j v (q + 1) k
    by_cases ek : k = j
    · subst ek; rw [up2_s]; simp [vp_updL]
    · rw [up2_o (by rintro ⟨-, z⟩; exact ek z)]; simp [vp_updL, ek, hq]
  rw [e] at hP hD
  exact ⟨hP, hD, w.2.2.1, w.2.2.2⟩
/-- a new cell -/
theorem Wld.push {D : va_G} {cy : Nat → ClassId} {base : Nat} {ad : Nat → Nat} {h : MH} {H H1 : Heap} {q kd n : Nat} {e : va_E} (w : Wld D cy base ad h H) (he : e = clO cy (up1 ad (hn h + 1) q) (alc h kd n) (hn h + 1))
    (hP : va_P D CL (wsO cy ad h ++ [(q, e)]) H1) (hD : va_D (bA base) (wsO cy ad h ++ [(q, e)])) : Wld D cy base (up1 ad (hn h + 1) q) (alc h kd n) H1 := by
  have e0 : wsO cy ad h ++ [(q, e)] = wsO cy (up1 ad (hn h + 1) q) (alc h kd n) := by
    subst he
    unfold wsO
    show _ = (List.range (hn h + 1)).map _
    rw [List.range_succ, List.map_append]
    congr 1
    · refine List.map_congr_left fun k hmem => ?_
      have hk2 : k < hn h := List.mem_range.mp hmem
      have hne : k + 1 ≠ hn h + 1 := by omega
      have ha : up1 ad (hn h + 1) q (k + 1) = ad (k + 1) := up1_o hne
      show (_, _) = (_, _)
      rw [ha]
      refine congrArg (fun z => (ad (k + 1), z)) (Eq.symm (clO_same ?_ ?_ (upr_o hne) (upr_o hne) (upr_o hne) (fun j => ?_)))
      · exact up1_o hne
      · exact up1_o hne
      · cases hj : hr h (k + 1) j with
        | none => rfl
        | some r =>
          have := w.2.2.2 _ _ _ hj
          show some (up1 ad (hn h + 1) q r) = some (ad r)
          simp [up1]; omega
    · show [(q, _)] = [(up1 ad (hn h + 1) q (hn h + 1), _)]
      simp [up1]
  rw [e0] at hP hD
  refine ⟨hP, hD, fun a ha => ?_, fun a j r hra => ?_⟩
  · have h2 : a = 0 ∨ hn h + 1 < a := ha
    show 40 ≤ up1 (hk h) (hn h + 1) kd a
    have hne : a ≠ hn h + 1 := by omega
    simp only [up1, hne, if_false]
    exact w.2.2.1 a (by omega)
  · have h2 : upr (hr h) (hn h + 1) (fun _ => none) a j = some r := hra
    show r ≤ hn h + 1
    by_cases e : a = hn h + 1
    · subst e; rw [upr_s] at h2; cases h2
    · rw [upr_o e] at h2
      have := w.2.2.2 a j r h2
      omega
end
section
theorem vR_inj {a b : Option Nat} (h : vR a = vR b) : a = b := Sum.inl.inj (Sum.inr.inj h)
theorem V_getI {K : CT} {cc : ByteArray} {own : String} {ret : Option FieldType} {hh : List (Nat × Nat × Nat × Nat)} {lvl md : Nat} (F : Fr K cc own ret hh lvl md) {pc : Nat} {L : List (Nat × MV)} {st : List MV} {h : MH} {r : Option Nat} {res : Int32 → Res} {idx : Nat} (ci j : Nat) (hci : ci < 10) (hj : j < nF ci) (hI : isR ci j = false) (hlink : Cond.fieldLink own idx ((TN ci) j).1 ((TN ci) j).2.1 ((TN ci) j).2.2.1 ∈ GW) (d : decode cc pc = .ok (.getfield idx, 3)) (n : ∀ z, V K (pc + 3) L (vI z :: st) h (res z)) : V K pc L (vR r :: st) h (gfI h r ci j res) := by
  cases r with
  | none => exact V_none
  | some a =>
    show V K pc L _ h (if hk h a = ci then res (hi h a j) else none)
    by_cases q : hk h a = ci
    · rw [if_pos q]
      intro r h' e9
      obtain ⟨a1, b1⟩ := n _ r h' e9
      refine ⟨a1, ?_⟩
      rcases K with ⟨md1, nL, nm, _ | ⟨p, l, e, R, s, m, args, below, meth, c, D, cy, base, ad0, n0, mc, ms⟩⟩
      · exact True.intro
      obtain ⟨hmd, hx, hb, hml, hown, hts, hlk, henv, hmc, hms, hstk, hret, htab, hlv1, hlv2, hnm⟩ := F
      intro ad H locs cells slots ls w1 w2 w3 w4 w5 w6 w7
      obtain ⟨q0, hq0, rfl⟩ := w1.low q (by omega)
      have he := wsO_at (cy := cy) (ad := ad) hq0
      rw [clO_obj q (by omega)] at he
      refine va_get hx hb hts (inN hci) hown henv.1 w1.1 q0 he (CL_at hci) j hj (hts _ hlink) (fun _ z => z) (v := .int (hi h (q0 + 1) j)) ?_ d (b1 ad H locs cells slots ls w1 w2 w3 w4 (ok_psh okv_I (ok_pop w5)) w6 w7)
      simp [hj, hI]
    · rw [if_neg q]; exact V_none
theorem V_getR {K : CT} {cc : ByteArray} {own : String} {ret : Option FieldType} {hh : List (Nat × Nat × Nat × Nat)} {lvl md : Nat} (F : Fr K cc own ret hh lvl md) {pc : Nat} {L : List (Nat × MV)} {st : List MV} {h : MH} {r : Option Nat} {res : Option Nat → Res} {idx : Nat} (ci j : Nat) (hci : ci < 10) (hj : j < nF ci) (hI : isR ci j = true) (hlink : Cond.fieldLink own idx ((TN ci) j).1 ((TN ci) j).2.1 ((TN ci) j).2.2.1 ∈ GW) (d : decode cc pc = .ok (.getfield idx, 3)) (n : ∀ z, V K (pc + 3) L (vR z :: st) h (res z)) : V K pc L (vR r :: st) h (gfR h r ci j res) := by
  cases r with
  | none => exact V_none
  | some a =>
    show V K pc L _ h (if hk h a = ci then res (hr h a j) else none)
    by_cases q : hk h a = ci
    · rw [if_pos q]
      intro r h' e9
      obtain ⟨a1, b1⟩ := n _ r h' e9
      refine ⟨a1, ?_⟩
      rcases K with ⟨md1, nL, nm, _ | ⟨p, l, e, R, s, m, args, below, meth, c, D, cy, base, ad0, n0, mc, ms⟩⟩
      · exact True.intro
      obtain ⟨hmd, hx, hb, hml, hown, hts, hlk, henv, hmc, hms, hstk, hret, htab, hlv1, hlv2, hnm⟩ := F
      intro ad H locs cells slots ls w1 w2 w3 w4 w5 w6 w7
      obtain ⟨q0, hq0, rfl⟩ := w1.low q (by omega)
      have he := wsO_at (cy := cy) (ad := ad) hq0
      rw [clO_obj q (by omega)] at he
      refine va_get hx hb hts (inN hci) hown henv.1 w1.1 q0 he (CL_at hci) j hj (hts _ hlink) (fun _ z => z) (v := va_rf ((hr h (q0 + 1) j).map ad)) ?_ d (b1 ad H locs cells slots ls w1 w2 w3 w4 (ok_psh (fun b eb => w1.2.2.2 _ j b (vR_inj eb)) (ok_pop w5)) w6 w7)
      simp [hj, hI]
    · rw [if_neg q]; exact V_none
theorem V_putI {K : CT} {cc : ByteArray} {own : String} {ret : Option FieldType} {hh : List (Nat × Nat × Nat × Nat)} {lvl md : Nat} (F : Fr K cc own ret hh lvl md) {pc : Nat} {L : List (Nat × MV)} {st : List MV} {h : MH} {r : Option Nat} {v : Int32} {res : MH → Res} {idx : Nat} (ci j : Nat) (hci : ci < 10) (hj : j < nF ci) (hty : tyN ci j = .int) (hfin : ((TN ci) j).2.2.2 = false) (hlink : Cond.fieldLink own idx ((TN ci) j).1 ((TN ci) j).2.1 ((TN ci) j).2.2.1 ∈ GW) (d : decode cc pc = .ok (.putfield idx, 3)) (n : ∀ h', V K (pc + 3) L st h' (res h')) : V K pc L (vI v :: vR r :: st) h (pfI h r ci j v res) := by
  have hI : isR ci j = false := by unfold isR; rw [hty]; rfl
  cases r with
  | none => exact V_none
  | some a =>
    show V K pc L _ h (if hk h a = ci then res (sI h a j v) else none)
    by_cases q : hk h a = ci
    · rw [if_pos q]
      intro r h' e9
      obtain ⟨a1, b1⟩ := n _ r h' e9
      refine ⟨a1, ?_⟩
      rcases K with ⟨md1, nL, nm, _ | ⟨p, l, e, R, s, m, args, below, meth, c, D, cy, base, ad0, n0, mc, ms⟩⟩
      · exact True.intro
      obtain ⟨hmd, hx, hb, hml, hown, hts, hlk, henv, hmc, hms, hstk, hret, htab, hlv1, hlv2, hnm⟩ := F
      intro ad H locs cells slots ls w1 w2 w3 w4 w5 w6 w7
      obtain ⟨q0, hq0, rfl⟩ := w1.low q (by omega)
      have he := wsO_at (cy := cy) (ad := ad) hq0
      rw [clO_obj q (by omega)] at he
      exact va_put hx hb hts (inN hci) (tyN ci) (tyN_ok hci) (nmN hci) hown henv.1 w1.1 w1.2.1 w2 q0 he (CL_at hci) j hj (hts _ hlink) (fun _ z => z) hfin (ty := .int) (v := .int v) (by rw [tyN_ok hci j hj, hty]) rfl rfl (by simp [hj]) d
        (fun H1 locs1 hP hD hS => b1 ad H1 locs1 cells slots ls (w1.sIo hq0 q (by omega) hj hI hP hD) hS w3 w4 (ok_pop (ok_pop w5)) w6 w7)
    · rw [if_neg q]; exact V_none
theorem V_putIF {K : CT} {cc : ByteArray} {own : String} {ret : Option FieldType} {hh : List (Nat × Nat × Nat × Nat)} {lvl md : Nat} (F : Fr K cc own ret hh lvl md) {pc : Nat} {L : List (Nat × MV)} {st : List MV} {h : MH} {r : Option Nat} {v : Int32} {res : MH → Res} {idx : Nat} (hini : nmK K "<init>") (ci j : Nat) (hci : ci < 10) (hj : j < nF ci) (hty : tyN ci j = .int) (hfin : ((TN ci) j).2.2.2 = true) (hdecl : ((TN ci) j).1 = own) (hlink : Cond.fieldLink own idx ((TN ci) j).1 ((TN ci) j).2.1 ((TN ci) j).2.2.1 ∈ GW) (d : decode cc pc = .ok (.putfield idx, 3)) (n : ∀ h', V K (pc + 3) L st h' (res h')) : V K pc L (vI v :: vR r :: st) h (pfI h r ci j v res) := by
  have hI : isR ci j = false := by unfold isR; rw [hty]; rfl
  cases r with
  | none => exact V_none
  | some a =>
    show V K pc L _ h (if hk h a = ci then res (sI h a j v) else none)
    by_cases q : hk h a = ci
    · rw [if_pos q]
      intro r h' e9
      obtain ⟨a1, b1⟩ := n _ r h' e9
      refine ⟨a1, ?_⟩
      rcases K with ⟨md1, nL, nm, _ | ⟨p, l, e, R, s, m, args, below, meth, c, D, cy, base, ad0, n0, mc, ms⟩⟩
      · exact True.intro
      obtain ⟨hmd, hx, hb, hml, hown, hts, hlk, henv, hmc, hms, hstk, hret, htab, hlv1, hlv2, hnm⟩ := F
      intro ad H locs cells slots ls w1 w2 w3 w4 w5 w6 w7
      obtain ⟨q0, hq0, rfl⟩ := w1.low q (by omega)
      have he := wsO_at (cy := cy) (ad := ad) hq0
      rw [clO_obj q (by omega)] at he
      exact va_putF hx hb hts (inN hci) (tyN ci) (tyN_ok hci) (nmN hci) hown henv.1 w1.1 w1.2.1 w2 q0 he (CL_at hci) j hj (hts _ hlink) (fun _ z => z) hfin (hnm.trans hini) hdecl (ty := .int) (v := .int v) (by rw [tyN_ok hci j hj, hty]) rfl rfl (by simp [hj]) d
        (fun H1 locs1 hP hD hS => b1 ad H1 locs1 cells slots ls (w1.sIo hq0 q (by omega) hj hI hP hD) hS w3 w4 (ok_pop (ok_pop w5)) w6 w7)
    · rw [if_neg q]; exact V_none
theorem V_putR {K : CT} {cc : ByteArray} {own : String} {ret : Option FieldType} {hh : List (Nat × Nat × Nat × Nat)} {lvl md : Nat} (F : Fr K cc own ret hh lvl md) {pc : Nat} {L : List (Nat × MV)} {st : List MV} {h : MH} {r v : Option Nat} {res : MH → Res} {idx : Nat} (ci j : Nat) (hci : ci < 10) (hj : j < nF ci) (hR : isR ci j = true) (hfin : ((TN ci) j).2.2.2 = false) (hlink : Cond.fieldLink own idx ((TN ci) j).1 ((TN ci) j).2.1 ((TN ci) j).2.2.1 ∈ GW) (d : decode cc pc = .ok (.putfield idx, 3)) (n : ∀ h', V K (pc + 3) L st h' (res h')) : V K pc L (vR v :: vR r :: st) h (pfR h r ci j v res) := by
  cases r with
  | none => exact V_none
  | some a =>
    show V K pc L _ h (if hk h a = ci then res (sR h a j v) else none)
    by_cases q : hk h a = ci
    · rw [if_pos q]
      intro r h' e9
      obtain ⟨a1, b1⟩ := n _ r h' e9
      refine ⟨a1, ?_⟩
      rcases K with ⟨md1, nL, nm, _ | ⟨p, l, e, R, s, m, args, below, meth, c, D, cy, base, ad0, n0, mc, ms⟩⟩
      · exact True.intro
      obtain ⟨hmd, hx, hb, hml, hown, hts, hlk, henv, hmc, hms, hstk, hret, htab, hlv1, hlv2, hnm⟩ := F
      intro ad H locs cells slots ls w1 w2 w3 w4 w5 w6 w7
      obtain ⟨q0, hq0, rfl⟩ := w1.low q (by omega)
      have he := wsO_at (cy := cy) (ad := ad) hq0
      rw [clO_obj q (by omega)] at he
      obtain ⟨f1, f2⟩ := nwf (t := tyN ci j) hR (v.map ad)
      exact va_put hx hb hts (inN hci) (tyN ci) (tyN_ok hci) (nmN hci) hown henv.1 w1.1 w1.2.1 w2 q0 he (CL_at hci) j hj (hts _ hlink) (fun _ z => z) hfin (ty := tyN ci j) (v := va_rf (v.map ad)) (tyN_ok hci j hj) f1 f2 (by simp [hj]) d
        (fun H1 locs1 hP hD hS => b1 ad H1 locs1 cells slots ls (w1.sRo hq0 q (by omega) hj hR (ok_hd w5) hP hD) hS w3 w4 (ok_pop (ok_pop w5)) w6 w7)
    · rw [if_neg q]; exact V_none
theorem V_putRF {K : CT} {cc : ByteArray} {own : String} {ret : Option FieldType} {hh : List (Nat × Nat × Nat × Nat)} {lvl md : Nat} (F : Fr K cc own ret hh lvl md) {pc : Nat} {L : List (Nat × MV)} {st : List MV} {h : MH} {r v : Option Nat} {res : MH → Res} {idx : Nat} (hini : nmK K "<init>") (ci j : Nat) (hci : ci < 10) (hj : j < nF ci) (hR : isR ci j = true) (hfin : ((TN ci) j).2.2.2 = true) (hdecl : ((TN ci) j).1 = own) (hlink : Cond.fieldLink own idx ((TN ci) j).1 ((TN ci) j).2.1 ((TN ci) j).2.2.1 ∈ GW) (d : decode cc pc = .ok (.putfield idx, 3)) (n : ∀ h', V K (pc + 3) L st h' (res h')) : V K pc L (vR v :: vR r :: st) h (pfR h r ci j v res) := by
  cases r with
  | none => exact V_none
  | some a =>
    show V K pc L _ h (if hk h a = ci then res (sR h a j v) else none)
    by_cases q : hk h a = ci
    · rw [if_pos q]
      intro r h' e9
      obtain ⟨a1, b1⟩ := n _ r h' e9
      refine ⟨a1, ?_⟩
      rcases K with ⟨md1, nL, nm, _ | ⟨p, l, e, R, s, m, args, below, meth, c, D, cy, base, ad0, n0, mc, ms⟩⟩
      · exact True.intro
      obtain ⟨hmd, hx, hb, hml, hown, hts, hlk, henv, hmc, hms, hstk, hret, htab, hlv1, hlv2, hnm⟩ := F
      intro ad H locs cells slots ls w1 w2 w3 w4 w5 w6 w7
      obtain ⟨q0, hq0, rfl⟩ := w1.low q (by omega)
      have he := wsO_at (cy := cy) (ad := ad) hq0
      rw [clO_obj q (by omega)] at he
      obtain ⟨f1, f2⟩ := nwf (t := tyN ci j) hR (v.map ad)
      exact va_putF hx hb hts (inN hci) (tyN ci) (tyN_ok hci) (nmN hci) hown henv.1 w1.1 w1.2.1 w2 q0 he (CL_at hci) j hj (hts _ hlink) (fun _ z => z) hfin (hnm.trans hini) hdecl (ty := tyN ci j) (v := va_rf (v.map ad)) (tyN_ok hci j hj) f1 f2 (by simp [hj]) d
        (fun H1 locs1 hP hD hS => b1 ad H1 locs1 cells slots ls (w1.sRo hq0 q (by omega) hj hR (ok_hd w5) hP hD) hS w3 w4 (ok_pop (ok_pop w5)) w6 w7)
    · rw [if_neg q]; exact V_none
theorem V_iald {K : CT} {cc : ByteArray} {own : String} {ret : Option FieldType} {hh : List (Nat × Nat × Nat × Nat)} {lvl md : Nat} (F : Fr K cc own ret hh lvl md) {pc : Nat} {L : List (Nat × MV)} {st : List MV} {h : MH} {r : Option Nat} {i : Int32} {res : Int32 → Res} (d : decode cc pc = .ok (.iaload, 1)) (n : ∀ z, V K (pc + 1) L (vI z :: st) h (res z)) : V K pc L (vI i :: vR r :: st) h (rdI h r 20 i res) := by
  cases r with
  | none => exact V_none
  | some a =>
    show V K pc L _ h (if hk h a = 20 ∧ 0 ≤ i ∧ i.toNatClampNeg < hl h a then res (hi h a i.toNatClampNeg) else none)
    by_cases q : hk h a = 20 ∧ 0 ≤ i ∧ i.toNatClampNeg < hl h a
    · rw [if_pos q]
      obtain ⟨q1, q2, q3⟩ := q
      intro r h' e9
      obtain ⟨a1, b1⟩ := n _ r h' e9
      refine ⟨a1, ?_⟩
      rcases K with ⟨md1, nL, nm, _ | ⟨p, l, e, R, s, m, args, below, meth, c, D, cy, base, ad0, n0, mc, ms⟩⟩
      · exact True.intro
      obtain ⟨hmd, hx, hb, hml, hown, hts, hlk, henv, hmc, hms, hstk, hret, htab, hlv1, hlv2, hnm⟩ := F
      intro ad H locs cells slots ls w1 w2 w3 w4 w5 w6 w7
      obtain ⟨q0, hq0, rfl⟩ := w1.low q1 (by omega)
      have he := wsO_at (cy := cy) (ad := ad) hq0
      rw [clO_int q1 (by omega) (by omega)] at he
      obtain ⟨t0, ht0⟩ := TYL_at (cy := cy) (k := 20) (by decide)
      exact va_iald hx hb henv.1 w1.1 q0 t0 he ht0 (vpin q2 q3) d (b1 ad H locs cells slots ls w1 w2 w3 w4 (ok_psh okv_I (ok_pop (ok_pop w5))) w6 w7)
    · rw [if_neg q]; exact V_none
theorem V_zald {K : CT} {cc : ByteArray} {own : String} {ret : Option FieldType} {hh : List (Nat × Nat × Nat × Nat)} {lvl md : Nat} (F : Fr K cc own ret hh lvl md) {pc : Nat} {L : List (Nat × MV)} {st : List MV} {h : MH} {r : Option Nat} {i : Int32} {res : Int32 → Res} (d : decode cc pc = .ok (.baload, 1)) (n : ∀ z, V K (pc + 1) L (vI z :: st) h (res z)) : V K pc L (vI i :: vR r :: st) h (rdI h r 21 i res) := by
  cases r with
  | none => exact V_none
  | some a =>
    show V K pc L _ h (if hk h a = 21 ∧ 0 ≤ i ∧ i.toNatClampNeg < hl h a then res (hi h a i.toNatClampNeg) else none)
    by_cases q : hk h a = 21 ∧ 0 ≤ i ∧ i.toNatClampNeg < hl h a
    · rw [if_pos q]
      obtain ⟨q1, q2, q3⟩ := q
      intro r h' e9
      obtain ⟨a1, b1⟩ := n _ r h' e9
      refine ⟨a1, ?_⟩
      rcases K with ⟨md1, nL, nm, _ | ⟨p, l, e, R, s, m, args, below, meth, c, D, cy, base, ad0, n0, mc, ms⟩⟩
      · exact True.intro
      obtain ⟨hmd, hx, hb, hml, hown, hts, hlk, henv, hmc, hms, hstk, hret, htab, hlv1, hlv2, hnm⟩ := F
      intro ad H locs cells slots ls w1 w2 w3 w4 w5 w6 w7
      obtain ⟨q0, hq0, rfl⟩ := w1.low q1 (by omega)
      have he := wsO_at (cy := cy) (ad := ad) hq0
      rw [clO_int q1 (by omega) (by omega)] at he
      obtain ⟨t0, ht0⟩ := TYL_at (cy := cy) (k := 21) (by decide)
      exact va_zald hx hb henv.1 w1.1 q0 t0 he ht0 (vpin q2 q3) d (b1 ad H locs cells slots ls w1 w2 w3 w4 (ok_psh okv_I (ok_pop (ok_pop w5))) w6 w7)
    · rw [if_neg q]; exact V_none
theorem V_iast {K : CT} {cc : ByteArray} {own : String} {ret : Option FieldType} {hh : List (Nat × Nat × Nat × Nat)} {lvl md : Nat} (F : Fr K cc own ret hh lvl md) {pc : Nat} {L : List (Nat × MV)} {st : List MV} {h : MH} {r : Option Nat} {i v : Int32} {res : MH → Res} (d : decode cc pc = .ok (.iastore, 1)) (n : ∀ h', V K (pc + 1) L st h' (res h')) : V K pc L (vI v :: vI i :: vR r :: st) h (wrI h r 20 i v res) := by
  cases r with
  | none => exact V_none
  | some a =>
    show V K pc L _ h (if hk h a = 20 ∧ 0 ≤ i ∧ i.toNatClampNeg < hl h a ∧ (20 = 21 → v = 0 ∨ v = 1) then res (sI h a i.toNatClampNeg v) else none)
    by_cases q : hk h a = 20 ∧ 0 ≤ i ∧ i.toNatClampNeg < hl h a ∧ (20 = 21 → v = 0 ∨ v = 1)
    · rw [if_pos q]
      obtain ⟨q1, q2, q3, -⟩ := q
      intro r h' e9
      obtain ⟨a1, b1⟩ := n _ r h' e9
      refine ⟨a1, ?_⟩
      rcases K with ⟨md1, nL, nm, _ | ⟨p, l, e, R, s, m, args, below, meth, c, D, cy, base, ad0, n0, mc, ms⟩⟩
      · exact True.intro
      obtain ⟨hmd, hx, hb, hml, hown, hts, hlk, henv, hmc, hms, hstk, hret, htab, hlv1, hlv2, hnm⟩ := F
      intro ad H locs cells slots ls w1 w2 w3 w4 w5 w6 w7
      obtain ⟨q0, hq0, rfl⟩ := w1.low q1 (by omega)
      have he := wsO_at (cy := cy) (ad := ad) hq0
      rw [clO_int q1 (by omega) (by omega)] at he
      obtain ⟨t0, ht0⟩ := TYL_at (cy := cy) (k := 20) (by decide)
      exact va_iast hx hb henv.1 w1.1 w1.2.1 w2 q0 t0 he ht0 (vpin q2 q3) d
        (fun H1 locs1 hP hD hS => b1 ad H1 locs1 cells slots ls (w1.sIa hq0 q1 (by omega) (by omega) hP hD sI_row) hS w3 w4 (ok_pop (ok_pop (ok_pop w5))) w6 w7)
    · rw [if_neg q]; exact V_none
theorem V_zast {K : CT} {cc : ByteArray} {own : String} {ret : Option FieldType} {hh : List (Nat × Nat × Nat × Nat)} {lvl md : Nat} (F : Fr K cc own ret hh lvl md) {pc : Nat} {L : List (Nat × MV)} {st : List MV} {h : MH} {r : Option Nat} {i v : Int32} {res : MH → Res} (d : decode cc pc = .ok (.bastore, 1)) (n : ∀ h', V K (pc + 1) L st h' (res h')) : V K pc L (vI v :: vI i :: vR r :: st) h (wrI h r 21 i v res) := by
  cases r with
  | none => exact V_none
  | some a =>
    show V K pc L _ h (if hk h a = 21 ∧ 0 ≤ i ∧ i.toNatClampNeg < hl h a ∧ (21 = 21 → v = 0 ∨ v = 1) then res (sI h a i.toNatClampNeg v) else none)
    by_cases q : hk h a = 21 ∧ 0 ≤ i ∧ i.toNatClampNeg < hl h a ∧ (21 = 21 → v = 0 ∨ v = 1)
    · rw [if_pos q]
      obtain ⟨q1, q2, q3, q4⟩ := q
      intro r h' e9
      obtain ⟨a1, b1⟩ := n _ r h' e9
      refine ⟨a1, ?_⟩
      rcases K with ⟨md1, nL, nm, _ | ⟨p, l, e, R, s, m, args, below, meth, c, D, cy, base, ad0, n0, mc, ms⟩⟩
      · exact True.intro
      obtain ⟨hmd, hx, hb, hml, hown, hts, hlk, henv, hmc, hms, hstk, hret, htab, hlv1, hlv2, hnm⟩ := F
      intro ad H locs cells slots ls w1 w2 w3 w4 w5 w6 w7
      obtain ⟨q0, hq0, rfl⟩ := w1.low q1 (by omega)
      have he := wsO_at (cy := cy) (ad := ad) hq0
      rw [clO_int q1 (by omega) (by omega)] at he
      obtain ⟨t0, ht0⟩ := TYL_at (cy := cy) (k := 21) (by decide)
      have hv : vp_nar .boolean v = v := by
        rcases q4 rfl with rfl | rfl <;> decide
      refine va_zast hx hb henv.1 w1.1 w1.2.1 w2 q0 t0 he ht0 (vpin q2 q3) d
        (fun H1 locs1 hP hD hS => b1 ad H1 locs1 cells slots ls (w1.sIa hq0 q1 (by omega) (by omega) hP hD ?_) hS w3 w4 (ok_pop (ok_pop (ok_pop w5))) w6 w7)
      rw [hv]; exact sI_row
    · rw [if_neg q]; exact V_none
theorem kd_ref {k : Nat} (h : 22 ≤ k ∧ k < 26) : k ∈ AK ∧ ∃ C, tyK k = .object C ∧ C = RN (coK k) ∧ coK k < 10 := by
  obtain ⟨h1, h2⟩ := h
  rcases (show k = 22 ∨ k = 23 ∨ k = 24 ∨ k = 25 by omega) with rfl | rfl | rfl | rfl <;> exact ⟨by decide, _, rfl, rfl, by decide⟩
theorem V_aald {K : CT} {cc : ByteArray} {own : String} {ret : Option FieldType} {hh : List (Nat × Nat × Nat × Nat)} {lvl md : Nat} (F : Fr K cc own ret hh lvl md) {pc : Nat} {L : List (Nat × MV)} {st : List MV} {h : MH} {r : Option Nat} {i : Int32} {res : Option Nat → Res} (d : decode cc pc = .ok (.aaload, 1)) (n : ∀ z, V K (pc + 1) L (vR z :: st) h (res z)) : V K pc L (vI i :: vR r :: st) h (rdR h r i res) := by
  cases r with
  | none => exact V_none
  | some a =>
    show V K pc L _ h (if (22 ≤ hk h a ∧ hk h a < 26) ∧ 0 ≤ i ∧ i.toNatClampNeg < hl h a then res (hr h a i.toNatClampNeg) else none)
    by_cases q : (22 ≤ hk h a ∧ hk h a < 26) ∧ 0 ≤ i ∧ i.toNatClampNeg < hl h a
    · rw [if_pos q]
      obtain ⟨q1, q2, q3⟩ := q
      intro r h' e9
      obtain ⟨a1, b1⟩ := n _ r h' e9
      refine ⟨a1, ?_⟩
      rcases K with ⟨md1, nL, nm, _ | ⟨p, l, e, R, s, m, args, below, meth, c, D, cy, base, ad0, n0, mc, ms⟩⟩
      · exact True.intro
      obtain ⟨hmd, hx, hb, hml, hown, hts, hlk, henv, hmc, hms, hstk, hret, htab, hlv1, hlv2, hnm⟩ := F
      intro ad H locs cells slots ls w1 w2 w3 w4 w5 w6 w7
      obtain ⟨q0, hq0, rfl⟩ := w1.low (k := hk h a) rfl (by omega)
      have he := wsO_at (cy := cy) (ad := ad) hq0
      rw [clO_ref rfl (by omega) (by omega)] at he
      obtain ⟨g1, C, g2, -⟩ := kd_ref q1
      obtain ⟨t0, ht0⟩ := TYL_at (cy := cy) g1
      rw [g2] at ht0
      exact va_aldq hx hb henv.1 w1.1 q0 t0 he ht0 (vpin q2 q3) d (b1 ad H locs cells slots ls w1 w2 w3 w4 (ok_psh (fun b eb => w1.2.2.2 _ _ b (vR_inj eb)) (ok_pop (ok_pop w5))) w6 w7)
    · rw [if_neg q]; exact V_none
theorem V_aast {K : CT} {cc : ByteArray} {own : String} {ret : Option FieldType} {hh : List (Nat × Nat × Nat × Nat)} {lvl md : Nat} (F : Fr K cc own ret hh lvl md) {pc : Nat} {L : List (Nat × MV)} {st : List MV} {h : MH} {r v : Option Nat} {i : Int32} {res : MH → Res} (d : decode cc pc = .ok (.aastore, 1)) (n : ∀ h', V K (pc + 1) L st h' (res h')) : V K pc L (vR v :: vI i :: vR r :: st) h (wrR h r i v res) := by
  cases r with
  | none => exact V_none
  | some a =>
    cases v with
    | none => exact V_none
    | some b =>
      show V K pc L _ h (if (22 ≤ hk h a ∧ hk h a < 26) ∧ 0 ≤ i ∧ i.toNatClampNeg < hl h a ∧ hk h b = coK (hk h a) then res (sR h a i.toNatClampNeg (some b)) else none)
      by_cases q : (22 ≤ hk h a ∧ hk h a < 26) ∧ 0 ≤ i ∧ i.toNatClampNeg < hl h a ∧ hk h b = coK (hk h a)
      · rw [if_pos q]
        obtain ⟨q1, q2, q3, q4⟩ := q
        intro r h' e9
        obtain ⟨a1, b1⟩ := n _ r h' e9
        refine ⟨a1, ?_⟩
        rcases K with ⟨md1, nL, nm, _ | ⟨p, l, e, R, s, m, args, below, meth, c, D, cy, base, ad0, n0, mc, ms⟩⟩
        · exact True.intro
        obtain ⟨hmd, hx, hb, hml, hown, hts, hlk, henv, hmc, hms, hstk, hret, htab, hlv1, hlv2, hnm⟩ := F
        intro ad H locs cells slots ls w1 w2 w3 w4 w5 w6 w7
        obtain ⟨q0, hq0, rfl⟩ := w1.low (k := hk h a) rfl (by omega)
        have he := wsO_at (cy := cy) (ad := ad) hq0
        rw [clO_ref rfl (by omega) (by omega)] at he
        obtain ⟨g1, C, g2, g3, g4⟩ := kd_ref q1
        obtain ⟨t0, ht0⟩ := TYL_at (cy := cy) g1
        rw [g2, g3] at ht0
        obtain ⟨qb, hqb, rfl⟩ := w1.low q4 (by omega)
        have hev := wsO_at (cy := cy) (ad := ad) hqb
        rw [clO_obj q4 (by omega)] at hev
        exact va_astq hx hb henv.1 w1.1 w1.2.1 w2 q0 t0 qb (coK (hk h (q0 + 1))) (r := (RN (coK (hk h (q0 + 1))), TN (coK (hk h (q0 + 1))), nF (coK (hk h (q0 + 1))))) he ht0 hev (CL_at g4) (vpin q2 q3) d
          (fun H1 locs1 hP hD hS => b1 ad H1 locs1 cells slots ls (w1.sRa hq0 rfl (by omega) (by omega) (by omega) hP hD) hS w3 w4 (ok_pop (ok_pop (ok_pop w5))) w6 w7)
      · rw [if_neg q]; exact V_none
theorem V_lald {K : CT} {cc : ByteArray} {own : String} {ret : Option FieldType} {hh : List (Nat × Nat × Nat × Nat)} {lvl md : Nat} (F : Fr K cc own ret hh lvl md) {pc : Nat} {L : List (Nat × MV)} {st : List MV} {h : MH} {r : Option Nat} {i : Int32} {res : Int64 → Res} (d : decode cc pc = .ok (.laload, 1)) (n : ∀ z, V K (pc + 1) L (vL z :: st) h (res z)) : V K pc L (vI i :: vR r :: st) h (rdQ h r i res) := by
  cases r with
  | none => exact V_none
  | some a =>
    show V K pc L _ h (if hk h a = 30 ∧ 0 ≤ i ∧ i.toNatClampNeg < hl h a then res (hq h a i.toNatClampNeg) else none)
    by_cases q : hk h a = 30 ∧ 0 ≤ i ∧ i.toNatClampNeg < hl h a
    · rw [if_pos q]
      obtain ⟨q1, q2, q3⟩ := q
      intro r h' e9
      obtain ⟨a1, b1⟩ := n _ r h' e9
      refine ⟨a1, ?_⟩
      rcases K with ⟨md1, nL, nm, _ | ⟨p, l, e, R, s, m, args, below, meth, c, D, cy, base, ad0, n0, mc, ms⟩⟩
      · exact True.intro
      obtain ⟨hmd, hx, hb, hml, hown, hts, hlk, henv, hmc, hms, hstk, hret, htab, hlv1, hlv2, hnm⟩ := F
      intro ad H locs cells slots ls w1 w2 w3 w4 w5 w6 w7
      obtain ⟨q0, hq0, rfl⟩ := w1.low q1 (by omega)
      have he := wsO_at (cy := cy) (ad := ad) hq0
      rw [clO_lng q1] at he
      obtain ⟨t0, ht0⟩ := TYL_at (cy := cy) (k := 30) (by decide)
      exact va_lald hx hb henv.1 w1.1 q0 t0 he ht0 (vpin q2 q3) d (b1 ad H locs cells slots ls w1 w2 w3 w4 (ok_psh okv_L (ok_pop (ok_pop w5))) w6 w7)
    · rw [if_neg q]; exact V_none
theorem V_last {K : CT} {cc : ByteArray} {own : String} {ret : Option FieldType} {hh : List (Nat × Nat × Nat × Nat)} {lvl md : Nat} (F : Fr K cc own ret hh lvl md) {pc : Nat} {L : List (Nat × MV)} {st : List MV} {h : MH} {r : Option Nat} {i : Int32} {v : Int64} {res : MH → Res} (d : decode cc pc = .ok (.lastore, 1)) (n : ∀ h', V K (pc + 1) L st h' (res h')) : V K pc L (vL v :: vI i :: vR r :: st) h (wrQ h r i v res) := by
  cases r with
  | none => exact V_none
  | some a =>
    show V K pc L _ h (if hk h a = 30 ∧ 0 ≤ i ∧ i.toNatClampNeg < hl h a then res (sQ h a i.toNatClampNeg v) else none)
    by_cases q : hk h a = 30 ∧ 0 ≤ i ∧ i.toNatClampNeg < hl h a
    · rw [if_pos q]
      obtain ⟨q1, q2, q3⟩ := q
      intro r h' e9
      obtain ⟨a1, b1⟩ := n _ r h' e9
      refine ⟨a1, ?_⟩
      rcases K with ⟨md1, nL, nm, _ | ⟨p, l, e, R, s, m, args, below, meth, c, D, cy, base, ad0, n0, mc, ms⟩⟩
      · exact True.intro
      obtain ⟨hmd, hx, hb, hml, hown, hts, hlk, henv, hmc, hms, hstk, hret, htab, hlv1, hlv2, hnm⟩ := F
      intro ad H locs cells slots ls w1 w2 w3 w4 w5 w6 w7
      obtain ⟨q0, hq0, rfl⟩ := w1.low q1 (by omega)
      have he := wsO_at (cy := cy) (ad := ad) hq0
      rw [clO_lng q1] at he
      obtain ⟨t0, ht0⟩ := TYL_at (cy := cy) (k := 30) (by decide)
      exact va_last hx hb henv.1 w1.1 w1.2.1 w2 q0 t0 he ht0 (vpin q2 q3) d
        (fun H1 locs1 hP hD hS => b1 ad H1 locs1 cells slots ls (w1.sQa hq0 q1 hP hD) hS w3 w4 (ok_pop (ok_pop (ok_pop w5))) w6 w7)
    · rw [if_neg q]; exact V_none
theorem V_alen {K : CT} {cc : ByteArray} {own : String} {ret : Option FieldType} {hh : List (Nat × Nat × Nat × Nat)} {lvl md : Nat} (F : Fr K cc own ret hh lvl md) {pc : Nat} {L : List (Nat × MV)} {st : List MV} {h : MH} {r : Option Nat} {res : Int32 → Res} (d : decode cc pc = .ok (.arraylength, 1)) (n : ∀ z, V K (pc + 1) L (vI z :: st) h (res z)) : V K pc L (vR r :: st) h (aln h r res) := by
  cases r with
  | none => exact V_none
  | some a =>
    show V K pc L _ h (if hk h a ∈ AK then res (Int32.ofNat (hl h a)) else none)
    by_cases q : hk h a ∈ AK
    · rw [if_pos q]
      have q40 := AK40 q
      intro r h' e9
      obtain ⟨a1, b1⟩ := n _ r h' e9
      refine ⟨a1, ?_⟩
      rcases K with ⟨md1, nL, nm, _ | ⟨p, l, e, R, s, m, args, below, meth, c, D, cy, base, ad0, n0, mc, ms⟩⟩
      · exact True.intro
      obtain ⟨hmd, hx, hb, hml, hown, hts, hlk, henv, hmc, hms, hstk, hret, htab, hlv1, hlv2, hnm⟩ := F
      intro ad H locs cells slots ls w1 w2 w3 w4 w5 w6 w7
      obtain ⟨q0, hq0, rfl⟩ := w1.low (k := hk h a) rfl (by omega)
      have he := wsO_at (cy := cy) (ad := ad) hq0
      obtain ⟨x9, g1, g2⟩ := clO_arr (cy := cy) (ad := ad) (h := h) (a := q0 + 1) rfl (by omega)
      rw [g1] at he
      obtain ⟨t0, ht0⟩ := TYL_at (cy := cy) q
      exact va_alen hx hb henv.1 w1.1 q0 t0 he ht0 (by rw [g2]) d (b1 ad H locs cells slots ls w1 w2 w3 w4 (ok_psh okv_I (ok_pop w5)) w6 w7)
    · rw [if_neg q]; exact V_none
end
section
/-! new cells, copies, ends -/
theorem clO_newO {cy : Nat → ClassId} {ad : Nat → Nat} {h : MH} {ci n : Nat} (hci : ci < 20) : clO cy ad (alc h ci n) (hn h + 1) = .inr (ci, (List.range (nF ci)).map fun j => if isR ci j = true then .null else .int 0) := by
  rw [clO_obj (h := alc h ci n) (ci := ci) up1_s hci]
  refine congrArg _ (congrArg _ (List.map_congr_left fun j _ => ?_))
  show (if isR ci j = true then va_rf ((upr (hr h) (hn h + 1) (fun _ => none) (hn h + 1) j).map ad) else Value.int (upr (hi h) (hn h + 1) (fun _ => 0) (hn h + 1) j)) = _
  rw [upr_s, upr_s]; rfl
def allD (k : Nat) : Bool := (List.range (nF k)).all fun j => match tyN k j with
  | .int => true
  | .object _ => true
  | .array _ => true
  | _ => false
theorem dflt {ci j : Nat} (hci : allD ci = true) (hj : j < nF ci) : defaultValue (tyN ci j) = vp_V ((List.range (nF ci)).map fun j => if isR ci j = true then Value.null else .int 0) j := by
  have h1 := List.all_eq_true.mp hci j (List.mem_range.mpr hj)
  have h2 : vp_V ((List.range (nF ci)).map fun j => if isR ci j = true then Value.null else .int 0) j = if isR ci j = true then Value.null else .int 0 := by
    simp [vp_V, hj]
  rw [h2]
  unfold isR
  cases ht : tyN ci j <;> rw [ht] at h1 <;> first | rfl | (simp at h1)
theorem V_new {K : CT} {cc : ByteArray} {own : String} {ret : Option FieldType} {hh : List (Nat × Nat × Nat × Nat)} {lvl md : Nat} (F : Fr K cc own ret hh lvl md) {pc : Nat} {L : List (Nat × MV)} {st : List MV} {h : MH} {res : Option Nat → MH → Res} {idx : Nat} (ci : Nat) (hci : ci < 10) (hall : allD ci = true) (hk : Cond.classLink own idx (RN ci) ∈ GW) (hin : Cond.instantiable (RN ci) (nF ci) ∈ GW) (hini : Cond.initialized (RN ci) ∈ GW) (d : decode cc pc = .ok (.new idx, 3)) (n : ∀ r h', V K (pc + 3) L (vR r :: st) h' (res r h')) : V K pc L st h (nwO h ci res) := by
  intro r h' e9
  obtain ⟨a1, b1⟩ := n (some (hn h + 1)) (alc h ci (nF ci)) r h' e9
  obtain ⟨⟨z1, z2, z3⟩, z4⟩ := a1
  have y1 : hn h + 1 ≤ hn h' := z1
  have y2 : hc h + 1 ≤ hc h' := z2
  have y3 : hs h + nF ci ≤ hs h' := z3
  refine ⟨⟨⟨by omega, by omega, by omega⟩, z4⟩, ?_⟩
  rcases K with ⟨md1, nL, nm, _ | ⟨p, l, e, R, s, m, args, below, meth, c, D, cy, base, ad0, n0, mc, ms⟩⟩
  · exact True.intro
  obtain ⟨hmd, hx, hb, hml, hown, hts, hlk, henv, hmc, hms, hstk, hret, htab, hlv1, hlv2, hnm⟩ := F
  intro ad H locs cells slots ls w1 w2 w3 w4 w5 w6 w7
  obtain ⟨v1, v2⟩ := w7
  refine va_new hx hb hts (inN hci) (tyN ci) (tyN_ok hci) hown (hts _ hk) (hts _ hin) (hts _ hini) henv.1 w1.1 w1.2.1 w2 (fun q hq => Nat.le_trans henv.2.2.2.2.2.2.2.2 hq) (CL_at hci) (fun j hj => dflt hall hj) (by omega) (by omega) d (fun q H1 hP hD hS => ?_)
  have hag : ∀ z, z < hn h + 1 → up1 ad (hn h + 1) q z = ad z := fun z hz => up1_o (by omega)
  have w1' := w1.push (kd := ci) (n := nF ci) (clO_newO (by omega)).symm hP hD
  have k9 := b1 (up1 ad (hn h + 1) q) H1 locs (cells + 1) (slots + nF ci) ls w1' hS ⟨fun z hz => (hag z (by omega)).trans (w3.1 z hz), by show n0 ≤ hn h + 1 + 1; omega⟩ (by rw [map_cvl_congr w6 hag]; exact w4)
    (ok_psh (fun a ea => by cases ea; exact Nat.le_refl _) fun v hv => okv_mono (w5 v hv) (Nat.le_succ _)) (fun z hz => okv_mono (w6 z hz) (Nat.le_succ _)) ⟨by show cells + 1 + (hc h' - (hc h + 1)) ≤ mc; omega, by show slots + nF ci + (hs h' - (hs h + nF ci)) ≤ ms; omega⟩
  have e1 : cv (up1 ad (hn h + 1) q) (vR (some (hn h + 1))) = .ref q := by
    show va_rf (some (up1 ad (hn h + 1) q (hn h + 1))) = _
    rw [up1_s]; rfl
  rw [List.map_cons, e1, map_cv_congr w5 hag] at k9
  exact k9
def atK (k : Nat) : ArrayType := match k with
  | 20 => .int
  | 21 => .boolean
  | _ => .long
theorem clO_newA {cy : Nat → ClassId} {ad : Nat → Nat} {h : MH} {k n : Nat} (hk : k = 20 ∨ k = 21 ∨ k = 30) : ∃ x : vp_A, clO cy ad (alc h k n) (hn h + 1) = .inl (cy k, x) ∧ ∀ cA : ClassId, vp_cell cA x = arrV cA n (fun _ => defaultValue (tyK k)) := by
  have l1 : hl (alc h k n) (hn h + 1) = n := up1_s
  rcases hk with rfl | rfl | rfl
  · refine ⟨(n, .inl fun _ => 0), ?_, fun _ => rfl⟩
    rw [clO_int (h := alc h 20 n) (k := 20) up1_s (by omega) (by omega), l1]
    show Sum.inl (cy 20, n, Sum.inl (upr (hi h) (hn h + 1) (fun _ => 0) (hn h + 1))) = _
    rw [upr_s]
  · refine ⟨(n, .inl fun _ => 0), ?_, fun _ => rfl⟩
    rw [clO_int (h := alc h 21 n) (k := 21) up1_s (by omega) (by omega), l1]
    show Sum.inl (cy 21, n, Sum.inl (upr (hi h) (hn h + 1) (fun _ => 0) (hn h + 1))) = _
    rw [upr_s]
  · refine ⟨(n, .inr (.inl fun _ => 0)), ?_, fun _ => rfl⟩
    rw [clO_lng (h := alc h 30 n) up1_s, l1]
    show Sum.inl (cy 30, n, Sum.inr (Sum.inl (upr (hq h) (hn h + 1) (fun _ => 0) (hn h + 1)))) = _
    rw [upr_s]
theorem cb_le (k : Nat) : componentBytes (tyK k) ≤ 8 := by
  unfold tyK
  split <;> decide
theorem V_newa {K : CT} {cc : ByteArray} {own : String} {ret : Option FieldType} {hh : List (Nat × Nat × Nat × Nat)} {lvl md : Nat} (F : Fr K cc own ret hh lvl md) {pc : Nat} {L : List (Nat × MV)} {st : List MV} {h : MH} {res : Option Nat → MH → Res} {x : Int32} (kd : Nat) (hkd : kd = 20 ∨ kd = 21 ∨ kd = 30) (harr : Cond.arrayClass (tyK kd) ∈ GW) (d : decode cc pc = .ok (.newarray (atK kd), 2)) (n : ∀ r h', V K (pc + 2) L (vR r :: st) h' (res r h')) : V K pc L (vI x :: st) h (nwA h kd x res) := by
  unfold nwA
  by_cases q9 : 0 ≤ x ∧ x.toNatClampNeg ≤ 1000
  · rw [if_pos q9]
    obtain ⟨q1, q2⟩ := q9
    intro r h' e9
    obtain ⟨a1, b1⟩ := n (some (hn h + 1)) (alc h kd x.toNatClampNeg) r h' e9
    obtain ⟨⟨z1, z2, z3⟩, z4⟩ := a1
    have y1 : hn h + 1 ≤ hn h' := z1
    have y2 : hc h + 1 ≤ hc h' := z2
    have y3 : hs h + x.toNatClampNeg ≤ hs h' := z3
    refine ⟨⟨⟨by omega, by omega, by omega⟩, z4⟩, ?_⟩
    rcases K with ⟨md1, nL, nm, _ | ⟨p, l, e, R, s, m, args, below, meth, c, D, cy, base, ad0, n0, mc, ms⟩⟩
    · exact True.intro
    obtain ⟨hmd, hx, hb, hml, hown, hts, hlk, henv, hmc, hms, hstk, hret, htab, hlv1, hlv2, hnm⟩ := F
    intro ad H locs cells slots ls w1 w2 w3 w4 w5 w6 w7
    obtain ⟨v1, v2⟩ := w7
    have hty : newarray.typeOf (atK kd) = tyK kd := by rcases hkd with rfl | rfl | rfl <;> rfl
    have hAK : kd ∈ AK := by rcases hkd with rfl | rfl | rfl <;> decide
    have g5 : x.toNatClampNeg * componentBytes (tyK kd) ≤ 1000 * 8 := Nat.mul_le_mul q2 (cb_le kd)
    obtain ⟨x9, g1, g2⟩ := clO_newA (cy := cy) (ad := fun _ => 0) (h := h) (n := x.toNatClampNeg) hkd
    refine va_newa hx hb (by rw [hty]; exact hts _ harr) hty henv.1 w1.1 w1.2.1 w2 (fun q hq => Nat.le_trans henv.2.2.2.2.2.2.2.2 hq) (n := x) (N' := x.toNatClampNeg) (a0 := x9) g2 (Int32.not_lt.mpr q1) rfl (by omega) (by omega) (by omega) d (fun q cA H1 hK hP hD hS => ?_)
    have ecA : cA = cy kd := by
      obtain ⟨t0, ht0⟩ := TYL_at (cy := cy) hAK
      have r1 := (hK.2 (TYL cy).length (cA, tyK kd) (by simp)).2
      exact RA_inj r1 (henv.1.2 t0 _ ht0).2
    subst ecA
    have hag : ∀ z, z < hn h + 1 → up1 ad (hn h + 1) q z = ad z := fun z hz => up1_o (by omega)
    have ecl : (Sum.inl (cy kd, x9) : va_E) = clO cy (up1 ad (hn h + 1) q) (alc h kd x.toNatClampNeg) (hn h + 1) := by
      rw [← g1]
      rcases hkd with rfl | rfl | rfl
      · rw [clO_int (h := alc h 20 x.toNatClampNeg) (k := 20) up1_s (by omega) (by omega), clO_int (h := alc h 20 x.toNatClampNeg) (k := 20) up1_s (by omega) (by omega)]
      · rw [clO_int (h := alc h 21 x.toNatClampNeg) (k := 21) up1_s (by omega) (by omega), clO_int (h := alc h 21 x.toNatClampNeg) (k := 21) up1_s (by omega) (by omega)]
      · rw [clO_lng (h := alc h 30 x.toNatClampNeg) up1_s, clO_lng (h := alc h 30 x.toNatClampNeg) up1_s]
    have w1' := w1.push (kd := kd) (n := x.toNatClampNeg) ecl hP hD
    have k9 := b1 (up1 ad (hn h + 1) q) H1 locs (cells + 1) (slots + x.toNatClampNeg) ls w1' hS ⟨fun z hz => (hag z (by omega)).trans (w3.1 z hz), by show n0 ≤ hn h + 1 + 1; omega⟩ (by rw [map_cvl_congr w6 hag]; exact w4)
      (ok_psh (fun a ea => by cases ea; exact Nat.le_refl _) fun v hv => okv_mono (ok_pop w5 v hv) (Nat.le_succ _)) (fun z hz => okv_mono (w6 z hz) (Nat.le_succ _)) ⟨by show cells + 1 + (hc h' - (hc h + 1)) ≤ mc; omega, by show slots + x.toNatClampNeg + (hs h' - (hs h + x.toNatClampNeg)) ≤ ms; omega⟩
    have e1 : cv (up1 ad (hn h + 1) q) (vR (some (hn h + 1))) = .ref q := by
      show va_rf (some (up1 ad (hn h + 1) q (hn h + 1))) = _
      rw [up1_s]; rfl
    rw [List.map_cons, e1, map_cv_congr (ok_pop w5) hag] at k9
    exact k9
  · rw [if_neg q9]; exact V_none
theorem V_newq {K : CT} {cc : ByteArray} {own : String} {ret : Option FieldType} {hh : List (Nat × Nat × Nat × Nat)} {lvl md : Nat} (F : Fr K cc own ret hh lvl md) {pc : Nat} {L : List (Nat × MV)} {st : List MV} {h : MH} {res : Option Nat → MH → Res} {x : Int32} {idx : Nat} (kd : Nat) (hkd : 22 ≤ kd ∧ kd < 26) (hlink : Cond.classLink own idx (RN (coK kd)) ∈ GW) (hAO : RN (coK kd) ∈ AOL) (d : decode cc pc = .ok (.anewarray idx, 3)) (n : ∀ r h', V K (pc + 3) L (vR r :: st) h' (res r h')) : V K pc L (vI x :: st) h (nwA h kd x res) := by
  unfold nwA
  by_cases q9 : 0 ≤ x ∧ x.toNatClampNeg ≤ 1000
  · rw [if_pos q9]
    obtain ⟨q1, q2⟩ := q9
    intro r h' e9
    obtain ⟨a1, b1⟩ := n (some (hn h + 1)) (alc h kd x.toNatClampNeg) r h' e9
    obtain ⟨⟨z1, z2, z3⟩, z4⟩ := a1
    have y1 : hn h + 1 ≤ hn h' := z1
    have y2 : hc h + 1 ≤ hc h' := z2
    have y3 : hs h + x.toNatClampNeg ≤ hs h' := z3
    refine ⟨⟨⟨by omega, by omega, by omega⟩, z4⟩, ?_⟩
    rcases K with ⟨md1, nL, nm, _ | ⟨p, l, e, R, s, m, args, below, meth, c, D, cy, base, ad0, n0, mc, ms⟩⟩
    · exact True.intro
    obtain ⟨hmd, hx, hb, hml, hown, hts, hlk, henv, hmc, hms, hstk, hret, htab, hlv1, hlv2, hnm⟩ := F
    intro ad H locs cells slots ls w1 w2 w3 w4 w5 w6 w7
    obtain ⟨v1, v2⟩ := w7
    obtain ⟨hAK, C, hC1, hC2, -⟩ := kd_ref hkd
    refine va_newq hx hb hown (hts _ hlink) (henv.2.2.2.1 _ hAO) henv.1 w1.1 w1.2.1 w2 (fun q hq => Nat.le_trans henv.2.2.2.2.2.2.2.2 hq) (Int32.not_lt.mpr q1) rfl (by omega) (by omega) (by omega) d (fun q cA H1 hK hP hD hS => ?_)
    have ecA : cA = cy kd := by
      obtain ⟨t0, ht0⟩ := TYL_at (cy := cy) hAK
      rw [hC1, hC2] at ht0
      have r1 := (hK.2 (TYL cy).length (cA, .object (RN (coK kd))) (by simp)).2
      exact RA_inj r1 (henv.1.2 t0 _ ht0).2
    subst ecA
    have hag : ∀ z, z < hn h + 1 → up1 ad (hn h + 1) q z = ad z := fun z hz => up1_o (by omega)
    have ecl : (Sum.inl (cy kd, x.toNatClampNeg, .inr (.inr (.inr (.inr fun _ => none)))) : va_E) = clO cy (up1 ad (hn h + 1) q) (alc h kd x.toNatClampNeg) (hn h + 1) := by
      rw [clO_ref (h := alc h kd x.toNatClampNeg) (k := kd) up1_s (by omega) (by omega)]
      have l1 : hl (alc h kd x.toNatClampNeg) (hn h + 1) = x.toNatClampNeg := up1_s
      rw [l1]
      refine congrArg (fun z => Sum.inl (cy kd, x.toNatClampNeg, Sum.inr (Sum.inr (Sum.inr (Sum.inr z))))) ?_
      funext j
      show none = (upr (hr h) (hn h + 1) (fun _ => none) (hn h + 1) j).map _
      rw [upr_s]; rfl
    have w1' := w1.push (kd := kd) (n := x.toNatClampNeg) ecl hP hD
    have k9 := b1 (up1 ad (hn h + 1) q) H1 locs (cells + 1) (slots + x.toNatClampNeg) ls w1' hS ⟨fun z hz => (hag z (by omega)).trans (w3.1 z hz), by show n0 ≤ hn h + 1 + 1; omega⟩ (by rw [map_cvl_congr w6 hag]; exact w4)
      (ok_psh (fun a ea => by cases ea; exact Nat.le_refl _) fun v hv => okv_mono (ok_pop w5 v hv) (Nat.le_succ _)) (fun z hz => okv_mono (w6 z hz) (Nat.le_succ _)) ⟨by show cells + 1 + (hc h' - (hc h + 1)) ≤ mc; omega, by show slots + x.toNatClampNeg + (hs h' - (hs h + x.toNatClampNeg)) ≤ ms; omega⟩
    have e1 : cv (up1 ad (hn h + 1) q) (vR (some (hn h + 1))) = .ref q := by
      show va_rf (some (up1 ad (hn h + 1) q (hn h + 1))) = _
      rw [up1_s]; rfl
    rw [List.map_cons, e1, map_cv_congr (ok_pop w5) hag] at k9
    exact k9
  · rw [if_neg q9]; exact V_none
end
section
/-! returns -/
theorem VR_core {K : CT} {cc : ByteArray} {own : String} {ret : Option FieldType} {hh : List (Nat × Nat × Nat × Nat)} {lvl md : Nat} (F : Fr K cc own ret hh lvl md) (hmd1 : md = 0 ∨ md = 1) {pc : Nat} {L : List (Nat × MV)} {st : List MV} {h : MH} {v : Option MV}
    (hok : ∀ w, v = some w → w ∈ st)
    (row : match K.2.2.2 with
      | none => True
      | some (p, l, e, R, s, m, args, below, meth, c, _, _, base, _, _, mc, ms) =>
        ∀ (ad : Nat → Nat) (H : Heap) (locs : List Loc) (ls : Array Slot) (Qc : Array Value → State → Outcome → State → Prop),
          (∀ t : State, t.heap = H → s.WarmedH t.vm → Qc args s (.returned (v.map (cv ad))) t) → (∀ q ∈ locs, bA base q.base) →
          W p l e R s m args below meth c H locs mc ms (MQ below Qc args s mc ms (bA base)) (F0 m pc ls (st.map (cv ad)))) :
    V K pc L st h (some (.inl v, h)) := by
  intro r h' e9
  cases e9
  refine ⟨⟨Hle.rf, fun _ => ⟨_, rfl⟩⟩, ?_⟩
  rcases K with ⟨md1, nL, nm, _ | ⟨p, l, e, R, s, m, args, below, meth, c, D, cy, base, ad0, n0, mc, ms⟩⟩
  · exact True.intro
  obtain ⟨hmd, hx, hb, hml, hown, hts, hlk, henv, hmc, hms, hstk, hret, htab, hlv1, hlv2, hnm⟩ := F
  intro ad H locs cells slots ls w1 w2 w3 w4 w5 w6 w7
  refine W.widen (k := mc) (n := ms) (by omega) (by omega) ?_
  have k9 := row ad H locs ls (QcF D cy base ad0 n0 (.inl v) h) (fun t ht hW => ⟨v, rfl, ⟨ad, w3.1, rfl, fun w hw => w5 w (hok w hw), by rw [ht]; exact w1⟩, w2.F ht⟩) w2.2.2
  have hmd : md1 = md := hmd
  subst hmd
  rcases hmd1 with rfl | rfl
  · exact k9
  · exact vx_ret k9
theorem V_iret {K : CT} {cc : ByteArray} {own : String} {hh : List (Nat × Nat × Nat × Nat)} {lvl md : Nat} (F : Fr K cc own (some .int) hh lvl md) (hmd1 : md = 0 ∨ md = 1) {pc : Nat} {L : List (Nat × MV)} {h : MH} {x : Int32} (d : decode cc pc = .ok (.ireturn, 1)) : V K pc L [vI x] h (some (.inl (some (vI x)), h)) := by
  refine VR_core F hmd1 (fun w hw => by cases hw; exact List.mem_cons_self) ?_
  rcases K with ⟨md1, nL, nm, _ | ⟨p, l, e, R, s, m, args, below, meth, c, D, cy, base, ad0, n0, mc, ms⟩⟩
  · exact True.intro
  obtain ⟨hmd, hx, hb, hml, hown, hts, hlk, henv, hmc, hms, hstk, hret, htab, hlv1, hlv2, hnm⟩ := F
  intro ad H locs ls Qc hq hf
  exact W.iret hx hb hret hq hf d hlk
def rtZ (x : Int32) (h : MH) : Res := if x = 0 ∨ x = 1 then some (.inl (some (vI x)), h) else none
theorem V_zret {K : CT} {cc : ByteArray} {own : String} {hh : List (Nat × Nat × Nat × Nat)} {lvl md : Nat} (F : Fr K cc own (some .boolean) hh lvl md) (hmd1 : md = 0 ∨ md = 1) {pc : Nat} {L : List (Nat × MV)} {h : MH} {x : Int32} (d : decode cc pc = .ok (.ireturn, 1)) : V K pc L [vI x] h (rtZ x h) := by
  unfold rtZ
  by_cases q9 : x = 0 ∨ x = 1
  · rw [if_pos q9]
    refine VR_core F hmd1 (fun w hw => by cases hw; exact List.mem_cons_self) ?_
    rcases K with ⟨md1, nL, nm, _ | ⟨p, l, e, R, s, m, args, below, meth, c, D, cy, base, ad0, n0, mc, ms⟩⟩
    · exact True.intro
    obtain ⟨hmd, hx, hb, hml, hown, hts, hlk, henv, hmc, hms, hstk, hret, htab, hlv1, hlv2, hnm⟩ := F
    intro ad H locs ls Qc hq hf
    exact W.zret hx hb hret (by rcases q9 with rfl | rfl <;> rfl) hq hf d hlk
  · rw [if_neg q9]; exact V_none
theorem V_vret {K : CT} {cc : ByteArray} {own : String} {hh : List (Nat × Nat × Nat × Nat)} {lvl md : Nat} (F : Fr K cc own none hh lvl md) (hmd1 : md = 0 ∨ md = 1) {pc : Nat} {L : List (Nat × MV)} {h : MH} (d : decode cc pc = .ok (.return_, 1)) : V K pc L [] h (some (.inl none, h)) := by
  refine VR_core F hmd1 (fun w hw => by cases hw) ?_
  rcases K with ⟨md1, nL, nm, _ | ⟨p, l, e, R, s, m, args, below, meth, c, D, cy, base, ad0, n0, mc, ms⟩⟩
  · exact True.intro
  obtain ⟨hmd, hx, hb, hml, hown, hts, hlk, henv, hmc, hms, hstk, hret, htab, hlv1, hlv2, hnm⟩ := F
  intro ad H locs ls Qc hq hf
  exact W.vret hx hb hret hq hf d hlk
theorem V_lret {K : CT} {cc : ByteArray} {own : String} {hh : List (Nat × Nat × Nat × Nat)} {lvl md : Nat} (F : Fr K cc own (some .long) hh lvl md) (hmd1 : md = 0 ∨ md = 1) {pc : Nat} {L : List (Nat × MV)} {h : MH} {x : Int64} (d : decode cc pc = .ok (.lreturn, 1)) : V K pc L [vL x] h (some (.inl (some (vL x)), h)) := by
  refine VR_core F hmd1 (fun w hw => by cases hw; exact List.mem_cons_self) ?_
  rcases K with ⟨md1, nL, nm, _ | ⟨p, l, e, R, s, m, args, below, meth, c, D, cy, base, ad0, n0, mc, ms⟩⟩
  · exact True.intro
  obtain ⟨hmd, hx, hb, hml, hown, hts, hlk, henv, hmc, hms, hstk, hret, htab, hlv1, hlv2, hnm⟩ := F
  intro ad H locs ls Qc hq hf
  exact W.lret hx hb hret hq hf d hlk
theorem V_aret {K : CT} {cc : ByteArray} {own : String} {rt : FieldType} {hh : List (Nat × Nat × Nat × Nat)} {lvl md : Nat} (F : Fr K cc own (some rt) hh lvl md) (hmd1 : md = 0 ∨ md = 1) (hrt : (∃ n, rt = .object n) ∨ ∃ t, rt = .array t) {pc : Nat} {L : List (Nat × MV)} {h : MH} {x : Option Nat} (d : decode cc pc = .ok (.areturn, 1)) : V K pc L [vR x] h (some (.inl (some (vR x)), h)) := by
  refine VR_core F hmd1 (fun w hw => by cases hw; exact List.mem_cons_self) ?_
  rcases K with ⟨md1, nL, nm, _ | ⟨p, l, e, R, s, m, args, below, meth, c, D, cy, base, ad0, n0, mc, ms⟩⟩
  · exact True.intro
  obtain ⟨hmd, hx, hb, hml, hown, hts, hlk, henv, hmc, hms, hstk, hret, htab, hlv1, hlv2, hnm⟩ := F
  intro ad H locs ls Qc hq hf
  exact W.aret hx hb hret hrt (va_rf_or _) hq hf d hlk
/-! contracts and calls -/
def calG (res : Res) (k : Option MV → MH → Res) (kx : Nat → MH → Res) : Res := match res with
  | none => none
  | some (.inl v, h) => k v h
  | some (.inr x, h) => kx x h
def toI (k : Int32 → MH → Res) : Option MV → MH → Res := fun v h => match v with
  | some (.inl x) => k x h
  | _ => none
def toR (k : Option Nat → MH → Res) : Option MV → MH → Res := fun v h => match v with
  | some (.inr (.inl x)) => k x h
  | _ => none
def toL (k : Int64 → MH → Res) : Option MV → MH → Res := fun v h => match v with
  | some (.inr (.inr x)) => k x h
  | _ => none
def toV (k : MH → Res) : Option MV → MH → Res := fun v h => match v with
  | none => k h
  | _ => none
def prp : Nat → MH → Res := fun x h => some (.inr x, h)
def calI (res : Res) (k : Int32 → MH → Res) : Res := calG res (toI k) prp
def calR (res : Res) (k : Option Nat → MH → Res) : Res := calG res (toR k) prp
def calL (res : Res) (k : Int64 → MH → Res) : Res := calG res (toL k) prp
def calV (res : Res) (k : MH → Res) : Res := calG res (toV k) prp
def RM (lvl mc ms : Nat) : Room := { frames := lvl, cells := mc, slots := ms, locals := 40 * lvl + 12 }
def WSm (y : MethodName) (b : ByteArray) (maxL : Nat) (ret : Option FieldType) : List Cond := Cond.code y b maxL ret :: GW
def WSw (y : MethodName) (b : ByteArray) (maxL : Nat) (ret : Option FieldType) (hh : List (Nat × Nat × Nat × Nat)) : List Cond := Cond.codeWith y b maxL ret hh :: GW
def CtrM (y : MethodName) (ws : List Cond) (lvl : Nat) (vs : List MV) (h : MH) (res : Res) : Prop :=
  ∀ (r : MR) (h' : MH), res = some (r, h') → Hle h h' ∧ (∃ v, r = .inl v) ∧ ∀ (l : Launch) (D : va_G) (cy : Nat → ClassId) (base : Nat) (ad0 : Nat → Nat), l.stackTraces = false →
    Met l y ws (RM lvl (hc h' - hc h) (hs h' - hs h)) (PcF D cy base ad0 vs h) (QcF D cy base ad0 (hn h + 1) r h') (hc h' - hc h) (hs h' - hs h) (bA base)
def CtrX (y : MethodName) (ws : List Cond) (lvl : Nat) (vs : List MV) (h : MH) (res : Res) : Prop :=
  ∀ (r : MR) (h' : MH), res = some (r, h') → Hle h h' ∧ ∀ (l : Launch) (D : va_G) (cy : Nat → ClassId) (base : Nat) (ad0 : Nat → Nat), l.stackTraces = false →
    vx_Met l y ws (RM lvl (hc h' - hc h) (hs h' - hs h)) (PcF D cy base ad0 vs h) (QcF D cy base ad0 (hn h + 1) r h') (XcF D cy base ad0 (hn h + 1) r h') (hc h' - hc h) (hs h' - hs h) (bA base)
def RunX (K : CT) (pc : Nat) (L : List (Nat × MV)) (st0 rest : List MV) (h : MH) (res : Res) : Prop :=
  ∀ (r : MR) (h' : MH), res = some (r, h') → Hle h h' ∧ match K.2.2.2 with
    | none => True
    | some (p, l, e, R, s, m, args, below, meth, c, D, cy, base, _, _, mc, ms) =>
      ∀ (ad : Nat → Nat) (H : Heap) (locs : List Loc) (cells slots : Nat) (ls : Array Slot),
        Wld D cy base ad h H → va_S (bA base) s.heap H locs → lv_has ls K.2.1 (L.map (cvl ad)) → (∀ v ∈ st0, okv (hn h) v) →
        (cells + (hc h' - hc h) ≤ mc ∧ slots + (hs h' - hs h) ≤ ms) →
        vx_Run p l e R s m args below meth c H locs cells slots (hc h' - hc h) (hs h' - hs h) (F0 m pc ls (st0.map (cv ad))) (rest.map (cv ad)) (QcF D cy base ad (hn h + 1) r h' #[]) (XcF D cy base ad (hn h + 1) r h') (bA base)
/-- an exception x over the frame -/
def VX (K : CT) (pc : Nat) (L : List (Nat × MV)) (rest : List MV) (h : MH) (x : Nat) (res : Res) : Prop :=
  ∀ (r : MR) (h' : MH), res = some (r, h') → (Hle h h' ∧ (K.1 = 0 → ∃ v : Option MV, r = Sum.inl v)) ∧ match K.2.2.2 with
    | none => True
    | some (p, l, e, R, s, m, args, below, meth, c, D, cy, base, ad0, n0, mc, ms) =>
      ∀ (ad : Nat → Nat) (H : Heap) (locs : List Loc) (cells slots : Nat) (ls : Array Slot) (q : Addr) (ce : Cell),
        Wld D cy base ad h H → va_S (bA base) s.heap H locs → ((∀ z, z < n0 → ad z = ad0 z) ∧ n0 ≤ hn h + 1) → lv_has ls K.2.1 (L.map (cvl ad)) →
        (∀ v ∈ rest, okv (hn h) v) → (∀ q ∈ L, okv (hn h) q.2) →
        (cells + (hc h' - hc h) ≤ mc ∧ slots + (hs h' - hs h) ≤ ms) →
        H[q]? = some ce → ce.vm = .none → s.vm.findClass (exN x) = some ce.cls →
        vx_W p l e R s m args below meth c H locs cells slots (QFd K.1 (p, l, e, R, s, m, args, below, meth, c, D, cy, base, ad0, n0, mc, ms) r h') (F0 m pc ls (rest.map (cv ad))) q
theorem V_calG {K : CT} {pc : Nat} {L : List (Nat × MV)} {st0 rest : List MV} {h : MH} {res : Res} {k : Option MV → MH → Res} {kx : Nat → MH → Res}
    (hrun : RunX K pc L st0 rest h res) (hrest : ∀ v ∈ rest, v ∈ st0) (n : ∀ v h1, V K (pc + 3) L (v.toList ++ rest) h1 (k v h1)) (nx : ∀ x h1, res = some (.inr x, h1) → VX K pc L rest h1 x (kx x h1)) : V K pc L st0 h (calG res k kx) := by
  cases hres : res with
  | none => exact V_none
  | some z =>
    obtain ⟨r1, h1⟩ := z
    subst hres
    obtain ⟨y1, y2⟩ := hrun r1 h1 rfl
    obtain ⟨z1, z2, z3⟩ := id y1
    have hmono : ∀ {v : MV}, okv (hn h) v → okv (hn h1) v := fun q => okv_mono q z1
    cases r1 with
    | inl v =>
      intro r h' e9
      obtain ⟨a1, b1⟩ := n v h1 r h' e9
      obtain ⟨-, u2, u3⟩ := id a1.1
      refine ⟨⟨y1.tr a1.1, a1.2⟩, ?_⟩
      rcases K with ⟨md1, nL, nm, _ | ⟨p, l, e, R, s, m, args, below, meth, c, D, cy, base, ad0, n0, mc, ms⟩⟩
      · exact True.intro
      intro ad H locs cells slots ls w1 w2 w3 w4 w5 w6 w7
      intro T hT X
      rcases y2 ad H locs cells slots ls w1 w2 w4 w5 ⟨by omega, by omega⟩ T hT X with ⟨v', st₀, t, T', L', h0, X', hL, e1, e2, ⟨v2, ev, ⟨ad', hag, eo, hokv, hW'⟩, hF⟩, st⟩ | ⟨q, st₀, t, T', L', E, ce, h0, X', hL, e1, e2, ⟨x9, ex, -⟩, -⟩
      · cases ev
        have ev' : v' = v.map (cv ad') := Outcome.returned.inj eo
        subst ev'
        obtain ⟨-, -, k3⟩ := vx_keep h0 e1 w2 (fun q _ z => z) (fun q z => z) hL hF
        have w6' : ∀ q ∈ L, okv (hn h) q.2 := w6
        have hmr : ∀ u ∈ rest, okv (hn h) u := fun u hu => w5 u (hrest u hu)
        obtain ⟨t2, a2, b2⟩ := b1 ad' T'.heap (locs ++ L') (cells + (hc h1 - hc h)) (slots + (hs h1 - hs h)) ls (by rw [e1]; exact hW') k3 ⟨fun z hz => (hag z (by omega)).trans (w3.1 z hz), by omega⟩
          (by rw [map_cvl_congr w6 hag]; exact w4) (fun u hu => (List.mem_append.mp hu).elim (fun q => hokv u (Option.mem_toList.mp q)) (fun q => hmono (hmr u q))) (fun q hq => hmono (w6 q hq)) ⟨by omega, by omega⟩ T' rfl X'
        refine ⟨t2, st t2 ?_, b2⟩
        have e8 : (v.toList ++ rest).map (cv ad') = (v.map (cv ad')).toList ++ rest.map (cv ad) := by
          rw [List.map_append, map_cv_congr hmr hag]
          cases v <;> rfl
        rw [e8] at a2
        exact a2
      · cases ex
    | inr x =>
      intro r h' e9
      obtain ⟨a1, b1⟩ := nx x h1 rfl r h' e9
      obtain ⟨-, u2, u3⟩ := id a1.1
      refine ⟨⟨y1.tr a1.1, a1.2⟩, ?_⟩
      rcases K with ⟨md1, nL, nm, _ | ⟨p, l, e, R, s, m, args, below, meth, c, D, cy, base, ad0, n0, mc, ms⟩⟩
      · exact True.intro
      intro ad H locs cells slots ls w1 w2 w3 w4 w5 w6 w7
      intro T hT X
      rcases y2 ad H locs cells slots ls w1 w2 w4 w5 ⟨by omega, by omega⟩ T hT X with ⟨v', st₀, t, T', L', h0, X', hL, e1, e2, ⟨v2, ev, -⟩, -⟩ | ⟨q, st₀, t, T', L', E, ce, h0, X', hL, e1, e2, ⟨x9, ex, rfl, ⟨ad', hag, hW'⟩, hF⟩, hce, hcv, hcl, st⟩
      · cases ev
      · cases ex
        obtain ⟨-, -, k3⟩ := vx_keep h0 e1 w2 (fun q _ z => z) (fun q z => z) hL hF
        have hmr : ∀ u ∈ rest, okv (hn h) u := fun u hu => w5 u (hrest u hu)
        obtain ⟨t2, a2, b2⟩ := b1 ad' T'.heap (locs ++ L') (cells + (hc h1 - hc h)) (slots + (hs h1 - hs h)) ls q ce (by rw [e1]; exact hW') k3 ⟨fun z hz => (hag z (by omega)).trans (w3.1 z hz), by omega⟩
          (by rw [map_cvl_congr w6 hag]; exact w4) (fun u hu => hmono (hmr u hu)) (fun q hq => hmono (w6 q hq)) ⟨by omega, by omega⟩ (by rw [e1]; exact hce) hcv hcl T' rfl X'
        rw [map_cv_congr hmr hag] at a2
        exact ⟨t2, st.trans a2, b2⟩
theorem VX_out {K : CT} {cc : ByteArray} {own : String} {ret : Option FieldType} {lvl : Nat} (F : Fr K cc own ret [] lvl 1) {pc : Nat} {L : List (Nat × MV)} {rest : List MV} {h : MH} {x : Nat} : VX K pc L rest h x (prp x h) := by
  have hm1 : K.1 = 1 := F.1
  intro r h' e9
  cases e9
  refine ⟨⟨Hle.rf, fun q => by omega⟩, ?_⟩
  rcases K with ⟨md1, nL, nm, _ | ⟨p, l, e, R, s, m, args, below, meth, c, D, cy, base, ad0, n0, mc, ms⟩⟩
  · exact True.intro
  obtain ⟨hmd, hx, hb, hml, hown, hts, hlk, henv, hmc, hms, hstk, hret, htab, hlv1, hlv2, hnm⟩ := F
  have hm2 : md1 = 1 := hm1
  subst hm2
  intro ad H locs cells slots ls q ce w1 w2 w3 w4 w5 w6 w7 g1 g2 g3
  refine vx_out (fun z hz => ?_) hlk g1 g2 g3 (fun t ht hA => ⟨x, rfl, rfl, ⟨ad, w3.1, by rw [ht]; exact w1⟩, w2.F ht⟩) w2.2.2 (by omega) (by omega)
  rcases htab with h0 | h0
  · omega
  · rw [h0] at hz; cases hz
theorem k_I {K : CT} {pc : Nat} {L : List (Nat × MV)} {rest : List MV} {k : Int32 → MH → Res} (n : ∀ x h1, V K pc L (vI x :: rest) h1 (k x h1)) : ∀ v h1, V K pc L (v.toList ++ rest) h1 (toI k v h1) := by
  intro v h1
  rcases v with _ | (x | (x | x)) <;> first | exact V_none | exact n x h1
theorem k_R {K : CT} {pc : Nat} {L : List (Nat × MV)} {rest : List MV} {k : Option Nat → MH → Res} (n : ∀ x h1, V K pc L (vR x :: rest) h1 (k x h1)) : ∀ v h1, V K pc L (v.toList ++ rest) h1 (toR k v h1) := by
  intro v h1
  rcases v with _ | (x | (x | x)) <;> first | exact V_none | exact n x h1
theorem k_L {K : CT} {pc : Nat} {L : List (Nat × MV)} {rest : List MV} {k : Int64 → MH → Res} (n : ∀ x h1, V K pc L (vL x :: rest) h1 (k x h1)) : ∀ v h1, V K pc L (v.toList ++ rest) h1 (toL k v h1) := by
  intro v h1
  rcases v with _ | (x | (x | x)) <;> first | exact V_none | exact n x h1
theorem k_V {K : CT} {pc : Nat} {L : List (Nat × MV)} {rest : List MV} {k : MH → Res} (n : ∀ h1, V K pc L rest h1 (k h1)) : ∀ v h1, V K pc L (v.toList ++ rest) h1 (toV k v h1) := by
  intro v h1
  rcases v with _ | v
  · exact n h1
  · exact V_none
end
section
theorem run_of_va {p : Program} {l : Launch} {e : Env} {R : Room} {s : State} {m : MethodId} {args : Array Value} {below : List Frame} {meth : Method} {c : Code} {H : Heap} {locs : List Loc} {cells slots mc ms : Nat} {g : JFrame} {rest : List Value} {Qa : State → Outcome → State → Prop} {XC : String → State → State → Prop} {free : Addr → Prop}
    (h : va_Run p l e R s m args below meth c H locs cells slots mc ms g rest Qa free) : vx_Run p l e R s m args below meth c H locs cells slots mc ms g rest Qa XC free := fun T hT X => Or.inl (h T hT X)
theorem GWin {ws : List Cond} (h : ∀ w ∈ ws, w ∈ GW) : GoodIn GW ws := fun w hw => ⟨h w hw, good_of_word (GW_g (h w hw))⟩
theorem GWm {y : MethodName} {b : ByteArray} {maxL : Nat} {rt : Option FieldType} (h : Cond.code y b maxL rt ∈ GW) : GoodIn GW (WSm y b maxL rt) := GWin fun w hw => (List.mem_cons.mp hw).elim (fun e => by rw [e]; exact h) id
theorem GWw {y : MethodName} {b : ByteArray} {maxL : Nat} {rt : Option FieldType} {hh : List (Nat × Nat × Nat × Nat)} (h : Cond.codeWith y b maxL rt hh ∈ GW) : GoodIn GW (WSw y b maxL rt hh) := GWin fun w hw => (List.mem_cons.mp hw).elim (fun e => by rw [e]; exact h) id
def CWm (y : MethodName) (b : ByteArray) (maxL : Nat) (rt : Option FieldType) (n : Nat) : Prop :=
  Cond.code y b maxL rt ∈ GW ∧ Cond.initialized y.cls ∈ GW ∧ (y.cls ≠ "java/lang/invoke/MethodHandle" ∧ y.cls ≠ "java/lang/invoke/VarHandle" ∧ (parseMethodDescriptor y.desc).map (fun d => d.parameters.length) = some n) ∧ maxL ≤ 21
theorem cat_sum {ad : Nat → Nat} (st : List MV) : ((st.map (cv ad)).map fun v => v.category).sum = (st.map mcat).sum := by
  rw [List.map_map]
  exact congrArg List.sum (List.map_congr_left fun v _ => mcat_cv v)
theorem rm_ok {R : Room} {lv lvl maxL mc ms : Nat} (h1 : lv < lvl) (h2 : lvl ≤ R.frames) (h3 : 40 * lvl + 12 ≤ R.locals) (h4 : maxL ≤ 21) : (RM lv mc ms).frames + 1 ≤ R.frames ∧ 8 + (maxL + 11) + (RM lv mc ms).locals ≤ R.locals := by
  constructor
  · show lv + 1 ≤ R.frames; omega
  · show 8 + (maxL + 11) + (40 * lv + 12) ≤ R.locals; omega
theorem noX {y : MethodName} {ws : List Cond} {lv : Nat} {vs : List MV} {h : MH} {res : Res} (hC : CtrM y ws lv vs h res) : ∀ x h1, res = some (.inr x, h1) → False := by
  intro x h1 e
  obtain ⟨-, ⟨v, ev⟩, -⟩ := hC _ _ e
  cases ev
theorem PcF_go {D : va_G} {cy : Nat → ClassId} {base : Nat} {ad : Nat → Nat} {as : List MV} {h : MH} {s : State} {H : Heap} {locs : List Loc} (hE : EnvO D cy base s) (hS : va_S (bA base) s.heap H locs) (w1 : Wld D cy base ad h H) (hok : ∀ v ∈ as, okv (hn h) v) {a : Array Value} (ha : a = (as.map (cv ad)).toArray) : ∀ U : State, U.heap = H → s.WarmedH U.vm → PcF D cy base ad as h a U :=
  fun U hU hW => ⟨ha, hE.go (locs := locs) hW (by rw [hU]; exact hS), by rw [hU]; exact w1, hok⟩
theorem run_S {K : CT} {cc : ByteArray} {own : String} {ret : Option FieldType} {hh : List (Nat × Nat × Nat × Nat)} {lvl md : Nat} (F : Fr K cc own ret hh lvl md) {pc : Nat} {L : List (Nat × MV)} {h : MH} {st0 as rest : List MV} {res : Res} {y : MethodName} {b : ByteArray} {maxL lv n idx : Nat} {rt : Option FieldType} (hC : CtrX y (WSm y b maxL rt) lv as h res) (hw : CWm y b maxL rt n) (hsta : Cond.static y ∈ GW) (hlnk : Cond.methodLink own idx y ∈ GW) (hlv : lv < lvl) (hst0 : st0 = as.reverse ++ rest) (hn : as.length = n) (hcat : (rest.map mcat).sum ≤ 8) (d : decode cc pc = .ok (.invokestatic idx, 3)) : RunX K pc L st0 rest h res := by
  subst hst0
  intro r h' e9
  obtain ⟨g1, g2⟩ := hC r h' e9
  refine ⟨g1, ?_⟩
  rcases K with ⟨md1, nL, nm, _ | ⟨p, l, e, R, s, m, args, below, meth, c, D, cy, base, ad0, n0, mc, ms⟩⟩
  · exact True.intro
  obtain ⟨hmd, hx, hb, hml, hown, hts, hlk, henv, hmc, hms, hstk, hret, htab, hlv1, hlv2, hnm⟩ := F
  intro ad H locs cells slots ls w1 w2 w4 w5 w7
  have cb := callB_of (R := R) (own := own) (index := idx) (rm := RM lv (hc h' - hc h) (hs h' - hs h)) n hts (GWm hw.1) rfl rfl rfl (hts _ hw.2.1) (hts _ hlnk) hw.2.2.1 (rm_ok hlv hlv1 hlv2 hw.2.2.2)
  exact vx_runS (As := as.map (cv ad)) ⟨hx, hb, hml, hown, hts⟩ (g2 l D cy base ad hstk) ⟨cb, hts _ hsta⟩ ⟨PcF.blind, PcF_go henv w2 w1 (fun v hv => w5 v (List.mem_append_left _ (List.mem_reverse.mpr hv))) rfl⟩ rfl (by rw [List.length_map]; exact hn) w4.1
    (by rw [List.map_append, List.map_reverse]) (lv_room (m := m) (pc := pc) (ls := ls) (rest := []) (by rw [cat_sum]; exact hcat)) d ⟨by omega, by omega⟩
theorem run_SM {K : CT} {cc : ByteArray} {own : String} {ret : Option FieldType} {hh : List (Nat × Nat × Nat × Nat)} {lvl md : Nat} (F : Fr K cc own ret hh lvl md) {pc : Nat} {L : List (Nat × MV)} {h : MH} {st0 as rest : List MV} {res : Res} {y : MethodName} {b : ByteArray} {maxL lv n idx : Nat} {rt : Option FieldType} (hC : CtrM y (WSm y b maxL rt) lv as h res) (hw : CWm y b maxL rt n) (hsta : Cond.static y ∈ GW) (hlnk : Cond.methodLink own idx y ∈ GW) (hlv : lv < lvl) (hst0 : st0 = as.reverse ++ rest) (hn : as.length = n) (hcat : (rest.map mcat).sum ≤ 8) (d : decode cc pc = .ok (.invokestatic idx, 3)) : RunX K pc L st0 rest h res := by
  subst hst0
  intro r h' e9
  obtain ⟨g1, -, g2⟩ := hC r h' e9
  refine ⟨g1, ?_⟩
  rcases K with ⟨md1, nL, nm, _ | ⟨p, l, e, R, s, m, args, below, meth, c, D, cy, base, ad0, n0, mc, ms⟩⟩
  · exact True.intro
  obtain ⟨hmd, hx, hb, hml, hown, hts, hlk, henv, hmc, hms, hstk, hret, htab, hlv1, hlv2, hnm⟩ := F
  intro ad H locs cells slots ls w1 w2 w4 w5 w7
  refine run_of_va ?_
  have cb := callB_of (R := R) (own := own) (index := idx) (rm := RM lv (hc h' - hc h) (hs h' - hs h)) n hts (GWm hw.1) rfl rfl rfl (hts _ hw.2.1) (hts _ hlnk) hw.2.2.1 (rm_ok hlv hlv1 hlv2 hw.2.2.2)
  exact va_runS (As := as.map (cv ad)) ⟨hx, hb, hml, hown, hts⟩ (g2 l D cy base ad hstk) ⟨cb, hts _ hsta⟩ ⟨PcF.blind, PcF_go henv w2 w1 (fun v hv => w5 v (List.mem_append_left _ (List.mem_reverse.mpr hv))) rfl⟩ rfl (by rw [List.length_map]; exact hn) w4.1
    (by rw [List.map_append, List.map_reverse]) (lv_room (m := m) (pc := pc) (ls := ls) (rest := []) (by rw [cat_sum]; exact hcat)) d ⟨by omega, by omega⟩
theorem run_SN {K : CT} {cc : ByteArray} {own : String} {ret : Option FieldType} {hh : List (Nat × Nat × Nat × Nat)} {lvl md : Nat} (F : Fr K cc own ret hh lvl md) {pc : Nat} {L : List (Nat × MV)} {h : MH} {st0 as rest : List MV} {res : Res} {y : MethodName} {b : ByteArray} {maxL lv n idx : Nat} {rt : Option FieldType} {host : String} (hC : CtrM y (WSm y b maxL rt) lv as h res) (hw : CWm y b maxL rt n) (hsta : Cond.static y ∈ GW) (hlnk : (own, idx, y, host) ∈ NML) (hlv : lv < lvl) (hst0 : st0 = as.reverse ++ rest) (hn : as.length = n) (hcat : (rest.map mcat).sum ≤ 8) (d : decode cc pc = .ok (.invokestatic idx, 3)) : RunX K pc L st0 rest h res := by
  subst hst0
  intro r h' e9
  obtain ⟨g1, -, g2⟩ := hC r h' e9
  refine ⟨g1, ?_⟩
  rcases K with ⟨md1, nL, nm, _ | ⟨p, l, e, R, s, m, args, below, meth, c, D, cy, base, ad0, n0, mc, ms⟩⟩
  · exact True.intro
  obtain ⟨hmd, hx, hb, hml, hown, hts, hlk, henv, hmc, hms, hstk, hret, htab, hlv1, hlv2, hnm⟩ := F
  intro ad H locs cells slots ls w1 w2 w4 w5 w7
  refine run_of_va ?_
  have cb := va_cnB (R := R) (own := own) (host := host) (index := idx) (rm := RM lv (hc h' - hc h) (hs h' - hs h)) n hts (GWm hw.1) rfl rfl rfl (henv.2.1 _ hlnk) (hts _ hw.2.1) hw.2.2.1 (rm_ok hlv hlv1 hlv2 hw.2.2.2)
  exact va_runSN (As := as.map (cv ad)) ⟨hx, hb, hml, hown, hts⟩ (g2 l D cy base ad hstk) ⟨cb, hts _ hsta, trivial⟩ ⟨PcF.blind, PcF_go henv w2 w1 (fun v hv => w5 v (List.mem_append_left _ (List.mem_reverse.mpr hv))) rfl⟩ rfl (by rw [List.length_map]; exact hn) w4.1
    (by rw [List.map_append, List.map_reverse]) (lv_room (m := m) (pc := pc) (ls := ls) (rest := []) (by rw [cat_sum]; exact hcat)) d ⟨by omega, by omega⟩
/-- the receiver is an object of class ci -/
def chk (h : MH) (r : Option Nat) (ci : Nat) (k : Res) : Res := match r with
  | none => none
  | some a => if hk h a = ci then k else none
theorem V_chk {K : CT} {pc : Nat} {L : List (Nat × MV)} {st : List MV} {h : MH} {r : Option Nat} {ci : Nat} {k : Res} (n : ∀ a, r = some a → hk h a = ci → V K pc L st h k) : V K pc L st h (chk h r ci k) := by
  cases r with
  | none => exact V_none
  | some a =>
    show V K pc L st h (if hk h a = ci then k else none)
    by_cases q : hk h a = ci
    · rw [if_pos q]; exact n a rfl q
    · rw [if_neg q]; exact V_none
theorem run_V {K : CT} {cc : ByteArray} {own : String} {ret : Option FieldType} {hh : List (Nat × Nat × Nat × Nat)} {lvl md : Nat} (F : Fr K cc own ret hh lvl md) {pc : Nat} {L : List (Nat × MV)} {h : MH} {st0 as rest : List MV} {res : Res} {y : MethodName} {b : ByteArray} {maxL lv n idx a : Nat} {rt : Option FieldType} (ci : Nat) (hci : ci < 10) (hka : hk h a = ci) (hC : CtrX y (WSm y b maxL rt) lv (vR (some a) :: as) h res) (hw : CWm y b maxL rt n) (hin : Cond.instanceMethod y ∈ GW) (hsel : Cond.selects (RN ci) y y ∈ GW) (hlnk : Cond.methodLink own idx y ∈ GW) (hlv : lv < lvl) (hst0 : st0 = as.reverse ++ vR (some a) :: rest) (hn : as.length = n) (hcat : (rest.map mcat).sum ≤ 8) (d : decode cc pc = .ok (.invokevirtual idx, 3)) : RunX K pc L st0 rest h res := by
  subst hst0
  intro r h' e9
  obtain ⟨g1, g2⟩ := hC r h' e9
  refine ⟨g1, ?_⟩
  rcases K with ⟨md1, nL, nm, _ | ⟨p, l, e, R, s, m, args, below, meth, c, D, cy, base, ad0, n0, mc, ms⟩⟩
  · exact True.intro
  obtain ⟨hmd, hx, hb, hml, hown, hts, hlk, henv, hmc, hms, hstk, hret, htab, hlv1, hlv2, hnm⟩ := F
  intro ad H locs cells slots ls w1 w2 w4 w5 w7
  have cb := callB_of (R := R) (own := own) (index := idx) (rm := RM lv (hc h' - hc h) (hs h' - hs h)) n hts (GWm hw.1) rfl rfl rfl (hts _ hw.2.1) (hts _ hlnk) hw.2.2.1 (rm_ok hlv hlv1 hlv2 hw.2.2.2)
  obtain ⟨q0, hq0, rfl⟩ := w1.low hka (by omega)
  have he := wsO_at (cy := cy) (ad := ad) hq0
  rw [clO_obj hka (by omega)] at he
  exact vx_runV (As := as.map (cv ad)) ⟨hx, hb, hml, hown, hts⟩ (g2 l D cy base ad hstk) ⟨cb, hts _ hin, hts _ hsel⟩ ⟨PcF.blind, va_recv henv.1 w1.1 (CL_at hci) he, PcF_go henv w2 w1 (fun v hv => w5 v ((List.mem_cons.mp hv).elim (fun e => List.mem_append_right _ (by rw [e]; exact List.mem_cons_self)) fun q => List.mem_append_left _ (List.mem_reverse.mpr q))) rfl⟩ rfl (by rw [List.length_map]; exact hn) w4.1
    (by rw [List.map_append, List.map_reverse]; rfl) (lv_room (m := m) (pc := pc) (ls := ls) (rest := []) (by rw [cat_sum]; exact hcat)) d ⟨by omega, by omega⟩
theorem run_VM {K : CT} {cc : ByteArray} {own : String} {ret : Option FieldType} {hh : List (Nat × Nat × Nat × Nat)} {lvl md : Nat} (F : Fr K cc own ret hh lvl md) {pc : Nat} {L : List (Nat × MV)} {h : MH} {st0 as rest : List MV} {res : Res} {y : MethodName} {b : ByteArray} {maxL lv n idx a : Nat} {rt : Option FieldType} (ci : Nat) (hci : ci < 10) (hka : hk h a = ci) (hC : CtrM y (WSm y b maxL rt) lv (vR (some a) :: as) h res) (hw : CWm y b maxL rt n) (hin : Cond.instanceMethod y ∈ GW) (hsel : Cond.selects (RN ci) y y ∈ GW) (hlnk : Cond.methodLink own idx y ∈ GW) (hlv : lv < lvl) (hst0 : st0 = as.reverse ++ vR (some a) :: rest) (hn : as.length = n) (hcat : (rest.map mcat).sum ≤ 8) (d : decode cc pc = .ok (.invokevirtual idx, 3)) : RunX K pc L st0 rest h res := by
  subst hst0
  intro r h' e9
  obtain ⟨g1, -, g2⟩ := hC r h' e9
  refine ⟨g1, ?_⟩
  rcases K with ⟨md1, nL, nm, _ | ⟨p, l, e, R, s, m, args, below, meth, c, D, cy, base, ad0, n0, mc, ms⟩⟩
  · exact True.intro
  obtain ⟨hmd, hx, hb, hml, hown, hts, hlk, henv, hmc, hms, hstk, hret, htab, hlv1, hlv2, hnm⟩ := F
  intro ad H locs cells slots ls w1 w2 w4 w5 w7
  refine run_of_va ?_
  have cb := callB_of (R := R) (own := own) (index := idx) (rm := RM lv (hc h' - hc h) (hs h' - hs h)) n hts (GWm hw.1) rfl rfl rfl (hts _ hw.2.1) (hts _ hlnk) hw.2.2.1 (rm_ok hlv hlv1 hlv2 hw.2.2.2)
  obtain ⟨q0, hq0, rfl⟩ := w1.low hka (by omega)
  have he := wsO_at (cy := cy) (ad := ad) hq0
  rw [clO_obj hka (by omega)] at he
  exact va_runV (As := as.map (cv ad)) ⟨hx, hb, hml, hown, hts⟩ (g2 l D cy base ad hstk) ⟨cb, hts _ hin, hts _ hsel⟩ ⟨PcF.blind, va_recv henv.1 w1.1 (CL_at hci) he, PcF_go henv w2 w1 (fun v hv => w5 v ((List.mem_cons.mp hv).elim (fun e => List.mem_append_right _ (by rw [e]; exact List.mem_cons_self)) fun q => List.mem_append_left _ (List.mem_reverse.mpr q))) rfl⟩ rfl (by rw [List.length_map]; exact hn) w4.1
    (by rw [List.map_append, List.map_reverse]; rfl) (lv_room (m := m) (pc := pc) (ls := ls) (rest := []) (by rw [cat_sum]; exact hcat)) d ⟨by omega, by omega⟩
/-- not null -/
def nnl (r : Option Nat) (k : Res) : Res := match r with
  | none => none
  | some _ => k
theorem V_nnl {K : CT} {pc : Nat} {L : List (Nat × MV)} {st : List MV} {h : MH} {r : Option Nat} {k : Res} (n : ∀ a, r = some a → V K pc L st h k) : V K pc L st h (nnl r k) := by
  cases r with
  | none => exact V_none
  | some a => exact n a rfl
theorem run_I {K : CT} {cc : ByteArray} {own : String} {ret : Option FieldType} {hh : List (Nat × Nat × Nat × Nat)} {lvl md : Nat} (F : Fr K cc own ret hh lvl md) {pc : Nat} {L : List (Nat × MV)} {h : MH} {st0 as rest : List MV} {res : Res} {y : MethodName} {b : ByteArray} {maxL lv n idx a : Nat} (hC : CtrM y (WSm y b maxL none) lv (vR (some a) :: as) h res) (hy : y.name = "<init>") (hw : CWm y b maxL none n) (hin : Cond.instanceMethod y ∈ GW) (hlnk : Cond.methodLink own idx y ∈ GW) (hlv : lv < lvl) (hst0 : st0 = as.reverse ++ vR (some a) :: rest) (hn : as.length = n) (hcat : (rest.map mcat).sum ≤ 8) (d : decode cc pc = .ok (.invokespecial idx, 3)) : RunX K pc L st0 rest h res := by
  subst hst0
  intro r h' e9
  obtain ⟨g1, -, g2⟩ := hC r h' e9
  refine ⟨g1, ?_⟩
  rcases K with ⟨md1, nL, nm, _ | ⟨p, l, e, R, s, m, args, below, meth, c, D, cy, base, ad0, n0, mc, ms⟩⟩
  · exact True.intro
  obtain ⟨hmd, hx, hb, hml, hown, hts, hlk, henv, hmc, hms, hstk, hret, htab, hlv1, hlv2, hnm⟩ := F
  intro ad H locs cells slots ls w1 w2 w4 w5 w7
  refine run_of_va ?_
  have cb := callB_of (R := R) (own := own) (index := idx) (rm := RM lv (hc h' - hc h) (hs h' - hs h)) n hts (GWm hw.1) rfl rfl rfl (hts _ hw.2.1) (hts _ hlnk) hw.2.2.1 (rm_ok hlv hlv1 hlv2 hw.2.2.2)
  exact va_runI (As := as.map (cv ad)) ⟨hx, hb, hml, hown, hts⟩ (g2 l D cy base ad hstk) ⟨cb, hy, hts _ hin⟩ ⟨PcF.blind, PcF_go henv w2 w1 (fun v hv => w5 v ((List.mem_cons.mp hv).elim (fun e => List.mem_append_right _ (by rw [e]; exact List.mem_cons_self)) fun q => List.mem_append_left _ (List.mem_reverse.mpr q))) rfl⟩ rfl (by rw [List.length_map]; exact hn) w4.1
    (by rw [List.map_append, List.map_reverse]; rfl) (lv_room (m := m) (pc := pc) (ls := ls) (rest := []) (by rw [cat_sum]; exact hcat)) d ⟨by omega, by omega⟩
theorem run_IN {K : CT} {cc : ByteArray} {own : String} {ret : Option FieldType} {hh : List (Nat × Nat × Nat × Nat)} {lvl md : Nat} (F : Fr K cc own ret hh lvl md) {pc : Nat} {L : List (Nat × MV)} {h : MH} {st0 as rest : List MV} {res : Res} {y : MethodName} {b : ByteArray} {maxL lv n idx a : Nat} {host : String} (hC : CtrM y (WSm y b maxL none) lv (vR (some a) :: as) h res) (hy : y.name = "<init>") (hw : CWm y b maxL none n) (hin : Cond.instanceMethod y ∈ GW) (hlnk : (own, idx, y, host) ∈ NML) (hlv : lv < lvl) (hst0 : st0 = as.reverse ++ vR (some a) :: rest) (hn : as.length = n) (hcat : (rest.map mcat).sum ≤ 8) (d : decode cc pc = .ok (.invokespecial idx, 3)) : RunX K pc L st0 rest h res := by
  subst hst0
  intro r h' e9
  obtain ⟨g1, -, g2⟩ := hC r h' e9
  refine ⟨g1, ?_⟩
  rcases K with ⟨md1, nL, nm, _ | ⟨p, l, e, R, s, m, args, below, meth, c, D, cy, base, ad0, n0, mc, ms⟩⟩
  · exact True.intro
  obtain ⟨hmd, hx, hb, hml, hown, hts, hlk, henv, hmc, hms, hstk, hret, htab, hlv1, hlv2, hnm⟩ := F
  intro ad H locs cells slots ls w1 w2 w4 w5 w7
  refine run_of_va ?_
  have cb := va_cnB (R := R) (own := own) (host := host) (index := idx) (rm := RM lv (hc h' - hc h) (hs h' - hs h)) n hts (GWm hw.1) rfl rfl rfl (henv.2.1 _ hlnk) (hts _ hw.2.1) hw.2.2.1 (rm_ok hlv hlv1 hlv2 hw.2.2.2)
  exact va_runIN (As := as.map (cv ad)) ⟨hx, hb, hml, hown, hts⟩ (g2 l D cy base ad hstk) ⟨cb, hy, hts _ hin⟩ ⟨PcF.blind, PcF_go henv w2 w1 (fun v hv => w5 v ((List.mem_cons.mp hv).elim (fun e => List.mem_append_right _ (by rw [e]; exact List.mem_cons_self)) fun q => List.mem_append_left _ (List.mem_reverse.mpr q))) rfl⟩ rfl (by rw [List.length_map]; exact hn) w4.1
    (by rw [List.map_append, List.map_reverse]; rfl) (lv_room (m := m) (pc := pc) (ls := ls) (rest := []) (by rw [cat_sum]; exact hcat)) d ⟨by omega, by omega⟩
def CWw (y : MethodName) (b : ByteArray) (maxL : Nat) (rt : Option FieldType) (hh : List (Nat × Nat × Nat × Nat)) (n : Nat) : Prop :=
  Cond.codeWith y b maxL rt hh ∈ GW ∧ Cond.initialized y.cls ∈ GW ∧ (y.cls ≠ "java/lang/invoke/MethodHandle" ∧ y.cls ≠ "java/lang/invoke/VarHandle" ∧ (parseMethodDescriptor y.desc).map (fun d => d.parameters.length) = some n) ∧ maxL ≤ 21
theorem run_SW {K : CT} {cc : ByteArray} {own : String} {ret : Option FieldType} {hh : List (Nat × Nat × Nat × Nat)} {lvl md : Nat} (F : Fr K cc own ret hh lvl md) {pc : Nat} {L : List (Nat × MV)} {h : MH} {st0 as rest : List MV} {res : Res} {y : MethodName} {b : ByteArray} {maxL lv n idx : Nat} {rt : Option FieldType} {h9 : List (Nat × Nat × Nat × Nat)} (hC : CtrX y (WSw y b maxL rt h9) lv as h res) (hw : CWw y b maxL rt h9 n) (hsta : Cond.static y ∈ GW) (hlnk : Cond.methodLink own idx y ∈ GW) (hlv : lv < lvl) (hst0 : st0 = as.reverse ++ rest) (hn : as.length = n) (hcat : (rest.map mcat).sum ≤ 8) (d : decode cc pc = .ok (.invokestatic idx, 3)) : RunX K pc L st0 rest h res := by
  subst hst0
  intro r h' e9
  obtain ⟨g1, g2⟩ := hC r h' e9
  refine ⟨g1, ?_⟩
  rcases K with ⟨md1, nL, nm, _ | ⟨p, l, e, R, s, m, args, below, meth, c, D, cy, base, ad0, n0, mc, ms⟩⟩
  · exact True.intro
  obtain ⟨hmd, hx, hb, hml, hown, hts, hlk, henv, hmc, hms, hstk, hret, htab, hlv1, hlv2, hnm⟩ := F
  intro ad H locs cells slots ls w1 w2 w4 w5 w7
  have hsub : GoodIn GW (va_wsS own idx y (WSw y b maxL rt h9)) := GWin fun w hw9 => by
    rcases List.mem_append.mp hw9 with q | q
    · simp only [List.mem_cons, List.mem_nil_iff, or_false] at q
      rcases q with rfl | rfl | rfl
      · exact hlnk
      · exact hsta
      · exact hw.2.1
    · exact (List.mem_cons.mp q).elim (fun e => by rw [e]; exact hw.1) id
  have cb := vx_cwSW (R := R) (own := own) (index := idx) (rm := RM lv (hc h' - hc h) (hs h' - hs h)) n hts hsub rfl rfl rfl hw.2.2.1 (rm_ok hlv hlv1 hlv2 hw.2.2.2)
  exact vx_runSX (As := as.map (cv ad)) ⟨hx, hb, hml, hown, hts⟩ (g2 l D cy base ad hstk) cb ⟨PcF.blind, PcF_go henv w2 w1 (fun v hv => w5 v (List.mem_append_left _ (List.mem_reverse.mpr hv))) rfl⟩ rfl (by rw [List.length_map]; exact hn) w4.1
    (by rw [List.map_append, List.map_reverse]) (lv_room (m := m) (pc := pc) (ls := ls) (rest := []) (by rw [cat_sum]; exact hcat)) d ⟨by omega, by omega⟩
end
section
/-! throws, handlers, switches, entry -/
def XNm : List String := ["java/lang/RuntimeException", "java/lang/Exception"]
theorem fitN (x : Nat) : Bundle.fit (exN x) = true := by
  unfold exN
  split <;> decide
theorem Wld.exc {D : va_G} {cy : Nat → ClassId} {base : Nat} {ad : Nat → Nat} {h : MH} {H H1 : Heap} (w : Wld D cy base ad h H) (hq : ∀ q : Nat, q < H.size → H1[q]? = H[q]?) : Wld D cy base ad (exc h) H1 :=
  ⟨w.1.kept (fun k q hk => hq _ (w.1 k q hk).lt), w.2.1, w.2.2.1, w.2.2.2⟩
theorem vxF {base : Nat} {s t : State} {H : Heap} {locs : List Loc} (hS : va_S (bA base) s.heap H locs) (h1 : H.size ≤ t.heap.size) (h2 : ∀ q : Nat, q < H.size → t.heap[q]? = H[q]?) : va_F (bA base) s t :=
  ⟨Nat.le_trans hS.1 h1, fun q q1 q2 => (h2 q (Nat.lt_of_lt_of_le q1 hS.1)).trans (hS.2.1 q q1 q2)⟩
theorem V_thr {K : CT} {cc : ByteArray} {own : String} {ret : Option FieldType} {lvl : Nat} (F : Fr K cc own ret [] lvl 1) {pc : Nat} {L : List (Nat × MV)} {h : MH} (x : Nat) {ik is ic : Nat} {tx : String} (hl6 : 6 ≤ lvl)
    (hk : Cond.classLink own ik (exN x) ∈ GW) (hini : Cond.initialized (exN x) ∈ GW) (hstr : (own, is, tx) ∈ SRL) (hat : ∀ w ∈ (vx_atS own ic (exN x) XNm).filter goodWord, w ∈ lw_tbl)
    (hbad : ∀ w ∈ (vx_atS own ic (exN x) XNm).filter (fun w => !goodWord w), w ∈ [Cond.castable (exN x) (exN x)]) (hgd : ∀ w ∈ Cond.classLink own ik (exN x) :: Cond.initialized (exN x) :: vx_atS own ic (exN x) XNm, vx_ot w = true)
    (d0 : decode cc pc = .ok (.new ik, 3)) (d3 : decode cc (pc + 3) = .ok (.dup, 1)) (d4 : decode cc (pc + 4) = .ok (.ldc is, 2)) (d6 : decode cc (pc + 6) = .ok (.invokespecial ic, 3)) (d9 : decode cc (pc + 9) = .ok (.athrow, 1)) : V K pc L [] h (some (.inr x, exc h)) := by
  have hm1 : K.1 = 1 := F.1
  intro r h' e9
  cases e9
  refine ⟨⟨⟨Nat.le_refl _, Nat.le_succ _, Nat.le_add_right _ _⟩, fun q => by omega⟩, ?_⟩
  rcases K with ⟨md1, nL, nm, _ | ⟨p, l, e, R, s, m, args, below, meth, c, D, cy, base, ad0, n0, mc, ms⟩⟩
  · exact True.intro
  obtain ⟨hmd, hx, hb, hml, hown, hts, hlk, henv, hmc, hms, hstk, hret, htab, hlv1, hlv2, hnm⟩ := F
  have hm2 : md1 = 1 := hm1
  subst hm2
  intro ad H locs cells slots ls w1 w2 w3 w4 w5 w6 w7
  obtain ⟨v1, v2⟩ := w7
  have y2 : cells + (hc h + 1 - hc h) ≤ mc := v1
  have y3 : slots + (hs h + 6 - hs h) ≤ ms := v2
  obtain ⟨sa, hsa⟩ := henv.2.2.2.2.2.1 _ hstr
  have ht0 : c.exceptionTable.toList = [] := by
    rcases htab with h0 | h0
    · omega
    · exact h0
  refine vx_throwS (names := XNm) hx hb hstk hown (fitN x) (by decide) (hts _ hk) (hts _ hini) hsa (vx_hat (fun w hw => hts w (GW_of (hat w hw) (List.mem_filter.mp hw).2)) hbad (vx_c (va_Nw.use rfl (henv.2.2.1 x)) vx_n)) hgd henv.2.2.2.2.2.2.1 henv.2.2.2.2.2.2.2.1 w2 (w4.1.trans hml.symm) d0 d3 d4 d6 d9
    (fun z hz => by rw [ht0] at hz; cases hz) (by show 2 + 3 < R.frames; omega) (by show 0 + (13 * (2 + 1) + 43) ≤ R.locals; omega) (by omega) (by omega) hlk (fun t hA h1 h2 => ⟨x, rfl, rfl, ⟨ad, w3.1, w1.exc h2⟩, vxF w2 h1 h2⟩) w2.2.2 (by omega) (by omega)
theorem V_thrW {K : CT} {cc : ByteArray} {own : String} {ret : Option FieldType} {lvl : Nat} (F : Fr K cc own ret [] lvl 1) {pc : Nat} {L : List (Nat × MV)} {h : MH} (x : Nat) {ik is ic : Nat} {tx : String} (hl6 : 6 ≤ lvl)
    (hk : Cond.classLink own ik (exN x) ∈ GW) (hini : Cond.initialized (exN x) ∈ GW) (hstr : (own, is, tx) ∈ SRL) (hat : ∀ w ∈ (vx_atS own ic (exN x) XNm).filter goodWord, w ∈ lw_tbl)
    (hbad : ∀ w ∈ (vx_atS own ic (exN x) XNm).filter (fun w => !goodWord w), w ∈ [Cond.castable (exN x) (exN x)]) (hgd : ∀ w ∈ Cond.classLink own ik (exN x) :: Cond.initialized (exN x) :: vx_atS own ic (exN x) XNm, vx_ot w = true)
    (d0 : decode cc pc = .ok (.new ik, 3)) (d3 : decode cc (pc + 3) = .ok (.dup, 1)) (d4 : decode cc (pc + 4) = .ok (.ldc_w is, 3)) (d7 : decode cc (pc + 7) = .ok (.invokespecial ic, 3)) (d10 : decode cc (pc + 10) = .ok (.athrow, 1)) : V K pc L [] h (some (.inr x, exc h)) := by
  have hm1 : K.1 = 1 := F.1
  intro r h' e9
  cases e9
  refine ⟨⟨⟨Nat.le_refl _, Nat.le_succ _, Nat.le_add_right _ _⟩, fun q => by omega⟩, ?_⟩
  rcases K with ⟨md1, nL, nm, _ | ⟨p, l, e, R, s, m, args, below, meth, c, D, cy, base, ad0, n0, mc, ms⟩⟩
  · exact True.intro
  obtain ⟨hmd, hx, hb, hml, hown, hts, hlk, henv, hmc, hms, hstk, hret, htab, hlv1, hlv2, hnm⟩ := F
  have hm2 : md1 = 1 := hm1
  subst hm2
  intro ad H locs cells slots ls w1 w2 w3 w4 w5 w6 w7
  obtain ⟨v1, v2⟩ := w7
  have y2 : cells + (hc h + 1 - hc h) ≤ mc := v1
  have y3 : slots + (hs h + 6 - hs h) ≤ ms := v2
  obtain ⟨sa, hsa⟩ := henv.2.2.2.2.2.1 _ hstr
  have ht0 : c.exceptionTable.toList = [] := by
    rcases htab with h0 | h0
    · omega
    · exact h0
  refine vx_throwSW (names := XNm) hx hb hstk hown (fitN x) (by decide) (hts _ hk) (hts _ hini) hsa (vx_hat (fun w hw => hts w (GW_of (hat w hw) (List.mem_filter.mp hw).2)) hbad (vx_c (va_Nw.use rfl (henv.2.2.1 x)) vx_n)) hgd henv.2.2.2.2.2.2.1 henv.2.2.2.2.2.2.2.1 w2 (w4.1.trans hml.symm) d0 d3 d4 d7 d10
    (fun z hz => by rw [ht0] at hz; cases hz) (by show 2 + 3 < R.frames; omega) (by show 0 + (13 * (2 + 1) + 43) ≤ R.locals; omega) (by omega) (by omega) hlk (fun t hA h1 h2 => ⟨x, rfl, rfl, ⟨ad, w3.1, w1.exc h2⟩, vxF w2 h1 h2⟩) w2.2.2 (by omega) (by omega)
/-- caught, and put aside -/
theorem VX_catch {K : CT} {cc : ByteArray} {own : String} {ret : Option FieldType} {hh : List (Nat × Nat × Nat × Nat)} {lvl : Nat} (F : Fr K cc own ret hh lvl 1) {pc : Nat} {L L' : List (Nat × MV)} {rest : List MV} {h : MH} {x : Nat} {res : Res} (pre : List ExceptionTableEntry) (z : ExceptionTableEntry) (suf : List ExceptionTableEntry) (hsp : tableOf hh = pre ++ z :: suf)
    (hpass : ∀ w ∈ pre, covers w pc = false ∨ (w.catchType ≠ 0 ∧ ∃ nm : String, Cond.classLink own w.catchType nm ∈ GW ∧ (exN x, nm) ∈ NCL)) (hx9 : covers z pc = true) (h0 : z.catchType ≠ 0) (hlink : Cond.classLink own z.catchType (exN x) ∈ GW)
    {i nx : Nat} (hi : i < mxL K) (di : (∃ q : Fin 4, (q : Nat) = i ∧ decode cc z.handlerPc = .ok (.astore_n q, 1) ∧ nx = z.handlerPc + 1) ∨ (decode cc z.handlerPc = .ok (.astore i, 2) ∧ nx = z.handlerPc + 2)) (hL : L.filter (fun q => !(q.1 == i) && !(q.1 + 1 == i && mcat q.2 == 2)) = L') (k : V K nx L' [] h res) : VX K pc L rest h x res := by
  have hm1 : K.1 = 1 := F.1
  intro r h' e9
  obtain ⟨a1, b1⟩ := k r h' e9
  refine ⟨a1, ?_⟩
  rcases K with ⟨md1, nL, nm, _ | ⟨p, l, e, R, s, m, args, below, meth, c, D, cy, base, ad0, n0, mc, ms⟩⟩
  · exact True.intro
  obtain ⟨hmd, hx, hb, hml, hown, hts, hlk, henv, hmc, hms, hstk, hret, htab, hlv1, hlv2, hnm⟩ := F
  have hm2 : md1 = 1 := hm1
  subst hm2
  intro ad H locs cells slots ls q ce w1 w2 w3 w4 w5 w6 w7 g1 g2 g3
  have ht0 : c.exceptionTable.toList = tableOf hh := by
    rcases htab with h0 | h0
    · omega
    · exact h0
  refine vx_catch hown pre z suf (ht0.trans hsp) (fun w hw => ?_) hx9 h0 (hts _ hlink) (va_Nw.use rfl (henv.2.2.1 x)) g1 g2 g3 ?_
  · rcases hpass w hw with q9 | ⟨q1, nm, q2, q3⟩
    · exact Or.inl q9
    · exact Or.inr ⟨q1, nm, hts _ q2, henv.2.2.2.2.1 _ q3⟩
  · have e0 : (i, Value.ref q) :: (L.map (cvl ad)).filter (fun q => !(q.1 == i) && !(q.1 + 1 == i && q.2.category == 2)) = (i, Value.ref q) :: L'.map (cvl ad) := by
      rw [← hL, List.filter_map]
      refine congrArg (fun z => (i, Value.ref q) :: z) (congrArg _ (List.filter_congr fun q _ => ?_))
      simp [cvl, mcat_cv]
    have kk : ∀ ls' : Array Slot, lv_has ls' nL ((i, Value.ref q) :: L'.map (cvl ad)) → W p l e R s m args below meth c H locs cells slots (QFd 1 (p, l, e, R, s, m, args, below, meth, c, D, cy, base, ad0, n0, mc, ms) r h') (F0 m nx ls' []) := by
      intro ls' hl'
      refine b1 ad H locs cells slots ls' w1 w2 w3 ⟨hl'.1, hl'.2.1, fun z hz => hl'.2.2 z (List.mem_cons_of_mem _ hz)⟩ (fun v hv => by cases hv) (fun q hq => w6 q ?_) w7
      rw [← hL] at hq
      exact (List.mem_filter.mp hq).1
    rcases di with ⟨qf, rfl, d1, rfl⟩ | ⟨d1, rfl⟩
    · exact lv_astore_n hx hb d1 rfl w4 hi e0 kk
    · exact lv_astore hx hb d1 w4 hi e0 kk
theorem VX_none {K : CT} {pc : Nat} {L : List (Nat × MV)} {rest : List MV} {h : MH} {x : Nat} : VX K pc L rest h x none := fun r h' q => by cases q
theorem VX_if {K : CT} {pc : Nat} {L : List (Nat × MV)} {rest : List MV} {h : MH} {x y : Nat} {A B : Res} (hA : VX K pc L rest h y A) (hB : VX K pc L rest h x B) : VX K pc L rest h x (if x = y then A else B) := by
  by_cases q : x = y
  · rw [if_pos q, q]; exact hA
  · rw [if_neg q]; exact hB
/-! switches -/
def VT (K : CT) (pc : Nat) (L : List (Nat × MV)) (st : List MV) (h : MH) (x : Int32) (i : Int) (res : Res) : Prop := i ≤ x.toInt → V K pc L (vI x :: st) h res
theorem V_tsw {K : CT} {cc : ByteArray} {own : String} {ret : Option FieldType} {hh : List (Nat × Nat × Nat × Nat)} {lvl md : Nat} (F : Fr K cc own ret hh lvl md) {pc : Nat} {L : List (Nat × MV)} {st : List MV} {h : MH} {x : Int32} {D B : Res} {dflt lo hi : Int} {offs : Array Int} {len : Nat} (k0 : Int32) (dt : Nat) (d : decode cc pc = .ok (.tableswitch dflt lo hi offs, len)) (h0 : k0.toInt = lo) (ht : (pc : Int) + dflt = (dt : Int)) (kd : V K dt L st h D) (kb : VT K pc L st h x lo B) : V K pc L (vI x :: st) h (if x < k0 then D else B) := by
  by_cases q : x < k0
  · rw [if_pos q]
    refine V_step (fun n h1 h2 => ⟨ok_pop h1, h2⟩) ?_ kd
    rcases K with ⟨md1, nL, nm, _ | ⟨p, l, e, R, s, m, args, below, meth, c, D, cy, base, ad0, n0, mc, ms⟩⟩
    · exact True.intro
    obtain ⟨hmd, hx, hb, hml, hown, hts, hlk, henv, hmc, hms, hstk, hret, htab, hlv1, hlv2, hnm⟩ := F
    intro ad H locs cells slots ls Q hl kk
    exact lv_tableOut hx hb d (Or.inl (by rw [← h0]; exact Int32.lt_iff_toInt_lt.mp q)) ht (kk ls hl)
  · rw [if_neg q]
    exact kb (by rw [← h0]; exact Int32.le_iff_toInt_le.mp (Int32.not_lt.mp q))
theorem VT_peel {K : CT} {cc : ByteArray} {own : String} {ret : Option FieldType} {hh : List (Nat × Nat × Nat × Nat)} {lvl md : Nat} (F : Fr K cc own ret hh lvl md) {pc : Nat} {L : List (Nat × MV)} {st : List MV} {h : MH} {x : Int32} {A B : Res} {dflt lo hi : Int} {offs : Array Int} {len : Nat} {i off : Int} (k0 : Int32) (tgt : Nat) (d : decode cc pc = .ok (.tableswitch dflt lo hi offs, len)) (h0 : k0.toInt = i) (h1 : lo ≤ i ∧ i ≤ hi) (ho : offs[(i - lo).toNat]? = some off) (ht : (pc : Int) + off = (tgt : Int)) (ka : V K tgt L st h A) (kb : VT K pc L st h x (i + 1) B) : VT K pc L st h x i (if x = k0 then A else B) := by
  intro hge
  by_cases q : x = k0
  · rw [if_pos q]
    refine V_step (fun n h1 h2 => ⟨ok_pop h1, h2⟩) ?_ ka
    rcases K with ⟨md1, nL, nm, _ | ⟨p, l, e, R, s, m, args, below, meth, c, D, cy, base, ad0, n0, mc, ms⟩⟩
    · exact True.intro
    obtain ⟨hmd, hx, hb, hml, hown, hts, hlk, henv, hmc, hms, hstk, hret, htab, hlv1, hlv2, hnm⟩ := F
    intro ad H locs cells slots ls Q hl kk
    subst q
    exact lv_tableIn hx hb d (by rw [h0]; omega) (by rw [h0]; omega) (by rw [h0]; exact ho) ht (kk ls hl)
  · rw [if_neg q]
    refine kb ?_
    have : x.toInt ≠ i := fun e => q (Int32.toInt_inj.mp (by rw [e, h0]))
    omega
theorem VT_end {K : CT} {cc : ByteArray} {own : String} {ret : Option FieldType} {hh : List (Nat × Nat × Nat × Nat)} {lvl md : Nat} (F : Fr K cc own ret hh lvl md) {pc : Nat} {L : List (Nat × MV)} {st : List MV} {h : MH} {x : Int32} {D : Res} {dflt lo hi : Int} {offs : Array Int} {len : Nat} {i : Int} (dt : Nat) (d : decode cc pc = .ok (.tableswitch dflt lo hi offs, len)) (h1 : hi < i) (ht : (pc : Int) + dflt = (dt : Int)) (kd : V K dt L st h D) : VT K pc L st h x i D := by
  intro hge
  refine V_step (fun n h1 h2 => ⟨ok_pop h1, h2⟩) ?_ kd
  rcases K with ⟨md1, nL, nm, _ | ⟨p, l, e, R, s, m, args, below, meth, c, D, cy, base, ad0, n0, mc, ms⟩⟩
  · exact True.intro
  obtain ⟨hmd, hx, hb, hml, hown, hts, hlk, henv, hmc, hms, hstk, hret, htab, hlv1, hlv2, hnm⟩ := F
  intro ad H locs cells slots ls Q hl kk
  exact lv_tableOut hx hb d (Or.inr (by omega)) ht (kk ls hl)
theorem V_lsw2 {K : CT} {cc : ByteArray} {own : String} {ret : Option FieldType} {hh : List (Nat × Nat × Nat × Nat)} {lvl md : Nat} (F : Fr K cc own ret hh lvl md) {pc : Nat} {L : List (Nat × MV)} {st : List MV} {h : MH} {x : Int32} {A B D : Res} {dflt o0 o1 : Int} {len : Nat} (t0 t1 dt : Nat) (d : decode cc pc = .ok (.lookupswitch dflt #[(0, o0), (1, o1)], len)) (h0 : (pc : Int) + o0 = (t0 : Int)) (h1 : (pc : Int) + o1 = (t1 : Int)) (hd : (pc : Int) + dflt = (dt : Int)) (ka : V K t0 L st h A) (kb : V K t1 L st h B) (kd : V K dt L st h D) : V K pc L (vI x :: st) h (if x = 0 then A else if x = 1 then B else D) := by
  have i0 : ∀ y : Int32, x = y ↔ x.toInt = y.toInt := fun y => Int32.toInt_inj.symm
  by_cases q : x = 0
  · rw [if_pos q]
    refine V_step (fun n h1 h2 => ⟨ok_pop h1, h2⟩) ?_ ka
    rcases K with ⟨md1, nL, nm, _ | ⟨p, l, e, R, s, m, args, below, meth, c, D, cy, base, ad0, n0, mc, ms⟩⟩
    · exact True.intro
    obtain ⟨hmd, hx, hb, hml, hown, hts, hlk, henv, hmc, hms, hstk, hret, htab, hlv1, hlv2, hnm⟩ := F
    intro ad H locs cells slots ls Q hl kk
    exact lv_lookup hx hb d rfl (by subst q; simp [Op.lookupswitch.offset]) h0 (kk ls hl)
  · rw [if_neg q]
    have q0 : ¬ x.toInt = 0 := fun e => q ((i0 0).mpr e)
    by_cases q1 : x = 1
    · rw [if_pos q1]
      refine V_step (fun n h1 h2 => ⟨ok_pop h1, h2⟩) ?_ kb
      rcases K with ⟨md1, nL, nm, _ | ⟨p, l, e, R, s, m, args, below, meth, c, D, cy, base, ad0, n0, mc, ms⟩⟩
      · exact True.intro
      obtain ⟨hmd, hx, hb, hml, hown, hts, hlk, henv, hmc, hms, hstk, hret, htab, hlv1, hlv2, hnm⟩ := F
      intro ad H locs cells slots ls Q hl kk
      exact lv_lookup hx hb d rfl (by subst q1; simp [Op.lookupswitch.offset]) h1 (kk ls hl)
    · rw [if_neg q1]
      have q2 : ¬ x.toInt = 1 := fun e => q1 ((i0 1).mpr e)
      refine V_step (fun n h1 h2 => ⟨ok_pop h1, h2⟩) ?_ kd
      rcases K with ⟨md1, nL, nm, _ | ⟨p, l, e, R, s, m, args, below, meth, c, D, cy, base, ad0, n0, mc, ms⟩⟩
      · exact True.intro
      obtain ⟨hmd, hx, hb, hml, hown, hts, hlk, henv, hmc, hms, hstk, hret, htab, hlv1, hlv2, hnm⟩ := F
      intro ad H locs cells slots ls Q hl kk
      exact lv_lookup hx hb d rfl (by simp [Op.lookupswitch.offset, Ne.symm q0, Ne.symm q2, q0, q2]) hd (kk ls hl)
/-! entry -/
def margs : Nat → List MV → List (Nat × MV)
  | _, [] => []
  | i, v :: vs => (i, v) :: margs (if mcat v = 2 then i + 2 else i + 1) vs
theorem margs_map {ad : Nat → Nat} : ∀ (vs : List MV) (i : Nat), lv_args i (vs.map (cv ad)) = (margs i vs).map (cvl ad)
  | [], _ => rfl
  | v :: vs, i => by
    show (i, cv ad v) :: lv_args (if (cv ad v).category = 2 then i + 2 else i + 1) (vs.map (cv ad)) = (i, cv ad v) :: (margs (if mcat v = 2 then i + 2 else i + 1) vs).map (cvl ad)
    rw [mcat_cv, margs_map vs]
theorem margs_ok {n : Nat} : ∀ (vs : List MV) (i : Nat), (∀ v ∈ vs, okv n v) → ∀ q ∈ margs i vs, okv n q.2
  | [], _, _ => fun q hq => by cases hq
  | v :: vs, i, h => fun q hq => by
    rcases List.mem_cons.mp hq with e | e
    · rw [e]; exact h v List.mem_cons_self
    · exact margs_ok vs _ (fun w hw => h w (List.mem_cons_of_mem _ hw)) q e
theorem lg_sl_len {ad : Nat → Nat} : ∀ vs : List MV, (lg_sl (vs.map (cv ad))).length = (vs.map mcat).sum
  | [] => rfl
  | v :: vs => by
    have h := lg_sl_len (ad := ad) vs
    simp only [lg_sl, List.map_cons, List.flatMap_cons, List.length_append, List.sum_cons] at h ⊢
    rw [h, mcat_cv]
    rcases v with x | (x | x) <;> rfl
theorem entry_V {p : Program} {l : Launch} {e : Env} {R : Room} {s : State} {m : MethodId} {below : List Frame} {meth : Method} {c : Code} {D : va_G} {cy : Nat → ClassId} {base : Nat} {ad0 : Nat → Nat} {vs : List MV} {h : MH} {maxL mc ms md : Nat} {nm : String} {res : Res} {r : MR} {h' : MH} (hlen : (vs.map mcat).sum ≤ maxL)
    (k : V (md, maxL, nm, some (p, l, e, R, s, m, (vs.map (cv ad0)).toArray, below, meth, c, D, cy, base, ad0, hn h + 1, mc, ms)) 0 (margs 0 vs) [] h res) (e9 : res = some (r, h')) (w1 : Wld D cy base ad0 h s.heap) (hok : ∀ v ∈ vs, okv (hn h) v) (hmc : hc h' - hc h ≤ mc) (hms : hs h' - hs h ≤ ms) :
    W p l e R s m (vs.map (cv ad0)).toArray below meth c s.heap [] 0 0 (QFd md (p, l, e, R, s, m, (vs.map (cv ad0)).toArray, below, meth, c, D, cy, base, ad0, hn h + 1, mc, ms) r h') (entryFrame m (vs.map (cv ad0)).toArray maxL) := by
  obtain ⟨-, b1⟩ := k r h' e9
  have hl := lv_entry (vs.map (cv ad0)) (n := maxL) (by rw [lg_sl_len]; exact hlen)
  rw [margs_map] at hl
  rw [lg_entry_eq]
  exact b1 ad0 s.heap [] 0 0 _ w1 va_S.rf ⟨fun _ _ => rfl, Nat.le_refl _⟩ hl (fun v hv => by cases hv) (margs_ok vs 0 hok) ⟨by omega, by omega⟩
theorem CtrM_of {y : MethodName} {b : ByteArray} {maxL lvl : Nat} {rt : Option FieldType} {vs : List MV} {h : MH} {res : Res} (hy : plainName y.cls = true) (hlen : (vs.map mcat).sum ≤ maxL)
    (body : ∀ K : CT, Fr K b y.cls rt [] lvl 0 → mxL K = maxL → nmK K y.name → V K 0 (margs 0 vs) [] h res) : CtrM y (WSm y b maxL rt) lvl vs h res := by
  intro r h' e9
  have gk := (body (0, maxL, y.name, none) ⟨rfl, True.intro⟩ rfl rfl r h' e9).1
  refine ⟨gk.1, gk.2 rfl, fun l D cy base ad0 hstk => ?_⟩
  refine Met.ofW (cc := b) (maxL := maxL) (ret := rt) hy rfl ?_
  intro p e s m args below meth c s₁ B hml hv
  obtain ⟨rfl, henv, w1, hok⟩ := hv
  have hts := atoms_spec (ws := WSm y b maxL rt) B.pre
  exact entry_V hlen (body (0, maxL, y.name, some (p, l, e, (headSpec (WSm y b maxL rt) (RM lvl (hc h' - hc h) (hs h' - hs h))).room, s, m, _, below, meth, c, D, cy, base, ad0, hn h + 1, hc h' - hc h, hs h' - hs h))
    ⟨rfl, B.exec, B.bytes, hml, findClass_of_methodNamed B.named, fun w hw => hts w (List.mem_cons_of_mem _ hw), B.notSynchronized, henv, Nat.le_refl _, Nat.le_refl _, hstk, B.returns, Or.inl rfl, Nat.le_refl _, Nat.le_refl _, (name_of_methodNamed B.named B.method).1⟩ rfl rfl) e9 w1 hok (Nat.le_refl _) (Nat.le_refl _)
theorem CtrX_of {y : MethodName} {b : ByteArray} {maxL lvl : Nat} {rt : Option FieldType} {vs : List MV} {h : MH} {res : Res} (hy : plainName y.cls = true) (hlen : (vs.map mcat).sum ≤ maxL)
    (body : ∀ K : CT, Fr K b y.cls rt [] lvl 1 → mxL K = maxL → nmK K y.name → V K 0 (margs 0 vs) [] h res) : CtrX y (WSm y b maxL rt) lvl vs h res := by
  intro r h' e9
  have gk := (body (1, maxL, y.name, none) ⟨rfl, True.intro⟩ rfl rfl r h' e9).1
  refine ⟨gk.1, fun l D cy base ad0 hstk => ?_⟩
  refine vx_ofW (cc := b) (maxL := maxL) (ret := rt) hy rfl ?_
  intro p e s m args below meth c s₁ B hml htb hv
  obtain ⟨rfl, henv, w1, hok⟩ := hv
  have hts := atoms_spec (ws := WSm y b maxL rt) B.pre
  have ht0 : c.exceptionTable.toList = [] := by
    cases hq : c.exceptionTable.toList with
    | nil => rfl
    | cons a as => exact (htb a (by rw [hq]; exact List.mem_cons_self)).elim
  exact entry_V hlen (body (1, maxL, y.name, some (p, l, e, (headSpec (WSm y b maxL rt) (RM lvl (hc h' - hc h) (hs h' - hs h))).room, s, m, _, below, meth, c, D, cy, base, ad0, hn h + 1, hc h' - hc h, hs h' - hs h))
    ⟨rfl, B.exec, B.bytes, hml, findClass_of_methodNamed B.named, fun w hw => hts w (List.mem_cons_of_mem _ hw), B.notSynchronized, henv, Nat.le_refl _, Nat.le_refl _, hstk, B.returns, Or.inr ht0, Nat.le_refl _, Nat.le_refl _, (name_of_methodNamed B.named B.method).1⟩ rfl rfl) e9 w1 hok (Nat.le_refl _) (Nat.le_refl _)
theorem CtrW_of {y : MethodName} {b : ByteArray} {maxL lvl : Nat} {rt : Option FieldType} {hh : List (Nat × Nat × Nat × Nat)} {vs : List MV} {h : MH} {res : Res} (hy : plainName y.cls = true) (hlen : (vs.map mcat).sum ≤ maxL)
    (body : ∀ K : CT, Fr K b y.cls rt hh lvl 1 → mxL K = maxL → nmK K y.name → V K 0 (margs 0 vs) [] h res) : CtrX y (WSw y b maxL rt hh) lvl vs h res := by
  intro r h' e9
  have gk := (body (1, maxL, y.name, none) ⟨rfl, True.intro⟩ rfl rfl r h' e9).1
  refine ⟨gk.1, fun l D cy base ad0 hstk => ?_⟩
  refine vx_ofWH (cc := b) (maxL := maxL) (ret := rt) (hh := hh) hy rfl ?_
  intro p e s m args below meth c s₁ B hml hv
  obtain ⟨rfl, henv, w1, hok⟩ := hv
  have hts := atoms_spec (ws := WSw y b maxL rt hh) B.pre
  have ht0 : c.exceptionTable.toList = tableOf hh := vx_table (x := y) (y := y) B (hts _ List.mem_cons_self)
  exact entry_V hlen (body (1, maxL, y.name, some (p, l, e, (headSpec (WSw y b maxL rt hh) (RM lvl (hc h' - hc h) (hs h' - hs h))).room, s, m, _, below, meth, c, D, cy, base, ad0, hn h + 1, hc h' - hc h, hs h' - hs h))
    ⟨rfl, B.exec, B.bytes, hml, findClass_of_methodNamed B.named, fun w hw => hts w (List.mem_cons_of_mem _ hw), B.notSynchronized, henv, Nat.le_refl _, Nat.le_refl _, hstk, B.returns, Or.inr ht0, Nat.le_refl _, Nat.le_refl _, (name_of_methodNamed B.named B.method).1⟩ rfl rfl) e9 w1 hok (Nat.le_refl _) (Nat.le_refl _)
end
section
/-! calls as the walks use them -/
abbrev KX (K : CT) (pc : Nat) (L : List (Nat × MV)) (rest : List MV) (kx : Nat → MH → Res) : Prop := ∀ x h1, VX K pc L rest h1 x (kx x h1)
theorem V_cS {K : CT} {cc : ByteArray} {own : String} {ret : Option FieldType} {hh : List (Nat × Nat × Nat × Nat)} {lvl md : Nat} (F : Fr K cc own ret hh lvl md) {pc : Nat} {L : List (Nat × MV)} {h : MH} {st0 as rest : List MV} {res : Res} {k : Option MV → MH → Res} {kx : Nat → MH → Res} {y : MethodName} {b : ByteArray} {maxL lv n idx : Nat} {rt : Option FieldType} (hC : CtrX y (WSm y b maxL rt) lv as h res) (hw : CWm y b maxL rt n) (hsta : Cond.static y ∈ GW) (hlnk : Cond.methodLink own idx y ∈ GW) (hlv : lv < lvl) (hst0 : st0 = as.reverse ++ rest) (hn : as.length = n) (hcat : (rest.map mcat).sum ≤ 8) (d : decode cc pc = .ok (.invokestatic idx, 3))
    (kk : ∀ v h1, V K (pc + 3) L (v.toList ++ rest) h1 (k v h1)) (nx : KX K pc L rest kx) : V K pc L st0 h (calG res k kx) :=
  V_calG (run_S F hC hw hsta hlnk hlv hst0 hn hcat d) (by subst hst0; exact fun v hv => List.mem_append_right _ hv) kk (fun x h1 _ => nx x h1)
theorem V_cSM {K : CT} {cc : ByteArray} {own : String} {ret : Option FieldType} {hh : List (Nat × Nat × Nat × Nat)} {lvl md : Nat} (F : Fr K cc own ret hh lvl md) {pc : Nat} {L : List (Nat × MV)} {h : MH} {st0 as rest : List MV} {res : Res} {k : Option MV → MH → Res} {kx : Nat → MH → Res} {y : MethodName} {b : ByteArray} {maxL lv n idx : Nat} {rt : Option FieldType} (hC : CtrM y (WSm y b maxL rt) lv as h res) (hw : CWm y b maxL rt n) (hsta : Cond.static y ∈ GW) (hlnk : Cond.methodLink own idx y ∈ GW) (hlv : lv < lvl) (hst0 : st0 = as.reverse ++ rest) (hn : as.length = n) (hcat : (rest.map mcat).sum ≤ 8) (d : decode cc pc = .ok (.invokestatic idx, 3))
    (kk : ∀ v h1, V K (pc + 3) L (v.toList ++ rest) h1 (k v h1)) : V K pc L st0 h (calG res k kx) :=
  V_calG (run_SM F hC hw hsta hlnk hlv hst0 hn hcat d) (by subst hst0; exact fun v hv => List.mem_append_right _ hv) kk (fun x h1 e => (noX hC x h1 e).elim)
theorem V_cSN {K : CT} {cc : ByteArray} {own : String} {ret : Option FieldType} {hh : List (Nat × Nat × Nat × Nat)} {lvl md : Nat} (F : Fr K cc own ret hh lvl md) {pc : Nat} {L : List (Nat × MV)} {h : MH} {st0 as rest : List MV} {res : Res} {k : Option MV → MH → Res} {kx : Nat → MH → Res} {y : MethodName} {b : ByteArray} {maxL lv n idx : Nat} {rt : Option FieldType} {host : String} (hC : CtrM y (WSm y b maxL rt) lv as h res) (hw : CWm y b maxL rt n) (hsta : Cond.static y ∈ GW) (hlnk : (own, idx, y, host) ∈ NML) (hlv : lv < lvl) (hst0 : st0 = as.reverse ++ rest) (hn : as.length = n) (hcat : (rest.map mcat).sum ≤ 8) (d : decode cc pc = .ok (.invokestatic idx, 3))
    (kk : ∀ v h1, V K (pc + 3) L (v.toList ++ rest) h1 (k v h1)) : V K pc L st0 h (calG res k kx) :=
  V_calG (run_SN F hC hw hsta hlnk hlv hst0 hn hcat d) (by subst hst0; exact fun v hv => List.mem_append_right _ hv) kk (fun x h1 e => (noX hC x h1 e).elim)
theorem V_cSW {K : CT} {cc : ByteArray} {own : String} {ret : Option FieldType} {hh : List (Nat × Nat × Nat × Nat)} {lvl md : Nat} (F : Fr K cc own ret hh lvl md) {pc : Nat} {L : List (Nat × MV)} {h : MH} {st0 as rest : List MV} {res : Res} {k : Option MV → MH → Res} {kx : Nat → MH → Res} {y : MethodName} {b : ByteArray} {maxL lv n idx : Nat} {rt : Option FieldType} {h9 : List (Nat × Nat × Nat × Nat)} (hC : CtrX y (WSw y b maxL rt h9) lv as h res) (hw : CWw y b maxL rt h9 n) (hsta : Cond.static y ∈ GW) (hlnk : Cond.methodLink own idx y ∈ GW) (hlv : lv < lvl) (hst0 : st0 = as.reverse ++ rest) (hn : as.length = n) (hcat : (rest.map mcat).sum ≤ 8) (d : decode cc pc = .ok (.invokestatic idx, 3))
    (kk : ∀ v h1, V K (pc + 3) L (v.toList ++ rest) h1 (k v h1)) (nx : KX K pc L rest kx) : V K pc L st0 h (calG res k kx) :=
  V_calG (run_SW F hC hw hsta hlnk hlv hst0 hn hcat d) (by subst hst0; exact fun v hv => List.mem_append_right _ hv) kk (fun x h1 _ => nx x h1)
theorem V_cV {K : CT} {cc : ByteArray} {own : String} {ret : Option FieldType} {hh : List (Nat × Nat × Nat × Nat)} {lvl md : Nat} (F : Fr K cc own ret hh lvl md) {pc : Nat} {L : List (Nat × MV)} {h : MH} {st0 as rest : List MV} {res : Res} {k : Option MV → MH → Res} {kx : Nat → MH → Res} {y : MethodName} {b : ByteArray} {maxL lv n idx : Nat} {r : Option Nat} {rt : Option FieldType} (ci : Nat) (hci : ci < 10) (hC : CtrX y (WSm y b maxL rt) lv (vR r :: as) h res) (hw : CWm y b maxL rt n) (hin : Cond.instanceMethod y ∈ GW) (hsel : Cond.selects (RN ci) y y ∈ GW) (hlnk : Cond.methodLink own idx y ∈ GW) (hlv : lv < lvl) (hst0 : st0 = as.reverse ++ vR r :: rest) (hn : as.length = n) (hcat : (rest.map mcat).sum ≤ 8) (d : decode cc pc = .ok (.invokevirtual idx, 3))
    (kk : ∀ v h1, V K (pc + 3) L (v.toList ++ rest) h1 (k v h1)) (nx : KX K pc L rest kx) : V K pc L st0 h (chk h r ci (calG res k kx)) := by
  refine V_chk fun a ea hka => ?_
  subst ea
  exact V_calG (run_V F ci hci hka hC hw hin hsel hlnk hlv hst0 hn hcat d) (by subst hst0; exact fun v hv => List.mem_append_right _ (List.mem_cons_of_mem _ hv)) kk (fun x h1 _ => nx x h1)
theorem V_cVM {K : CT} {cc : ByteArray} {own : String} {ret : Option FieldType} {hh : List (Nat × Nat × Nat × Nat)} {lvl md : Nat} (F : Fr K cc own ret hh lvl md) {pc : Nat} {L : List (Nat × MV)} {h : MH} {st0 as rest : List MV} {res : Res} {k : Option MV → MH → Res} {kx : Nat → MH → Res} {y : MethodName} {b : ByteArray} {maxL lv n idx : Nat} {r : Option Nat} {rt : Option FieldType} (ci : Nat) (hci : ci < 10) (hC : CtrM y (WSm y b maxL rt) lv (vR r :: as) h res) (hw : CWm y b maxL rt n) (hin : Cond.instanceMethod y ∈ GW) (hsel : Cond.selects (RN ci) y y ∈ GW) (hlnk : Cond.methodLink own idx y ∈ GW) (hlv : lv < lvl) (hst0 : st0 = as.reverse ++ vR r :: rest) (hn : as.length = n) (hcat : (rest.map mcat).sum ≤ 8) (d : decode cc pc = .ok (.invokevirtual idx, 3))
    (kk : ∀ v h1, V K (pc + 3) L (v.toList ++ rest) h1 (k v h1)) : V K pc L st0 h (chk h r ci (calG res k kx)) := by
  refine V_chk fun a ea hka => ?_
  subst ea
  exact V_calG (run_VM F ci hci hka hC hw hin hsel hlnk hlv hst0 hn hcat d) (by subst hst0; exact fun v hv => List.mem_append_right _ (List.mem_cons_of_mem _ hv)) kk (fun x h1 e => (noX hC x h1 e).elim)
theorem V_cI {K : CT} {cc : ByteArray} {own : String} {ret : Option FieldType} {hh : List (Nat × Nat × Nat × Nat)} {lvl md : Nat} (F : Fr K cc own ret hh lvl md) {pc : Nat} {L : List (Nat × MV)} {h : MH} {st0 as rest : List MV} {res : Res} {k : Option MV → MH → Res} {kx : Nat → MH → Res} {y : MethodName} {b : ByteArray} {maxL lv n idx : Nat} {r : Option Nat} (hC : CtrM y (WSm y b maxL none) lv (vR r :: as) h res) (hy : y.name = "<init>") (hw : CWm y b maxL none n) (hin : Cond.instanceMethod y ∈ GW) (hlnk : Cond.methodLink own idx y ∈ GW) (hlv : lv < lvl) (hst0 : st0 = as.reverse ++ vR r :: rest) (hn : as.length = n) (hcat : (rest.map mcat).sum ≤ 8) (d : decode cc pc = .ok (.invokespecial idx, 3))
    (kk : ∀ v h1, V K (pc + 3) L (v.toList ++ rest) h1 (k v h1)) : V K pc L st0 h (nnl r (calG res k kx)) := by
  refine V_nnl fun a ea => ?_
  subst ea
  exact V_calG (run_I F hC hy hw hin hlnk hlv hst0 hn hcat d) (by subst hst0; exact fun v hv => List.mem_append_right _ (List.mem_cons_of_mem _ hv)) kk (fun x h1 e => (noX hC x h1 e).elim)
theorem V_cIN {K : CT} {cc : ByteArray} {own : String} {ret : Option FieldType} {hh : List (Nat × Nat × Nat × Nat)} {lvl md : Nat} (F : Fr K cc own ret hh lvl md) {pc : Nat} {L : List (Nat × MV)} {h : MH} {st0 as rest : List MV} {res : Res} {k : Option MV → MH → Res} {kx : Nat → MH → Res} {y : MethodName} {b : ByteArray} {maxL lv n idx : Nat} {r : Option Nat} {host : String} (hC : CtrM y (WSm y b maxL none) lv (vR r :: as) h res) (hy : y.name = "<init>") (hw : CWm y b maxL none n) (hin : Cond.instanceMethod y ∈ GW) (hlnk : (own, idx, y, host) ∈ NML) (hlv : lv < lvl) (hst0 : st0 = as.reverse ++ vR r :: rest) (hn : as.length = n) (hcat : (rest.map mcat).sum ≤ 8) (d : decode cc pc = .ok (.invokespecial idx, 3))
    (kk : ∀ v h1, V K (pc + 3) L (v.toList ++ rest) h1 (k v h1)) : V K pc L st0 h (nnl r (calG res k kx)) := by
  refine V_nnl fun a ea => ?_
  subst ea
  exact V_calG (run_IN F hC hy hw hin hlnk hlv hst0 hn hcat d) (by subst hst0; exact fun v hv => List.mem_append_right _ (List.mem_cons_of_mem _ hv)) kk (fun x h1 e => (noX hC x h1 e).elim)
theorem V_obj {K : CT} {cc : ByteArray} {own : String} {ret : Option FieldType} {hh : List (Nat × Nat × Nat × Nat)} {lvl md : Nat} (F : Fr K cc own ret hh lvl md) {pc : Nat} {L : List (Nat × MV)} {st : List MV} {h : MH} {r : Option Nat} {k : Res} {idx : Nat} (hl1 : 1 ≤ lvl) (hlnk : Cond.methodLink own idx objectInit ∈ GW) (hin : Cond.instanceMethod objectInit ∈ GW) (hcod : Cond.code objectInit ⟨#[0xb1]⟩ 1 none ∈ GW) (hcat : (st.map mcat).sum ≤ 8) (d : decode cc pc = .ok (.invokespecial idx, 3)) (n : V K (pc + 3) L st h k) : V K pc L (vR r :: st) h (nnl r k) := by
  refine V_nnl fun a ea => ?_
  subst ea
  refine V_step (fun n h1 h2 => ⟨ok_pop h1, h2⟩) ?_ n
  rcases K with ⟨md1, nL, nm, _ | ⟨p, l, e, R, s, m, args, below, meth, c, D, cy, base, ad0, n0, mc, ms⟩⟩
  · exact True.intro
  obtain ⟨hmd, hx, hb, hml, hown, hts, hlk, henv, hmc, hms, hstk, hret, htab, hlv1, hlv2, hnm⟩ := F
  intro ad H locs cells slots ls Q hl kk
  refine W.objInit hx hb hown (hts _ hlnk) (hts _ hin) (hts _ hcod) rfl (by rw [hml]; exact hl.1) rfl d (by omega) ?_ (kk ls hl)
  have h0 : (F0 m pc ls ((vR (some a) :: st).map (cv ad))).monitorRoom = 0 := rfl
  have hcat2 : ((st.map (cv ad)).map fun v => v.category).sum ≤ 8 := by rw [cat_sum]; exact hcat
  omega
def cpI (h : MH) (r0 : Option Nat) (sp : Int32) (r1 : Option Nat) (dp n : Int32) (k : MH → Res) : Res := match r0 with
  | none => none
  | some a0 => match r1 with
    | none => none
    | some a1 => if (hk h a0 = 20 ∧ hk h a1 = 20) ∧ (0 ≤ sp ∧ 0 ≤ dp ∧ 0 ≤ n) ∧ sp.toNatClampNeg + n.toNatClampNeg ≤ hl h a0 ∧ dp.toNatClampNeg + n.toNatClampNeg ≤ hl h a1 then k (sIr h a1 (va_cpy (hi h a0) (hi h a1) sp.toNatClampNeg dp.toNatClampNeg n.toNatClampNeg)) else none
theorem V_cpI {K : CT} {cc : ByteArray} {own : String} {ret : Option FieldType} {hh : List (Nat × Nat × Nat × Nat)} {lvl md : Nat} (F : Fr K cc own ret hh lvl md) {pc : Nat} {L : List (Nat × MV)} {st : List MV} {h : MH} {r0 r1 : Option Nat} {sp dp n : Int32} {res : MH → Res} {idx : Nat} (hl1 : 1 ≤ lvl) (hlnk : Cond.methodLink own idx arraycopyName ∈ GW) (hnat : Cond.native arraycopyName ∈ GW) (hsta : Cond.static arraycopyName ∈ GW) (hini : Cond.initialized "java/lang/System" ∈ GW) (hcat : (st.map mcat).sum ≤ 8) (d : decode cc pc = .ok (.invokestatic idx, 3)) (kk : ∀ h', V K (pc + 3) L st h' (res h')) : V K pc L (vI n :: vI dp :: vR r1 :: vI sp :: vR r0 :: st) h (cpI h r0 sp r1 dp n res) := by
  cases r0 with
  | none => exact V_none
  | some a0 =>
    cases r1 with
    | none => exact V_none
    | some a1 =>
      unfold cpI
      dsimp only
      by_cases q : (hk h a0 = 20 ∧ hk h a1 = 20) ∧ (0 ≤ sp ∧ 0 ≤ dp ∧ 0 ≤ n) ∧ sp.toNatClampNeg + n.toNatClampNeg ≤ hl h a0 ∧ dp.toNatClampNeg + n.toNatClampNeg ≤ hl h a1
      · rw [if_pos q]
        obtain ⟨⟨q1, q2⟩, ⟨q3, q4, q5⟩, q6, q7⟩ := q
        intro r h' e9
        obtain ⟨a9, b9⟩ := kk _ r h' e9
        refine ⟨a9, ?_⟩
        rcases K with ⟨md1, nL, nm, _ | ⟨p, l, e, R, s, m, args, below, meth, c, D, cy, base, ad0, n0, mc, ms⟩⟩
        · exact True.intro
        obtain ⟨hmd, hx, hb, hml, hown, hts, hlk, henv, hmc, hms, hstk, hret, htab, hlv1, hlv2, hnm⟩ := F
        intro ad H locs cells slots ls w1 w2 w3 w4 w5 w6 w7
        obtain ⟨z0, hz0, rfl⟩ := w1.low q1 (by omega)
        obtain ⟨z1, hz1, rfl⟩ := w1.low q2 (by omega)
        have he0 := wsO_at (cy := cy) (ad := ad) hz0
        rw [clO_int q1 (by omega) (by omega)] at he0
        have he1 := wsO_at (cy := cy) (ad := ad) hz1
        rw [clO_int q2 (by omega) (by omega)] at he1
        obtain ⟨t0, ht0⟩ := TYL_at (cy := cy) (k := 20) (by decide)
        have hcat2 : ((st.map (cv ad)).map fun v => v.category).sum ≤ 8 := by rw [cat_sum]; exact hcat
        have hnf : nativeFrameWords "java/lang/System" "arraycopy" 5 = 7 := by decide
        exact va_copyi hx hb (hml.trans w4.1.symm) hown (hts _ hlnk) (hts _ hnat) (hts _ hsta) (hts _ hini) henv.1 w1.1 w1.2.1 w2 z0 z1 t0 t0 he0 he1 ht0 ht0 rfl (Int32.not_lt.mpr q3) (Int32.not_lt.mpr q4) (Int32.not_lt.mpr q5) q6 q7 (fun _ _ => rfl) (by omega) (by rw [hnf]; omega) d
          (fun H1 locs1 hP hD hS => b9 ad H1 locs1 cells slots ls (w1.sIa hz1 q2 (by omega) (by omega) hP hD rfl) hS w3 w4 (ok_pop (ok_pop (ok_pop (ok_pop (ok_pop w5))))) w6 w7)
      · rw [if_neg q]; exact V_none
def okr (h : MH) (r : Option Nat) : Bool := match r with
  | none => true
  | some a => decide (hk h a < 40)
def acq (h : MH) (x y : Option Nat) (A B : Res) : Res := if okr h x = true ∧ okr h y = true then (if x = y then A else B) else none
theorem ad_inj {D : va_G} {cy : Nat → ClassId} {base : Nat} {ad : Nat → Nat} {h : MH} {H : Heap} (w : Wld D cy base ad h H) {x y : Option Nat} (hx : okr h x = true) (hy : okr h y = true) (e : x.map ad = y.map ad) : x = y := by
  cases x with
  | none =>
    cases y with
    | none => rfl
    | some b => cases e
  | some a =>
    cases y with
    | none => cases e
    | some b =>
      have e1 : ad a = ad b := Option.some.inj e
      have h1 : hk h a < 40 := of_decide_eq_true hx
      have h2 : hk h b < 40 := of_decide_eq_true hy
      obtain ⟨p, hp, rfl⟩ := w.inb h1
      obtain ⟨q, hq, rfl⟩ := w.inb h2
      have := w.2.1.1 p q _ _ (wsO_at hp) (wsO_at hq) e1
      rw [this]
theorem V_acq {K : CT} {cc : ByteArray} {own : String} {ret : Option FieldType} {hh : List (Nat × Nat × Nat × Nat)} {lvl md : Nat} (F : Fr K cc own ret hh lvl md) {pc : Nat} {L : List (Nat × MV)} {st : List MV} {h : MH} {x y : Option Nat} {A B : Res} {off : Int} (tgt : Nat) (d : decode cc pc = .ok (.if_acmp .eq off, 3)) (ht : (pc : Int) + off = (tgt : Int)) (kt : V K tgt L st h A) (kf : V K (pc + 3) L st h B) : V K pc L (vR y :: vR x :: st) h (acq h x y A B) := by
  unfold acq
  by_cases q : okr h x = true ∧ okr h y = true
  · rw [if_pos q]
    by_cases exy : x = y
    · rw [if_pos exy]
      intro r h' e9
      obtain ⟨a9, b9⟩ := kt r h' e9
      refine ⟨a9, ?_⟩
      rcases K with ⟨md1, nL, nm, _ | ⟨p, l, e, R, s, m, args, below, meth, c, D, cy, base, ad0, n0, mc, ms⟩⟩
      · exact True.intro
      obtain ⟨hmd, hx, hb, hml, hown, hts, hlk, henv, hmc, hms, hstk, hret, htab, hlv1, hlv2, hnm⟩ := F
      intro ad H locs cells slots ls w1 w2 w3 w4 w5 w6 w7
      exact lv_acmp_eq (rx := x.map ad) (ry := y.map ad) hx hb d ht (fun _ => b9 ad H locs cells slots ls w1 w2 w3 w4 (ok_pop (ok_pop w5)) w6 w7) (fun z => absurd (by rw [exy]) z)
    · rw [if_neg exy]
      intro r h' e9
      obtain ⟨a9, b9⟩ := kf r h' e9
      refine ⟨a9, ?_⟩
      rcases K with ⟨md1, nL, nm, _ | ⟨p, l, e, R, s, m, args, below, meth, c, D, cy, base, ad0, n0, mc, ms⟩⟩
      · exact True.intro
      obtain ⟨hmd, hx, hb, hml, hown, hts, hlk, henv, hmc, hms, hstk, hret, htab, hlv1, hlv2, hnm⟩ := F
      intro ad H locs cells slots ls w1 w2 w3 w4 w5 w6 w7
      exact lv_acmp_eq (rx := x.map ad) (ry := y.map ad) hx hb d ht (fun z => absurd (ad_inj w1 q.1 q.2 z) exy) (fun _ => b9 ad H locs cells slots ls w1 w2 w3 w4 (ok_pop (ok_pop w5)) w6 w7)
  · rw [if_neg q]; exact V_none
/-! the law itself -/
def XL (K : CT) (Ls : Nat) (xs : Nat → Int32) : Prop := match K.2.2.2 with
  | none => True
  | some (_, _, _, R, s, _, args, _, _, _, _, _, base, ad0, n0, mc, ms) => va_X (ad0 0) Ls xs s s.heap ∧ ad0 0 < base ∧ base = s.heap.size ∧ 1 ≤ n0 ∧ R = room_1 ∧ mc = 601024 ∧ ms = 7293034 ∧ args = #[Value.ref (ad0 0)]
def sld (Ls : Nat) (xs : Nat → Int32) (i : Int32) (k : Int32 → Res) : Res := if 0 ≤ i ∧ i.toNatClampNeg < Ls then k (xs i.toNatClampNeg) else none
theorem V_sld {K : CT} {cc : ByteArray} {own : String} {ret : Option FieldType} {hh : List (Nat × Nat × Nat × Nat)} {lvl md : Nat} (F : Fr K cc own ret hh lvl md) {pc : Nat} {L : List (Nat × MV)} {st : List MV} {h : MH} {Ls : Nat} {xs : Nat → Int32} (XF : XL K Ls xs) {i : Int32} {res : Int32 → Res} (d : decode cc pc = .ok (.iaload, 1)) (n : ∀ z, V K (pc + 1) L (vI z :: st) h (res z)) : V K pc L (vI i :: vR (some 0) :: st) h (sld Ls xs i res) := by
  unfold sld
  by_cases q : 0 ≤ i ∧ i.toNatClampNeg < Ls
  · rw [if_pos q]
    obtain ⟨q2, q3⟩ := q
    intro r h' e9
    obtain ⟨a1, b1⟩ := n _ r h' e9
    refine ⟨a1, ?_⟩
    rcases K with ⟨md1, nL, nm, _ | ⟨p, l, e, R, s, m, args, below, meth, c, D, cy, base, ad0, n0, mc, ms⟩⟩
    · exact True.intro
    obtain ⟨hmd, hx, hb, hml, hown, hts, hlk, henv, hmc, hms, hstk, hret, htab, hlv1, hlv2, hnm⟩ := F
    obtain ⟨x1, x2, x3, x4, -⟩ := XF
    intro ad H locs cells slots ls w1 w2 w3 w4 w5 w6 w7
    have e0 : ad 0 = ad0 0 := w3.1 0 (by omega)
    have k9 := va_sld hx hb (A := bA base) x1 (by omega) (by show ¬ base ≤ ad0 0; omega) w2 (vpin q2 q3) d (b1 ad H locs cells slots ls w1 w2 w3 w4 (ok_psh okv_I (ok_pop (ok_pop w5))) w6 w7)
    rw [← e0] at k9
    exact k9
  · rw [if_neg q]; exact V_none
theorem V_slen {K : CT} {cc : ByteArray} {own : String} {ret : Option FieldType} {hh : List (Nat × Nat × Nat × Nat)} {lvl md : Nat} (F : Fr K cc own ret hh lvl md) {pc : Nat} {L : List (Nat × MV)} {st : List MV} {h : MH} {Ls : Nat} {xs : Nat → Int32} (XF : XL K Ls xs) {res : Int32 → Res} (d : decode cc pc = .ok (.arraylength, 1)) (n : ∀ z, V K (pc + 1) L (vI z :: st) h (res z)) : V K pc L (vR (some 0) :: st) h (bnd (Int32.ofNat Ls) res) := by
  intro r h' e9
  obtain ⟨a1, b1⟩ := n _ r h' e9
  refine ⟨a1, ?_⟩
  rcases K with ⟨md1, nL, nm, _ | ⟨p, l, e, R, s, m, args, below, meth, c, D, cy, base, ad0, n0, mc, ms⟩⟩
  · exact True.intro
  obtain ⟨hmd, hx, hb, hml, hown, hts, hlk, henv, hmc, hms, hstk, hret, htab, hlv1, hlv2, hnm⟩ := F
  obtain ⟨x1, x2, x3, x4, -⟩ := XF
  intro ad H locs cells slots ls w1 w2 w3 w4 w5 w6 w7
  have e0 : ad 0 = ad0 0 := w3.1 0 (by omega)
  have k9 := va_slen hx hb (A := bA base) x1 (by omega) (by show ¬ base ≤ ad0 0; omega) w2 d (b1 ad H locs cells slots ls w1 w2 w3 w4 (ok_psh okv_I (ok_pop w5)) w6 w7)
  rw [← e0] at k9
  exact k9
def rtL (x : Int32) (h : MH) : Res := if x = 1 then some (.inl (some (vI x)), h) else none
theorem V_lawret {K : CT} {own : String} {hh : List (Nat × Nat × Nat × Nat)} {lvl : Nat} (F : Fr K code own Jvm.Pilot.CGyreWatchLaw_law_r1115_220210.ret hh lvl 2) {Ls : Nat} {xs : Nat → Int32} (XF : XL K Ls xs) {pc : Nat} {L : List (Nat × MV)} {h : MH} {x : Int32} (d : decode code pc = .ok (.ireturn, 1)) : V K pc L [vI x] h (rtL x h) := by
  unfold rtL
  by_cases q : x = 1
  · rw [if_pos q]
    have hm1 : K.1 = 2 := F.1
    intro r h' e9
    cases e9
    refine ⟨⟨Hle.rf, fun z => by omega⟩, ?_⟩
    rcases K with ⟨md1, nL, nm, _ | ⟨p, l, e, R, s, m, args, below, meth, c, D, cy, base, ad0, n0, mc, ms⟩⟩
    · exact True.intro
    obtain ⟨hmd, hx, hb, hml, hown, hts, hlk, henv, hmc, hms, hstk, hret, htab, hlv1, hlv2, hnm⟩ := F
    obtain ⟨x1, x2, x3, x4, rfl, rfl, rfl, rfl⟩ := XF
    have hm2 : md1 = 2 := hm1
    subst hm2
    subst q
    intro ad H locs cells slots ls w1 w2 w3 w4 w5 w6 w7
    refine va_forget (fun q hq => by have := w2.2.2 q hq; rw [← x3]; exact this) ?_
    refine W.widen (k := 601024) (n := 7293034) (by omega) (by omega) ?_
    exact lw_ret hx hb hret hlk d
  · rw [if_neg q]; exact V_none
end
