def M_X8_init (x0 : Option Nat) (h : MH) : Res := nnl x0 <| nwO h 5 fun r1 h2 => nnl r1 <| calV (M_X5_init r1 h2) fun h3 => pfR h3 x0 8 0 r1 fun h4 => nwA h4 22 (8 : Int32) fun r5 h6 => pfR h6 x0 8 1 r5 fun h7 => nwO h7 2 fun r8 h9 => nnl r8 <| calV (M_X2_init r8 h9) fun h10 => pfR h10 x0 8 2 r8 fun h11 => nwO h11 7 fun r12 h13 => nnl r12 <| calV (M_X7_init r12 h13) fun h14 => pfR h14 x0 8 3 r12 fun h15 => nwA h15 25 (4 : Int32) fun r16 h17 => pfR h17 x0 8 4 r16 fun h18 => nwA h18 23 (6 : Int32) fun r19 h20 => pfR h20 x0 8 5 r19 fun h21 => rtV h21
theorem vM_X8_init {K : CT} (F : Fr K cX8_init RX8 none [] 3 0) (hm : mxL K = 1) (hi : nmK K "<init>") (x0 : Option Nat) (h : MH) : V K 0 [(0, vR x0)] [] h (M_X8_init x0 h) := by
  unfold M_X8_init
  refine V_aload_n (pc := 0) F dX8_init_0 0 rfl ?_
  refine V_obj (pc := 1) F (by decide) g_ml_RX8_3 g_in_obj g_cw_obj (Nat.le_of_ble_eq_true rfl) dX8_init_1 ?_
  refine V_aload_n (pc := 4) F dX8_init_4 0 rfl ?_
  refine V_new (pc := 5) F 5 (by decide) rfl g_clN_RX8_9 g_inst_5 g_iniN_5 dX8_init_5 ?_
  intro r1 h2
  refine V_dup (pc := 8) F dX8_init_8 rfl ?_
  refine V_cIN (pc := 9) F (as := []) (C_X5_init r1 h2) rfl w_X5_init g_in_X5_init (host := "GyreWatch") (by decide +kernel) (by decide) (rest := [vR r1, vR x0]) rfl rfl (Nat.le_of_ble_eq_true rfl) dX8_init_9 (k_V fun h3 => ?_)
  refine V_putRF (pc := 12) F hi 8 0 (by decide) (by decide) rfl rfl rfl g_fl_RX8_12 dX8_init_12 ?_
  intro h4
  refine V_aload_n (pc := 15) F dX8_init_15 0 rfl ?_
  refine V_bipush (pc := 16) F (x := (8 : Int32)) dX8_init_16 (by decide) ?_
  refine V_newq (pc := 18) F 22 (by decide) g_clA_RX8_16 (by decide) dX8_init_18 ?_
  intro r5 h6
  refine V_putRF (pc := 21) F hi 8 1 (by decide) (by decide) rfl rfl rfl g_fl_RX8_18 dX8_init_21 ?_
  intro h7
  refine V_aload_n (pc := 24) F dX8_init_24 0 rfl ?_
  refine V_new (pc := 25) F 2 (by decide) rfl g_clN_RX8_22 g_inst_2 g_iniN_2 dX8_init_25 ?_
  intro r8 h9
  refine V_dup (pc := 28) F dX8_init_28 rfl ?_
  refine V_cIN (pc := 29) F (as := []) (C_X2_init r8 h9) rfl w_X2_init g_in_X2_init (host := "GyreWatch") (by decide +kernel) (by decide) (rest := [vR r8, vR x0]) rfl rfl (Nat.le_of_ble_eq_true rfl) dX8_init_29 (k_V fun h10 => ?_)
  refine V_putRF (pc := 32) F hi 8 2 (by decide) (by decide) rfl rfl rfl g_fl_RX8_25 dX8_init_32 ?_
  intro h11
  refine V_aload_n (pc := 35) F dX8_init_35 0 rfl ?_
  refine V_new (pc := 36) F 7 (by decide) rfl g_clN_RX8_29 g_inst_7 g_iniN_7 dX8_init_36 ?_
  intro r12 h13
  refine V_dup (pc := 39) F dX8_init_39 rfl ?_
  refine V_cIN (pc := 40) F (as := []) (C_X7_init r12 h13) rfl w_X7_init g_in_X7_init (host := "GyreWatch") (by decide +kernel) (by decide) (rest := [vR r12, vR x0]) rfl rfl (Nat.le_of_ble_eq_true rfl) dX8_init_40 (k_V fun h14 => ?_)
  refine V_putRF (pc := 43) F hi 8 3 (by decide) (by decide) rfl rfl rfl g_fl_RX8_32 dX8_init_43 ?_
  intro h15
  refine V_aload_n (pc := 46) F dX8_init_46 0 rfl ?_
  refine V_iconst (pc := 47) F (x := (4 : Int32)) dX8_init_47 (by decide) ?_
  refine V_newq (pc := 48) F 25 (by decide) g_clA_RX8_36 (by decide) dX8_init_48 ?_
  intro r16 h17
  refine V_putRF (pc := 51) F hi 8 4 (by decide) (by decide) rfl rfl rfl g_fl_RX8_38 dX8_init_51 ?_
  intro h18
  refine V_aload_n (pc := 54) F dX8_init_54 0 rfl ?_
  refine V_bipush (pc := 55) F (x := (6 : Int32)) dX8_init_55 (by decide) ?_
  refine V_newq (pc := 57) F 23 (by decide) g_clA_RX8_42 (by decide) dX8_init_57 ?_
  intro r19 h20
  refine V_putRF (pc := 60) F hi 8 5 (by decide) (by decide) rfl rfl rfl g_fl_RX8_44 dX8_init_60 ?_
  intro h21
  exact V_vret (pc := 63) F (Or.inl rfl) dX8_init_63
theorem C_X8_init (x0 : Option Nat) (h : MH) : CtrM yX8_init (WSm yX8_init cX8_init 1 none) 3 [vR x0] h (M_X8_init x0 h) :=
  CtrM_of (by decide) (Nat.le_of_ble_eq_true rfl) (fun K F hm hi => vM_X8_init F hm hi x0 h)
def M_X8_needCell (x0 : Int32) (h : MH) : Res := calI (M_X8_isCell x0 h) fun z1 h2 => if z1 ≠ 0 then (rtV h2) else (some (.inr 1, exc h2))
theorem vM_X8_needCell {K : CT} (F : Fr K cX8_needCell RX8 none [] 6 1) (hm : mxL K = 1) (x0 : Int32) (h : MH) : V K 0 [(0, vI x0)] [] h (M_X8_needCell x0 h) := by
  unfold M_X8_needCell
  refine V_iload_n (pc := 0) F dX8_needCell_0 0 rfl ?_
  refine V_cSM (pc := 1) F (as := [vI x0]) (C_X8_isCell x0 h) w_X8_isCell g_st_X8_isCell g_ml_RX8_276 (by decide) (rest := []) rfl rfl (Nat.le_of_ble_eq_true rfl) dX8_needCell_1 (k_I fun z1 h2 => ?_)
  refine V_if_ne (pc := 4) F 18 dX8_needCell_4 (by decide) ?_ ?_
  · exact V_vret (pc := 18) F (Or.inr rfl) dX8_needCell_18
  · exact V_thrW (pc := 7) F 1 (tx := "there is no such cell") (by decide) g_cl_RX8_279 g_ini_java_lang_IndexOutOfBoundsException (by decide +kernel) g_ata_RX8_283_279 g_atb_RX8_283_279 g_atc_RX8_283_279 dX8_needCell_7 dX8_needCell_10 dX8_needCell_11 dX8_needCell_14 dX8_needCell_17
theorem C_X8_needCell (x0 : Int32) (h : MH) : CtrX yX8_needCell (WSm yX8_needCell cX8_needCell 1 none) 6 [vI x0] h (M_X8_needCell x0 h) :=
  CtrX_of (by decide) (Nat.le_of_ble_eq_true rfl) (fun K F hm hi => vM_X8_needCell F hm x0 h)
def B_X8_isTaken_39 (rc11 : Option Nat → Int32 → Option Nat → Int32 → Int32 → MH → Res) (x0 : Option Nat) (x1 : Int32) (x2 : Option Nat) (x3 : Int32) (x4 : Int32) (h : MH) : Res := bnd (x4 + (1)) fun z7 => rc11 x0 x1 x2 x3 z7 h
def B_X8_isTaken_84 (rc56 : Option Nat → Int32 → Option Nat → Int32 → Int32 → MH → Res) (x0 : Option Nat) (x1 : Int32) (x2 : Option Nat) (x3 : Int32) (x4 : Int32) (h : MH) : Res := bnd (x4 + (1)) fun z13 => rc56 x0 x1 x2 x3 z13 h
def B_X8_isTaken_56 (rc56 : Option Nat → Int32 → Option Nat → Int32 → Int32 → MH → Res) (x0 : Option Nat) (x1 : Int32) (x2 : Option Nat) (x3 : Int32) (x4 : Int32) (h : MH) : Res := if x3 ≤ x4 then (gfR h x0 8 3 fun r8 => chk h r8 7 <| calI (M_X7_hasStationIn r8 x1 h) fun z9 h10 => rtZ z9 h10) else (rdR h x2 x4 fun r11 => if r11 = none then (B_X8_isTaken_84 rc56 x0 x1 x2 x3 x4 h) else (gfI h r11 6 0 fun z12 => if z12 ≠ x1 then (B_X8_isTaken_84 rc56 x0 x1 x2 x3 x4 h) else (rtZ (1 : Int32) h)))
def L_X8_isTaken_56 : Nat → Option Nat → Int32 → Option Nat → Int32 → Int32 → MH → Res
  | 0 => fun _ _ _ _ _ _ => none
  | n + 1 => B_X8_isTaken_56 (L_X8_isTaken_56 n)
def B_X8_isTaken_11 (rc11 : Option Nat → Int32 → Option Nat → Int32 → Int32 → MH → Res) (x0 : Option Nat) (x1 : Int32) (x2 : Option Nat) (x3 : Int32) (x4 : Int32) (h : MH) : Res := if x3 ≤ x4 then (gfR h x0 8 4 fun r3 => aln h r3 fun z4 => L_X8_isTaken_56 fuel x0 x1 r3 z4 (0 : Int32) h) else (rdR h x2 x4 fun r5 => if r5 = none then (B_X8_isTaken_39 rc11 x0 x1 x2 x3 x4 h) else (gfI h r5 0 3 fun z6 => if z6 ≠ x1 then (B_X8_isTaken_39 rc11 x0 x1 x2 x3 x4 h) else (rtZ (1 : Int32) h)))
def L_X8_isTaken_11 : Nat → Option Nat → Int32 → Option Nat → Int32 → Int32 → MH → Res
  | 0 => fun _ _ _ _ _ _ => none
  | n + 1 => B_X8_isTaken_11 (L_X8_isTaken_11 n)
def M_X8_isTaken (x0 : Option Nat) (x1 : Int32) (h : MH) : Res := gfR h x0 8 1 fun r1 => aln h r1 fun z2 => L_X8_isTaken_11 fuel x0 x1 r1 z2 (0 : Int32) h
theorem vB_X8_isTaken_39 {K : CT} (F : Fr K cX8_isTaken RX8 (some .boolean) [] 3 0) (hm : mxL K = 6) (rc11 : Option Nat → Int32 → Option Nat → Int32 → Int32 → MH → Res) (hrc11 : ∀ x0 x1 x2 x3 x4 h, V K 11 [(0, vR x0), (1, vI x1), (2, vR x2), (3, vI x3), (4, vI x4)] [] h (rc11 x0 x1 x2 x3 x4 h)) (x0 : Option Nat) (x1 : Int32) (x2 : Option Nat) (x3 : Int32) (x4 : Int32) (h : MH) : V K 39 [(0, vR x0), (1, vI x1), (2, vR x2), (3, vI x3), (4, vI x4)] [] h (B_X8_isTaken_39 rc11 x0 x1 x2 x3 x4 h) := by
  unfold B_X8_isTaken_39
  refine V_iinc (pc := 39) F (fun z7 => [(4, vI z7), (0, vR x0), (1, vI x1), (2, vR x2), (3, vI x3)]) dX8_isTaken_39 (lt_mx hm (by decide)) 4 rfl (dx := (1 : Int32)) (by decide) (fun _ => rfl) ?_
  intro z7
  refine V_goto (pc := 42) F 11 dX8_isTaken_42 (by decide) ?_
  refine V_sub [1, 2, 3, 4, 0] (L' := [(0, vR x0), (1, vI x1), (2, vR x2), (3, vI x3), (4, vI z7)]) rfl ?_
  exact hrc11 x0 x1 x2 x3 z7 h
theorem vB_X8_isTaken_84 {K : CT} (F : Fr K cX8_isTaken RX8 (some .boolean) [] 3 0) (hm : mxL K = 6) (rc56 : Option Nat → Int32 → Option Nat → Int32 → Int32 → MH → Res) (hrc56 : ∀ x0 x1 x2 x3 x4 h, V K 56 [(0, vR x0), (1, vI x1), (2, vR x2), (3, vI x3), (4, vI x4)] [] h (rc56 x0 x1 x2 x3 x4 h)) (x0 : Option Nat) (x1 : Int32) (x2 : Option Nat) (x3 : Int32) (x4 : Int32) (h : MH) : V K 84 [(0, vR x0), (1, vI x1), (2, vR x2), (3, vI x3), (4, vI x4)] [] h (B_X8_isTaken_84 rc56 x0 x1 x2 x3 x4 h) := by
  unfold B_X8_isTaken_84
  refine V_iinc (pc := 84) F (fun z13 => [(4, vI z13), (0, vR x0), (1, vI x1), (2, vR x2), (3, vI x3)]) dX8_isTaken_84 (lt_mx hm (by decide)) 4 rfl (dx := (1 : Int32)) (by decide) (fun _ => rfl) ?_
  intro z13
  refine V_goto (pc := 87) F 56 dX8_isTaken_87 (by decide) ?_
  refine V_sub [1, 2, 3, 4, 0] (L' := [(0, vR x0), (1, vI x1), (2, vR x2), (3, vI x3), (4, vI z13)]) rfl ?_
  exact hrc56 x0 x1 x2 x3 z13 h
theorem vB_X8_isTaken_56 {K : CT} (F : Fr K cX8_isTaken RX8 (some .boolean) [] 3 0) (hm : mxL K = 6) (rc56 : Option Nat → Int32 → Option Nat → Int32 → Int32 → MH → Res) (hrc56 : ∀ x0 x1 x2 x3 x4 h, V K 56 [(0, vR x0), (1, vI x1), (2, vR x2), (3, vI x3), (4, vI x4)] [] h (rc56 x0 x1 x2 x3 x4 h)) (x0 : Option Nat) (x1 : Int32) (x2 : Option Nat) (x3 : Int32) (x4 : Int32) (h : MH) : V K 56 [(0, vR x0), (1, vI x1), (2, vR x2), (3, vI x3), (4, vI x4)] [] h (B_X8_isTaken_56 rc56 x0 x1 x2 x3 x4 h) := by
  unfold B_X8_isTaken_56
  refine V_iload (pc := 56) F dX8_isTaken_56 4 rfl ?_
  refine V_iload_n (pc := 58) F dX8_isTaken_58 3 rfl ?_
  refine V_icmp_ge (pc := 59) F 90 dX8_isTaken_59 (by decide) ?_ ?_
  · refine V_aload_n (pc := 90) F dX8_isTaken_90 0 rfl ?_
    refine V_getR (pc := 91) F 8 3 (by decide) (by decide) rfl g_fl_RX8_32 dX8_isTaken_91 ?_
    intro r8
    refine V_iload_n (pc := 94) F dX8_isTaken_94 1 rfl ?_
    refine V_cVM (pc := 95) F 7 (by decide) (as := [vI x1]) (C_X7_hasStationIn r8 x1 h) w_X7_hasStationIn g_in_X7_hasStationIn g_se_X7_hasStationIn g_ml_RX8_304 (by decide) (rest := []) rfl rfl (Nat.le_of_ble_eq_true rfl) dX8_isTaken_95 (k_I fun z9 h10 => ?_)
    exact V_zret (pc := 98) F (Or.inl rfl) dX8_isTaken_98
  · refine V_aload_n (pc := 62) F dX8_isTaken_62 2 rfl ?_
    refine V_iload (pc := 63) F dX8_isTaken_63 4 rfl ?_
    refine V_aald (pc := 65) F dX8_isTaken_65 ?_
    intro r11
    refine V_astore (pc := 66) F [(5, vR r11), (0, vR x0), (1, vI x1), (2, vR x2), (3, vI x3), (4, vI x4)] dX8_isTaken_66 (lt_mx hm (by decide)) rfl ?_
    refine V_aload (pc := 68) F dX8_isTaken_68 0 rfl ?_
    refine V_ifnull (pc := 70) F 84 dX8_isTaken_70 (by decide) ?_ ?_
    · refine V_sub [1, 2, 3, 4, 5] (L' := [(0, vR x0), (1, vI x1), (2, vR x2), (3, vI x3), (4, vI x4)]) rfl ?_
      exact vB_X8_isTaken_84 F hm rc56 hrc56 x0 x1 x2 x3 x4 h
    · refine V_aload (pc := 73) F dX8_isTaken_73 0 rfl ?_
      refine V_getI (pc := 75) F 6 0 (by decide) (by decide) rfl g_fl_RX8_301 dX8_isTaken_75 ?_
      intro z12
      refine V_iload_n (pc := 78) F dX8_isTaken_78 2 rfl ?_
      refine V_icmp_ne (pc := 79) F 84 dX8_isTaken_79 (by decide) ?_ ?_
      · refine V_sub [1, 2, 3, 4, 5] (L' := [(0, vR x0), (1, vI x1), (2, vR x2), (3, vI x3), (4, vI x4)]) rfl ?_
        exact vB_X8_isTaken_84 F hm rc56 hrc56 x0 x1 x2 x3 x4 h
      · refine V_iconst (pc := 82) F (x := (1 : Int32)) dX8_isTaken_82 (by decide) ?_
        exact V_zret (pc := 83) F (Or.inl rfl) dX8_isTaken_83
theorem vL_X8_isTaken_56 {K : CT} (F : Fr K cX8_isTaken RX8 (some .boolean) [] 3 0) (hm : mxL K = 6) (n : Nat) : ∀ x0 x1 x2 x3 x4 h, V K 56 [(0, vR x0), (1, vI x1), (2, vR x2), (3, vI x3), (4, vI x4)] [] h (L_X8_isTaken_56 n x0 x1 x2 x3 x4 h) := by
  induction n with
  | zero => intros; exact V_none
  | succ n ih => intro x0 x1 x2 x3 x4 h; exact vB_X8_isTaken_56 F hm _ ih x0 x1 x2 x3 x4 h
theorem vB_X8_isTaken_11 {K : CT} (F : Fr K cX8_isTaken RX8 (some .boolean) [] 3 0) (hm : mxL K = 6) (rc11 : Option Nat → Int32 → Option Nat → Int32 → Int32 → MH → Res) (hrc11 : ∀ x0 x1 x2 x3 x4 h, V K 11 [(0, vR x0), (1, vI x1), (2, vR x2), (3, vI x3), (4, vI x4)] [] h (rc11 x0 x1 x2 x3 x4 h)) (x0 : Option Nat) (x1 : Int32) (x2 : Option Nat) (x3 : Int32) (x4 : Int32) (h : MH) : V K 11 [(0, vR x0), (1, vI x1), (2, vR x2), (3, vI x3), (4, vI x4)] [] h (B_X8_isTaken_11 rc11 x0 x1 x2 x3 x4 h) := by
  unfold B_X8_isTaken_11
  refine V_iload (pc := 11) F dX8_isTaken_11 4 rfl ?_
  refine V_iload_n (pc := 13) F dX8_isTaken_13 3 rfl ?_
  refine V_icmp_ge (pc := 14) F 45 dX8_isTaken_14 (by decide) ?_ ?_
  · refine V_aload_n (pc := 45) F dX8_isTaken_45 0 rfl ?_
    refine V_getR (pc := 46) F 8 4 (by decide) (by decide) rfl g_fl_RX8_38 dX8_isTaken_46 ?_
    intro r3
    refine V_astore_n (pc := 49) F [(2, vR r3), (0, vR x0), (1, vI x1), (3, vI x3), (4, vI x4)] dX8_isTaken_49 (lt_mx hm (by decide)) rfl ?_
    refine V_aload_n (pc := 50) F dX8_isTaken_50 0 rfl ?_
    refine V_alen (pc := 51) F dX8_isTaken_51 ?_
    intro z4
    refine V_istore_n (pc := 52) F [(3, vI z4), (2, vR r3), (0, vR x0), (1, vI x1), (4, vI x4)] dX8_isTaken_52 (lt_mx hm (by decide)) rfl ?_
    refine V_iconst (pc := 53) F (x := (0 : Int32)) dX8_isTaken_53 (by decide) ?_
    refine V_istore (pc := 54) F [(4, vI (0 : Int32)), (3, vI z4), (2, vR r3), (0, vR x0), (1, vI x1)] dX8_isTaken_54 (lt_mx hm (by decide)) rfl ?_
    refine V_sub [3, 4, 2, 1, 0] (L' := [(0, vR x0), (1, vI x1), (2, vR r3), (3, vI z4), (4, vI (0 : Int32))]) rfl ?_
    exact vL_X8_isTaken_56 F hm fuel x0 x1 r3 z4 (0 : Int32) h
  · refine V_aload_n (pc := 17) F dX8_isTaken_17 2 rfl ?_
    refine V_iload (pc := 18) F dX8_isTaken_18 4 rfl ?_
    refine V_aald (pc := 20) F dX8_isTaken_20 ?_
    intro r5
    refine V_astore (pc := 21) F [(5, vR r5), (0, vR x0), (1, vI x1), (2, vR x2), (3, vI x3), (4, vI x4)] dX8_isTaken_21 (lt_mx hm (by decide)) rfl ?_
    refine V_aload (pc := 23) F dX8_isTaken_23 0 rfl ?_
    refine V_ifnull (pc := 25) F 39 dX8_isTaken_25 (by decide) ?_ ?_
    · refine V_sub [1, 2, 3, 4, 5] (L' := [(0, vR x0), (1, vI x1), (2, vR x2), (3, vI x3), (4, vI x4)]) rfl ?_
      exact vB_X8_isTaken_39 F hm rc11 hrc11 x0 x1 x2 x3 x4 h
    · refine V_aload (pc := 28) F dX8_isTaken_28 0 rfl ?_
      refine V_getI (pc := 30) F 0 3 (by decide) (by decide) rfl g_fl_RX8_215 dX8_isTaken_30 ?_
      intro z6
      refine V_iload_n (pc := 33) F dX8_isTaken_33 2 rfl ?_
      refine V_icmp_ne (pc := 34) F 39 dX8_isTaken_34 (by decide) ?_ ?_
      · refine V_sub [1, 2, 3, 4, 5] (L' := [(0, vR x0), (1, vI x1), (2, vR x2), (3, vI x3), (4, vI x4)]) rfl ?_
        exact vB_X8_isTaken_39 F hm rc11 hrc11 x0 x1 x2 x3 x4 h
      · refine V_iconst (pc := 37) F (x := (1 : Int32)) dX8_isTaken_37 (by decide) ?_
        exact V_zret (pc := 38) F (Or.inl rfl) dX8_isTaken_38
theorem vL_X8_isTaken_11 {K : CT} (F : Fr K cX8_isTaken RX8 (some .boolean) [] 3 0) (hm : mxL K = 6) (n : Nat) : ∀ x0 x1 x2 x3 x4 h, V K 11 [(0, vR x0), (1, vI x1), (2, vR x2), (3, vI x3), (4, vI x4)] [] h (L_X8_isTaken_11 n x0 x1 x2 x3 x4 h) := by
  induction n with
  | zero => intros; exact V_none
  | succ n ih => intro x0 x1 x2 x3 x4 h; exact vB_X8_isTaken_11 F hm _ ih x0 x1 x2 x3 x4 h
theorem vM_X8_isTaken {K : CT} (F : Fr K cX8_isTaken RX8 (some .boolean) [] 3 0) (hm : mxL K = 6) (x0 : Option Nat) (x1 : Int32) (h : MH) : V K 0 [(0, vR x0), (1, vI x1)] [] h (M_X8_isTaken x0 x1 h) := by
  unfold M_X8_isTaken
  refine V_aload_n (pc := 0) F dX8_isTaken_0 0 rfl ?_
  refine V_getR (pc := 1) F 8 1 (by decide) (by decide) rfl g_fl_RX8_18 dX8_isTaken_1 ?_
  intro r1
  refine V_astore_n (pc := 4) F [(2, vR r1), (0, vR x0), (1, vI x1)] dX8_isTaken_4 (lt_mx hm (by decide)) rfl ?_
  refine V_aload_n (pc := 5) F dX8_isTaken_5 0 rfl ?_
  refine V_alen (pc := 6) F dX8_isTaken_6 ?_
  intro z2
  refine V_istore_n (pc := 7) F [(3, vI z2), (2, vR r1), (0, vR x0), (1, vI x1)] dX8_isTaken_7 (lt_mx hm (by decide)) rfl ?_
  refine V_iconst (pc := 8) F (x := (0 : Int32)) dX8_isTaken_8 (by decide) ?_
  refine V_istore (pc := 9) F [(4, vI (0 : Int32)), (3, vI z2), (2, vR r1), (0, vR x0), (1, vI x1)] dX8_isTaken_9 (lt_mx hm (by decide)) rfl ?_
  refine V_sub [3, 4, 2, 1, 0] (L' := [(0, vR x0), (1, vI x1), (2, vR r1), (3, vI z2), (4, vI (0 : Int32))]) rfl ?_
  exact vL_X8_isTaken_11 F hm fuel x0 x1 r1 z2 (0 : Int32) h
theorem C_X8_isTaken (x0 : Option Nat) (x1 : Int32) (h : MH) : CtrM yX8_isTaken (WSm yX8_isTaken cX8_isTaken 6 (some .boolean)) 3 [vR x0, vI x1] h (M_X8_isTaken x0 x1 h) :=
  CtrM_of (by decide) (Nat.le_of_ble_eq_true rfl) (fun K F hm hi => vM_X8_isTaken F hm x0 x1 h)
def M_X8_land (x0 : Option Nat) (x1 : Int32) (h : MH) : Res := calV (M_X8_needCell x1 h) fun h1 => gfI h1 x0 8 9 fun z2 => if z2 ≠ 0 then (some (.inr 3, exc h1)) else (gfR h1 x0 8 0 fun r3 => chk h1 r3 5 <| calI (M_X5_isLand r3 x1 h1) fun z4 h5 => if z4 ≠ 0 then (some (.inr 3, exc h5)) else (chk h5 x0 8 <| calI (M_X8_isTaken x0 x1 h5) fun z6 h7 => if z6 = 0 then (gfR h7 x0 8 0 fun r8 => chk h7 r8 5 <| calI (M_X5_makeLand r8 x1 h7) fun z9 h10 => rtI z9 h10) else (some (.inr 3, exc h7))))
theorem vM_X8_land {K : CT} (F : Fr K cX8_land RX8 (some .int) [] 7 1) (hm : mxL K = 2) (x0 : Option Nat) (x1 : Int32) (h : MH) : V K 0 [(0, vR x0), (1, vI x1)] [] h (M_X8_land x0 x1 h) := by
  unfold M_X8_land
  refine V_iload_n (pc := 0) F dX8_land_0 1 rfl ?_
  refine V_cS (pc := 1) F (as := [vI x1]) (C_X8_needCell x1 h) w_X8_needCell g_st_X8_needCell g_ml_RX8_48 (by decide) (rest := []) rfl rfl (Nat.le_of_ble_eq_true rfl) dX8_land_1 (k_V fun h1 => ?_) (fun _ _ => VX_out F)
  refine V_aload_n (pc := 4) F dX8_land_4 0 rfl ?_
  refine V_getI (pc := 5) F 8 9 (by decide) (by decide) rfl g_fl_RX8_52 dX8_land_5 ?_
  intro z2
  refine V_if_ne (pc := 8) F 30 dX8_land_8 (by decide) ?_ ?_
  · exact V_thr (pc := 30) F 3 (tx := "the cell can\'t be made LAND") (by decide) g_cl_RX8_63 g_ini_java_lang_IllegalStateException (by decide +kernel) g_ata_RX8_67_63 g_atb_RX8_67_63 g_atc_RX8_67_63 dX8_land_30 dX8_land_33 dX8_land_34 dX8_land_36 dX8_land_39
  · refine V_aload_n (pc := 11) F dX8_land_11 0 rfl ?_
    refine V_getR (pc := 12) F 8 0 (by decide) (by decide) rfl g_fl_RX8_12 dX8_land_12 ?_
    intro r3
    refine V_iload_n (pc := 15) F dX8_land_15 1 rfl ?_
    refine V_cVM (pc := 16) F 5 (by decide) (as := [vI x1]) (C_X5_isLand r3 x1 h1) w_X5_isLand g_in_X5_isLand g_se_X5_isLand g_ml_RX8_56 (by decide) (rest := []) rfl rfl (Nat.le_of_ble_eq_true rfl) dX8_land_16 (k_I fun z4 h5 => ?_)
    refine V_if_ne (pc := 19) F 30 dX8_land_19 (by decide) ?_ ?_
    · exact V_thr (pc := 30) F 3 (tx := "the cell can\'t be made LAND") (by decide) g_cl_RX8_63 g_ini_java_lang_IllegalStateException (by decide +kernel) g_ata_RX8_67_63 g_atb_RX8_67_63 g_atc_RX8_67_63 dX8_land_30 dX8_land_33 dX8_land_34 dX8_land_36 dX8_land_39
    · refine V_aload_n (pc := 22) F dX8_land_22 0 rfl ?_
      refine V_iload_n (pc := 23) F dX8_land_23 1 rfl ?_
      refine V_cVM (pc := 24) F 8 (by decide) (as := [vI x1]) (C_X8_isTaken x0 x1 h5) w_X8_isTaken g_in_X8_isTaken g_se_X8_isTaken g_ml_RX8_60 (by decide) (rest := []) rfl rfl (Nat.le_of_ble_eq_true rfl) dX8_land_24 (k_I fun z6 h7 => ?_)
      refine V_if_eq (pc := 27) F 40 dX8_land_27 (by decide) ?_ ?_
      · refine V_aload_n (pc := 40) F dX8_land_40 0 rfl ?_
        refine V_getR (pc := 41) F 8 0 (by decide) (by decide) rfl g_fl_RX8_12 dX8_land_41 ?_
        intro r8
        refine V_iload_n (pc := 44) F dX8_land_44 1 rfl ?_
        refine V_cVM (pc := 45) F 5 (by decide) (as := [vI x1]) (C_X5_makeLand r8 x1 h7) w_X5_makeLand g_in_X5_makeLand g_se_X5_makeLand g_ml_RX8_70 (by decide) (rest := []) rfl rfl (Nat.le_of_ble_eq_true rfl) dX8_land_45 (k_I fun z9 h10 => ?_)
        exact V_iret (pc := 48) F (Or.inr rfl) dX8_land_48
      · exact V_thr (pc := 30) F 3 (tx := "the cell can\'t be made LAND") (by decide) g_cl_RX8_63 g_ini_java_lang_IllegalStateException (by decide +kernel) g_ata_RX8_67_63 g_atb_RX8_67_63 g_atc_RX8_67_63 dX8_land_30 dX8_land_33 dX8_land_34 dX8_land_36 dX8_land_39
theorem C_X8_land (x0 : Option Nat) (x1 : Int32) (h : MH) : CtrX yX8_land (WSm yX8_land cX8_land 2 (some .int)) 7 [vR x0, vI x1] h (M_X8_land x0 x1 h) :=
  CtrX_of (by decide) (Nat.le_of_ble_eq_true rfl) (fun K F hm hi => vM_X8_land F hm x0 x1 h)
def M_X8_needRange (x0 : Int32) (x1 : Int32) (x2 : Int32) (h : MH) : Res := if x0 < x1 then (some (.inr 2, exc h)) else (if x0 ≤ x2 then (rtV h) else (some (.inr 2, exc h)))
theorem vM_X8_needRange {K : CT} (F : Fr K cX8_needRange RX8 none [] 6 1) (hm : mxL K = 3) (x0 : Int32) (x1 : Int32) (x2 : Int32) (h : MH) : V K 0 [(0, vI x0), (1, vI x1), (2, vI x2)] [] h (M_X8_needRange x0 x1 x2 h) := by
  unfold M_X8_needRange
  refine V_iload_n (pc := 0) F dX8_needRange_0 0 rfl ?_
  refine V_iload_n (pc := 1) F dX8_needRange_1 1 rfl ?_
  refine V_icmp_lt (pc := 2) F 10 dX8_needRange_2 (by decide) ?_ ?_
  · exact V_thrW (pc := 10) F 2 (tx := "an argument is out of its range") (by decide) g_cl_RX8_284 g_ini_java_lang_IllegalArgumentException (by decide +kernel) g_ata_RX8_288_284 g_atb_RX8_288_284 g_atc_RX8_288_284 dX8_needRange_10 dX8_needRange_13 dX8_needRange_14 dX8_needRange_17 dX8_needRange_20
  · refine V_iload_n (pc := 5) F dX8_needRange_5 0 rfl ?_
    refine V_iload_n (pc := 6) F dX8_needRange_6 2 rfl ?_
    refine V_icmp_le (pc := 7) F 21 dX8_needRange_7 (by decide) ?_ ?_
    · exact V_vret (pc := 21) F (Or.inr rfl) dX8_needRange_21
    · exact V_thrW (pc := 10) F 2 (tx := "an argument is out of its range") (by decide) g_cl_RX8_284 g_ini_java_lang_IllegalArgumentException (by decide +kernel) g_ata_RX8_288_284 g_atb_RX8_288_284 g_atc_RX8_288_284 dX8_needRange_10 dX8_needRange_13 dX8_needRange_14 dX8_needRange_17 dX8_needRange_20
theorem C_X8_needRange (x0 : Int32) (x1 : Int32) (x2 : Int32) (h : MH) : CtrX yX8_needRange (WSm yX8_needRange cX8_needRange 3 none) 6 [vI x0, vI x1, vI x2] h (M_X8_needRange x0 x1 x2 h) :=
  CtrX_of (by decide) (Nat.le_of_ble_eq_true rfl) (fun K F hm hi => vM_X8_needRange F hm x0 x1 x2 h)
def M_X8_station (x0 : Option Nat) (x1 : Int32) (x2 : Int32) (h : MH) : Res := calV (M_X8_needCell x2 h) fun h1 => gfI h1 x0 8 9 fun z2 => bnd (z2 + (1 : Int32)) fun z3 => calV (M_X8_needRange x1 z3 (1000 : Int32) h1) fun h4 => gfR h4 x0 8 0 fun r5 => chk h4 r5 5 <| calI (M_X5_isLand r5 x2 h4) fun z6 h7 => if z6 ≠ 0 then (some (.inr 3, exc h7)) else (gfR h7 x0 8 3 fun r8 => chk h7 r8 7 <| calI (M_X7_hasStation r8 x1 x2 h7) fun z9 h10 => if z9 ≠ 0 then (some (.inr 3, exc h10)) else (gfR h10 x0 8 3 fun r11 => chk h10 r11 7 <| calI (M_X7_areAllStationsTold r11 h10) fun z12 h13 => if z12 = 0 then (gfR h13 x0 8 3 fun r14 => chk h13 r14 7 <| calI (M_X7_tellStation r14 x1 x2 h13) fun z15 h16 => rtI z15 h16) else (some (.inr 3, exc h13))))
theorem vM_X8_station {K : CT} (F : Fr K cX8_station RX8 (some .int) [] 7 1) (hm : mxL K = 3) (x0 : Option Nat) (x1 : Int32) (x2 : Int32) (h : MH) : V K 0 [(0, vR x0), (1, vI x1), (2, vI x2)] [] h (M_X8_station x0 x1 x2 h) := by
  unfold M_X8_station
  refine V_iload_n (pc := 0) F dX8_station_0 2 rfl ?_
  refine V_cS (pc := 1) F (as := [vI x2]) (C_X8_needCell x2 h) w_X8_needCell g_st_X8_needCell g_ml_RX8_48 (by decide) (rest := []) rfl rfl (Nat.le_of_ble_eq_true rfl) dX8_station_1 (k_V fun h1 => ?_) (fun _ _ => VX_out F)
  refine V_iload_n (pc := 4) F dX8_station_4 1 rfl ?_
  refine V_aload_n (pc := 5) F dX8_station_5 0 rfl ?_
  refine V_getI (pc := 6) F 8 9 (by decide) (by decide) rfl g_fl_RX8_52 dX8_station_6 ?_
  intro z2
  refine V_iconst (pc := 9) F (x := (1 : Int32)) dX8_station_9 (by decide) ?_
  refine V_iadd (pc := 10) F dX8_station_10 ?_
  intro z3
  refine V_sipush (pc := 11) F (x := (1000 : Int32)) dX8_station_11 (by decide) ?_
  refine V_cS (pc := 14) F (as := [vI x1, vI z3, vI (1000 : Int32)]) (C_X8_needRange x1 z3 (1000 : Int32) h1) w_X8_needRange g_st_X8_needRange g_ml_RX8_74 (by decide) (rest := []) rfl rfl (Nat.le_of_ble_eq_true rfl) dX8_station_14 (k_V fun h4 => ?_) (fun _ _ => VX_out F)
  refine V_aload_n (pc := 17) F dX8_station_17 0 rfl ?_
  refine V_getR (pc := 18) F 8 0 (by decide) (by decide) rfl g_fl_RX8_12 dX8_station_18 ?_
  intro r5
  refine V_iload_n (pc := 21) F dX8_station_21 2 rfl ?_
  refine V_cVM (pc := 22) F 5 (by decide) (as := [vI x2]) (C_X5_isLand r5 x2 h4) w_X5_isLand g_in_X5_isLand g_se_X5_isLand g_ml_RX8_56 (by decide) (rest := []) rfl rfl (Nat.le_of_ble_eq_true rfl) dX8_station_22 (k_I fun z6 h7 => ?_)
  refine V_if_ne (pc := 25) F 50 dX8_station_25 (by decide) ?_ ?_
  · exact V_thr (pc := 50) F 3 (tx := "no station can be told there") (by decide) g_cl_RX8_63 g_ini_java_lang_IllegalStateException (by decide +kernel) g_ata_RX8_67_63 g_atb_RX8_67_63 g_atc_RX8_67_63 dX8_station_50 dX8_station_53 dX8_station_54 dX8_station_56 dX8_station_59
  · refine V_aload_n (pc := 28) F dX8_station_28 0 rfl ?_
    refine V_getR (pc := 29) F 8 3 (by decide) (by decide) rfl g_fl_RX8_32 dX8_station_29 ?_
    intro r8
    refine V_iload_n (pc := 32) F dX8_station_32 1 rfl ?_
    refine V_iload_n (pc := 33) F dX8_station_33 2 rfl ?_
    refine V_cVM (pc := 34) F 7 (by decide) (as := [vI x1, vI x2]) (C_X7_hasStation r8 x1 x2 h7) w_X7_hasStation g_in_X7_hasStation g_se_X7_hasStation g_ml_RX8_102 (by decide) (rest := []) rfl rfl (Nat.le_of_ble_eq_true rfl) dX8_station_34 (k_I fun z9 h10 => ?_)
    refine V_if_ne (pc := 37) F 50 dX8_station_37 (by decide) ?_ ?_
    · exact V_thr (pc := 50) F 3 (tx := "no station can be told there") (by decide) g_cl_RX8_63 g_ini_java_lang_IllegalStateException (by decide +kernel) g_ata_RX8_67_63 g_atb_RX8_67_63 g_atc_RX8_67_63 dX8_station_50 dX8_station_53 dX8_station_54 dX8_station_56 dX8_station_59
    · refine V_aload_n (pc := 40) F dX8_station_40 0 rfl ?_
      refine V_getR (pc := 41) F 8 3 (by decide) (by decide) rfl g_fl_RX8_32 dX8_station_41 ?_
      intro r11
      refine V_cVM (pc := 44) F 7 (by decide) (as := []) (C_X7_areAllStationsTold r11 h10) w_X7_areAllStationsTold g_in_X7_areAllStationsTold g_se_X7_areAllStationsTold g_ml_RX8_105 (by decide) (rest := []) rfl rfl (Nat.le_of_ble_eq_true rfl) dX8_station_44 (k_I fun z12 h13 => ?_)
      refine V_if_eq (pc := 47) F 60 dX8_station_47 (by decide) ?_ ?_
      · refine V_aload_n (pc := 60) F dX8_station_60 0 rfl ?_
        refine V_getR (pc := 61) F 8 3 (by decide) (by decide) rfl g_fl_RX8_32 dX8_station_61 ?_
        intro r14
        refine V_iload_n (pc := 64) F dX8_station_64 1 rfl ?_
        refine V_iload_n (pc := 65) F dX8_station_65 2 rfl ?_
        refine V_cVM (pc := 66) F 7 (by decide) (as := [vI x1, vI x2]) (C_X7_tellStation r14 x1 x2 h13) w_X7_tellStation g_in_X7_tellStation g_se_X7_tellStation g_ml_RX8_111 (by decide) (rest := []) rfl rfl (Nat.le_of_ble_eq_true rfl) dX8_station_66 (k_I fun z15 h16 => ?_)
        exact V_iret (pc := 69) F (Or.inr rfl) dX8_station_69
      · exact V_thr (pc := 50) F 3 (tx := "no station can be told there") (by decide) g_cl_RX8_63 g_ini_java_lang_IllegalStateException (by decide +kernel) g_ata_RX8_67_63 g_atb_RX8_67_63 g_atc_RX8_67_63 dX8_station_50 dX8_station_53 dX8_station_54 dX8_station_56 dX8_station_59
theorem C_X8_station (x0 : Option Nat) (x1 : Int32) (x2 : Int32) (h : MH) : CtrX yX8_station (WSm yX8_station cX8_station 3 (some .int)) 7 [vR x0, vI x1, vI x2] h (M_X8_station x0 x1 x2 h) :=
  CtrX_of (by decide) (Nat.le_of_ble_eq_true rfl) (fun K F hm hi => vM_X8_station F hm x0 x1 x2 h)
def M_X8_storm (x0 : Option Nat) (x1 : Int32) (x2 : Int32) (h : MH) : Res := gfI h x0 8 9 fun z1 => bnd (z1 + (1 : Int32)) fun z2 => calV (M_X8_needRange x1 z2 (1000 : Int32) h) fun h3 => calV (M_X8_needRange x2 x1 (1000 : Int32) h3) fun h4 => gfR h4 x0 8 3 fun r5 => chk h4 r5 7 <| calI (M_X7_areAllStormsTold r5 h4) fun z6 h7 => if z6 = 0 then (gfR h7 x0 8 3 fun r8 => chk h7 r8 7 <| calI (M_X7_calmStations r8 x1 x2 h7) fun z9 h10 => gfR h10 x0 8 3 fun r11 => chk h10 r11 7 <| calV (M_X7_tellStorm r11 x1 x2 h10) fun h12 => rtI z9 h12) else (some (.inr 3, exc h7))
theorem vM_X8_storm {K : CT} (F : Fr K cX8_storm RX8 (some .int) [] 7 1) (hm : mxL K = 4) (x0 : Option Nat) (x1 : Int32) (x2 : Int32) (h : MH) : V K 0 [(0, vR x0), (1, vI x1), (2, vI x2)] [] h (M_X8_storm x0 x1 x2 h) := by
  unfold M_X8_storm
  refine V_iload_n (pc := 0) F dX8_storm_0 1 rfl ?_
  refine V_aload_n (pc := 1) F dX8_storm_1 0 rfl ?_
  refine V_getI (pc := 2) F 8 9 (by decide) (by decide) rfl g_fl_RX8_52 dX8_storm_2 ?_
  intro z1
  refine V_iconst (pc := 5) F (x := (1 : Int32)) dX8_storm_5 (by decide) ?_
  refine V_iadd (pc := 6) F dX8_storm_6 ?_
  intro z2
  refine V_sipush (pc := 7) F (x := (1000 : Int32)) dX8_storm_7 (by decide) ?_
  refine V_cS (pc := 10) F (as := [vI x1, vI z2, vI (1000 : Int32)]) (C_X8_needRange x1 z2 (1000 : Int32) h) w_X8_needRange g_st_X8_needRange g_ml_RX8_74 (by decide) (rest := []) rfl rfl (Nat.le_of_ble_eq_true rfl) dX8_storm_10 (k_V fun h3 => ?_) (fun _ _ => VX_out F)
  refine V_iload_n (pc := 13) F dX8_storm_13 2 rfl ?_
  refine V_iload_n (pc := 14) F dX8_storm_14 1 rfl ?_
  refine V_sipush (pc := 15) F (x := (1000 : Int32)) dX8_storm_15 (by decide) ?_
  refine V_cS (pc := 18) F (as := [vI x2, vI x1, vI (1000 : Int32)]) (C_X8_needRange x2 x1 (1000 : Int32) h3) w_X8_needRange g_st_X8_needRange g_ml_RX8_74 (by decide) (rest := []) rfl rfl (Nat.le_of_ble_eq_true rfl) dX8_storm_18 (k_V fun h4 => ?_) (fun _ _ => VX_out F)
  refine V_aload_n (pc := 21) F dX8_storm_21 0 rfl ?_
  refine V_getR (pc := 22) F 8 3 (by decide) (by decide) rfl g_fl_RX8_32 dX8_storm_22 ?_
  intro r5
  refine V_cVM (pc := 25) F 7 (by decide) (as := []) (C_X7_areAllStormsTold r5 h4) w_X7_areAllStormsTold g_in_X7_areAllStormsTold g_se_X7_areAllStormsTold g_ml_RX8_115 (by decide) (rest := []) rfl rfl (Nat.le_of_ble_eq_true rfl) dX8_storm_25 (k_I fun z6 h7 => ?_)
  refine V_if_eq (pc := 28) F 41 dX8_storm_28 (by decide) ?_ ?_
  · refine V_aload_n (pc := 41) F dX8_storm_41 0 rfl ?_
    refine V_getR (pc := 42) F 8 3 (by decide) (by decide) rfl g_fl_RX8_32 dX8_storm_42 ?_
    intro r8
    refine V_iload_n (pc := 45) F dX8_storm_45 1 rfl ?_
    refine V_iload_n (pc := 46) F dX8_storm_46 2 rfl ?_
    refine V_cVM (pc := 47) F 7 (by decide) (as := [vI x1, vI x2]) (C_X7_calmStations r8 x1 x2 h7) w_X7_calmStations g_in_X7_calmStations g_se_X7_calmStations g_ml_RX8_120 (by decide) (rest := []) rfl rfl (Nat.le_of_ble_eq_true rfl) dX8_storm_47 (k_I fun z9 h10 => ?_)
    refine V_istore_n (pc := 50) F [(3, vI z9), (0, vR x0), (1, vI x1), (2, vI x2)] dX8_storm_50 (lt_mx hm (by decide)) rfl ?_
    refine V_aload_n (pc := 51) F dX8_storm_51 1 rfl ?_
    refine V_getR (pc := 52) F 8 3 (by decide) (by decide) rfl g_fl_RX8_32 dX8_storm_52 ?_
    intro r11
    refine V_iload_n (pc := 55) F dX8_storm_55 2 rfl ?_
    refine V_iload_n (pc := 56) F dX8_storm_56 3 rfl ?_
    refine V_cVM (pc := 57) F 7 (by decide) (as := [vI x1, vI x2]) (C_X7_tellStorm r11 x1 x2 h10) w_X7_tellStorm g_in_X7_tellStorm g_se_X7_tellStorm g_ml_RX8_123 (by decide) (rest := []) rfl rfl (Nat.le_of_ble_eq_true rfl) dX8_storm_57 (k_V fun h12 => ?_)
    refine V_iload_n (pc := 60) F dX8_storm_60 0 rfl ?_
    exact V_iret (pc := 61) F (Or.inr rfl) dX8_storm_61
  · exact V_thr (pc := 31) F 3 (tx := "20 storms were told") (by decide) g_cl_RX8_63 g_ini_java_lang_IllegalStateException (by decide +kernel) g_ata_RX8_67_63 g_atb_RX8_67_63 g_atc_RX8_67_63 dX8_storm_31 dX8_storm_34 dX8_storm_35 dX8_storm_37 dX8_storm_40
theorem C_X8_storm (x0 : Option Nat) (x1 : Int32) (x2 : Int32) (h : MH) : CtrX yX8_storm (WSm yX8_storm cX8_storm 4 (some .int)) 7 [vR x0, vI x1, vI x2] h (M_X8_storm x0 x1 x2 h) :=
  CtrX_of (by decide) (Nat.le_of_ble_eq_true rfl) (fun K F hm hi => vM_X8_storm F hm x0 x1 x2 h)
def B_X8_buoyNumbered_22 (s0 : Option Nat) (h : MH) : Res := if s0 ≠ none then (rtR s0 h) else (some (.inr 1, exc h))
def M_X8_buoyNumbered (x0 : Option Nat) (x1 : Int32) (h : MH) : Res := gfR h x0 8 1 fun r1 => aln h r1 fun z2 => calI (M_X8_isIndex x1 z2 h) fun z3 h4 => if z3 = 0 then (B_X8_buoyNumbered_22 none h4) else (gfR h4 x0 8 1 fun r5 => rdR h4 r5 x1 fun r6 => B_X8_buoyNumbered_22 r6 h4)
theorem vB_X8_buoyNumbered_22 {K : CT} (F : Fr K cX8_buoyNumbered RX8 (some (.object "GyreWatch$Buoy")) [] 6 1) (hm : mxL K = 3) (s0 : Option Nat) (h : MH) : V K 22 [] [vR s0] h (B_X8_buoyNumbered_22 s0 h) := by
  unfold B_X8_buoyNumbered_22
  refine V_astore_n (pc := 22) F [(2, vR s0)] dX8_buoyNumbered_22 (lt_mx hm (by decide)) rfl ?_
  refine V_aload_n (pc := 23) F dX8_buoyNumbered_23 0 rfl ?_
  refine V_ifnonnull (pc := 24) F 38 dX8_buoyNumbered_24 (by decide) ?_ ?_
  · refine V_aload_n (pc := 38) F dX8_buoyNumbered_38 0 rfl ?_
    exact V_aret (pc := 39) F (Or.inr rfl) (Or.inl ⟨_, rfl⟩) dX8_buoyNumbered_39
  · exact V_thrW (pc := 27) F 1 (tx := "there is no such float") (by decide) g_cl_RX8_279 g_ini_java_lang_IndexOutOfBoundsException (by decide +kernel) g_ata_RX8_283_279 g_atb_RX8_283_279 g_atc_RX8_283_279 dX8_buoyNumbered_27 dX8_buoyNumbered_30 dX8_buoyNumbered_31 dX8_buoyNumbered_34 dX8_buoyNumbered_37
theorem vM_X8_buoyNumbered {K : CT} (F : Fr K cX8_buoyNumbered RX8 (some (.object "GyreWatch$Buoy")) [] 6 1) (hm : mxL K = 3) (x0 : Option Nat) (x1 : Int32) (h : MH) : V K 0 [(0, vR x0), (1, vI x1)] [] h (M_X8_buoyNumbered x0 x1 h) := by
  unfold M_X8_buoyNumbered
  refine V_iload_n (pc := 0) F dX8_buoyNumbered_0 1 rfl ?_
  refine V_aload_n (pc := 1) F dX8_buoyNumbered_1 0 rfl ?_
  refine V_getR (pc := 2) F 8 1 (by decide) (by decide) rfl g_fl_RX8_18 dX8_buoyNumbered_2 ?_
  intro r1
  refine V_alen (pc := 5) F dX8_buoyNumbered_5 ?_
  intro z2
  refine V_cSM (pc := 6) F (as := [vI x1, vI z2]) (C_X8_isIndex x1 z2 h) w_X8_isIndex g_st_X8_isIndex g_ml_RX8_93 (by decide) (rest := []) rfl rfl (Nat.le_of_ble_eq_true rfl) dX8_buoyNumbered_6 (k_I fun z3 h4 => ?_)
  refine V_if_eq (pc := 9) F 21 dX8_buoyNumbered_9 (by decide) ?_ ?_
  · refine V_null (pc := 21) F dX8_buoyNumbered_21 ?_
    refine V_sub [] (L' := []) rfl ?_
    exact vB_X8_buoyNumbered_22 F hm none h4
  · refine V_aload_n (pc := 12) F dX8_buoyNumbered_12 0 rfl ?_
    refine V_getR (pc := 13) F 8 1 (by decide) (by decide) rfl g_fl_RX8_18 dX8_buoyNumbered_13 ?_
    intro r5
    refine V_iload_n (pc := 16) F dX8_buoyNumbered_16 1 rfl ?_
    refine V_aald (pc := 17) F dX8_buoyNumbered_17 ?_
    intro r6
    refine V_goto (pc := 18) F 22 dX8_buoyNumbered_18 (by decide) ?_
    refine V_sub [] (L' := []) rfl ?_
    exact vB_X8_buoyNumbered_22 F hm r6 h4
theorem C_X8_buoyNumbered (x0 : Option Nat) (x1 : Int32) (h : MH) : CtrX yX8_buoyNumbered (WSm yX8_buoyNumbered cX8_buoyNumbered 3 (some (.object "GyreWatch$Buoy"))) 6 [vR x0, vI x1] h (M_X8_buoyNumbered x0 x1 h) :=
  CtrX_of (by decide) (Nat.le_of_ble_eq_true rfl) (fun K F hm hi => vM_X8_buoyNumbered F hm x0 x1 h)
def B_X8_calibrate_11 (rc11 : Option Nat → Option Nat → Option Nat → MH → Res) (x0 : Option Nat) (x2 : Option Nat) (x3 : Option Nat) (h : MH) : Res := if x3 = none then (some (.inr 3, exc h)) else (gfR h x0 8 2 fun r4 => chk h r4 2 <| calR (M_X2_nearestOfShip r4 x3 h) fun r5 h6 => if r5 = none then (gfR h6 x3 4 5 fun r7 => rc11 x0 x2 r7 h6) else (gfI h6 x3 4 2 fun z8 => gfI h6 r5 4 2 fun z9 => bnd (z8 - z9) fun z10 => pfI h6 x2 0 6 z10 fun h11 => gfI h11 x2 0 6 fun z12 => rtI z12 h11))
def L_X8_calibrate_11 : Nat → Option Nat → Option Nat → Option Nat → MH → Res
  | 0 => fun _ _ _ _ => none
  | n + 1 => B_X8_calibrate_11 (L_X8_calibrate_11 n)
def M_X8_calibrate (x0 : Option Nat) (x1 : Int32) (h : MH) : Res := chk h x0 8 <| calR (M_X8_buoyNumbered x0 x1 h) fun r1 h2 => gfR h2 r1 0 8 fun r3 => L_X8_calibrate_11 fuel x0 r1 r3 h2
theorem vB_X8_calibrate_11 {K : CT} (F : Fr K cX8_calibrate RX8 (some .int) [] 7 1) (hm : mxL K = 5) (rc11 : Option Nat → Option Nat → Option Nat → MH → Res) (hrc11 : ∀ x0 x2 x3 h, V K 11 [(0, vR x0), (2, vR x2), (3, vR x3)] [] h (rc11 x0 x2 x3 h)) (x0 : Option Nat) (x2 : Option Nat) (x3 : Option Nat) (h : MH) : V K 11 [(0, vR x0), (2, vR x2), (3, vR x3)] [] h (B_X8_calibrate_11 rc11 x0 x2 x3 h) := by
  unfold B_X8_calibrate_11
  refine V_aload_n (pc := 11) F dX8_calibrate_11 2 rfl ?_
  refine V_ifnull (pc := 12) F 57 dX8_calibrate_12 (by decide) ?_ ?_
  · exact V_thr (pc := 57) F 3 (tx := "no reading of a ship is near") (by decide) g_cl_RX8_63 g_ini_java_lang_IllegalStateException (by decide +kernel) g_ata_RX8_67_63 g_atb_RX8_67_63 g_atc_RX8_67_63 dX8_calibrate_57 dX8_calibrate_60 dX8_calibrate_61 dX8_calibrate_63 dX8_calibrate_66
  · refine V_aload_n (pc := 15) F dX8_calibrate_15 0 rfl ?_
    refine V_getR (pc := 16) F 8 2 (by decide) (by decide) rfl g_fl_RX8_25 dX8_calibrate_16 ?_
    intro r4
    refine V_aload_n (pc := 19) F dX8_calibrate_19 2 rfl ?_
    refine V_cVM (pc := 20) F 2 (by decide) (as := [vR x3]) (C_X2_nearestOfShip r4 x3 h) w_X2_nearestOfShip g_in_X2_nearestOfShip g_se_X2_nearestOfShip g_ml_RX8_135 (by decide) (rest := []) rfl rfl (Nat.le_of_ble_eq_true rfl) dX8_calibrate_20 (k_R fun r5 h6 => ?_)
    refine V_astore (pc := 23) F [(4, vR r5), (0, vR x0), (2, vR x2), (3, vR x3)] dX8_calibrate_23 (lt_mx hm (by decide)) rfl ?_
    refine V_aload (pc := 25) F dX8_calibrate_25 0 rfl ?_
    refine V_ifnull (pc := 27) F 49 dX8_calibrate_27 (by decide) ?_ ?_
    · refine V_aload_n (pc := 49) F dX8_calibrate_49 3 rfl ?_
      refine V_getR (pc := 50) F 4 5 (by decide) (by decide) rfl g_fl_RX8_147 dX8_calibrate_50 ?_
      intro r7
      refine V_astore_n (pc := 53) F [(3, vR r7), (4, vR r5), (0, vR x0), (2, vR x2)] dX8_calibrate_53 (lt_mx hm (by decide)) rfl ?_
      refine V_goto (pc := 54) F 11 dX8_calibrate_54 (by decide) ?_
      refine V_sub [2, 3, 0] (L' := [(0, vR x0), (2, vR x2), (3, vR r7)]) rfl ?_
      exact hrc11 x0 x2 r7 h6
    · refine V_aload_n (pc := 30) F dX8_calibrate_30 2 rfl ?_
      refine V_aload_n (pc := 31) F dX8_calibrate_31 3 rfl ?_
      refine V_getI (pc := 32) F 4 2 (by decide) (by decide) rfl g_fl_RX8_139 dX8_calibrate_32 ?_
      intro z8
      refine V_aload (pc := 35) F dX8_calibrate_35 0 rfl ?_
      refine V_getI (pc := 37) F 4 2 (by decide) (by decide) rfl g_fl_RX8_139 dX8_calibrate_37 ?_
      intro z9
      refine V_isub (pc := 40) F dX8_calibrate_40 ?_
      intro z10
      refine V_putI (pc := 41) F 0 6 (by decide) (by decide) rfl rfl g_fl_RX8_144 dX8_calibrate_41 ?_
      intro h11
      refine V_aload_n (pc := 44) F dX8_calibrate_44 2 rfl ?_
      refine V_getI (pc := 45) F 0 6 (by decide) (by decide) rfl g_fl_RX8_144 dX8_calibrate_45 ?_
      intro z12
      exact V_iret (pc := 48) F (Or.inr rfl) dX8_calibrate_48
theorem vL_X8_calibrate_11 {K : CT} (F : Fr K cX8_calibrate RX8 (some .int) [] 7 1) (hm : mxL K = 5) (n : Nat) : ∀ x0 x2 x3 h, V K 11 [(0, vR x0), (2, vR x2), (3, vR x3)] [] h (L_X8_calibrate_11 n x0 x2 x3 h) := by
  induction n with
  | zero => intros; exact V_none
  | succ n ih => intro x0 x2 x3 h; exact vB_X8_calibrate_11 F hm _ ih x0 x2 x3 h
theorem vM_X8_calibrate {K : CT} (F : Fr K cX8_calibrate RX8 (some .int) [] 7 1) (hm : mxL K = 5) (x0 : Option Nat) (x1 : Int32) (h : MH) : V K 0 [(0, vR x0), (1, vI x1)] [] h (M_X8_calibrate x0 x1 h) := by
  unfold M_X8_calibrate
  refine V_aload_n (pc := 0) F dX8_calibrate_0 0 rfl ?_
  refine V_iload_n (pc := 1) F dX8_calibrate_1 1 rfl ?_
  refine V_cV (pc := 2) F 8 (by decide) (as := [vI x1]) (C_X8_buoyNumbered x0 x1 h) w_X8_buoyNumbered g_in_X8_buoyNumbered g_se_X8_buoyNumbered g_ml_RX8_127 (by decide) (rest := []) rfl rfl (Nat.le_of_ble_eq_true rfl) dX8_calibrate_2 (k_R fun r1 h2 => ?_) (fun _ _ => VX_out F)
  refine V_astore_n (pc := 5) F [(2, vR r1), (0, vR x0), (1, vI x1)] dX8_calibrate_5 (lt_mx hm (by decide)) rfl ?_
  refine V_aload_n (pc := 6) F dX8_calibrate_6 0 rfl ?_
  refine V_getR (pc := 7) F 0 8 (by decide) (by decide) rfl g_fl_RX8_131 dX8_calibrate_7 ?_
  intro r3
  refine V_astore_n (pc := 10) F [(3, vR r3), (2, vR r1), (0, vR x0), (1, vI x1)] dX8_calibrate_10 (lt_mx hm (by decide)) rfl ?_
  refine V_sub [2, 1, 0] (L' := [(0, vR x0), (2, vR r1), (3, vR r3)]) rfl ?_
  exact vL_X8_calibrate_11 F hm fuel x0 r1 r3 h2
theorem C_X8_calibrate (x0 : Option Nat) (x1 : Int32) (h : MH) : CtrX yX8_calibrate (WSm yX8_calibrate cX8_calibrate 5 (some .int)) 7 [vR x0, vI x1] h (M_X8_calibrate x0 x1 h) :=
  CtrX_of (by decide) (Nat.le_of_ble_eq_true rfl) (fun K F hm hi => vM_X8_calibrate F hm x0 x1 h)
def M_X8_search (x0 : Option Nat) (x1 : Int32) (h : MH) : Res := calV (M_X8_needCell x1 h) fun h1 => gfI h1 x0 8 7 fun z2 => gfR h1 x0 8 0 fun r3 => chk h1 r3 5 <| calI (M_X5_isLand r3 x1 h1) fun z4 h5 => if z4 ≠ 0 then (some (.inr 3, exc h5)) else (gfR h5 x0 8 4 fun r6 => aln h5 r6 fun z7 => calI (M_X8_isIndex z2 z7 h5) fun z8 h9 => if z8 ≠ 0 then (gfR h9 x0 8 4 fun r10 => nwO h9 6 fun r11 h12 => nnl r11 <| calV (M_X6_init r11 x1 h12) fun h13 => wrR h13 r10 z2 r11 fun h14 => bnd (z2 + (1 : Int32)) fun z15 => pfI h14 x0 8 7 z15 fun h16 => rtI z2 h16) else (some (.inr 3, exc h9)))
theorem vM_X8_search {K : CT} (F : Fr K cX8_search RX8 (some .int) [] 7 1) (hm : mxL K = 3) (x0 : Option Nat) (x1 : Int32) (h : MH) : V K 0 [(0, vR x0), (1, vI x1)] [] h (M_X8_search x0 x1 h) := by
  unfold M_X8_search
  refine V_iload_n (pc := 0) F dX8_search_0 1 rfl ?_
  refine V_cS (pc := 1) F (as := [vI x1]) (C_X8_needCell x1 h) w_X8_needCell g_st_X8_needCell g_ml_RX8_48 (by decide) (rest := []) rfl rfl (Nat.le_of_ble_eq_true rfl) dX8_search_1 (k_V fun h1 => ?_) (fun _ _ => VX_out F)
  refine V_aload_n (pc := 4) F dX8_search_4 0 rfl ?_
  refine V_getI (pc := 5) F 8 7 (by decide) (by decide) rfl g_fl_RX8_165 dX8_search_5 ?_
  intro z2
  refine V_istore_n (pc := 8) F [(2, vI z2), (0, vR x0), (1, vI x1)] dX8_search_8 (lt_mx hm (by decide)) rfl ?_
  refine V_aload_n (pc := 9) F dX8_search_9 1 rfl ?_
  refine V_getR (pc := 10) F 8 0 (by decide) (by decide) rfl g_fl_RX8_12 dX8_search_10 ?_
  intro r3
  refine V_iload_n (pc := 13) F dX8_search_13 2 rfl ?_
  refine V_cVM (pc := 14) F 5 (by decide) (as := [vI x1]) (C_X5_isLand r3 x1 h1) w_X5_isLand g_in_X5_isLand g_se_X5_isLand g_ml_RX8_56 (by decide) (rest := []) rfl rfl (Nat.le_of_ble_eq_true rfl) dX8_search_14 (k_I fun z4 h5 => ?_)
  refine V_if_ne (pc := 17) F 32 dX8_search_17 (by decide) ?_ ?_
  · exact V_thr (pc := 32) F 3 (tx := "no search can begin there") (by decide) g_cl_RX8_63 g_ini_java_lang_IllegalStateException (by decide +kernel) g_ata_RX8_67_63 g_atb_RX8_67_63 g_atc_RX8_67_63 dX8_search_32 dX8_search_35 dX8_search_36 dX8_search_38 dX8_search_41
  · refine V_iload_n (pc := 20) F dX8_search_20 0 rfl ?_
    refine V_aload_n (pc := 21) F dX8_search_21 1 rfl ?_
    refine V_getR (pc := 22) F 8 4 (by decide) (by decide) rfl g_fl_RX8_38 dX8_search_22 ?_
    intro r6
    refine V_alen (pc := 25) F dX8_search_25 ?_
    intro z7
    refine V_cSM (pc := 26) F (as := [vI z2, vI z7]) (C_X8_isIndex z2 z7 h5) w_X8_isIndex g_st_X8_isIndex g_ml_RX8_93 (by decide) (rest := []) rfl rfl (Nat.le_of_ble_eq_true rfl) dX8_search_26 (k_I fun z8 h9 => ?_)
    refine V_if_ne (pc := 29) F 42 dX8_search_29 (by decide) ?_ ?_
    · refine V_aload_n (pc := 42) F dX8_search_42 1 rfl ?_
      refine V_getR (pc := 43) F 8 4 (by decide) (by decide) rfl g_fl_RX8_38 dX8_search_43 ?_
      intro r10
      refine V_iload_n (pc := 46) F dX8_search_46 0 rfl ?_
      refine V_new (pc := 47) F 6 (by decide) rfl g_clN_RX8_36 g_inst_6 g_iniN_6 dX8_search_47 ?_
      intro r11 h12
      refine V_dup (pc := 50) F dX8_search_50 rfl ?_
      refine V_iload_n (pc := 51) F dX8_search_51 2 rfl ?_
      refine V_cI (pc := 52) F (as := [vI x1]) (C_X6_init r11 x1 h12) rfl w_X6_init g_in_X6_init g_ml_RX8_170 (by decide) (rest := [vR r11, vI z2, vR r10]) rfl rfl (Nat.le_of_ble_eq_true rfl) dX8_search_52 (k_V fun h13 => ?_)
      refine V_aast (pc := 55) F dX8_search_55 ?_
      intro h14
      refine V_aload_n (pc := 56) F dX8_search_56 1 rfl ?_
      refine V_iload_n (pc := 57) F dX8_search_57 0 rfl ?_
      refine V_iconst (pc := 58) F (x := (1 : Int32)) dX8_search_58 (by decide) ?_
      refine V_iadd (pc := 59) F dX8_search_59 ?_
      intro z15
      refine V_putI (pc := 60) F 8 7 (by decide) (by decide) rfl rfl g_fl_RX8_165 dX8_search_60 ?_
      intro h16
      refine V_iload_n (pc := 63) F dX8_search_63 0 rfl ?_
      exact V_iret (pc := 64) F (Or.inr rfl) dX8_search_64
    · exact V_thr (pc := 32) F 3 (tx := "no search can begin there") (by decide) g_cl_RX8_63 g_ini_java_lang_IllegalStateException (by decide +kernel) g_ata_RX8_67_63 g_atb_RX8_67_63 g_atc_RX8_67_63 dX8_search_32 dX8_search_35 dX8_search_36 dX8_search_38 dX8_search_41
theorem C_X8_search (x0 : Option Nat) (x1 : Int32) (h : MH) : CtrX yX8_search (WSm yX8_search cX8_search 3 (some .int)) 7 [vR x0, vI x1] h (M_X8_search x0 x1 h) :=
  CtrX_of (by decide) (Nat.le_of_ble_eq_true rfl) (fun K F hm hi => vM_X8_search F hm x0 x1 h)
def M_X8_lay (x0 : Option Nat) (x1 : Int32) (x2 : Int32) (x3 : Int32) (x4 : Int32) (h : MH) : Res := calV (M_X8_needCell x1 h) fun h1 => calV (M_X8_needRange x2 (1 : Int32) (20 : Int32) h1) fun h2 => calV (M_X8_needRange x3 (1 : Int32) (100 : Int32) h2) fun h3 => calV (M_X8_needRange x4 (-50 : Int32) (50 : Int32) h3) fun h4 => gfI h4 x0 8 6 fun z5 => gfR h4 x0 8 0 fun r6 => chk h4 r6 5 <| calI (M_X5_isLand r6 x1 h4) fun z7 h8 => if z7 ≠ 0 then (some (.inr 3, exc h8)) else (gfR h8 x0 8 1 fun r9 => aln h8 r9 fun z10 => calI (M_X8_isIndex z5 z10 h8) fun z11 h12 => if z11 ≠ 0 then (gfR h12 x0 8 1 fun r13 => nwO h12 0 fun r14 h15 => nnl r14 <| calV (M_X0_init r14 z5 x1 x2 x3 x4 h15) fun h16 => wrR h16 r13 z5 r14 fun h17 => bnd (z5 + (1 : Int32)) fun z18 => pfI h17 x0 8 6 z18 fun h19 => rtI z5 h19) else (some (.inr 3, exc h12)))
theorem vM_X8_lay {K : CT} (F : Fr K cX8_lay RX8 (some .int) [] 7 1) (hm : mxL K = 6) (x0 : Option Nat) (x1 : Int32) (x2 : Int32) (x3 : Int32) (x4 : Int32) (h : MH) : V K 0 [(0, vR x0), (1, vI x1), (2, vI x2), (3, vI x3), (4, vI x4)] [] h (M_X8_lay x0 x1 x2 x3 x4 h) := by
  unfold M_X8_lay
  refine V_iload_n (pc := 0) F dX8_lay_0 1 rfl ?_
  refine V_cS (pc := 1) F (as := [vI x1]) (C_X8_needCell x1 h) w_X8_needCell g_st_X8_needCell g_ml_RX8_48 (by decide) (rest := []) rfl rfl (Nat.le_of_ble_eq_true rfl) dX8_lay_1 (k_V fun h1 => ?_) (fun _ _ => VX_out F)
  refine V_iload_n (pc := 4) F dX8_lay_4 2 rfl ?_
  refine V_iconst (pc := 5) F (x := (1 : Int32)) dX8_lay_5 (by decide) ?_
  refine V_bipush (pc := 6) F (x := (20 : Int32)) dX8_lay_6 (by decide) ?_
  refine V_cS (pc := 8) F (as := [vI x2, vI (1 : Int32), vI (20 : Int32)]) (C_X8_needRange x2 (1 : Int32) (20 : Int32) h1) w_X8_needRange g_st_X8_needRange g_ml_RX8_74 (by decide) (rest := []) rfl rfl (Nat.le_of_ble_eq_true rfl) dX8_lay_8 (k_V fun h2 => ?_) (fun _ _ => VX_out F)
  refine V_iload_n (pc := 11) F dX8_lay_11 3 rfl ?_
  refine V_iconst (pc := 12) F (x := (1 : Int32)) dX8_lay_12 (by decide) ?_
  refine V_bipush (pc := 13) F (x := (100 : Int32)) dX8_lay_13 (by decide) ?_
  refine V_cS (pc := 15) F (as := [vI x3, vI (1 : Int32), vI (100 : Int32)]) (C_X8_needRange x3 (1 : Int32) (100 : Int32) h2) w_X8_needRange g_st_X8_needRange g_ml_RX8_74 (by decide) (rest := []) rfl rfl (Nat.le_of_ble_eq_true rfl) dX8_lay_15 (k_V fun h3 => ?_) (fun _ _ => VX_out F)
  refine V_iload (pc := 18) F dX8_lay_18 4 rfl ?_
  refine V_bipush (pc := 20) F (x := (-50 : Int32)) dX8_lay_20 (by decide) ?_
  refine V_bipush (pc := 22) F (x := (50 : Int32)) dX8_lay_22 (by decide) ?_
  refine V_cS (pc := 24) F (as := [vI x4, vI (-50 : Int32), vI (50 : Int32)]) (C_X8_needRange x4 (-50 : Int32) (50 : Int32) h3) w_X8_needRange g_st_X8_needRange g_ml_RX8_74 (by decide) (rest := []) rfl rfl (Nat.le_of_ble_eq_true rfl) dX8_lay_24 (k_V fun h4 => ?_) (fun _ _ => VX_out F)
  refine V_aload_n (pc := 27) F dX8_lay_27 0 rfl ?_
  refine V_getI (pc := 28) F 8 6 (by decide) (by decide) rfl g_fl_RX8_90 dX8_lay_28 ?_
  intro z5
  refine V_istore (pc := 31) F [(5, vI z5), (0, vR x0), (1, vI x1), (2, vI x2), (3, vI x3), (4, vI x4)] dX8_lay_31 (lt_mx hm (by decide)) rfl ?_
  refine V_aload_n (pc := 33) F dX8_lay_33 1 rfl ?_
  refine V_getR (pc := 34) F 8 0 (by decide) (by decide) rfl g_fl_RX8_12 dX8_lay_34 ?_
  intro r6
  refine V_iload_n (pc := 37) F dX8_lay_37 2 rfl ?_
  refine V_cVM (pc := 38) F 5 (by decide) (as := [vI x1]) (C_X5_isLand r6 x1 h4) w_X5_isLand g_in_X5_isLand g_se_X5_isLand g_ml_RX8_56 (by decide) (rest := []) rfl rfl (Nat.le_of_ble_eq_true rfl) dX8_lay_38 (k_I fun z7 h8 => ?_)
  refine V_if_ne (pc := 41) F 57 dX8_lay_41 (by decide) ?_ ?_
  · exact V_thr (pc := 57) F 3 (tx := "no float can be laid out there") (by decide) g_cl_RX8_63 g_ini_java_lang_IllegalStateException (by decide +kernel) g_ata_RX8_67_63 g_atb_RX8_67_63 g_atc_RX8_67_63 dX8_lay_57 dX8_lay_60 dX8_lay_61 dX8_lay_63 dX8_lay_66
  · refine V_iload (pc := 44) F dX8_lay_44 0 rfl ?_
    refine V_aload_n (pc := 46) F dX8_lay_46 1 rfl ?_
    refine V_getR (pc := 47) F 8 1 (by decide) (by decide) rfl g_fl_RX8_18 dX8_lay_47 ?_
    intro r9
    refine V_alen (pc := 50) F dX8_lay_50 ?_
    intro z10
    refine V_cSM (pc := 51) F (as := [vI z5, vI z10]) (C_X8_isIndex z5 z10 h8) w_X8_isIndex g_st_X8_isIndex g_ml_RX8_93 (by decide) (rest := []) rfl rfl (Nat.le_of_ble_eq_true rfl) dX8_lay_51 (k_I fun z11 h12 => ?_)
    refine V_if_ne (pc := 54) F 67 dX8_lay_54 (by decide) ?_ ?_
    · refine V_aload_n (pc := 67) F dX8_lay_67 1 rfl ?_
      refine V_getR (pc := 68) F 8 1 (by decide) (by decide) rfl g_fl_RX8_18 dX8_lay_68 ?_
      intro r13
      refine V_iload (pc := 71) F dX8_lay_71 0 rfl ?_
      refine V_new (pc := 73) F 0 (by decide) rfl g_clN_RX8_16 g_inst_0 g_iniN_0 dX8_lay_73 ?_
      intro r14 h15
      refine V_dup (pc := 76) F dX8_lay_76 rfl ?_
      refine V_iload (pc := 77) F dX8_lay_77 0 rfl ?_
      refine V_iload_n (pc := 79) F dX8_lay_79 2 rfl ?_
      refine V_iload_n (pc := 80) F dX8_lay_80 3 rfl ?_
      refine V_iload_n (pc := 81) F dX8_lay_81 4 rfl ?_
      refine V_iload (pc := 82) F dX8_lay_82 5 rfl ?_
      refine V_cI (pc := 84) F (as := [vI z5, vI x1, vI x2, vI x3, vI x4]) (C_X0_init r14 z5 x1 x2 x3 x4 h15) rfl w_X0_init g_in_X0_init g_ml_RX8_99 (by decide) (rest := [vR r14, vI z5, vR r13]) rfl rfl (Nat.le_of_ble_eq_true rfl) dX8_lay_84 (k_V fun h16 => ?_)
      refine V_aast (pc := 87) F dX8_lay_87 ?_
      intro h17
      refine V_aload_n (pc := 88) F dX8_lay_88 1 rfl ?_
      refine V_iload (pc := 89) F dX8_lay_89 0 rfl ?_
      refine V_iconst (pc := 91) F (x := (1 : Int32)) dX8_lay_91 (by decide) ?_
      refine V_iadd (pc := 92) F dX8_lay_92 ?_
      intro z18
      refine V_putI (pc := 93) F 8 6 (by decide) (by decide) rfl rfl g_fl_RX8_90 dX8_lay_93 ?_
      intro h19
      refine V_iload (pc := 96) F dX8_lay_96 0 rfl ?_
      exact V_iret (pc := 98) F (Or.inr rfl) dX8_lay_98
    · exact V_thr (pc := 57) F 3 (tx := "no float can be laid out there") (by decide) g_cl_RX8_63 g_ini_java_lang_IllegalStateException (by decide +kernel) g_ata_RX8_67_63 g_atb_RX8_67_63 g_atc_RX8_67_63 dX8_lay_57 dX8_lay_60 dX8_lay_61 dX8_lay_63 dX8_lay_66
theorem C_X8_lay (x0 : Option Nat) (x1 : Int32) (x2 : Int32) (x3 : Int32) (x4 : Int32) (h : MH) : CtrX yX8_lay (WSm yX8_lay cX8_lay 6 (some .int)) 7 [vR x0, vI x1, vI x2, vI x3, vI x4] h (M_X8_lay x0 x1 x2 x3 x4 h) :=
  CtrX_of (by decide) (Nat.le_of_ble_eq_true rfl) (fun K F hm hi => vM_X8_lay F hm x0 x1 x2 x3 x4 h)
def M_X8_needMap (x0 : Int32) (x1 : Int32) (x2 : Int32) (h : MH) : Res := calV (M_X8_needCell x0 h) fun h1 => calV (M_X8_needRange x1 (0 : Int32) (1000 : Int32) h1) fun h2 => calV (M_X8_needRange x2 (0 : Int32) (1000 : Int32) h2) fun h3 => rtV h3
theorem vM_X8_needMap {K : CT} (F : Fr K cX8_needMap RX8 none [] 7 1) (hm : mxL K = 3) (x0 : Int32) (x1 : Int32) (x2 : Int32) (h : MH) : V K 0 [(0, vI x0), (1, vI x1), (2, vI x2)] [] h (M_X8_needMap x0 x1 x2 h) := by
  unfold M_X8_needMap
  refine V_iload_n (pc := 0) F dX8_needMap_0 0 rfl ?_
  refine V_cS (pc := 1) F (as := [vI x0]) (C_X8_needCell x0 h) w_X8_needCell g_st_X8_needCell g_ml_RX8_48 (by decide) (rest := []) rfl rfl (Nat.le_of_ble_eq_true rfl) dX8_needMap_1 (k_V fun h1 => ?_) (fun _ _ => VX_out F)
  refine V_iload_n (pc := 4) F dX8_needMap_4 1 rfl ?_
  refine V_iconst (pc := 5) F (x := (0 : Int32)) dX8_needMap_5 (by decide) ?_
  refine V_sipush (pc := 6) F (x := (1000 : Int32)) dX8_needMap_6 (by decide) ?_
  refine V_cS (pc := 9) F (as := [vI x1, vI (0 : Int32), vI (1000 : Int32)]) (C_X8_needRange x1 (0 : Int32) (1000 : Int32) h1) w_X8_needRange g_st_X8_needRange g_ml_RX8_74 (by decide) (rest := []) rfl rfl (Nat.le_of_ble_eq_true rfl) dX8_needMap_9 (k_V fun h2 => ?_) (fun _ _ => VX_out F)
  refine V_iload_n (pc := 12) F dX8_needMap_12 2 rfl ?_
  refine V_iconst (pc := 13) F (x := (0 : Int32)) dX8_needMap_13 (by decide) ?_
  refine V_sipush (pc := 14) F (x := (1000 : Int32)) dX8_needMap_14 (by decide) ?_
  refine V_cS (pc := 17) F (as := [vI x2, vI (0 : Int32), vI (1000 : Int32)]) (C_X8_needRange x2 (0 : Int32) (1000 : Int32) h2) w_X8_needRange g_st_X8_needRange g_ml_RX8_74 (by decide) (rest := []) rfl rfl (Nat.le_of_ble_eq_true rfl) dX8_needMap_17 (k_V fun h3 => ?_) (fun _ _ => VX_out F)
  exact V_vret (pc := 20) F (Or.inr rfl) dX8_needMap_20
theorem C_X8_needMap (x0 : Int32) (x1 : Int32) (x2 : Int32) (h : MH) : CtrX yX8_needMap (WSm yX8_needMap cX8_needMap 3 none) 7 [vI x0, vI x1, vI x2] h (M_X8_needMap x0 x1 x2 h) :=
  CtrX_of (by decide) (Nat.le_of_ble_eq_true rfl) (fun K F hm hi => vM_X8_needMap F hm x0 x1 x2 h)
def M_X8_needSea (x0 : Option Nat) (x1 : Int32) (h : MH) : Res := gfR h x0 8 0 fun r1 => chk h r1 5 <| calI (M_X5_isLand r1 x1 h) fun z2 h3 => if z2 = 0 then (rtV h3) else (some (.inr 3, exc h3))
theorem vM_X8_needSea {K : CT} (F : Fr K cX8_needSea RX8 none [] 6 1) (hm : mxL K = 2) (x0 : Option Nat) (x1 : Int32) (h : MH) : V K 0 [(0, vR x0), (1, vI x1)] [] h (M_X8_needSea x0 x1 h) := by
  unfold M_X8_needSea
  refine V_aload_n (pc := 0) F dX8_needSea_0 0 rfl ?_
  refine V_getR (pc := 1) F 8 0 (by decide) (by decide) rfl g_fl_RX8_12 dX8_needSea_1 ?_
  intro r1
  refine V_iload_n (pc := 4) F dX8_needSea_4 1 rfl ?_
  refine V_cVM (pc := 5) F 5 (by decide) (as := [vI x1]) (C_X5_isLand r1 x1 h) w_X5_isLand g_in_X5_isLand g_se_X5_isLand g_ml_RX8_56 (by decide) (rest := []) rfl rfl (Nat.le_of_ble_eq_true rfl) dX8_needSea_5 (k_I fun z2 h3 => ?_)
  refine V_if_eq (pc := 8) F 22 dX8_needSea_8 (by decide) ?_ ?_
  · exact V_vret (pc := 22) F (Or.inr rfl) dX8_needSea_22
  · exact V_thrW (pc := 11) F 3 (tx := "the cell is LAND") (by decide) g_cl_RX8_63 g_ini_java_lang_IllegalStateException (by decide +kernel) g_ata_RX8_67_63 g_atb_RX8_67_63 g_atc_RX8_67_63 dX8_needSea_11 dX8_needSea_14 dX8_needSea_15 dX8_needSea_18 dX8_needSea_21
theorem C_X8_needSea (x0 : Option Nat) (x1 : Int32) (h : MH) : CtrX yX8_needSea (WSm yX8_needSea cX8_needSea 2 none) 6 [vR x0, vI x1] h (M_X8_needSea x0 x1 h) :=
  CtrX_of (by decide) (Nat.le_of_ble_eq_true rfl) (fun K F hm hi => vM_X8_needSea F hm x0 x1 h)
def M_X8_meanWithout (x0 : Option Nat) (x1 : Option Nat) (x2 : Int32) (x3 : Int32) (x4 : Int32) (h : MH) : Res := gfR h x0 8 2 fun r1 => chk h r1 2 <| calI (M_X2_weightsWithout r1 x1 x2 x3 x4 h) fun z2 h3 => if 0 < z2 then (gfR h3 x0 8 2 fun r4 => chk h3 r4 2 <| calL (M_X2_weighedValuesWithout r4 x1 x2 x3 x4 h3) fun z5 h6 => bnd (Int32.toInt64 z2) fun z7 => dvL z5 z7 fun z8 => bnd (Int64.toInt32 z8) fun z9 => rtI z9 h6) else (some (.inr 3, exc h3))
theorem vM_X8_meanWithout {K : CT} (F : Fr K cX8_meanWithout RX8 (some .int) [] 6 1) (hm : mxL K = 6) (x0 : Option Nat) (x1 : Option Nat) (x2 : Int32) (x3 : Int32) (x4 : Int32) (h : MH) : V K 0 [(0, vR x0), (1, vR x1), (2, vI x2), (3, vI x3), (4, vI x4)] [] h (M_X8_meanWithout x0 x1 x2 x3 x4 h) := by
  unfold M_X8_meanWithout
  refine V_aload_n (pc := 0) F dX8_meanWithout_0 0 rfl ?_
  refine V_getR (pc := 1) F 8 2 (by decide) (by decide) rfl g_fl_RX8_25 dX8_meanWithout_1 ?_
  intro r1
  refine V_aload_n (pc := 4) F dX8_meanWithout_4 1 rfl ?_
  refine V_iload_n (pc := 5) F dX8_meanWithout_5 2 rfl ?_
  refine V_iload_n (pc := 6) F dX8_meanWithout_6 3 rfl ?_
  refine V_iload (pc := 7) F dX8_meanWithout_7 4 rfl ?_
  refine V_cVM (pc := 9) F 2 (by decide) (as := [vR x1, vI x2, vI x3, vI x4]) (C_X2_weightsWithout r1 x1 x2 x3 x4 h) w_X2_weightsWithout g_in_X2_weightsWithout g_se_X2_weightsWithout g_ml_RX8_258 (by decide) (rest := []) rfl rfl (Nat.le_of_ble_eq_true rfl) dX8_meanWithout_9 (k_I fun z2 h3 => ?_)
  refine V_istore (pc := 12) F [(5, vI z2), (0, vR x0), (1, vR x1), (2, vI x2), (3, vI x3), (4, vI x4)] dX8_meanWithout_12 (lt_mx hm (by decide)) rfl ?_
  refine V_iload (pc := 14) F dX8_meanWithout_14 0 rfl ?_
  refine V_if_gt (pc := 16) F 30 dX8_meanWithout_16 (by decide) ?_ ?_
  · refine V_aload_n (pc := 30) F dX8_meanWithout_30 1 rfl ?_
    refine V_getR (pc := 31) F 8 2 (by decide) (by decide) rfl g_fl_RX8_25 dX8_meanWithout_31 ?_
    intro r4
    refine V_aload_n (pc := 34) F dX8_meanWithout_34 2 rfl ?_
    refine V_iload_n (pc := 35) F dX8_meanWithout_35 3 rfl ?_
    refine V_iload_n (pc := 36) F dX8_meanWithout_36 4 rfl ?_
    refine V_iload (pc := 37) F dX8_meanWithout_37 5 rfl ?_
    refine V_cVM (pc := 39) F 2 (by decide) (as := [vR x1, vI x2, vI x3, vI x4]) (C_X2_weighedValuesWithout r4 x1 x2 x3 x4 h3) w_X2_weighedValuesWithout g_in_X2_weighedValuesWithout g_se_X2_weighedValuesWithout g_ml_RX8_309 (by decide) (rest := []) rfl rfl (Nat.le_of_ble_eq_true rfl) dX8_meanWithout_39 (k_L fun z5 h6 => ?_)
    refine V_iload (pc := 42) F dX8_meanWithout_42 0 rfl ?_
    refine V_i2l (pc := 44) F dX8_meanWithout_44 ?_
    intro z7
    refine V_ldiv (pc := 45) F dX8_meanWithout_45 ?_
    intro z8
    refine V_l2i (pc := 46) F dX8_meanWithout_46 ?_
    intro z9
    exact V_iret (pc := 47) F (Or.inr rfl) dX8_meanWithout_47
  · exact V_thrW (pc := 19) F 3 (tx := "no reading has a weight") (by decide) g_cl_RX8_63 g_ini_java_lang_IllegalStateException (by decide +kernel) g_ata_RX8_67_63 g_atb_RX8_67_63 g_atc_RX8_67_63 dX8_meanWithout_19 dX8_meanWithout_22 dX8_meanWithout_23 dX8_meanWithout_26 dX8_meanWithout_29
theorem C_X8_meanWithout (x0 : Option Nat) (x1 : Option Nat) (x2 : Int32) (x3 : Int32) (x4 : Int32) (h : MH) : CtrX yX8_meanWithout (WSm yX8_meanWithout cX8_meanWithout 6 (some .int)) 6 [vR x0, vR x1, vI x2, vI x3, vI x4] h (M_X8_meanWithout x0 x1 x2 x3 x4 h) :=
  CtrX_of (by decide) (Nat.le_of_ble_eq_true rfl) (fun K F hm hi => vM_X8_meanWithout F hm x0 x1 x2 x3 x4 h)
def M_X8_mean (x0 : Option Nat) (x1 : Int32) (x2 : Int32) (x3 : Int32) (h : MH) : Res := calV (M_X8_needMap x1 x2 x3 h) fun h1 => chk h1 x0 8 <| calV (M_X8_needSea x0 x1 h1) fun h2 => chk h2 x0 8 <| calI (M_X8_meanWithout x0 none x1 x2 x3 h2) fun z3 h4 => rtI z3 h4
theorem vM_X8_mean {K : CT} (F : Fr K cX8_mean RX8 (some .int) [] 8 1) (hm : mxL K = 4) (x0 : Option Nat) (x1 : Int32) (x2 : Int32) (x3 : Int32) (h : MH) : V K 0 [(0, vR x0), (1, vI x1), (2, vI x2), (3, vI x3)] [] h (M_X8_mean x0 x1 x2 x3 h) := by
  unfold M_X8_mean
  refine V_iload_n (pc := 0) F dX8_mean_0 1 rfl ?_
  refine V_iload_n (pc := 1) F dX8_mean_1 2 rfl ?_
  refine V_iload_n (pc := 2) F dX8_mean_2 3 rfl ?_
  refine V_cS (pc := 3) F (as := [vI x1, vI x2, vI x3]) (C_X8_needMap x1 x2 x3 h) w_X8_needMap g_st_X8_needMap g_ml_RX8_248 (by decide) (rest := []) rfl rfl (Nat.le_of_ble_eq_true rfl) dX8_mean_3 (k_V fun h1 => ?_) (fun _ _ => VX_out F)
  refine V_aload_n (pc := 6) F dX8_mean_6 0 rfl ?_
  refine V_iload_n (pc := 7) F dX8_mean_7 1 rfl ?_
  refine V_cV (pc := 8) F 8 (by decide) (as := [vI x1]) (C_X8_needSea x0 x1 h1) w_X8_needSea g_in_X8_needSea g_se_X8_needSea g_ml_RX8_251 (by decide) (rest := []) rfl rfl (Nat.le_of_ble_eq_true rfl) dX8_mean_8 (k_V fun h2 => ?_) (fun _ _ => VX_out F)
  refine V_aload_n (pc := 11) F dX8_mean_11 0 rfl ?_
  refine V_null (pc := 12) F dX8_mean_12 ?_
  refine V_iload_n (pc := 13) F dX8_mean_13 1 rfl ?_
  refine V_iload_n (pc := 14) F dX8_mean_14 2 rfl ?_
  refine V_iload_n (pc := 15) F dX8_mean_15 3 rfl ?_
  refine V_cV (pc := 16) F 8 (by decide) (as := [vR none, vI x1, vI x2, vI x3]) (C_X8_meanWithout x0 none x1 x2 x3 h2) w_X8_meanWithout g_in_X8_meanWithout g_se_X8_meanWithout g_ml_RX8_254 (by decide) (rest := []) rfl rfl (Nat.le_of_ble_eq_true rfl) dX8_mean_16 (k_I fun z3 h4 => ?_) (fun _ _ => VX_out F)
  exact V_iret (pc := 19) F (Or.inr rfl) dX8_mean_19
theorem C_X8_mean (x0 : Option Nat) (x1 : Int32) (x2 : Int32) (x3 : Int32) (h : MH) : CtrX yX8_mean (WSm yX8_mean cX8_mean 4 (some .int)) 8 [vR x0, vI x1, vI x2, vI x3] h (M_X8_mean x0 x1 x2 x3 h) :=
  CtrX_of (by decide) (Nat.le_of_ble_eq_true rfl) (fun K F hm hi => vM_X8_mean F hm x0 x1 x2 x3 h)
def M_X8_error (x0 : Option Nat) (x1 : Int32) (x2 : Int32) (x3 : Int32) (h : MH) : Res := calV (M_X8_needMap x1 x2 x3 h) fun h1 => chk h1 x0 8 <| calV (M_X8_needSea x0 x1 h1) fun h2 => gfR h2 x0 8 2 fun r3 => chk h2 r3 2 <| calI (M_X2_weightsWithout r3 none x1 x2 x3 h2) fun z4 h5 => bnd ((1 : Int32) + z4) fun z6 => if z6 ≤ 0 then (rtI (0 : Int32) h5) else (dvI (1000 : Int32) z6 fun z7 => rtI z7 h5)
theorem vM_X8_error {K : CT} (F : Fr K cX8_error RX8 (some .int) [] 8 1) (hm : mxL K = 5) (x0 : Option Nat) (x1 : Int32) (x2 : Int32) (x3 : Int32) (h : MH) : V K 0 [(0, vR x0), (1, vI x1), (2, vI x2), (3, vI x3)] [] h (M_X8_error x0 x1 x2 x3 h) := by
  unfold M_X8_error
  refine V_iload_n (pc := 0) F dX8_error_0 1 rfl ?_
  refine V_iload_n (pc := 1) F dX8_error_1 2 rfl ?_
  refine V_iload_n (pc := 2) F dX8_error_2 3 rfl ?_
  refine V_cS (pc := 3) F (as := [vI x1, vI x2, vI x3]) (C_X8_needMap x1 x2 x3 h) w_X8_needMap g_st_X8_needMap g_ml_RX8_248 (by decide) (rest := []) rfl rfl (Nat.le_of_ble_eq_true rfl) dX8_error_3 (k_V fun h1 => ?_) (fun _ _ => VX_out F)
  refine V_aload_n (pc := 6) F dX8_error_6 0 rfl ?_
  refine V_iload_n (pc := 7) F dX8_error_7 1 rfl ?_
  refine V_cV (pc := 8) F 8 (by decide) (as := [vI x1]) (C_X8_needSea x0 x1 h1) w_X8_needSea g_in_X8_needSea g_se_X8_needSea g_ml_RX8_251 (by decide) (rest := []) rfl rfl (Nat.le_of_ble_eq_true rfl) dX8_error_8 (k_V fun h2 => ?_) (fun _ _ => VX_out F)
  refine V_iconst (pc := 11) F (x := (1 : Int32)) dX8_error_11 (by decide) ?_
  refine V_aload_n (pc := 12) F dX8_error_12 0 rfl ?_
  refine V_getR (pc := 13) F 8 2 (by decide) (by decide) rfl g_fl_RX8_25 dX8_error_13 ?_
  intro r3
  refine V_null (pc := 16) F dX8_error_16 ?_
  refine V_iload_n (pc := 17) F dX8_error_17 1 rfl ?_
  refine V_iload_n (pc := 18) F dX8_error_18 2 rfl ?_
  refine V_iload_n (pc := 19) F dX8_error_19 3 rfl ?_
  refine V_cVM (pc := 20) F 2 (by decide) (as := [vR none, vI x1, vI x2, vI x3]) (C_X2_weightsWithout r3 none x1 x2 x3 h2) w_X2_weightsWithout g_in_X2_weightsWithout g_se_X2_weightsWithout g_ml_RX8_258 (by decide) (rest := [vI (1 : Int32)]) rfl rfl (Nat.le_of_ble_eq_true rfl) dX8_error_20 (k_I fun z4 h5 => ?_)
  refine V_iadd (pc := 23) F dX8_error_23 ?_
  intro z6
  refine V_istore (pc := 24) F [(4, vI z6), (0, vR x0), (1, vI x1), (2, vI x2), (3, vI x3)] dX8_error_24 (lt_mx hm (by decide)) rfl ?_
  refine V_iload (pc := 26) F dX8_error_26 0 rfl ?_
  refine V_if_le (pc := 28) F 40 dX8_error_28 (by decide) ?_ ?_
  · refine V_iconst (pc := 40) F (x := (0 : Int32)) dX8_error_40 (by decide) ?_
    exact V_iret (pc := 41) F (Or.inr rfl) dX8_error_41
  · refine V_sipush (pc := 31) F (x := (1000 : Int32)) dX8_error_31 (by decide) ?_
    refine V_iload (pc := 34) F dX8_error_34 0 rfl ?_
    refine V_idiv (pc := 36) F dX8_error_36 ?_
    intro z7
    refine V_goto (pc := 37) F 41 dX8_error_37 (by decide) ?_
    exact V_iret (pc := 41) F (Or.inr rfl) dX8_error_41
theorem C_X8_error (x0 : Option Nat) (x1 : Int32) (x2 : Int32) (x3 : Int32) (h : MH) : CtrX yX8_error (WSm yX8_error cX8_error 5 (some .int)) 8 [vR x0, vI x1, vI x2, vI x3] h (M_X8_error x0 x1 x2 x3 h) :=
  CtrX_of (by decide) (Nat.le_of_ble_eq_true rfl) (fun K F hm hi => vM_X8_error F hm x0 x1 x2 x3 h)
def B_X8_readingNumbered_28 (s0 : Option Nat) (h : MH) : Res := if s0 ≠ none then (rtR s0 h) else (some (.inr 1, exc h))
def M_X8_readingNumbered (x0 : Option Nat) (x1 : Int32) (h : MH) : Res := gfR h x0 8 2 fun r1 => gfR h r1 2 0 fun r2 => aln h r2 fun z3 => calI (M_X8_isIndex x1 z3 h) fun z4 h5 => if z4 = 0 then (B_X8_readingNumbered_28 none h5) else (gfR h5 x0 8 2 fun r6 => gfR h5 r6 2 0 fun r7 => rdR h5 r7 x1 fun r8 => B_X8_readingNumbered_28 r8 h5)
theorem vB_X8_readingNumbered_28 {K : CT} (F : Fr K cX8_readingNumbered RX8 (some (.object "GyreWatch$Reading")) [] 6 1) (hm : mxL K = 3) (s0 : Option Nat) (h : MH) : V K 28 [] [vR s0] h (B_X8_readingNumbered_28 s0 h) := by
  unfold B_X8_readingNumbered_28
  refine V_astore_n (pc := 28) F [(2, vR s0)] dX8_readingNumbered_28 (lt_mx hm (by decide)) rfl ?_
  refine V_aload_n (pc := 29) F dX8_readingNumbered_29 0 rfl ?_
  refine V_ifnonnull (pc := 30) F 44 dX8_readingNumbered_30 (by decide) ?_ ?_
  · refine V_aload_n (pc := 44) F dX8_readingNumbered_44 0 rfl ?_
    exact V_aret (pc := 45) F (Or.inr rfl) (Or.inl ⟨_, rfl⟩) dX8_readingNumbered_45
  · exact V_thrW (pc := 33) F 1 (tx := "there is no such reading") (by decide) g_cl_RX8_279 g_ini_java_lang_IndexOutOfBoundsException (by decide +kernel) g_ata_RX8_283_279 g_atb_RX8_283_279 g_atc_RX8_283_279 dX8_readingNumbered_33 dX8_readingNumbered_36 dX8_readingNumbered_37 dX8_readingNumbered_40 dX8_readingNumbered_43
theorem vM_X8_readingNumbered {K : CT} (F : Fr K cX8_readingNumbered RX8 (some (.object "GyreWatch$Reading")) [] 6 1) (hm : mxL K = 3) (x0 : Option Nat) (x1 : Int32) (h : MH) : V K 0 [(0, vR x0), (1, vI x1)] [] h (M_X8_readingNumbered x0 x1 h) := by
  unfold M_X8_readingNumbered
  refine V_iload_n (pc := 0) F dX8_readingNumbered_0 1 rfl ?_
  refine V_aload_n (pc := 1) F dX8_readingNumbered_1 0 rfl ?_
  refine V_getR (pc := 2) F 8 2 (by decide) (by decide) rfl g_fl_RX8_25 dX8_readingNumbered_2 ?_
  intro r1
  refine V_getR (pc := 5) F 2 0 (by decide) (by decide) rfl g_fl_RX8_293 dX8_readingNumbered_5 ?_
  intro r2
  refine V_alen (pc := 8) F dX8_readingNumbered_8 ?_
  intro z3
  refine V_cSM (pc := 9) F (as := [vI x1, vI z3]) (C_X8_isIndex x1 z3 h) w_X8_isIndex g_st_X8_isIndex g_ml_RX8_93 (by decide) (rest := []) rfl rfl (Nat.le_of_ble_eq_true rfl) dX8_readingNumbered_9 (k_I fun z4 h5 => ?_)
  refine V_if_eq (pc := 12) F 27 dX8_readingNumbered_12 (by decide) ?_ ?_
  · refine V_null (pc := 27) F dX8_readingNumbered_27 ?_
    refine V_sub [] (L' := []) rfl ?_
    exact vB_X8_readingNumbered_28 F hm none h5
  · refine V_aload_n (pc := 15) F dX8_readingNumbered_15 0 rfl ?_
    refine V_getR (pc := 16) F 8 2 (by decide) (by decide) rfl g_fl_RX8_25 dX8_readingNumbered_16 ?_
    intro r6
    refine V_getR (pc := 19) F 2 0 (by decide) (by decide) rfl g_fl_RX8_293 dX8_readingNumbered_19 ?_
    intro r7
    refine V_iload_n (pc := 22) F dX8_readingNumbered_22 1 rfl ?_
    refine V_aald (pc := 23) F dX8_readingNumbered_23 ?_
    intro r8
    refine V_goto (pc := 24) F 28 dX8_readingNumbered_24 (by decide) ?_
    refine V_sub [] (L' := []) rfl ?_
    exact vB_X8_readingNumbered_28 F hm r8 h5
theorem C_X8_readingNumbered (x0 : Option Nat) (x1 : Int32) (h : MH) : CtrX yX8_readingNumbered (WSm yX8_readingNumbered cX8_readingNumbered 3 (some (.object "GyreWatch$Reading"))) 6 [vR x0, vI x1] h (M_X8_readingNumbered x0 x1 h) :=
  CtrX_of (by decide) (Nat.le_of_ble_eq_true rfl) (fun K F hm hi => vM_X8_readingNumbered F hm x0 x1 h)
def M_X8_residual (x0 : Option Nat) (x1 : Int32) (x2 : Int32) (h : MH) : Res := chk h x0 8 <| calR (M_X8_readingNumbered x0 x1 h) fun r1 h2 => calV (M_X8_needRange x2 (0 : Int32) (1000 : Int32) h2) fun h3 => chk h3 r1 4 <| calI (M_X4_corrected r1 h3) fun z4 h5 => gfI h5 r1 4 1 fun z6 => gfI h5 r1 4 0 fun z7 => chk h5 x0 8 <| calI (M_X8_meanWithout x0 r1 z6 z7 x2 h5) fun z8 h9 => bnd (z4 - z8) fun z10 => rtI z10 h9
theorem vM_X8_residual {K : CT} (F : Fr K cX8_residual RX8 (some .int) [] 7 1) (hm : mxL K = 4) (x0 : Option Nat) (x1 : Int32) (x2 : Int32) (h : MH) : V K 0 [(0, vR x0), (1, vI x1), (2, vI x2)] [] h (M_X8_residual x0 x1 x2 h) := by
  unfold M_X8_residual
  refine V_aload_n (pc := 0) F dX8_residual_0 0 rfl ?_
  refine V_iload_n (pc := 1) F dX8_residual_1 1 rfl ?_
  refine V_cV (pc := 2) F 8 (by decide) (as := [vI x1]) (C_X8_readingNumbered x0 x1 h) w_X8_readingNumbered g_in_X8_readingNumbered g_se_X8_readingNumbered g_ml_RX8_152 (by decide) (rest := []) rfl rfl (Nat.le_of_ble_eq_true rfl) dX8_residual_2 (k_R fun r1 h2 => ?_) (fun _ _ => VX_out F)
  refine V_astore_n (pc := 5) F [(3, vR r1), (0, vR x0), (1, vI x1), (2, vI x2)] dX8_residual_5 (lt_mx hm (by decide)) rfl ?_
  refine V_iload_n (pc := 6) F dX8_residual_6 3 rfl ?_
  refine V_iconst (pc := 7) F (x := (0 : Int32)) dX8_residual_7 (by decide) ?_
  refine V_sipush (pc := 8) F (x := (1000 : Int32)) dX8_residual_8 (by decide) ?_
  refine V_cS (pc := 11) F (as := [vI x2, vI (0 : Int32), vI (1000 : Int32)]) (C_X8_needRange x2 (0 : Int32) (1000 : Int32) h2) w_X8_needRange g_st_X8_needRange g_ml_RX8_74 (by decide) (rest := []) rfl rfl (Nat.le_of_ble_eq_true rfl) dX8_residual_11 (k_V fun h3 => ?_) (fun _ _ => VX_out F)
  refine V_aload_n (pc := 14) F dX8_residual_14 0 rfl ?_
  refine V_cVM (pc := 15) F 4 (by decide) (as := []) (C_X4_corrected r1 h3) w_X4_corrected g_in_X4_corrected g_se_X4_corrected g_ml_RX8_237 (by decide) (rest := []) rfl rfl (Nat.le_of_ble_eq_true rfl) dX8_residual_15 (k_I fun z4 h5 => ?_)
  refine V_aload_n (pc := 18) F dX8_residual_18 1 rfl ?_
  refine V_aload_n (pc := 19) F dX8_residual_19 0 rfl ?_
  refine V_aload_n (pc := 20) F dX8_residual_20 0 rfl ?_
  refine V_getI (pc := 21) F 4 1 (by decide) (by decide) rfl g_fl_RX8_236 dX8_residual_21 ?_
  intro z6
  refine V_aload_n (pc := 24) F dX8_residual_24 0 rfl ?_
  refine V_getI (pc := 25) F 4 0 (by decide) (by decide) rfl g_fl_RX8_233 dX8_residual_25 ?_
  intro z7
  refine V_iload_n (pc := 28) F dX8_residual_28 3 rfl ?_
  refine V_cV (pc := 29) F 8 (by decide) (as := [vR r1, vI z6, vI z7, vI x2]) (C_X8_meanWithout x0 r1 z6 z7 x2 h5) w_X8_meanWithout g_in_X8_meanWithout g_se_X8_meanWithout g_ml_RX8_254 (by decide) (rest := [vI z4]) rfl rfl (Nat.le_of_ble_eq_true rfl) dX8_residual_29 (k_I fun z8 h9 => ?_) (fun _ _ => VX_out F)
  refine V_isub (pc := 32) F dX8_residual_32 ?_
  intro z10
  exact V_iret (pc := 33) F (Or.inr rfl) dX8_residual_33
theorem C_X8_residual (x0 : Option Nat) (x1 : Int32) (x2 : Int32) (h : MH) : CtrX yX8_residual (WSm yX8_residual cX8_residual 4 (some .int)) 7 [vR x0, vI x1, vI x2] h (M_X8_residual x0 x1 x2 h) :=
  CtrX_of (by decide) (Nat.le_of_ble_eq_true rfl) (fun K F hm hi => vM_X8_residual F hm x0 x1 x2 h)
def M_X8_current (x0 : Option Nat) (x1 : Int32) (x2 : Int32) (h : MH) : Res := calV (M_X8_needCell x1 h) fun h1 => calV (M_X8_needRange x2 (0 : Int32) (4 : Int32) h1) fun h2 => gfR h2 x0 8 0 fun r3 => gfR h2 r3 5 2 fun r4 => rdI h2 r4 20 x1 fun z5 => gfR h2 x0 8 0 fun r6 => gfR h2 r6 5 2 fun r7 => wrI h2 r7 20 x1 x2 fun h8 => rtI z5 h8
theorem vM_X8_current {K : CT} (F : Fr K cX8_current RX8 (some .int) [] 7 1) (hm : mxL K = 4) (x0 : Option Nat) (x1 : Int32) (x2 : Int32) (h : MH) : V K 0 [(0, vR x0), (1, vI x1), (2, vI x2)] [] h (M_X8_current x0 x1 x2 h) := by
  unfold M_X8_current
  refine V_iload_n (pc := 0) F dX8_current_0 1 rfl ?_
  refine V_cS (pc := 1) F (as := [vI x1]) (C_X8_needCell x1 h) w_X8_needCell g_st_X8_needCell g_ml_RX8_48 (by decide) (rest := []) rfl rfl (Nat.le_of_ble_eq_true rfl) dX8_current_1 (k_V fun h1 => ?_) (fun _ _ => VX_out F)
  refine V_iload_n (pc := 4) F dX8_current_4 2 rfl ?_
  refine V_iconst (pc := 5) F (x := (0 : Int32)) dX8_current_5 (by decide) ?_
  refine V_iconst (pc := 6) F (x := (4 : Int32)) dX8_current_6 (by decide) ?_
  refine V_cS (pc := 7) F (as := [vI x2, vI (0 : Int32), vI (4 : Int32)]) (C_X8_needRange x2 (0 : Int32) (4 : Int32) h1) w_X8_needRange g_st_X8_needRange g_ml_RX8_74 (by decide) (rest := []) rfl rfl (Nat.le_of_ble_eq_true rfl) dX8_current_7 (k_V fun h2 => ?_) (fun _ _ => VX_out F)
  refine V_aload_n (pc := 10) F dX8_current_10 0 rfl ?_
  refine V_getR (pc := 11) F 8 0 (by decide) (by decide) rfl g_fl_RX8_12 dX8_current_11 ?_
  intro r3
  refine V_getR (pc := 14) F 5 2 (by decide) (by decide) rfl g_fl_RX8_78 dX8_current_14 ?_
  intro r4
  refine V_iload_n (pc := 17) F dX8_current_17 1 rfl ?_
  refine V_iald (pc := 18) F dX8_current_18 ?_
  intro z5
  refine V_istore_n (pc := 19) F [(3, vI z5), (0, vR x0), (1, vI x1), (2, vI x2)] dX8_current_19 (lt_mx hm (by decide)) rfl ?_
  refine V_aload_n (pc := 20) F dX8_current_20 1 rfl ?_
  refine V_getR (pc := 21) F 8 0 (by decide) (by decide) rfl g_fl_RX8_12 dX8_current_21 ?_
  intro r6
  refine V_getR (pc := 24) F 5 2 (by decide) (by decide) rfl g_fl_RX8_78 dX8_current_24 ?_
  intro r7
  refine V_iload_n (pc := 27) F dX8_current_27 2 rfl ?_
  refine V_iload_n (pc := 28) F dX8_current_28 3 rfl ?_
  refine V_iast (pc := 29) F dX8_current_29 ?_
  intro h8
  refine V_iload_n (pc := 30) F dX8_current_30 0 rfl ?_
  exact V_iret (pc := 31) F (Or.inr rfl) dX8_current_31
theorem C_X8_current (x0 : Option Nat) (x1 : Int32) (x2 : Int32) (h : MH) : CtrX yX8_current (WSm yX8_current cX8_current 4 (some .int)) 7 [vR x0, vI x1, vI x2] h (M_X8_current x0 x1 x2 h) :=
  CtrX_of (by decide) (Nat.le_of_ble_eq_true rfl) (fun K F hm hi => vM_X8_current F hm x0 x1 x2 h)
def M_X8_sun (x0 : Option Nat) (x1 : Int32) (x2 : Int32) (h : MH) : Res := calV (M_X8_needRange x1 (0 : Int32) (5 : Int32) h) fun h1 => calV (M_X8_needRange x2 (-50 : Int32) (50 : Int32) h1) fun h2 => gfR h2 x0 8 0 fun r3 => gfR h2 r3 5 3 fun r4 => rdI h2 r4 20 x1 fun z5 => gfR h2 x0 8 0 fun r6 => gfR h2 r6 5 3 fun r7 => wrI h2 r7 20 x1 x2 fun h8 => rtI z5 h8
theorem vM_X8_sun {K : CT} (F : Fr K cX8_sun RX8 (some .int) [] 7 1) (hm : mxL K = 4) (x0 : Option Nat) (x1 : Int32) (x2 : Int32) (h : MH) : V K 0 [(0, vR x0), (1, vI x1), (2, vI x2)] [] h (M_X8_sun x0 x1 x2 h) := by
  unfold M_X8_sun
  refine V_iload_n (pc := 0) F dX8_sun_0 1 rfl ?_
  refine V_iconst (pc := 1) F (x := (0 : Int32)) dX8_sun_1 (by decide) ?_
  refine V_iconst (pc := 2) F (x := (5 : Int32)) dX8_sun_2 (by decide) ?_
  refine V_cS (pc := 3) F (as := [vI x1, vI (0 : Int32), vI (5 : Int32)]) (C_X8_needRange x1 (0 : Int32) (5 : Int32) h) w_X8_needRange g_st_X8_needRange g_ml_RX8_74 (by decide) (rest := []) rfl rfl (Nat.le_of_ble_eq_true rfl) dX8_sun_3 (k_V fun h1 => ?_) (fun _ _ => VX_out F)
  refine V_iload_n (pc := 6) F dX8_sun_6 2 rfl ?_
  refine V_bipush (pc := 7) F (x := (-50 : Int32)) dX8_sun_7 (by decide) ?_
  refine V_bipush (pc := 9) F (x := (50 : Int32)) dX8_sun_9 (by decide) ?_
  refine V_cS (pc := 11) F (as := [vI x2, vI (-50 : Int32), vI (50 : Int32)]) (C_X8_needRange x2 (-50 : Int32) (50 : Int32) h1) w_X8_needRange g_st_X8_needRange g_ml_RX8_74 (by decide) (rest := []) rfl rfl (Nat.le_of_ble_eq_true rfl) dX8_sun_11 (k_V fun h2 => ?_) (fun _ _ => VX_out F)
  refine V_aload_n (pc := 14) F dX8_sun_14 0 rfl ?_
  refine V_getR (pc := 15) F 8 0 (by decide) (by decide) rfl g_fl_RX8_12 dX8_sun_15 ?_
  intro r3
  refine V_getR (pc := 18) F 5 3 (by decide) (by decide) rfl g_fl_RX8_82 dX8_sun_18 ?_
  intro r4
  refine V_iload_n (pc := 21) F dX8_sun_21 1 rfl ?_
  refine V_iald (pc := 22) F dX8_sun_22 ?_
  intro z5
  refine V_istore_n (pc := 23) F [(3, vI z5), (0, vR x0), (1, vI x1), (2, vI x2)] dX8_sun_23 (lt_mx hm (by decide)) rfl ?_
  refine V_aload_n (pc := 24) F dX8_sun_24 1 rfl ?_
  refine V_getR (pc := 25) F 8 0 (by decide) (by decide) rfl g_fl_RX8_12 dX8_sun_25 ?_
  intro r6
  refine V_getR (pc := 28) F 5 3 (by decide) (by decide) rfl g_fl_RX8_82 dX8_sun_28 ?_
  intro r7
  refine V_iload_n (pc := 31) F dX8_sun_31 2 rfl ?_
  refine V_iload_n (pc := 32) F dX8_sun_32 3 rfl ?_
  refine V_iast (pc := 33) F dX8_sun_33 ?_
  intro h8
  refine V_iload_n (pc := 34) F dX8_sun_34 0 rfl ?_
  exact V_iret (pc := 35) F (Or.inr rfl) dX8_sun_35
theorem C_X8_sun (x0 : Option Nat) (x1 : Int32) (x2 : Int32) (h : MH) : CtrX yX8_sun (WSm yX8_sun cX8_sun 4 (some .int)) 7 [vR x0, vI x1, vI x2] h (M_X8_sun x0 x1 x2 h) :=
  CtrX_of (by decide) (Nat.le_of_ble_eq_true rfl) (fun K F hm hi => vM_X8_sun F hm x0 x1 x2 h)
def B_X8_searchNumbered_22 (s0 : Option Nat) (h : MH) : Res := if s0 ≠ none then (rtR s0 h) else (some (.inr 1, exc h))
def M_X8_searchNumbered (x0 : Option Nat) (x1 : Int32) (h : MH) : Res := gfR h x0 8 4 fun r1 => aln h r1 fun z2 => calI (M_X8_isIndex x1 z2 h) fun z3 h4 => if z3 = 0 then (B_X8_searchNumbered_22 none h4) else (gfR h4 x0 8 4 fun r5 => rdR h4 r5 x1 fun r6 => B_X8_searchNumbered_22 r6 h4)
theorem vB_X8_searchNumbered_22 {K : CT} (F : Fr K cX8_searchNumbered RX8 (some (.object "GyreWatch$Search")) [] 6 1) (hm : mxL K = 3) (s0 : Option Nat) (h : MH) : V K 22 [] [vR s0] h (B_X8_searchNumbered_22 s0 h) := by
  unfold B_X8_searchNumbered_22
  refine V_astore_n (pc := 22) F [(2, vR s0)] dX8_searchNumbered_22 (lt_mx hm (by decide)) rfl ?_
  refine V_aload_n (pc := 23) F dX8_searchNumbered_23 0 rfl ?_
  refine V_ifnonnull (pc := 24) F 38 dX8_searchNumbered_24 (by decide) ?_ ?_
  · refine V_aload_n (pc := 38) F dX8_searchNumbered_38 0 rfl ?_
    exact V_aret (pc := 39) F (Or.inr rfl) (Or.inl ⟨_, rfl⟩) dX8_searchNumbered_39
  · exact V_thrW (pc := 27) F 1 (tx := "there is no such search") (by decide) g_cl_RX8_279 g_ini_java_lang_IndexOutOfBoundsException (by decide +kernel) g_ata_RX8_283_279 g_atb_RX8_283_279 g_atc_RX8_283_279 dX8_searchNumbered_27 dX8_searchNumbered_30 dX8_searchNumbered_31 dX8_searchNumbered_34 dX8_searchNumbered_37
theorem vM_X8_searchNumbered {K : CT} (F : Fr K cX8_searchNumbered RX8 (some (.object "GyreWatch$Search")) [] 6 1) (hm : mxL K = 3) (x0 : Option Nat) (x1 : Int32) (h : MH) : V K 0 [(0, vR x0), (1, vI x1)] [] h (M_X8_searchNumbered x0 x1 h) := by
  unfold M_X8_searchNumbered
  refine V_iload_n (pc := 0) F dX8_searchNumbered_0 1 rfl ?_
  refine V_aload_n (pc := 1) F dX8_searchNumbered_1 0 rfl ?_
  refine V_getR (pc := 2) F 8 4 (by decide) (by decide) rfl g_fl_RX8_38 dX8_searchNumbered_2 ?_
  intro r1
  refine V_alen (pc := 5) F dX8_searchNumbered_5 ?_
  intro z2
  refine V_cSM (pc := 6) F (as := [vI x1, vI z2]) (C_X8_isIndex x1 z2 h) w_X8_isIndex g_st_X8_isIndex g_ml_RX8_93 (by decide) (rest := []) rfl rfl (Nat.le_of_ble_eq_true rfl) dX8_searchNumbered_6 (k_I fun z3 h4 => ?_)
  refine V_if_eq (pc := 9) F 21 dX8_searchNumbered_9 (by decide) ?_ ?_
  · refine V_null (pc := 21) F dX8_searchNumbered_21 ?_
    refine V_sub [] (L' := []) rfl ?_
    exact vB_X8_searchNumbered_22 F hm none h4
  · refine V_aload_n (pc := 12) F dX8_searchNumbered_12 0 rfl ?_
    refine V_getR (pc := 13) F 8 4 (by decide) (by decide) rfl g_fl_RX8_38 dX8_searchNumbered_13 ?_
    intro r5
    refine V_iload_n (pc := 16) F dX8_searchNumbered_16 1 rfl ?_
    refine V_aald (pc := 17) F dX8_searchNumbered_17 ?_
    intro r6
    refine V_goto (pc := 18) F 22 dX8_searchNumbered_18 (by decide) ?_
    refine V_sub [] (L' := []) rfl ?_
    exact vB_X8_searchNumbered_22 F hm r6 h4
theorem C_X8_searchNumbered (x0 : Option Nat) (x1 : Int32) (h : MH) : CtrX yX8_searchNumbered (WSm yX8_searchNumbered cX8_searchNumbered 3 (some (.object "GyreWatch$Search"))) 6 [vR x0, vI x1] h (M_X8_searchNumbered x0 x1 h) :=
  CtrX_of (by decide) (Nat.le_of_ble_eq_true rfl) (fun K F hm hi => vM_X8_searchNumbered F hm x0 x1 h)
def M_X8_leg (x0 : Option Nat) (x1 : Int32) (x2 : Int32) (x3 : Int32) (h : MH) : Res := chk h x0 8 <| calR (M_X8_searchNumbered x0 x1 h) fun r1 h2 => calV (M_X8_needCell x2 h2) fun h3 => calV (M_X8_needRange x3 (1 : Int32) (100 : Int32) h3) fun h4 => gfR h4 r1 6 1 fun r5 => calI (M_X6_lookAt r5 x2 x3 h4) fun z6 h7 => rtI z6 h7
theorem vM_X8_leg {K : CT} (F : Fr K cX8_leg RX8 (some .int) [] 7 1) (hm : mxL K = 5) (x0 : Option Nat) (x1 : Int32) (x2 : Int32) (x3 : Int32) (h : MH) : V K 0 [(0, vR x0), (1, vI x1), (2, vI x2), (3, vI x3)] [] h (M_X8_leg x0 x1 x2 x3 h) := by
  unfold M_X8_leg
  refine V_aload_n (pc := 0) F dX8_leg_0 0 rfl ?_
  refine V_iload_n (pc := 1) F dX8_leg_1 1 rfl ?_
  refine V_cV (pc := 2) F 8 (by decide) (as := [vI x1]) (C_X8_searchNumbered x0 x1 h) w_X8_searchNumbered g_in_X8_searchNumbered g_se_X8_searchNumbered g_ml_RX8_172 (by decide) (rest := []) rfl rfl (Nat.le_of_ble_eq_true rfl) dX8_leg_2 (k_R fun r1 h2 => ?_) (fun _ _ => VX_out F)
  refine V_astore (pc := 5) F [(4, vR r1), (0, vR x0), (1, vI x1), (2, vI x2), (3, vI x3)] dX8_leg_5 (lt_mx hm (by decide)) rfl ?_
  refine V_iload_n (pc := 7) F dX8_leg_7 3 rfl ?_
  refine V_cS (pc := 8) F (as := [vI x2]) (C_X8_needCell x2 h2) w_X8_needCell g_st_X8_needCell g_ml_RX8_48 (by decide) (rest := []) rfl rfl (Nat.le_of_ble_eq_true rfl) dX8_leg_8 (k_V fun h3 => ?_) (fun _ _ => VX_out F)
  refine V_iload_n (pc := 11) F dX8_leg_11 4 rfl ?_
  refine V_iconst (pc := 12) F (x := (1 : Int32)) dX8_leg_12 (by decide) ?_
  refine V_bipush (pc := 13) F (x := (100 : Int32)) dX8_leg_13 (by decide) ?_
  refine V_cS (pc := 15) F (as := [vI x3, vI (1 : Int32), vI (100 : Int32)]) (C_X8_needRange x3 (1 : Int32) (100 : Int32) h3) w_X8_needRange g_st_X8_needRange g_ml_RX8_74 (by decide) (rest := []) rfl rfl (Nat.le_of_ble_eq_true rfl) dX8_leg_15 (k_V fun h4 => ?_) (fun _ _ => VX_out F)
  refine V_aload (pc := 18) F dX8_leg_18 0 rfl ?_
  refine V_getR (pc := 20) F 6 1 (by decide) (by decide) rfl g_fl_RX8_176 dX8_leg_20 ?_
  intro r5
  refine V_iload_n (pc := 23) F dX8_leg_23 3 rfl ?_
  refine V_iload_n (pc := 24) F dX8_leg_24 4 rfl ?_
  refine V_cSM (pc := 25) F (as := [vR r5, vI x2, vI x3]) (C_X6_lookAt r5 x2 x3 h4) w_X6_lookAt g_st_X6_lookAt g_ml_RX8_179 (by decide) (rest := []) rfl rfl (Nat.le_of_ble_eq_true rfl) dX8_leg_25 (k_I fun z6 h7 => ?_)
  exact V_iret (pc := 28) F (Or.inr rfl) dX8_leg_28
theorem C_X8_leg (x0 : Option Nat) (x1 : Int32) (x2 : Int32) (x3 : Int32) (h : MH) : CtrX yX8_leg (WSm yX8_leg cX8_leg 5 (some .int)) 7 [vR x0, vI x1, vI x2, vI x3] h (M_X8_leg x0 x1 x2 x3 h) :=
  CtrX_of (by decide) (Nat.le_of_ble_eq_true rfl) (fun K F hm hi => vM_X8_leg F hm x0 x1 x2 x3 h)
def M_X8_bound (x0 : Option Nat) (x1 : Int32) (h : MH) : Res := calV (M_X8_needRange x1 (0 : Int32) (1000 : Int32) h) fun h1 => gfR h1 x0 8 2 fun r2 => gfI h1 r2 2 2 fun z3 => gfR h1 x0 8 2 fun r4 => pfI h1 r4 2 2 x1 fun h5 => rtI z3 h5
theorem vM_X8_bound {K : CT} (F : Fr K cX8_bound RX8 (some .int) [] 7 1) (hm : mxL K = 3) (x0 : Option Nat) (x1 : Int32) (h : MH) : V K 0 [(0, vR x0), (1, vI x1)] [] h (M_X8_bound x0 x1 h) := by
  unfold M_X8_bound
  refine V_iload_n (pc := 0) F dX8_bound_0 1 rfl ?_
  refine V_iconst (pc := 1) F (x := (0 : Int32)) dX8_bound_1 (by decide) ?_
  refine V_sipush (pc := 2) F (x := (1000 : Int32)) dX8_bound_2 (by decide) ?_
  refine V_cS (pc := 5) F (as := [vI x1, vI (0 : Int32), vI (1000 : Int32)]) (C_X8_needRange x1 (0 : Int32) (1000 : Int32) h) w_X8_needRange g_st_X8_needRange g_ml_RX8_74 (by decide) (rest := []) rfl rfl (Nat.le_of_ble_eq_true rfl) dX8_bound_5 (k_V fun h1 => ?_) (fun _ _ => VX_out F)
  refine V_aload_n (pc := 8) F dX8_bound_8 0 rfl ?_
  refine V_getR (pc := 9) F 8 2 (by decide) (by decide) rfl g_fl_RX8_25 dX8_bound_9 ?_
  intro r2
  refine V_getI (pc := 12) F 2 2 (by decide) (by decide) rfl g_fl_RX8_156 dX8_bound_12 ?_
  intro z3
  refine V_istore_n (pc := 15) F [(2, vI z3), (0, vR x0), (1, vI x1)] dX8_bound_15 (lt_mx hm (by decide)) rfl ?_
  refine V_aload_n (pc := 16) F dX8_bound_16 1 rfl ?_
  refine V_getR (pc := 17) F 8 2 (by decide) (by decide) rfl g_fl_RX8_25 dX8_bound_17 ?_
  intro r4
  refine V_iload_n (pc := 20) F dX8_bound_20 2 rfl ?_
  refine V_putI (pc := 21) F 2 2 (by decide) (by decide) rfl rfl g_fl_RX8_156 dX8_bound_21 ?_
  intro h5
  refine V_iload_n (pc := 24) F dX8_bound_24 0 rfl ?_
  exact V_iret (pc := 25) F (Or.inr rfl) dX8_bound_25
theorem C_X8_bound (x0 : Option Nat) (x1 : Int32) (h : MH) : CtrX yX8_bound (WSm yX8_bound cX8_bound 3 (some .int)) 7 [vR x0, vI x1] h (M_X8_bound x0 x1 h) :=
  CtrX_of (by decide) (Nat.le_of_ble_eq_true rfl) (fun K F hm hi => vM_X8_bound F hm x0 x1 h)
def M_X8_flag (x0 : Option Nat) (x1 : Int32) (x2 : Int32) (h : MH) : Res := chk h x0 8 <| calR (M_X8_readingNumbered x0 x1 h) fun r1 h2 => calV (M_X8_needRange x2 (-1 : Int32) (2 : Int32) h2) fun h3 => gfR h3 x0 8 2 fun r4 => gfI h3 r4 2 2 fun z5 => chk h3 r1 4 <| calI (M_X4_flagBy r1 z5 h3) fun z6 h7 => pfI h7 r1 4 4 x2 fun h8 => rtI z6 h8
theorem vM_X8_flag {K : CT} (F : Fr K cX8_flag RX8 (some .int) [] 7 1) (hm : mxL K = 5) (x0 : Option Nat) (x1 : Int32) (x2 : Int32) (h : MH) : V K 0 [(0, vR x0), (1, vI x1), (2, vI x2)] [] h (M_X8_flag x0 x1 x2 h) := by
  unfold M_X8_flag
  refine V_aload_n (pc := 0) F dX8_flag_0 0 rfl ?_
  refine V_iload_n (pc := 1) F dX8_flag_1 1 rfl ?_
  refine V_cV (pc := 2) F 8 (by decide) (as := [vI x1]) (C_X8_readingNumbered x0 x1 h) w_X8_readingNumbered g_in_X8_readingNumbered g_se_X8_readingNumbered g_ml_RX8_152 (by decide) (rest := []) rfl rfl (Nat.le_of_ble_eq_true rfl) dX8_flag_2 (k_R fun r1 h2 => ?_) (fun _ _ => VX_out F)
  refine V_astore_n (pc := 5) F [(3, vR r1), (0, vR x0), (1, vI x1), (2, vI x2)] dX8_flag_5 (lt_mx hm (by decide)) rfl ?_
  refine V_iload_n (pc := 6) F dX8_flag_6 3 rfl ?_
  refine V_iconst (pc := 7) F (x := (-1 : Int32)) dX8_flag_7 (by decide) ?_
  refine V_iconst (pc := 8) F (x := (2 : Int32)) dX8_flag_8 (by decide) ?_
  refine V_cS (pc := 9) F (as := [vI x2, vI (-1 : Int32), vI (2 : Int32)]) (C_X8_needRange x2 (-1 : Int32) (2 : Int32) h2) w_X8_needRange g_st_X8_needRange g_ml_RX8_74 (by decide) (rest := []) rfl rfl (Nat.le_of_ble_eq_true rfl) dX8_flag_9 (k_V fun h3 => ?_) (fun _ _ => VX_out F)
  refine V_aload_n (pc := 12) F dX8_flag_12 0 rfl ?_
  refine V_aload_n (pc := 13) F dX8_flag_13 1 rfl ?_
  refine V_getR (pc := 14) F 8 2 (by decide) (by decide) rfl g_fl_RX8_25 dX8_flag_14 ?_
  intro r4
  refine V_getI (pc := 17) F 2 2 (by decide) (by decide) rfl g_fl_RX8_156 dX8_flag_17 ?_
  intro z5
  refine V_cVM (pc := 20) F 4 (by decide) (as := [vI z5]) (C_X4_flagBy r1 z5 h3) w_X4_flagBy g_in_X4_flagBy g_se_X4_flagBy g_ml_RX8_159 (by decide) (rest := []) rfl rfl (Nat.le_of_ble_eq_true rfl) dX8_flag_20 (k_I fun z6 h7 => ?_)
  refine V_istore (pc := 23) F [(4, vI z6), (3, vR r1), (0, vR x0), (1, vI x1), (2, vI x2)] dX8_flag_23 (lt_mx hm (by decide)) rfl ?_
  refine V_aload_n (pc := 25) F dX8_flag_25 1 rfl ?_
  refine V_iload_n (pc := 26) F dX8_flag_26 4 rfl ?_
  refine V_putI (pc := 27) F 4 4 (by decide) (by decide) rfl rfl g_fl_RX8_162 dX8_flag_27 ?_
  intro h8
  refine V_iload (pc := 30) F dX8_flag_30 0 rfl ?_
  exact V_iret (pc := 32) F (Or.inr rfl) dX8_flag_32
theorem C_X8_flag (x0 : Option Nat) (x1 : Int32) (x2 : Int32) (h : MH) : CtrX yX8_flag (WSm yX8_flag cX8_flag 5 (some .int)) 7 [vR x0, vI x1, vI x2] h (M_X8_flag x0 x1 x2 h) :=
  CtrX_of (by decide) (Nat.le_of_ble_eq_true rfl) (fun K F hm hi => vM_X8_flag F hm x0 x1 x2 h)
def B_X8_letDrift_40 (x0 : Option Nat) (x1 : Option Nat) (h : MH) : Res := gfR h x0 8 2 fun r10 => gfI h x0 8 9 fun z11 => gfI h x1 0 3 fun z12 => gfR h x0 8 0 fun r13 => gfI h x1 0 3 fun z14 => chk h r13 5 <| calI (M_X5_upperHeat r13 z14 h) fun z15 h16 => gfI h16 x1 0 2 fun z17 => bnd (z15 + z17) fun z18 => chk h16 r10 2 <| calV (M_X2_keep r10 z11 z12 z18 x1 h16) fun h19 => gfI h19 x1 0 5 fun z20 => bnd (z20 - (1 : Int32)) fun z21 => pfI h19 x1 0 5 z21 fun h22 => gfI h22 x1 0 5 fun z23 => if z23 ≤ 0 then (pfI h22 x1 0 4 (0 : Int32) fun h24 => rtV h24) else (gfI h22 x1 0 1 fun z25 => pfI h22 x1 0 4 z25 fun h26 => rtV h26)
def M_X8_letDrift (x0 : Option Nat) (x1 : Option Nat) (h : MH) : Res := gfI h x1 0 4 fun z1 => bnd (z1 - (1 : Int32)) fun z2 => pfI h x1 0 4 z2 fun h3 => gfI h3 x1 0 4 fun z4 => if z4 ≤ 0 then (gfR h3 x0 8 0 fun r5 => gfI h3 x1 0 3 fun z6 => chk h3 r5 5 <| calI (M_X5_leadsTo r5 z6 h3) fun z7 h8 => if z7 = (-1 : Int32) then (B_X8_letDrift_40 x0 x1 h8) else (pfI h8 x1 0 3 z7 fun h9 => B_X8_letDrift_40 x0 x1 h9)) else (rtV h3)
theorem vB_X8_letDrift_40 {K : CT} (F : Fr K cX8_letDrift RX8 none [] 3 0) (hm : mxL K = 3) (x0 : Option Nat) (x1 : Option Nat) (h : MH) : V K 40 [(0, vR x0), (1, vR x1)] [] h (B_X8_letDrift_40 x0 x1 h) := by
  unfold B_X8_letDrift_40
  refine V_aload_n (pc := 40) F dX8_letDrift_40 0 rfl ?_
  refine V_getR (pc := 41) F 8 2 (by decide) (by decide) rfl g_fl_RX8_25 dX8_letDrift_41 ?_
  intro r10
  refine V_aload_n (pc := 44) F dX8_letDrift_44 0 rfl ?_
  refine V_getI (pc := 45) F 8 9 (by decide) (by decide) rfl g_fl_RX8_52 dX8_letDrift_45 ?_
  intro z11
  refine V_aload_n (pc := 48) F dX8_letDrift_48 1 rfl ?_
  refine V_getI (pc := 49) F 0 3 (by decide) (by decide) rfl g_fl_RX8_215 dX8_letDrift_49 ?_
  intro z12
  refine V_aload_n (pc := 52) F dX8_letDrift_52 0 rfl ?_
  refine V_getR (pc := 53) F 8 0 (by decide) (by decide) rfl g_fl_RX8_12 dX8_letDrift_53 ?_
  intro r13
  refine V_aload_n (pc := 56) F dX8_letDrift_56 1 rfl ?_
  refine V_getI (pc := 57) F 0 3 (by decide) (by decide) rfl g_fl_RX8_215 dX8_letDrift_57 ?_
  intro z14
  refine V_cVM (pc := 60) F 5 (by decide) (as := [vI z14]) (C_X5_upperHeat r13 z14 h) w_X5_upperHeat g_in_X5_upperHeat g_se_X5_upperHeat g_ml_RX8_339 (by decide) (rest := [vI z12, vI z11, vR r10]) rfl rfl (Nat.le_of_ble_eq_true rfl) dX8_letDrift_60 (k_I fun z15 h16 => ?_)
  refine V_aload_n (pc := 63) F dX8_letDrift_63 1 rfl ?_
  refine V_getI (pc := 64) F 0 2 (by decide) (by decide) rfl g_fl_RX8_342 dX8_letDrift_64 ?_
  intro z17
  refine V_iadd (pc := 67) F dX8_letDrift_67 ?_
  intro z18
  refine V_aload_n (pc := 68) F dX8_letDrift_68 1 rfl ?_
  refine V_cVM (pc := 69) F 2 (by decide) (as := [vI z11, vI z12, vI z18, vR x1]) (C_X2_keep r10 z11 z12 z18 x1 h16) w_X2_keep g_in_X2_keep g_se_X2_keep g_ml_RX8_345 (by decide) (rest := []) rfl rfl (Nat.le_of_ble_eq_true rfl) dX8_letDrift_69 (k_V fun h19 => ?_)
  refine V_aload_n (pc := 72) F dX8_letDrift_72 1 rfl ?_
  refine V_dup (pc := 73) F dX8_letDrift_73 rfl ?_
  refine V_getI (pc := 74) F 0 5 (by decide) (by decide) rfl g_fl_RX8_221 dX8_letDrift_74 ?_
  intro z20
  refine V_iconst (pc := 77) F (x := (1 : Int32)) dX8_letDrift_77 (by decide) ?_
  refine V_isub (pc := 78) F dX8_letDrift_78 ?_
  intro z21
  refine V_putI (pc := 79) F 0 5 (by decide) (by decide) rfl rfl g_fl_RX8_221 dX8_letDrift_79 ?_
  intro h22
  refine V_aload_n (pc := 82) F dX8_letDrift_82 1 rfl ?_
  refine V_aload_n (pc := 83) F dX8_letDrift_83 1 rfl ?_
  refine V_getI (pc := 84) F 0 5 (by decide) (by decide) rfl g_fl_RX8_221 dX8_letDrift_84 ?_
  intro z23
  refine V_if_le (pc := 87) F 97 dX8_letDrift_87 (by decide) ?_ ?_
  · refine V_iconst (pc := 97) F (x := (0 : Int32)) dX8_letDrift_97 (by decide) ?_
    refine V_putI (pc := 98) F 0 4 (by decide) (by decide) rfl rfl g_fl_RX8_218 dX8_letDrift_98 ?_
    intro h24
    exact V_vret (pc := 101) F (Or.inl rfl) dX8_letDrift_101
  · refine V_aload_n (pc := 90) F dX8_letDrift_90 1 rfl ?_
    refine V_getI (pc := 91) F 0 1 (by decide) (by decide) rfl g_fl_RX8_349 dX8_letDrift_91 ?_
    intro z25
    refine V_goto (pc := 94) F 98 dX8_letDrift_94 (by decide) ?_
    refine V_putI (pc := 98) F 0 4 (by decide) (by decide) rfl rfl g_fl_RX8_218 dX8_letDrift_98 ?_
    intro h26
    exact V_vret (pc := 101) F (Or.inl rfl) dX8_letDrift_101
theorem vM_X8_letDrift {K : CT} (F : Fr K cX8_letDrift RX8 none [] 3 0) (hm : mxL K = 3) (x0 : Option Nat) (x1 : Option Nat) (h : MH) : V K 0 [(0, vR x0), (1, vR x1)] [] h (M_X8_letDrift x0 x1 h) := by
  unfold M_X8_letDrift
  refine V_aload_n (pc := 0) F dX8_letDrift_0 1 rfl ?_
  refine V_dup (pc := 1) F dX8_letDrift_1 rfl ?_
  refine V_getI (pc := 2) F 0 4 (by decide) (by decide) rfl g_fl_RX8_218 dX8_letDrift_2 ?_
  intro z1
  refine V_iconst (pc := 5) F (x := (1 : Int32)) dX8_letDrift_5 (by decide) ?_
  refine V_isub (pc := 6) F dX8_letDrift_6 ?_
  intro z2
  refine V_putI (pc := 7) F 0 4 (by decide) (by decide) rfl rfl g_fl_RX8_218 dX8_letDrift_7 ?_
  intro h3
  refine V_aload_n (pc := 10) F dX8_letDrift_10 1 rfl ?_
  refine V_getI (pc := 11) F 0 4 (by decide) (by decide) rfl g_fl_RX8_218 dX8_letDrift_11 ?_
  intro z4
  refine V_if_le (pc := 14) F 18 dX8_letDrift_14 (by decide) ?_ ?_
  · refine V_aload_n (pc := 18) F dX8_letDrift_18 0 rfl ?_
    refine V_getR (pc := 19) F 8 0 (by decide) (by decide) rfl g_fl_RX8_12 dX8_letDrift_19 ?_
    intro r5
    refine V_aload_n (pc := 22) F dX8_letDrift_22 1 rfl ?_
    refine V_getI (pc := 23) F 0 3 (by decide) (by decide) rfl g_fl_RX8_215 dX8_letDrift_23 ?_
    intro z6
    refine V_cVM (pc := 26) F 5 (by decide) (as := [vI z6]) (C_X5_leadsTo r5 z6 h3) w_X5_leadsTo g_in_X5_leadsTo g_se_X5_leadsTo g_ml_RX8_336 (by decide) (rest := []) rfl rfl (Nat.le_of_ble_eq_true rfl) dX8_letDrift_26 (k_I fun z7 h8 => ?_)
    refine V_istore_n (pc := 29) F [(2, vI z7), (0, vR x0), (1, vR x1)] dX8_letDrift_29 (lt_mx hm (by decide)) rfl ?_
    refine V_iload_n (pc := 30) F dX8_letDrift_30 0 rfl ?_
    refine V_iconst (pc := 31) F (x := (-1 : Int32)) dX8_letDrift_31 (by decide) ?_
    refine V_icmp_eq (pc := 32) F 40 dX8_letDrift_32 (by decide) ?_ ?_
    · refine V_sub [1, 2] (L' := [(0, vR x0), (1, vR x1)]) rfl ?_
      exact vB_X8_letDrift_40 F hm x0 x1 h8
    · refine V_aload_n (pc := 35) F dX8_letDrift_35 2 rfl ?_
      refine V_iload_n (pc := 36) F dX8_letDrift_36 0 rfl ?_
      refine V_putI (pc := 37) F 0 3 (by decide) (by decide) rfl rfl g_fl_RX8_215 dX8_letDrift_37 ?_
      intro h9
      refine V_sub [1, 2] (L' := [(0, vR x0), (1, vR x1)]) rfl ?_
      exact vB_X8_letDrift_40 F hm x0 x1 h9
  · exact V_vret (pc := 17) F (Or.inl rfl) dX8_letDrift_17
theorem C_X8_letDrift (x0 : Option Nat) (x1 : Option Nat) (h : MH) : CtrM yX8_letDrift (WSm yX8_letDrift cX8_letDrift 3 none) 3 [vR x0, vR x1] h (M_X8_letDrift x0 x1 h) :=
  CtrM_of (by decide) (Nat.le_of_ble_eq_true rfl) (fun K F hm hi => vM_X8_letDrift F hm x0 x1 h)
def B_X8_readAtStations_82 (x0 : Option Nat) (x2 : Int32) (h : MH) : Res := gfR h x0 8 3 fun r19 => chk h r19 7 <| calV (M_X7_dropFirst r19 x2 h) fun h20 => rtV h20
def B_X8_readAtStations_34 (rc34 : Option Nat → Int32 → Int32 → Int32 → MH → Res) (x0 : Option Nat) (x1 : Int32) (x2 : Int32) (x3 : Int32) (h : MH) : Res := if x2 ≤ x3 then (B_X8_readAtStations_82 x0 x2 h) else (if x1 = 0 then (B_X8_readAtStations_82 x0 x2 h) else (gfR h x0 8 3 fun r9 => chk h r9 7 <| calI (M_X7_cellOf r9 x3 h) fun z10 h11 => gfR h11 x0 8 2 fun r12 => gfI h11 x0 8 9 fun z13 => gfR h11 x0 8 0 fun r14 => chk h11 r14 5 <| calI (M_X5_upperHeat r14 z10 h11) fun z15 h16 => chk h16 r12 2 <| calV (M_X2_keep r12 z13 z10 z15 none h16) fun h17 => bnd (x3 + (1)) fun z18 => rc34 x0 x1 x2 z18 h17))
def L_X8_readAtStations_34 : Nat → Option Nat → Int32 → Int32 → Int32 → MH → Res
  | 0 => fun _ _ _ _ _ => none
  | n + 1 => B_X8_readAtStations_34 (L_X8_readAtStations_34 n)
def B_X8_readAtStations_19 (x0 : Option Nat) (s0 : Int32) (h : MH) : Res := gfR h x0 8 3 fun r5 => gfI h x0 8 9 fun z6 => chk h r5 7 <| calI (M_X7_countDue r5 z6 h) fun z7 h8 => L_X8_readAtStations_34 fuel x0 s0 z7 (0 : Int32) h8
def M_X8_readAtStations (x0 : Option Nat) (h : MH) : Res := gfR h x0 8 3 fun r1 => gfI h x0 8 9 fun z2 => chk h r1 7 <| calI (M_X7_hasStorm r1 z2 h) fun z3 h4 => if z3 ≠ 0 then (B_X8_readAtStations_19 x0 (0 : Int32) h4) else (B_X8_readAtStations_19 x0 (1 : Int32) h4)
theorem vB_X8_readAtStations_82 {K : CT} (F : Fr K cX8_readAtStations RX8 none [] 3 0) (hm : mxL K = 5) (x0 : Option Nat) (x2 : Int32) (h : MH) : V K 82 [(0, vR x0), (2, vI x2)] [] h (B_X8_readAtStations_82 x0 x2 h) := by
  unfold B_X8_readAtStations_82
  refine V_aload_n (pc := 82) F dX8_readAtStations_82 0 rfl ?_
  refine V_getR (pc := 83) F 8 3 (by decide) (by decide) rfl g_fl_RX8_32 dX8_readAtStations_83 ?_
  intro r19
  refine V_iload_n (pc := 86) F dX8_readAtStations_86 1 rfl ?_
  refine V_cVM (pc := 87) F 7 (by decide) (as := [vI x2]) (C_X7_dropFirst r19 x2 h) w_X7_dropFirst g_in_X7_dropFirst g_se_X7_dropFirst g_ml_RX8_361 (by decide) (rest := []) rfl rfl (Nat.le_of_ble_eq_true rfl) dX8_readAtStations_87 (k_V fun h20 => ?_)
  exact V_vret (pc := 90) F (Or.inl rfl) dX8_readAtStations_90
theorem vB_X8_readAtStations_34 {K : CT} (F : Fr K cX8_readAtStations RX8 none [] 3 0) (hm : mxL K = 5) (rc34 : Option Nat → Int32 → Int32 → Int32 → MH → Res) (hrc34 : ∀ x0 x1 x2 x3 h, V K 34 [(0, vR x0), (1, vI x1), (2, vI x2), (3, vI x3)] [] h (rc34 x0 x1 x2 x3 h)) (x0 : Option Nat) (x1 : Int32) (x2 : Int32) (x3 : Int32) (h : MH) : V K 34 [(0, vR x0), (1, vI x1), (2, vI x2), (3, vI x3)] [] h (B_X8_readAtStations_34 rc34 x0 x1 x2 x3 h) := by
  unfold B_X8_readAtStations_34
  refine V_iload_n (pc := 34) F dX8_readAtStations_34 3 rfl ?_
  refine V_iload_n (pc := 35) F dX8_readAtStations_35 2 rfl ?_
  refine V_icmp_ge (pc := 36) F 82 dX8_readAtStations_36 (by decide) ?_ ?_
  · refine V_sub [0, 2] (L' := [(0, vR x0), (2, vI x2)]) rfl ?_
    exact vB_X8_readAtStations_82 F hm x0 x2 h
  · refine V_iload_n (pc := 39) F dX8_readAtStations_39 1 rfl ?_
    refine V_if_eq (pc := 40) F 82 dX8_readAtStations_40 (by decide) ?_ ?_
    · refine V_sub [0, 2] (L' := [(0, vR x0), (2, vI x2)]) rfl ?_
      exact vB_X8_readAtStations_82 F hm x0 x2 h
    · refine V_aload_n (pc := 43) F dX8_readAtStations_43 0 rfl ?_
      refine V_getR (pc := 44) F 8 3 (by decide) (by decide) rfl g_fl_RX8_32 dX8_readAtStations_44 ?_
      intro r9
      refine V_iload_n (pc := 47) F dX8_readAtStations_47 3 rfl ?_
      refine V_cVM (pc := 48) F 7 (by decide) (as := [vI x3]) (C_X7_cellOf r9 x3 h) w_X7_cellOf g_in_X7_cellOf g_se_X7_cellOf g_ml_RX8_358 (by decide) (rest := []) rfl rfl (Nat.le_of_ble_eq_true rfl) dX8_readAtStations_48 (k_I fun z10 h11 => ?_)
      refine V_istore (pc := 51) F [(4, vI z10), (0, vR x0), (1, vI x1), (2, vI x2), (3, vI x3)] dX8_readAtStations_51 (lt_mx hm (by decide)) rfl ?_
      refine V_aload_n (pc := 53) F dX8_readAtStations_53 1 rfl ?_
      refine V_getR (pc := 54) F 8 2 (by decide) (by decide) rfl g_fl_RX8_25 dX8_readAtStations_54 ?_
      intro r12
      refine V_aload_n (pc := 57) F dX8_readAtStations_57 1 rfl ?_
      refine V_getI (pc := 58) F 8 9 (by decide) (by decide) rfl g_fl_RX8_52 dX8_readAtStations_58 ?_
      intro z13
      refine V_iload (pc := 61) F dX8_readAtStations_61 0 rfl ?_
      refine V_aload_n (pc := 63) F dX8_readAtStations_63 1 rfl ?_
      refine V_getR (pc := 64) F 8 0 (by decide) (by decide) rfl g_fl_RX8_12 dX8_readAtStations_64 ?_
      intro r14
      refine V_iload (pc := 67) F dX8_readAtStations_67 0 rfl ?_
      refine V_cVM (pc := 69) F 5 (by decide) (as := [vI z10]) (C_X5_upperHeat r14 z10 h11) w_X5_upperHeat g_in_X5_upperHeat g_se_X5_upperHeat g_ml_RX8_339 (by decide) (rest := [vI z10, vI z13, vR r12]) rfl rfl (Nat.le_of_ble_eq_true rfl) dX8_readAtStations_69 (k_I fun z15 h16 => ?_)
      refine V_null (pc := 72) F dX8_readAtStations_72 ?_
      refine V_cVM (pc := 73) F 2 (by decide) (as := [vI z13, vI z10, vI z15, vR none]) (C_X2_keep r12 z13 z10 z15 none h16) w_X2_keep g_in_X2_keep g_se_X2_keep g_ml_RX8_345 (by decide) (rest := []) rfl rfl (Nat.le_of_ble_eq_true rfl) dX8_readAtStations_73 (k_V fun h17 => ?_)
      refine V_iinc (pc := 76) F (fun z18 => [(3, vI z18), (4, vI z10), (0, vR x0), (1, vI x1), (2, vI x2)]) dX8_readAtStations_76 (lt_mx hm (by decide)) 4 rfl (dx := (1 : Int32)) (by decide) (fun _ => rfl) ?_
      intro z18
      refine V_goto (pc := 79) F 34 dX8_readAtStations_79 (by decide) ?_
      refine V_sub [2, 3, 4, 0] (L' := [(0, vR x0), (1, vI x1), (2, vI x2), (3, vI z18)]) rfl ?_
      exact hrc34 x0 x1 x2 z18 h17
theorem vL_X8_readAtStations_34 {K : CT} (F : Fr K cX8_readAtStations RX8 none [] 3 0) (hm : mxL K = 5) (n : Nat) : ∀ x0 x1 x2 x3 h, V K 34 [(0, vR x0), (1, vI x1), (2, vI x2), (3, vI x3)] [] h (L_X8_readAtStations_34 n x0 x1 x2 x3 h) := by
  induction n with
  | zero => intros; exact V_none
  | succ n ih => intro x0 x1 x2 x3 h; exact vB_X8_readAtStations_34 F hm _ ih x0 x1 x2 x3 h
theorem vB_X8_readAtStations_19 {K : CT} (F : Fr K cX8_readAtStations RX8 none [] 3 0) (hm : mxL K = 5) (x0 : Option Nat) (s0 : Int32) (h : MH) : V K 19 [(0, vR x0)] [vI s0] h (B_X8_readAtStations_19 x0 s0 h) := by
  unfold B_X8_readAtStations_19
  refine V_istore_n (pc := 19) F [(1, vI s0), (0, vR x0)] dX8_readAtStations_19 (lt_mx hm (by decide)) rfl ?_
  refine V_aload_n (pc := 20) F dX8_readAtStations_20 1 rfl ?_
  refine V_getR (pc := 21) F 8 3 (by decide) (by decide) rfl g_fl_RX8_32 dX8_readAtStations_21 ?_
  intro r5
  refine V_aload_n (pc := 24) F dX8_readAtStations_24 1 rfl ?_
  refine V_getI (pc := 25) F 8 9 (by decide) (by decide) rfl g_fl_RX8_52 dX8_readAtStations_25 ?_
  intro z6
  refine V_cVM (pc := 28) F 7 (by decide) (as := [vI z6]) (C_X7_countDue r5 z6 h) w_X7_countDue g_in_X7_countDue g_se_X7_countDue g_ml_RX8_355 (by decide) (rest := []) rfl rfl (Nat.le_of_ble_eq_true rfl) dX8_readAtStations_28 (k_I fun z7 h8 => ?_)
  refine V_istore_n (pc := 31) F [(2, vI z7), (1, vI s0), (0, vR x0)] dX8_readAtStations_31 (lt_mx hm (by decide)) rfl ?_
  refine V_iconst (pc := 32) F (x := (0 : Int32)) dX8_readAtStations_32 (by decide) ?_
  refine V_istore_n (pc := 33) F [(3, vI (0 : Int32)), (2, vI z7), (1, vI s0), (0, vR x0)] dX8_readAtStations_33 (lt_mx hm (by decide)) rfl ?_
  refine V_sub [3, 2, 1, 0] (L' := [(0, vR x0), (1, vI s0), (2, vI z7), (3, vI (0 : Int32))]) rfl ?_
  exact vL_X8_readAtStations_34 F hm fuel x0 s0 z7 (0 : Int32) h8
theorem vM_X8_readAtStations {K : CT} (F : Fr K cX8_readAtStations RX8 none [] 3 0) (hm : mxL K = 5) (x0 : Option Nat) (h : MH) : V K 0 [(0, vR x0)] [] h (M_X8_readAtStations x0 h) := by
  unfold M_X8_readAtStations
  refine V_aload_n (pc := 0) F dX8_readAtStations_0 0 rfl ?_
  refine V_getR (pc := 1) F 8 3 (by decide) (by decide) rfl g_fl_RX8_32 dX8_readAtStations_1 ?_
  intro r1
  refine V_aload_n (pc := 4) F dX8_readAtStations_4 0 rfl ?_
  refine V_getI (pc := 5) F 8 9 (by decide) (by decide) rfl g_fl_RX8_52 dX8_readAtStations_5 ?_
  intro z2
  refine V_cVM (pc := 8) F 7 (by decide) (as := [vI z2]) (C_X7_hasStorm r1 z2 h) w_X7_hasStorm g_in_X7_hasStorm g_se_X7_hasStorm g_ml_RX8_352 (by decide) (rest := []) rfl rfl (Nat.le_of_ble_eq_true rfl) dX8_readAtStations_8 (k_I fun z3 h4 => ?_)
  refine V_if_ne (pc := 11) F 18 dX8_readAtStations_11 (by decide) ?_ ?_
  · refine V_iconst (pc := 18) F (x := (0 : Int32)) dX8_readAtStations_18 (by decide) ?_
    exact vB_X8_readAtStations_19 F hm x0 (0 : Int32) h4
  · refine V_iconst (pc := 14) F (x := (1 : Int32)) dX8_readAtStations_14 (by decide) ?_
    refine V_goto (pc := 15) F 19 dX8_readAtStations_15 (by decide) ?_
    exact vB_X8_readAtStations_19 F hm x0 (1 : Int32) h4
theorem C_X8_readAtStations (x0 : Option Nat) (h : MH) : CtrM yX8_readAtStations (WSm yX8_readAtStations cX8_readAtStations 5 none) 3 [vR x0] h (M_X8_readAtStations x0 h) :=
  CtrM_of (by decide) (Nat.le_of_ble_eq_true rfl) (fun K F hm hi => vM_X8_readAtStations F hm x0 h)
def B_X8_passOneDay_70 (rc41 : Option Nat → Option Nat → Int32 → Int32 → MH → Res) (x0 : Option Nat) (x1 : Option Nat) (x2 : Int32) (x3 : Int32) (h : MH) : Res := bnd (x3 + (1)) fun z17 => rc41 x0 x1 x2 z17 h
def B_X8_passOneDay_110 (rc86 : Option Nat → Option Nat → Int32 → Int32 → MH → Res) (x0 : Option Nat) (x1 : Option Nat) (x2 : Int32) (x3 : Int32) (h : MH) : Res := bnd (x3 + (1)) fun z22 => rc86 x0 x1 x2 z22 h
def B_X8_passOneDay_86 (rc86 : Option Nat → Option Nat → Int32 → Int32 → MH → Res) (x0 : Option Nat) (x1 : Option Nat) (x2 : Int32) (x3 : Int32) (h : MH) : Res := if x2 ≤ x3 then (chk h x0 8 <| calV (M_X8_readAtStations x0 h) fun h18 => rtV h18) else (rdR h x1 x3 fun r19 => if r19 = none then (B_X8_passOneDay_110 rc86 x0 x1 x2 x3 h) else (gfR h x0 8 0 fun r20 => chk h r19 6 <| calV (M_X6_goOn r19 r20 h) fun h21 => B_X8_passOneDay_110 rc86 x0 x1 x2 x3 h21))
def L_X8_passOneDay_86 : Nat → Option Nat → Option Nat → Int32 → Int32 → MH → Res
  | 0 => fun _ _ _ _ _ => none
  | n + 1 => B_X8_passOneDay_86 (L_X8_passOneDay_86 n)
def B_X8_passOneDay_41 (rc41 : Option Nat → Option Nat → Int32 → Int32 → MH → Res) (x0 : Option Nat) (x1 : Option Nat) (x2 : Int32) (x3 : Int32) (h : MH) : Res := if x2 ≤ x3 then (gfR h x0 8 4 fun r12 => aln h r12 fun z13 => L_X8_passOneDay_86 fuel x0 r12 z13 (0 : Int32) h) else (rdR h x1 x3 fun r14 => if r14 = none then (B_X8_passOneDay_70 rc41 x0 x1 x2 x3 h) else (gfI h r14 0 5 fun z15 => if z15 ≤ 0 then (B_X8_passOneDay_70 rc41 x0 x1 x2 x3 h) else (chk h x0 8 <| calV (M_X8_letDrift x0 r14 h) fun h16 => B_X8_passOneDay_70 rc41 x0 x1 x2 x3 h16)))
def L_X8_passOneDay_41 : Nat → Option Nat → Option Nat → Int32 → Int32 → MH → Res
  | 0 => fun _ _ _ _ _ => none
  | n + 1 => B_X8_passOneDay_41 (L_X8_passOneDay_41 n)
def M_X8_passOneDay (x0 : Option Nat) (h : MH) : Res := gfI h x0 8 9 fun z1 => bnd (z1 + (1 : Int32)) fun z2 => pfI h x0 8 9 z2 fun h3 => gfR h3 x0 8 0 fun r4 => chk h3 r4 5 <| calV (M_X5_flow r4 h3) fun h5 => gfR h5 x0 8 0 fun r6 => chk h5 r6 5 <| calV (M_X5_shine r6 h5) fun h7 => gfR h7 x0 8 0 fun r8 => chk h7 r8 5 <| calV (M_X5_turnOver r8 h7) fun h9 => gfR h9 x0 8 1 fun r10 => aln h9 r10 fun z11 => L_X8_passOneDay_41 fuel x0 r10 z11 (0 : Int32) h9
theorem vB_X8_passOneDay_70 {K : CT} (F : Fr K cX8_passOneDay RX8 none [] 5 0) (hm : mxL K = 5) (rc41 : Option Nat → Option Nat → Int32 → Int32 → MH → Res) (hrc41 : ∀ x0 x1 x2 x3 h, V K 41 [(0, vR x0), (1, vR x1), (2, vI x2), (3, vI x3)] [] h (rc41 x0 x1 x2 x3 h)) (x0 : Option Nat) (x1 : Option Nat) (x2 : Int32) (x3 : Int32) (h : MH) : V K 70 [(0, vR x0), (1, vR x1), (2, vI x2), (3, vI x3)] [] h (B_X8_passOneDay_70 rc41 x0 x1 x2 x3 h) := by
  unfold B_X8_passOneDay_70
  refine V_iinc (pc := 70) F (fun z17 => [(3, vI z17), (0, vR x0), (1, vR x1), (2, vI x2)]) dX8_passOneDay_70 (lt_mx hm (by decide)) 3 rfl (dx := (1 : Int32)) (by decide) (fun _ => rfl) ?_
  intro z17
  refine V_goto (pc := 73) F 41 dX8_passOneDay_73 (by decide) ?_
  refine V_sub [1, 2, 3, 0] (L' := [(0, vR x0), (1, vR x1), (2, vI x2), (3, vI z17)]) rfl ?_
  exact hrc41 x0 x1 x2 z17 h
theorem vB_X8_passOneDay_110 {K : CT} (F : Fr K cX8_passOneDay RX8 none [] 5 0) (hm : mxL K = 5) (rc86 : Option Nat → Option Nat → Int32 → Int32 → MH → Res) (hrc86 : ∀ x0 x1 x2 x3 h, V K 86 [(0, vR x0), (1, vR x1), (2, vI x2), (3, vI x3)] [] h (rc86 x0 x1 x2 x3 h)) (x0 : Option Nat) (x1 : Option Nat) (x2 : Int32) (x3 : Int32) (h : MH) : V K 110 [(0, vR x0), (1, vR x1), (2, vI x2), (3, vI x3)] [] h (B_X8_passOneDay_110 rc86 x0 x1 x2 x3 h) := by
  unfold B_X8_passOneDay_110
  refine V_iinc (pc := 110) F (fun z22 => [(3, vI z22), (0, vR x0), (1, vR x1), (2, vI x2)]) dX8_passOneDay_110 (lt_mx hm (by decide)) 3 rfl (dx := (1 : Int32)) (by decide) (fun _ => rfl) ?_
  intro z22
  refine V_goto (pc := 113) F 86 dX8_passOneDay_113 (by decide) ?_
  refine V_sub [1, 2, 3, 0] (L' := [(0, vR x0), (1, vR x1), (2, vI x2), (3, vI z22)]) rfl ?_
  exact hrc86 x0 x1 x2 z22 h
theorem vB_X8_passOneDay_86 {K : CT} (F : Fr K cX8_passOneDay RX8 none [] 5 0) (hm : mxL K = 5) (rc86 : Option Nat → Option Nat → Int32 → Int32 → MH → Res) (hrc86 : ∀ x0 x1 x2 x3 h, V K 86 [(0, vR x0), (1, vR x1), (2, vI x2), (3, vI x3)] [] h (rc86 x0 x1 x2 x3 h)) (x0 : Option Nat) (x1 : Option Nat) (x2 : Int32) (x3 : Int32) (h : MH) : V K 86 [(0, vR x0), (1, vR x1), (2, vI x2), (3, vI x3)] [] h (B_X8_passOneDay_86 rc86 x0 x1 x2 x3 h) := by
  unfold B_X8_passOneDay_86
  refine V_iload_n (pc := 86) F dX8_passOneDay_86 3 rfl ?_
  refine V_iload_n (pc := 87) F dX8_passOneDay_87 2 rfl ?_
  refine V_icmp_ge (pc := 88) F 116 dX8_passOneDay_88 (by decide) ?_ ?_
  · refine V_aload_n (pc := 116) F dX8_passOneDay_116 0 rfl ?_
    refine V_cVM (pc := 117) F 8 (by decide) (as := []) (C_X8_readAtStations x0 h) w_X8_readAtStations g_in_X8_readAtStations g_se_X8_readAtStations g_ml_RX8_333 (by decide) (rest := []) rfl rfl (Nat.le_of_ble_eq_true rfl) dX8_passOneDay_117 (k_V fun h18 => ?_)
    exact V_vret (pc := 120) F (Or.inl rfl) dX8_passOneDay_120
  · refine V_aload_n (pc := 91) F dX8_passOneDay_91 1 rfl ?_
    refine V_iload_n (pc := 92) F dX8_passOneDay_92 3 rfl ?_
    refine V_aald (pc := 93) F dX8_passOneDay_93 ?_
    intro r19
    refine V_astore (pc := 94) F [(4, vR r19), (0, vR x0), (1, vR x1), (2, vI x2), (3, vI x3)] dX8_passOneDay_94 (lt_mx hm (by decide)) rfl ?_
    refine V_aload (pc := 96) F dX8_passOneDay_96 0 rfl ?_
    refine V_ifnull (pc := 98) F 110 dX8_passOneDay_98 (by decide) ?_ ?_
    · refine V_sub [1, 2, 3, 4] (L' := [(0, vR x0), (1, vR x1), (2, vI x2), (3, vI x3)]) rfl ?_
      exact vB_X8_passOneDay_110 F hm rc86 hrc86 x0 x1 x2 x3 h
    · refine V_aload (pc := 101) F dX8_passOneDay_101 0 rfl ?_
      refine V_aload_n (pc := 103) F dX8_passOneDay_103 1 rfl ?_
      refine V_getR (pc := 104) F 8 0 (by decide) (by decide) rfl g_fl_RX8_12 dX8_passOneDay_104 ?_
      intro r20
      refine V_cVM (pc := 107) F 6 (by decide) (as := [vR r20]) (C_X6_goOn r19 r20 h) w_X6_goOn g_in_X6_goOn g_se_X6_goOn g_ml_RX8_329 (by decide) (rest := []) rfl rfl (Nat.le_of_ble_eq_true rfl) dX8_passOneDay_107 (k_V fun h21 => ?_)
      refine V_sub [1, 2, 3, 4] (L' := [(0, vR x0), (1, vR x1), (2, vI x2), (3, vI x3)]) rfl ?_
      exact vB_X8_passOneDay_110 F hm rc86 hrc86 x0 x1 x2 x3 h21
theorem vL_X8_passOneDay_86 {K : CT} (F : Fr K cX8_passOneDay RX8 none [] 5 0) (hm : mxL K = 5) (n : Nat) : ∀ x0 x1 x2 x3 h, V K 86 [(0, vR x0), (1, vR x1), (2, vI x2), (3, vI x3)] [] h (L_X8_passOneDay_86 n x0 x1 x2 x3 h) := by
  induction n with
  | zero => intros; exact V_none
  | succ n ih => intro x0 x1 x2 x3 h; exact vB_X8_passOneDay_86 F hm _ ih x0 x1 x2 x3 h
theorem vB_X8_passOneDay_41 {K : CT} (F : Fr K cX8_passOneDay RX8 none [] 5 0) (hm : mxL K = 5) (rc41 : Option Nat → Option Nat → Int32 → Int32 → MH → Res) (hrc41 : ∀ x0 x1 x2 x3 h, V K 41 [(0, vR x0), (1, vR x1), (2, vI x2), (3, vI x3)] [] h (rc41 x0 x1 x2 x3 h)) (x0 : Option Nat) (x1 : Option Nat) (x2 : Int32) (x3 : Int32) (h : MH) : V K 41 [(0, vR x0), (1, vR x1), (2, vI x2), (3, vI x3)] [] h (B_X8_passOneDay_41 rc41 x0 x1 x2 x3 h) := by
  unfold B_X8_passOneDay_41
  refine V_iload_n (pc := 41) F dX8_passOneDay_41 3 rfl ?_
  refine V_iload_n (pc := 42) F dX8_passOneDay_42 2 rfl ?_
  refine V_icmp_ge (pc := 43) F 76 dX8_passOneDay_43 (by decide) ?_ ?_
  · refine V_aload_n (pc := 76) F dX8_passOneDay_76 0 rfl ?_
    refine V_getR (pc := 77) F 8 4 (by decide) (by decide) rfl g_fl_RX8_38 dX8_passOneDay_77 ?_
    intro r12
    refine V_astore_n (pc := 80) F [(1, vR r12), (0, vR x0), (2, vI x2), (3, vI x3)] dX8_passOneDay_80 (lt_mx hm (by decide)) rfl ?_
    refine V_aload_n (pc := 81) F dX8_passOneDay_81 0 rfl ?_
    refine V_alen (pc := 82) F dX8_passOneDay_82 ?_
    intro z13
    refine V_istore_n (pc := 83) F [(2, vI z13), (1, vR r12), (0, vR x0), (3, vI x3)] dX8_passOneDay_83 (lt_mx hm (by decide)) rfl ?_
    refine V_iconst (pc := 84) F (x := (0 : Int32)) dX8_passOneDay_84 (by decide) ?_
    refine V_istore_n (pc := 85) F [(3, vI (0 : Int32)), (2, vI z13), (1, vR r12), (0, vR x0)] dX8_passOneDay_85 (lt_mx hm (by decide)) rfl ?_
    refine V_sub [3, 2, 1, 0] (L' := [(0, vR x0), (1, vR r12), (2, vI z13), (3, vI (0 : Int32))]) rfl ?_
    exact vL_X8_passOneDay_86 F hm fuel x0 r12 z13 (0 : Int32) h
  · refine V_aload_n (pc := 46) F dX8_passOneDay_46 1 rfl ?_
    refine V_iload_n (pc := 47) F dX8_passOneDay_47 3 rfl ?_
    refine V_aald (pc := 48) F dX8_passOneDay_48 ?_
    intro r14
    refine V_astore (pc := 49) F [(4, vR r14), (0, vR x0), (1, vR x1), (2, vI x2), (3, vI x3)] dX8_passOneDay_49 (lt_mx hm (by decide)) rfl ?_
    refine V_aload (pc := 51) F dX8_passOneDay_51 0 rfl ?_
    refine V_ifnull (pc := 53) F 70 dX8_passOneDay_53 (by decide) ?_ ?_
    · refine V_sub [1, 2, 3, 4] (L' := [(0, vR x0), (1, vR x1), (2, vI x2), (3, vI x3)]) rfl ?_
      exact vB_X8_passOneDay_70 F hm rc41 hrc41 x0 x1 x2 x3 h
    · refine V_aload (pc := 56) F dX8_passOneDay_56 0 rfl ?_
      refine V_getI (pc := 58) F 0 5 (by decide) (by decide) rfl g_fl_RX8_221 dX8_passOneDay_58 ?_
      intro z15
      refine V_if_le (pc := 61) F 70 dX8_passOneDay_61 (by decide) ?_ ?_
      · refine V_sub [1, 2, 3, 4] (L' := [(0, vR x0), (1, vR x1), (2, vI x2), (3, vI x3)]) rfl ?_
        exact vB_X8_passOneDay_70 F hm rc41 hrc41 x0 x1 x2 x3 h
      · refine V_aload_n (pc := 64) F dX8_passOneDay_64 1 rfl ?_
        refine V_aload (pc := 65) F dX8_passOneDay_65 0 rfl ?_
        refine V_cVM (pc := 67) F 8 (by decide) (as := [vR r14]) (C_X8_letDrift x0 r14 h) w_X8_letDrift g_in_X8_letDrift g_se_X8_letDrift g_ml_RX8_325 (by decide) (rest := []) rfl rfl (Nat.le_of_ble_eq_true rfl) dX8_passOneDay_67 (k_V fun h16 => ?_)
        refine V_sub [1, 2, 3, 4] (L' := [(0, vR x0), (1, vR x1), (2, vI x2), (3, vI x3)]) rfl ?_
        exact vB_X8_passOneDay_70 F hm rc41 hrc41 x0 x1 x2 x3 h16
theorem vL_X8_passOneDay_41 {K : CT} (F : Fr K cX8_passOneDay RX8 none [] 5 0) (hm : mxL K = 5) (n : Nat) : ∀ x0 x1 x2 x3 h, V K 41 [(0, vR x0), (1, vR x1), (2, vI x2), (3, vI x3)] [] h (L_X8_passOneDay_41 n x0 x1 x2 x3 h) := by
  induction n with
  | zero => intros; exact V_none
  | succ n ih => intro x0 x1 x2 x3 h; exact vB_X8_passOneDay_41 F hm _ ih x0 x1 x2 x3 h
theorem vM_X8_passOneDay {K : CT} (F : Fr K cX8_passOneDay RX8 none [] 5 0) (hm : mxL K = 5) (x0 : Option Nat) (h : MH) : V K 0 [(0, vR x0)] [] h (M_X8_passOneDay x0 h) := by
  unfold M_X8_passOneDay
  refine V_aload_n (pc := 0) F dX8_passOneDay_0 0 rfl ?_
  refine V_dup (pc := 1) F dX8_passOneDay_1 rfl ?_
  refine V_getI (pc := 2) F 8 9 (by decide) (by decide) rfl g_fl_RX8_52 dX8_passOneDay_2 ?_
  intro z1
  refine V_iconst (pc := 5) F (x := (1 : Int32)) dX8_passOneDay_5 (by decide) ?_
  refine V_iadd (pc := 6) F dX8_passOneDay_6 ?_
  intro z2
  refine V_putI (pc := 7) F 8 9 (by decide) (by decide) rfl rfl g_fl_RX8_52 dX8_passOneDay_7 ?_
  intro h3
  refine V_aload_n (pc := 10) F dX8_passOneDay_10 0 rfl ?_
  refine V_getR (pc := 11) F 8 0 (by decide) (by decide) rfl g_fl_RX8_12 dX8_passOneDay_11 ?_
  intro r4
  refine V_cVM (pc := 14) F 5 (by decide) (as := []) (C_X5_flow r4 h3) w_X5_flow g_in_X5_flow g_se_X5_flow g_ml_RX8_316 (by decide) (rest := []) rfl rfl (Nat.le_of_ble_eq_true rfl) dX8_passOneDay_14 (k_V fun h5 => ?_)
  refine V_aload_n (pc := 17) F dX8_passOneDay_17 0 rfl ?_
  refine V_getR (pc := 18) F 8 0 (by decide) (by decide) rfl g_fl_RX8_12 dX8_passOneDay_18 ?_
  intro r6
  refine V_cVM (pc := 21) F 5 (by decide) (as := []) (C_X5_shine r6 h5) w_X5_shine g_in_X5_shine g_se_X5_shine g_ml_RX8_319 (by decide) (rest := []) rfl rfl (Nat.le_of_ble_eq_true rfl) dX8_passOneDay_21 (k_V fun h7 => ?_)
  refine V_aload_n (pc := 24) F dX8_passOneDay_24 0 rfl ?_
  refine V_getR (pc := 25) F 8 0 (by decide) (by decide) rfl g_fl_RX8_12 dX8_passOneDay_25 ?_
  intro r8
  refine V_cVM (pc := 28) F 5 (by decide) (as := []) (C_X5_turnOver r8 h7) w_X5_turnOver g_in_X5_turnOver g_se_X5_turnOver g_ml_RX8_322 (by decide) (rest := []) rfl rfl (Nat.le_of_ble_eq_true rfl) dX8_passOneDay_28 (k_V fun h9 => ?_)
  refine V_aload_n (pc := 31) F dX8_passOneDay_31 0 rfl ?_
  refine V_getR (pc := 32) F 8 1 (by decide) (by decide) rfl g_fl_RX8_18 dX8_passOneDay_32 ?_
  intro r10
  refine V_astore_n (pc := 35) F [(1, vR r10), (0, vR x0)] dX8_passOneDay_35 (lt_mx hm (by decide)) rfl ?_
  refine V_aload_n (pc := 36) F dX8_passOneDay_36 0 rfl ?_
  refine V_alen (pc := 37) F dX8_passOneDay_37 ?_
  intro z11
  refine V_istore_n (pc := 38) F [(2, vI z11), (1, vR r10), (0, vR x0)] dX8_passOneDay_38 (lt_mx hm (by decide)) rfl ?_
  refine V_iconst (pc := 39) F (x := (0 : Int32)) dX8_passOneDay_39 (by decide) ?_
  refine V_istore_n (pc := 40) F [(3, vI (0 : Int32)), (2, vI z11), (1, vR r10), (0, vR x0)] dX8_passOneDay_40 (lt_mx hm (by decide)) rfl ?_
  refine V_sub [3, 2, 1, 0] (L' := [(0, vR x0), (1, vR r10), (2, vI z11), (3, vI (0 : Int32))]) rfl ?_
  exact vL_X8_passOneDay_41 F hm fuel x0 r10 z11 (0 : Int32) h9
theorem C_X8_passOneDay (x0 : Option Nat) (h : MH) : CtrM yX8_passOneDay (WSm yX8_passOneDay cX8_passOneDay 5 none) 5 [vR x0] h (M_X8_passOneDay x0 h) :=
  CtrM_of (by decide) (Nat.le_of_ble_eq_true rfl) (fun K F hm hi => vM_X8_passOneDay F hm x0 h)
def B_X8_pass_31 (rc31 : Option Nat → Int32 → Int32 → MH → Res) (x0 : Option Nat) (x1 : Int32) (x2 : Int32) (h : MH) : Res := if x1 ≤ x2 then (gfI h x0 8 9 fun z4 => rtI z4 h) else (chk h x0 8 <| calV (M_X8_passOneDay x0 h) fun h5 => bnd (x2 + (1)) fun z6 => rc31 x0 x1 z6 h5)
def L_X8_pass_31 : Nat → Option Nat → Int32 → Int32 → MH → Res
  | 0 => fun _ _ _ _ => none
  | n + 1 => B_X8_pass_31 (L_X8_pass_31 n)
def M_X8_pass (x0 : Option Nat) (x1 : Int32) (h : MH) : Res := calV (M_X8_needRange x1 (1 : Int32) (50 : Int32) h) fun h1 => gfI h1 x0 8 9 fun z2 => bnd ((1000 : Int32) - z2) fun z3 => if x1 ≤ z3 then (L_X8_pass_31 fuel x0 x1 (0 : Int32) h1) else (some (.inr 3, exc h1))
theorem vB_X8_pass_31 {K : CT} (F : Fr K cX8_pass RX8 (some .int) [] 7 1) (hm : mxL K = 3) (rc31 : Option Nat → Int32 → Int32 → MH → Res) (hrc31 : ∀ x0 x1 x2 h, V K 31 [(0, vR x0), (1, vI x1), (2, vI x2)] [] h (rc31 x0 x1 x2 h)) (x0 : Option Nat) (x1 : Int32) (x2 : Int32) (h : MH) : V K 31 [(0, vR x0), (1, vI x1), (2, vI x2)] [] h (B_X8_pass_31 rc31 x0 x1 x2 h) := by
  unfold B_X8_pass_31
  refine V_iload_n (pc := 31) F dX8_pass_31 2 rfl ?_
  refine V_iload_n (pc := 32) F dX8_pass_32 1 rfl ?_
  refine V_icmp_ge (pc := 33) F 46 dX8_pass_33 (by decide) ?_ ?_
  · refine V_aload_n (pc := 46) F dX8_pass_46 0 rfl ?_
    refine V_getI (pc := 47) F 8 9 (by decide) (by decide) rfl g_fl_RX8_52 dX8_pass_47 ?_
    intro z4
    exact V_iret (pc := 50) F (Or.inr rfl) dX8_pass_50
  · refine V_aload_n (pc := 36) F dX8_pass_36 0 rfl ?_
    refine V_cVM (pc := 37) F 8 (by decide) (as := []) (C_X8_passOneDay x0 h) w_X8_passOneDay g_in_X8_passOneDay g_se_X8_passOneDay g_ml_RX8_87 (by decide) (rest := []) rfl rfl (Nat.le_of_ble_eq_true rfl) dX8_pass_37 (k_V fun h5 => ?_)
    refine V_iinc (pc := 40) F (fun z6 => [(2, vI z6), (0, vR x0), (1, vI x1)]) dX8_pass_40 (lt_mx hm (by decide)) 2 rfl (dx := (1 : Int32)) (by decide) (fun _ => rfl) ?_
    intro z6
    refine V_goto (pc := 43) F 31 dX8_pass_43 (by decide) ?_
    refine V_sub [1, 2, 0] (L' := [(0, vR x0), (1, vI x1), (2, vI z6)]) rfl ?_
    exact hrc31 x0 x1 z6 h5
theorem vL_X8_pass_31 {K : CT} (F : Fr K cX8_pass RX8 (some .int) [] 7 1) (hm : mxL K = 3) (n : Nat) : ∀ x0 x1 x2 h, V K 31 [(0, vR x0), (1, vI x1), (2, vI x2)] [] h (L_X8_pass_31 n x0 x1 x2 h) := by
  induction n with
  | zero => intros; exact V_none
  | succ n ih => intro x0 x1 x2 h; exact vB_X8_pass_31 F hm _ ih x0 x1 x2 h
theorem vM_X8_pass {K : CT} (F : Fr K cX8_pass RX8 (some .int) [] 7 1) (hm : mxL K = 3) (x0 : Option Nat) (x1 : Int32) (h : MH) : V K 0 [(0, vR x0), (1, vI x1)] [] h (M_X8_pass x0 x1 h) := by
  unfold M_X8_pass
  refine V_iload_n (pc := 0) F dX8_pass_0 1 rfl ?_
  refine V_iconst (pc := 1) F (x := (1 : Int32)) dX8_pass_1 (by decide) ?_
  refine V_bipush (pc := 2) F (x := (50 : Int32)) dX8_pass_2 (by decide) ?_
  refine V_cS (pc := 4) F (as := [vI x1, vI (1 : Int32), vI (50 : Int32)]) (C_X8_needRange x1 (1 : Int32) (50 : Int32) h) w_X8_needRange g_st_X8_needRange g_ml_RX8_74 (by decide) (rest := []) rfl rfl (Nat.le_of_ble_eq_true rfl) dX8_pass_4 (k_V fun h1 => ?_) (fun _ _ => VX_out F)
  refine V_iload_n (pc := 7) F dX8_pass_7 1 rfl ?_
  refine V_sipush (pc := 8) F (x := (1000 : Int32)) dX8_pass_8 (by decide) ?_
  refine V_aload_n (pc := 11) F dX8_pass_11 0 rfl ?_
  refine V_getI (pc := 12) F 8 9 (by decide) (by decide) rfl g_fl_RX8_52 dX8_pass_12 ?_
  intro z2
  refine V_isub (pc := 15) F dX8_pass_15 ?_
  intro z3
  refine V_icmp_le (pc := 16) F 29 dX8_pass_16 (by decide) ?_ ?_
  · refine V_iconst (pc := 29) F (x := (0 : Int32)) dX8_pass_29 (by decide) ?_
    refine V_istore_n (pc := 30) F [(2, vI (0 : Int32)), (0, vR x0), (1, vI x1)] dX8_pass_30 (lt_mx hm (by decide)) rfl ?_
    refine V_sub [1, 2, 0] (L' := [(0, vR x0), (1, vI x1), (2, vI (0 : Int32))]) rfl ?_
    exact vL_X8_pass_31 F hm fuel x0 x1 (0 : Int32) h1
  · exact V_thr (pc := 19) F 3 (tx := "the day would be above 1000") (by decide) g_cl_RX8_63 g_ini_java_lang_IllegalStateException (by decide +kernel) g_ata_RX8_67_63 g_atb_RX8_67_63 g_atc_RX8_67_63 dX8_pass_19 dX8_pass_22 dX8_pass_23 dX8_pass_25 dX8_pass_28
theorem C_X8_pass (x0 : Option Nat) (x1 : Int32) (h : MH) : CtrX yX8_pass (WSm yX8_pass cX8_pass 3 (some .int)) 7 [vR x0, vI x1] h (M_X8_pass x0 x1 h) :=
  CtrX_of (by decide) (Nat.le_of_ble_eq_true rfl) (fun K F hm hi => vM_X8_pass F hm x0 x1 h)
def M_X8_day (x0 : Option Nat) (h : MH) : Res := gfI h x0 8 9 fun z1 => rtI z1 h
theorem vM_X8_day {K : CT} (F : Fr K cX8_day RX8 (some .int) [] 0 0) (hm : mxL K = 1) (x0 : Option Nat) (h : MH) : V K 0 [(0, vR x0)] [] h (M_X8_day x0 h) := by
  unfold M_X8_day
  refine V_aload_n (pc := 0) F dX8_day_0 0 rfl ?_
  refine V_getI (pc := 1) F 8 9 (by decide) (by decide) rfl g_fl_RX8_52 dX8_day_1 ?_
  intro z1
  exact V_iret (pc := 4) F (Or.inl rfl) dX8_day_4
theorem C_X8_day (x0 : Option Nat) (h : MH) : CtrM yX8_day (WSm yX8_day cX8_day 1 (some .int)) 0 [vR x0] h (M_X8_day x0 h) :=
  CtrM_of (by decide) (Nat.le_of_ble_eq_true rfl) (fun K F hm hi => vM_X8_day F hm x0 h)
def B_X8_sumOf_10 (rc10 : Int32 → Option Nat → Int32 → Int32 → MH → Res) (x1 : Int32) (x2 : Option Nat) (x3 : Int32) (x4 : Int32) (h : MH) : Res := if x3 ≤ x4 then (rtI x1 h) else (rdI h x2 20 x4 fun z2 => bnd (x1 + z2) fun z3 => bnd (x4 + (1)) fun z4 => rc10 z3 x2 x3 z4 h)
def L_X8_sumOf_10 : Nat → Int32 → Option Nat → Int32 → Int32 → MH → Res
  | 0 => fun _ _ _ _ _ => none
  | n + 1 => B_X8_sumOf_10 (L_X8_sumOf_10 n)
def M_X8_sumOf (x0 : Option Nat) (h : MH) : Res := aln h x0 fun z1 => L_X8_sumOf_10 fuel (0 : Int32) x0 z1 (0 : Int32) h
theorem vB_X8_sumOf_10 {K : CT} (F : Fr K cX8_sumOf RX8 (some .int) [] 0 0) (hm : mxL K = 6) (rc10 : Int32 → Option Nat → Int32 → Int32 → MH → Res) (hrc10 : ∀ x1 x2 x3 x4 h, V K 10 [(1, vI x1), (2, vR x2), (3, vI x3), (4, vI x4)] [] h (rc10 x1 x2 x3 x4 h)) (x1 : Int32) (x2 : Option Nat) (x3 : Int32) (x4 : Int32) (h : MH) : V K 10 [(1, vI x1), (2, vR x2), (3, vI x3), (4, vI x4)] [] h (B_X8_sumOf_10 rc10 x1 x2 x3 x4 h) := by
  unfold B_X8_sumOf_10
  refine V_iload (pc := 10) F dX8_sumOf_10 3 rfl ?_
  refine V_iload_n (pc := 12) F dX8_sumOf_12 2 rfl ?_
  refine V_icmp_ge (pc := 13) F 33 dX8_sumOf_13 (by decide) ?_ ?_
  · refine V_iload_n (pc := 33) F dX8_sumOf_33 0 rfl ?_
    exact V_iret (pc := 34) F (Or.inl rfl) dX8_sumOf_34
  · refine V_aload_n (pc := 16) F dX8_sumOf_16 1 rfl ?_
    refine V_iload (pc := 17) F dX8_sumOf_17 3 rfl ?_
    refine V_iald (pc := 19) F dX8_sumOf_19 ?_
    intro z2
    refine V_istore (pc := 20) F [(5, vI z2), (1, vI x1), (2, vR x2), (3, vI x3), (4, vI x4)] dX8_sumOf_20 (lt_mx hm (by decide)) rfl ?_
    refine V_iload_n (pc := 22) F dX8_sumOf_22 1 rfl ?_
    refine V_iload (pc := 23) F dX8_sumOf_23 0 rfl ?_
    refine V_iadd (pc := 25) F dX8_sumOf_25 ?_
    intro z3
    refine V_istore_n (pc := 26) F [(1, vI z3), (5, vI z2), (2, vR x2), (3, vI x3), (4, vI x4)] dX8_sumOf_26 (lt_mx hm (by decide)) rfl ?_
    refine V_iinc (pc := 27) F (fun z4 => [(4, vI z4), (1, vI z3), (5, vI z2), (2, vR x2), (3, vI x3)]) dX8_sumOf_27 (lt_mx hm (by decide)) 4 rfl (dx := (1 : Int32)) (by decide) (fun _ => rfl) ?_
    intro z4
    refine V_goto (pc := 30) F 10 dX8_sumOf_30 (by decide) ?_
    refine V_sub [1, 3, 4, 0] (L' := [(1, vI z3), (2, vR x2), (3, vI x3), (4, vI z4)]) rfl ?_
    exact hrc10 z3 x2 x3 z4 h
theorem vL_X8_sumOf_10 {K : CT} (F : Fr K cX8_sumOf RX8 (some .int) [] 0 0) (hm : mxL K = 6) (n : Nat) : ∀ x1 x2 x3 x4 h, V K 10 [(1, vI x1), (2, vR x2), (3, vI x3), (4, vI x4)] [] h (L_X8_sumOf_10 n x1 x2 x3 x4 h) := by
  induction n with
  | zero => intros; exact V_none
  | succ n ih => intro x1 x2 x3 x4 h; exact vB_X8_sumOf_10 F hm _ ih x1 x2 x3 x4 h
theorem vM_X8_sumOf {K : CT} (F : Fr K cX8_sumOf RX8 (some .int) [] 0 0) (hm : mxL K = 6) (x0 : Option Nat) (h : MH) : V K 0 [(0, vR x0)] [] h (M_X8_sumOf x0 h) := by
  unfold M_X8_sumOf
  refine V_iconst (pc := 0) F (x := (0 : Int32)) dX8_sumOf_0 (by decide) ?_
  refine V_istore_n (pc := 1) F [(1, vI (0 : Int32)), (0, vR x0)] dX8_sumOf_1 (lt_mx hm (by decide)) rfl ?_
  refine V_aload_n (pc := 2) F dX8_sumOf_2 1 rfl ?_
  refine V_astore_n (pc := 3) F [(2, vR x0), (1, vI (0 : Int32)), (0, vR x0)] dX8_sumOf_3 (lt_mx hm (by decide)) rfl ?_
  refine V_aload_n (pc := 4) F dX8_sumOf_4 0 rfl ?_
  refine V_alen (pc := 5) F dX8_sumOf_5 ?_
  intro z1
  refine V_istore_n (pc := 6) F [(3, vI z1), (2, vR x0), (1, vI (0 : Int32)), (0, vR x0)] dX8_sumOf_6 (lt_mx hm (by decide)) rfl ?_
  refine V_iconst (pc := 7) F (x := (0 : Int32)) dX8_sumOf_7 (by decide) ?_
  refine V_istore (pc := 8) F [(4, vI (0 : Int32)), (3, vI z1), (2, vR x0), (1, vI (0 : Int32)), (0, vR x0)] dX8_sumOf_8 (lt_mx hm (by decide)) rfl ?_
  refine V_sub [3, 2, 1, 0] (L' := [(1, vI (0 : Int32)), (2, vR x0), (3, vI z1), (4, vI (0 : Int32))]) rfl ?_
  exact vL_X8_sumOf_10 F hm fuel (0 : Int32) x0 z1 (0 : Int32) h
theorem C_X8_sumOf (x0 : Option Nat) (h : MH) : CtrM yX8_sumOf (WSm yX8_sumOf cX8_sumOf 6 (some .int)) 0 [vR x0] h (M_X8_sumOf x0 h) :=
  CtrM_of (by decide) (Nat.le_of_ble_eq_true rfl) (fun K F hm hi => vM_X8_sumOf F hm x0 h)
def M_X8_total (x0 : Option Nat) (x1 : Int32) (h : MH) : Res := calV (M_X8_needRange x1 (0 : Int32) (2 : Int32) h) fun h1 => if x1 = 0 then (gfR h1 x0 8 0 fun r2 => gfR h1 r2 5 0 fun r3 => gfR h1 r3 1 0 fun r4 => calI (M_X8_sumOf r4 h1) fun z5 h6 => gfR h6 x0 8 0 fun r7 => gfR h6 r7 5 1 fun r8 => gfR h6 r8 1 0 fun r9 => calI (M_X8_sumOf r9 h6) fun z10 h11 => bnd (z5 + z10) fun z12 => rtI z12 h11) else if x1 = 1 then (gfR h1 x0 8 0 fun r13 => gfR h1 r13 5 0 fun r14 => gfR h1 r14 1 1 fun r15 => calI (M_X8_sumOf r15 h1) fun z16 h17 => gfR h17 x0 8 0 fun r18 => gfR h17 r18 5 1 fun r19 => gfR h17 r19 1 1 fun r20 => calI (M_X8_sumOf r20 h17) fun z21 h22 => bnd (z16 + z21) fun z23 => rtI z23 h22) else (gfR h1 x0 8 0 fun r24 => gfI h1 r24 5 4 fun z25 => rtI z25 h1)
theorem vM_X8_total {K : CT} (F : Fr K cX8_total RX8 (some .int) [] 7 1) (hm : mxL K = 2) (x0 : Option Nat) (x1 : Int32) (h : MH) : V K 0 [(0, vR x0), (1, vI x1)] [] h (M_X8_total x0 x1 h) := by
  unfold M_X8_total
  refine V_iload_n (pc := 0) F dX8_total_0 1 rfl ?_
  refine V_iconst (pc := 1) F (x := (0 : Int32)) dX8_total_1 (by decide) ?_
  refine V_iconst (pc := 2) F (x := (2 : Int32)) dX8_total_2 (by decide) ?_
  refine V_cS (pc := 3) F (as := [vI x1, vI (0 : Int32), vI (2 : Int32)]) (C_X8_needRange x1 (0 : Int32) (2 : Int32) h) w_X8_needRange g_st_X8_needRange g_ml_RX8_74 (by decide) (rest := []) rfl rfl (Nat.le_of_ble_eq_true rfl) dX8_total_3 (k_V fun h1 => ?_) (fun _ _ => VX_out F)
  refine V_iload_n (pc := 6) F dX8_total_6 1 rfl ?_
  refine V_lsw2 (pc := 7) F 32 60 88 dX8_total_7 (by decide) (by decide) (by decide) ?_ ?_ ?_
  · refine V_aload_n (pc := 32) F dX8_total_32 0 rfl ?_
    refine V_getR (pc := 33) F 8 0 (by decide) (by decide) rfl g_fl_RX8_12 dX8_total_33 ?_
    intro r2
    refine V_getR (pc := 36) F 5 0 (by decide) (by decide) rfl g_fl_RX8_190 dX8_total_36 ?_
    intro r3
    refine V_getR (pc := 39) F 1 0 (by decide) (by decide) rfl g_fl_RX8_197 dX8_total_39 ?_
    intro r4
    refine V_cSM (pc := 42) F (as := [vR r4]) (C_X8_sumOf r4 h1) w_X8_sumOf g_st_X8_sumOf g_ml_RX8_208 (by decide) (rest := []) rfl rfl (Nat.le_of_ble_eq_true rfl) dX8_total_42 (k_I fun z5 h6 => ?_)
    refine V_aload_n (pc := 45) F dX8_total_45 0 rfl ?_
    refine V_getR (pc := 46) F 8 0 (by decide) (by decide) rfl g_fl_RX8_12 dX8_total_46 ?_
    intro r7
    refine V_getR (pc := 49) F 5 1 (by decide) (by decide) rfl g_fl_RX8_194 dX8_total_49 ?_
    intro r8
    refine V_getR (pc := 52) F 1 0 (by decide) (by decide) rfl g_fl_RX8_197 dX8_total_52 ?_
    intro r9
    refine V_cSM (pc := 55) F (as := [vR r9]) (C_X8_sumOf r9 h6) w_X8_sumOf g_st_X8_sumOf g_ml_RX8_208 (by decide) (rest := [vI z5]) rfl rfl (Nat.le_of_ble_eq_true rfl) dX8_total_55 (k_I fun z10 h11 => ?_)
    refine V_iadd (pc := 58) F dX8_total_58 ?_
    intro z12
    exact V_iret (pc := 59) F (Or.inr rfl) dX8_total_59
  · refine V_aload_n (pc := 60) F dX8_total_60 0 rfl ?_
    refine V_getR (pc := 61) F 8 0 (by decide) (by decide) rfl g_fl_RX8_12 dX8_total_61 ?_
    intro r13
    refine V_getR (pc := 64) F 5 0 (by decide) (by decide) rfl g_fl_RX8_190 dX8_total_64 ?_
    intro r14
    refine V_getR (pc := 67) F 1 1 (by decide) (by decide) rfl g_fl_RX8_202 dX8_total_67 ?_
    intro r15
    refine V_cSM (pc := 70) F (as := [vR r15]) (C_X8_sumOf r15 h1) w_X8_sumOf g_st_X8_sumOf g_ml_RX8_208 (by decide) (rest := []) rfl rfl (Nat.le_of_ble_eq_true rfl) dX8_total_70 (k_I fun z16 h17 => ?_)
    refine V_aload_n (pc := 73) F dX8_total_73 0 rfl ?_
    refine V_getR (pc := 74) F 8 0 (by decide) (by decide) rfl g_fl_RX8_12 dX8_total_74 ?_
    intro r18
    refine V_getR (pc := 77) F 5 1 (by decide) (by decide) rfl g_fl_RX8_194 dX8_total_77 ?_
    intro r19
    refine V_getR (pc := 80) F 1 1 (by decide) (by decide) rfl g_fl_RX8_202 dX8_total_80 ?_
    intro r20
    refine V_cSM (pc := 83) F (as := [vR r20]) (C_X8_sumOf r20 h17) w_X8_sumOf g_st_X8_sumOf g_ml_RX8_208 (by decide) (rest := [vI z16]) rfl rfl (Nat.le_of_ble_eq_true rfl) dX8_total_83 (k_I fun z21 h22 => ?_)
    refine V_iadd (pc := 86) F dX8_total_86 ?_
    intro z23
    exact V_iret (pc := 87) F (Or.inr rfl) dX8_total_87
  · refine V_aload_n (pc := 88) F dX8_total_88 0 rfl ?_
    refine V_getR (pc := 89) F 8 0 (by decide) (by decide) rfl g_fl_RX8_12 dX8_total_89 ?_
    intro r24
    refine V_getI (pc := 92) F 5 4 (by decide) (by decide) rfl g_fl_RX8_212 dX8_total_92 ?_
    intro z25
    exact V_iret (pc := 95) F (Or.inr rfl) dX8_total_95
theorem C_X8_total (x0 : Option Nat) (x1 : Int32) (h : MH) : CtrX yX8_total (WSm yX8_total cX8_total 2 (some .int)) 7 [vR x0, vI x1] h (M_X8_total x0 x1 h) :=
  CtrX_of (by decide) (Nat.le_of_ble_eq_true rfl) (fun K F hm hi => vM_X8_total F hm x0 x1 h)
def M_X8_stations (x0 : Option Nat) (h : MH) : Res := gfR h x0 8 3 fun r1 => gfI h r1 7 0 fun z2 => rtI z2 h
theorem vM_X8_stations {K : CT} (F : Fr K cX8_stations RX8 (some .int) [] 0 0) (hm : mxL K = 1) (x0 : Option Nat) (h : MH) : V K 0 [(0, vR x0)] [] h (M_X8_stations x0 h) := by
  unfold M_X8_stations
  refine V_aload_n (pc := 0) F dX8_stations_0 0 rfl ?_
  refine V_getR (pc := 1) F 8 3 (by decide) (by decide) rfl g_fl_RX8_32 dX8_stations_1 ?_
  intro r1
  refine V_getI (pc := 4) F 7 0 (by decide) (by decide) rfl g_fl_RX8_227 dX8_stations_4 ?_
  intro z2
  exact V_iret (pc := 7) F (Or.inl rfl) dX8_stations_7
theorem C_X8_stations (x0 : Option Nat) (h : MH) : CtrM yX8_stations (WSm yX8_stations cX8_stations 1 (some .int)) 0 [vR x0] h (M_X8_stations x0 h) :=
  CtrM_of (by decide) (Nat.le_of_ble_eq_true rfl) (fun K F hm hi => vM_X8_stations F hm x0 h)
def M_X8_readings (x0 : Option Nat) (h : MH) : Res := gfR h x0 8 2 fun r1 => gfI h r1 2 1 fun z2 => rtI z2 h
theorem vM_X8_readings {K : CT} (F : Fr K cX8_readings RX8 (some .int) [] 0 0) (hm : mxL K = 1) (x0 : Option Nat) (h : MH) : V K 0 [(0, vR x0)] [] h (M_X8_readings x0 h) := by
  unfold M_X8_readings
  refine V_aload_n (pc := 0) F dX8_readings_0 0 rfl ?_
  refine V_getR (pc := 1) F 8 2 (by decide) (by decide) rfl g_fl_RX8_25 dX8_readings_1 ?_
  intro r1
  refine V_getI (pc := 4) F 2 1 (by decide) (by decide) rfl g_fl_RX8_230 dX8_readings_4 ?_
  intro z2
  exact V_iret (pc := 7) F (Or.inl rfl) dX8_readings_7
theorem C_X8_readings (x0 : Option Nat) (h : MH) : CtrM yX8_readings (WSm yX8_readings cX8_readings 1 (some .int)) 0 [vR x0] h (M_X8_readings x0 h) :=
  CtrM_of (by decide) (Nat.le_of_ble_eq_true rfl) (fun K F hm hi => vM_X8_readings F hm x0 h)
def B_X8_ofLayer_37 (x1 : Int32) (x3 : Int32) (s0 : Option Nat) (h : MH) : Res := if x3 = 0 then (gfR h s0 1 0 fun r8 => rdI h r8 20 x1 fun z9 => rtI z9 h) else if x3 = 1 then (gfR h s0 1 1 fun r10 => rdI h r10 20 x1 fun z11 => rtI z11 h) else (chk h s0 1 <| calI (M_X1_weightAt s0 x1 h) fun z12 h13 => rtI z12 h13)
def M_X8_ofLayer (x0 : Option Nat) (x1 : Int32) (x2 : Int32) (x3 : Int32) (h : MH) : Res := calV (M_X8_needCell x1 h) fun h1 => calV (M_X8_needRange x2 (0 : Int32) (1 : Int32) h1) fun h2 => calV (M_X8_needRange x3 (0 : Int32) (2 : Int32) h2) fun h3 => if x2 ≠ 0 then (gfR h3 x0 8 0 fun r4 => gfR h3 r4 5 1 fun r5 => B_X8_ofLayer_37 x1 x3 r5 h3) else (gfR h3 x0 8 0 fun r6 => gfR h3 r6 5 0 fun r7 => B_X8_ofLayer_37 x1 x3 r7 h3)
theorem vB_X8_ofLayer_37 {K : CT} (F : Fr K cX8_ofLayer RX8 (some .int) [] 7 1) (hm : mxL K = 5) (x1 : Int32) (x3 : Int32) (s0 : Option Nat) (h : MH) : V K 37 [(1, vI x1), (3, vI x3)] [vR s0] h (B_X8_ofLayer_37 x1 x3 s0 h) := by
  unfold B_X8_ofLayer_37
  refine V_astore (pc := 37) F [(4, vR s0), (1, vI x1), (3, vI x3)] dX8_ofLayer_37 (lt_mx hm (by decide)) rfl ?_
  refine V_iload_n (pc := 39) F dX8_ofLayer_39 2 rfl ?_
  refine V_lsw2 (pc := 40) F 68 76 84 dX8_ofLayer_40 (by decide) (by decide) (by decide) ?_ ?_ ?_
  · refine V_aload (pc := 68) F dX8_ofLayer_68 0 rfl ?_
    refine V_getR (pc := 70) F 1 0 (by decide) (by decide) rfl g_fl_RX8_197 dX8_ofLayer_70 ?_
    intro r8
    refine V_iload_n (pc := 73) F dX8_ofLayer_73 1 rfl ?_
    refine V_iald (pc := 74) F dX8_ofLayer_74 ?_
    intro z9
    exact V_iret (pc := 75) F (Or.inr rfl) dX8_ofLayer_75
  · refine V_aload (pc := 76) F dX8_ofLayer_76 0 rfl ?_
    refine V_getR (pc := 78) F 1 1 (by decide) (by decide) rfl g_fl_RX8_202 dX8_ofLayer_78 ?_
    intro r10
    refine V_iload_n (pc := 81) F dX8_ofLayer_81 1 rfl ?_
    refine V_iald (pc := 82) F dX8_ofLayer_82 ?_
    intro z11
    exact V_iret (pc := 83) F (Or.inr rfl) dX8_ofLayer_83
  · refine V_aload (pc := 84) F dX8_ofLayer_84 0 rfl ?_
    refine V_iload_n (pc := 86) F dX8_ofLayer_86 1 rfl ?_
    refine V_cVM (pc := 87) F 1 (by decide) (as := [vI x1]) (C_X1_weightAt s0 x1 h) w_X1_weightAt g_in_X1_weightAt g_se_X1_weightAt g_ml_RX8_205 (by decide) (rest := []) rfl rfl (Nat.le_of_ble_eq_true rfl) dX8_ofLayer_87 (k_I fun z12 h13 => ?_)
    exact V_iret (pc := 90) F (Or.inr rfl) dX8_ofLayer_90
theorem vM_X8_ofLayer {K : CT} (F : Fr K cX8_ofLayer RX8 (some .int) [] 7 1) (hm : mxL K = 5) (x0 : Option Nat) (x1 : Int32) (x2 : Int32) (x3 : Int32) (h : MH) : V K 0 [(0, vR x0), (1, vI x1), (2, vI x2), (3, vI x3)] [] h (M_X8_ofLayer x0 x1 x2 x3 h) := by
  unfold M_X8_ofLayer
  refine V_iload_n (pc := 0) F dX8_ofLayer_0 1 rfl ?_
  refine V_cS (pc := 1) F (as := [vI x1]) (C_X8_needCell x1 h) w_X8_needCell g_st_X8_needCell g_ml_RX8_48 (by decide) (rest := []) rfl rfl (Nat.le_of_ble_eq_true rfl) dX8_ofLayer_1 (k_V fun h1 => ?_) (fun _ _ => VX_out F)
  refine V_iload_n (pc := 4) F dX8_ofLayer_4 2 rfl ?_
  refine V_iconst (pc := 5) F (x := (0 : Int32)) dX8_ofLayer_5 (by decide) ?_
  refine V_iconst (pc := 6) F (x := (1 : Int32)) dX8_ofLayer_6 (by decide) ?_
  refine V_cS (pc := 7) F (as := [vI x2, vI (0 : Int32), vI (1 : Int32)]) (C_X8_needRange x2 (0 : Int32) (1 : Int32) h1) w_X8_needRange g_st_X8_needRange g_ml_RX8_74 (by decide) (rest := []) rfl rfl (Nat.le_of_ble_eq_true rfl) dX8_ofLayer_7 (k_V fun h2 => ?_) (fun _ _ => VX_out F)
  refine V_iload_n (pc := 10) F dX8_ofLayer_10 3 rfl ?_
  refine V_iconst (pc := 11) F (x := (0 : Int32)) dX8_ofLayer_11 (by decide) ?_
  refine V_iconst (pc := 12) F (x := (2 : Int32)) dX8_ofLayer_12 (by decide) ?_
  refine V_cS (pc := 13) F (as := [vI x3, vI (0 : Int32), vI (2 : Int32)]) (C_X8_needRange x3 (0 : Int32) (2 : Int32) h2) w_X8_needRange g_st_X8_needRange g_ml_RX8_74 (by decide) (rest := []) rfl rfl (Nat.le_of_ble_eq_true rfl) dX8_ofLayer_13 (k_V fun h3 => ?_) (fun _ _ => VX_out F)
  refine V_iload_n (pc := 16) F dX8_ofLayer_16 2 rfl ?_
  refine V_if_ne (pc := 17) F 30 dX8_ofLayer_17 (by decide) ?_ ?_
  · refine V_aload_n (pc := 30) F dX8_ofLayer_30 0 rfl ?_
    refine V_getR (pc := 31) F 8 0 (by decide) (by decide) rfl g_fl_RX8_12 dX8_ofLayer_31 ?_
    intro r4
    refine V_getR (pc := 34) F 5 1 (by decide) (by decide) rfl g_fl_RX8_194 dX8_ofLayer_34 ?_
    intro r5
    refine V_sub [1, 3] (L' := [(1, vI x1), (3, vI x3)]) rfl ?_
    exact vB_X8_ofLayer_37 F hm x1 x3 r5 h3
  · refine V_aload_n (pc := 20) F dX8_ofLayer_20 0 rfl ?_
    refine V_getR (pc := 21) F 8 0 (by decide) (by decide) rfl g_fl_RX8_12 dX8_ofLayer_21 ?_
    intro r6
    refine V_getR (pc := 24) F 5 0 (by decide) (by decide) rfl g_fl_RX8_190 dX8_ofLayer_24 ?_
    intro r7
    refine V_goto (pc := 27) F 37 dX8_ofLayer_27 (by decide) ?_
    refine V_sub [1, 3] (L' := [(1, vI x1), (3, vI x3)]) rfl ?_
    exact vB_X8_ofLayer_37 F hm x1 x3 r7 h3
theorem C_X8_ofLayer (x0 : Option Nat) (x1 : Int32) (x2 : Int32) (x3 : Int32) (h : MH) : CtrX yX8_ofLayer (WSm yX8_ofLayer cX8_ofLayer 5 (some .int)) 7 [vR x0, vI x1, vI x2, vI x3] h (M_X8_ofLayer x0 x1 x2 x3 h) :=
  CtrX_of (by decide) (Nat.le_of_ble_eq_true rfl) (fun K F hm hi => vM_X8_ofLayer F hm x0 x1 x2 x3 h)
def M_X8_ofFloat (x0 : Option Nat) (x1 : Int32) (x2 : Int32) (h : MH) : Res := chk h x0 8 <| calR (M_X8_buoyNumbered x0 x1 h) fun r1 h2 => calV (M_X8_needRange x2 (0 : Int32) (4 : Int32) h2) fun h3 => if x2 < (0 : Int32) then (gfI h3 r1 0 7 fun z4 => rtI z4 h3) else if x2 = (0 : Int32) then (gfI h3 r1 0 3 fun z5 => rtI z5 h3) else if x2 = (1 : Int32) then (gfI h3 r1 0 4 fun z6 => rtI z6 h3) else if x2 = (2 : Int32) then (gfI h3 r1 0 5 fun z7 => rtI z7 h3) else if x2 = (3 : Int32) then (gfI h3 r1 0 6 fun z8 => rtI z8 h3) else (gfI h3 r1 0 7 fun z9 => rtI z9 h3)
theorem vM_X8_ofFloat {K : CT} (F : Fr K cX8_ofFloat RX8 (some .int) [] 7 1) (hm : mxL K = 4) (x0 : Option Nat) (x1 : Int32) (x2 : Int32) (h : MH) : V K 0 [(0, vR x0), (1, vI x1), (2, vI x2)] [] h (M_X8_ofFloat x0 x1 x2 h) := by
  unfold M_X8_ofFloat
  refine V_aload_n (pc := 0) F dX8_ofFloat_0 0 rfl ?_
  refine V_iload_n (pc := 1) F dX8_ofFloat_1 1 rfl ?_
  refine V_cV (pc := 2) F 8 (by decide) (as := [vI x1]) (C_X8_buoyNumbered x0 x1 h) w_X8_buoyNumbered g_in_X8_buoyNumbered g_se_X8_buoyNumbered g_ml_RX8_127 (by decide) (rest := []) rfl rfl (Nat.le_of_ble_eq_true rfl) dX8_ofFloat_2 (k_R fun r1 h2 => ?_) (fun _ _ => VX_out F)
  refine V_astore_n (pc := 5) F [(3, vR r1), (0, vR x0), (1, vI x1), (2, vI x2)] dX8_ofFloat_5 (lt_mx hm (by decide)) rfl ?_
  refine V_iload_n (pc := 6) F dX8_ofFloat_6 3 rfl ?_
  refine V_iconst (pc := 7) F (x := (0 : Int32)) dX8_ofFloat_7 (by decide) ?_
  refine V_iconst (pc := 8) F (x := (4 : Int32)) dX8_ofFloat_8 (by decide) ?_
  refine V_cS (pc := 9) F (as := [vI x2, vI (0 : Int32), vI (4 : Int32)]) (C_X8_needRange x2 (0 : Int32) (4 : Int32) h2) w_X8_needRange g_st_X8_needRange g_ml_RX8_74 (by decide) (rest := []) rfl rfl (Nat.le_of_ble_eq_true rfl) dX8_ofFloat_9 (k_V fun h3 => ?_) (fun _ _ => VX_out F)
  refine V_iload_n (pc := 12) F dX8_ofFloat_12 3 rfl ?_
  refine V_tsw (pc := 13) F (0 : Int32) 64 dX8_ofFloat_13 (by decide) (by decide) ?_ ?_
  · refine V_aload_n (pc := 64) F dX8_ofFloat_64 0 rfl ?_
    refine V_getI (pc := 65) F 0 7 (by decide) (by decide) rfl g_fl_RX8_224 dX8_ofFloat_65 ?_
    intro z4
    exact V_iret (pc := 68) F (Or.inr rfl) dX8_ofFloat_68
  refine VT_peel (pc := 13) F (i := 0) (off := 31) (0 : Int32) 44 dX8_ofFloat_13 (by decide) (by decide) (by decide) (by decide) ?_ ?_
  · refine V_aload_n (pc := 44) F dX8_ofFloat_44 0 rfl ?_
    refine V_getI (pc := 45) F 0 3 (by decide) (by decide) rfl g_fl_RX8_215 dX8_ofFloat_45 ?_
    intro z5
    exact V_iret (pc := 48) F (Or.inr rfl) dX8_ofFloat_48
  refine VT_peel (pc := 13) F (i := 1) (off := 36) (1 : Int32) 49 dX8_ofFloat_13 (by decide) (by decide) (by decide) (by decide) ?_ ?_
  · refine V_aload_n (pc := 49) F dX8_ofFloat_49 0 rfl ?_
    refine V_getI (pc := 50) F 0 4 (by decide) (by decide) rfl g_fl_RX8_218 dX8_ofFloat_50 ?_
    intro z6
    exact V_iret (pc := 53) F (Or.inr rfl) dX8_ofFloat_53
  refine VT_peel (pc := 13) F (i := 2) (off := 41) (2 : Int32) 54 dX8_ofFloat_13 (by decide) (by decide) (by decide) (by decide) ?_ ?_
  · refine V_aload_n (pc := 54) F dX8_ofFloat_54 0 rfl ?_
    refine V_getI (pc := 55) F 0 5 (by decide) (by decide) rfl g_fl_RX8_221 dX8_ofFloat_55 ?_
    intro z7
    exact V_iret (pc := 58) F (Or.inr rfl) dX8_ofFloat_58
  refine VT_peel (pc := 13) F (i := 3) (off := 46) (3 : Int32) 59 dX8_ofFloat_13 (by decide) (by decide) (by decide) (by decide) ?_ ?_
  · refine V_aload_n (pc := 59) F dX8_ofFloat_59 0 rfl ?_
    refine V_getI (pc := 60) F 0 6 (by decide) (by decide) rfl g_fl_RX8_144 dX8_ofFloat_60 ?_
    intro z8
    exact V_iret (pc := 63) F (Or.inr rfl) dX8_ofFloat_63
  refine VT_end (pc := 13) F 64 dX8_ofFloat_13 (by decide) (by decide) ?_
  refine V_aload_n (pc := 64) F dX8_ofFloat_64 0 rfl ?_
  refine V_getI (pc := 65) F 0 7 (by decide) (by decide) rfl g_fl_RX8_224 dX8_ofFloat_65 ?_
  intro z9
  exact V_iret (pc := 68) F (Or.inr rfl) dX8_ofFloat_68
theorem C_X8_ofFloat (x0 : Option Nat) (x1 : Int32) (x2 : Int32) (h : MH) : CtrX yX8_ofFloat (WSm yX8_ofFloat cX8_ofFloat 4 (some .int)) 7 [vR x0, vI x1, vI x2] h (M_X8_ofFloat x0 x1 x2 h) :=
  CtrX_of (by decide) (Nat.le_of_ble_eq_true rfl) (fun K F hm hi => vM_X8_ofFloat F hm x0 x1 x2 h)
def M_X8_best (x0 : Option Nat) (x1 : Int32) (h : MH) : Res := chk h x0 8 <| calR (M_X8_searchNumbered x0 x1 h) fun r1 h2 => gfR h2 r1 6 1 fun r3 => calI (M_X6_bestOf r3 h2) fun z4 h5 => rtI z4 h5
theorem vM_X8_best {K : CT} (F : Fr K cX8_best RX8 (some .int) [] 7 1) (hm : mxL K = 2) (x0 : Option Nat) (x1 : Int32) (h : MH) : V K 0 [(0, vR x0), (1, vI x1)] [] h (M_X8_best x0 x1 h) := by
  unfold M_X8_best
  refine V_aload_n (pc := 0) F dX8_best_0 0 rfl ?_
  refine V_iload_n (pc := 1) F dX8_best_1 1 rfl ?_
  refine V_cV (pc := 2) F 8 (by decide) (as := [vI x1]) (C_X8_searchNumbered x0 x1 h) w_X8_searchNumbered g_in_X8_searchNumbered g_se_X8_searchNumbered g_ml_RX8_172 (by decide) (rest := []) rfl rfl (Nat.le_of_ble_eq_true rfl) dX8_best_2 (k_R fun r1 h2 => ?_) (fun _ _ => VX_out F)
  refine V_getR (pc := 5) F 6 1 (by decide) (by decide) rfl g_fl_RX8_176 dX8_best_5 ?_
  intro r3
  refine V_cSM (pc := 8) F (as := [vR r3]) (C_X6_bestOf r3 h2) w_X6_bestOf g_st_X6_bestOf g_ml_RX8_261 (by decide) (rest := []) rfl rfl (Nat.le_of_ble_eq_true rfl) dX8_best_8 (k_I fun z4 h5 => ?_)
  exact V_iret (pc := 11) F (Or.inr rfl) dX8_best_11
theorem C_X8_best (x0 : Option Nat) (x1 : Int32) (h : MH) : CtrX yX8_best (WSm yX8_best cX8_best 2 (some .int)) 7 [vR x0, vI x1] h (M_X8_best x0 x1 h) :=
  CtrX_of (by decide) (Nat.le_of_ble_eq_true rfl) (fun K F hm hi => vM_X8_best F hm x0 x1 h)
def M_X8_plan (x0 : Option Nat) (x1 : Int32) (x2 : Int32) (x3 : Int32) (h : MH) : Res := chk h x0 8 <| calR (M_X8_searchNumbered x0 x1 h) fun r1 h2 => calV (M_X8_needRange x2 (1 : Int32) (20 : Int32) h2) fun h3 => calV (M_X8_needRange x3 (1 : Int32) (100 : Int32) h3) fun h4 => chk h4 r1 6 <| calI (M_X6_tryLegs r1 x2 x3 h4) fun z5 h6 => rtI z5 h6
theorem vM_X8_plan {K : CT} (F : Fr K cX8_plan RX8 (some .int) [] 7 1) (hm : mxL K = 5) (x0 : Option Nat) (x1 : Int32) (x2 : Int32) (x3 : Int32) (h : MH) : V K 0 [(0, vR x0), (1, vI x1), (2, vI x2), (3, vI x3)] [] h (M_X8_plan x0 x1 x2 x3 h) := by
  unfold M_X8_plan
  refine V_aload_n (pc := 0) F dX8_plan_0 0 rfl ?_
  refine V_iload_n (pc := 1) F dX8_plan_1 1 rfl ?_
  refine V_cV (pc := 2) F 8 (by decide) (as := [vI x1]) (C_X8_searchNumbered x0 x1 h) w_X8_searchNumbered g_in_X8_searchNumbered g_se_X8_searchNumbered g_ml_RX8_172 (by decide) (rest := []) rfl rfl (Nat.le_of_ble_eq_true rfl) dX8_plan_2 (k_R fun r1 h2 => ?_) (fun _ _ => VX_out F)
  refine V_astore (pc := 5) F [(4, vR r1), (0, vR x0), (1, vI x1), (2, vI x2), (3, vI x3)] dX8_plan_5 (lt_mx hm (by decide)) rfl ?_
  refine V_iload_n (pc := 7) F dX8_plan_7 3 rfl ?_
  refine V_iconst (pc := 8) F (x := (1 : Int32)) dX8_plan_8 (by decide) ?_
  refine V_bipush (pc := 9) F (x := (20 : Int32)) dX8_plan_9 (by decide) ?_
  refine V_cS (pc := 11) F (as := [vI x2, vI (1 : Int32), vI (20 : Int32)]) (C_X8_needRange x2 (1 : Int32) (20 : Int32) h2) w_X8_needRange g_st_X8_needRange g_ml_RX8_74 (by decide) (rest := []) rfl rfl (Nat.le_of_ble_eq_true rfl) dX8_plan_11 (k_V fun h3 => ?_) (fun _ _ => VX_out F)
  refine V_iload_n (pc := 14) F dX8_plan_14 4 rfl ?_
  refine V_iconst (pc := 15) F (x := (1 : Int32)) dX8_plan_15 (by decide) ?_
  refine V_bipush (pc := 16) F (x := (100 : Int32)) dX8_plan_16 (by decide) ?_
  refine V_cS (pc := 18) F (as := [vI x3, vI (1 : Int32), vI (100 : Int32)]) (C_X8_needRange x3 (1 : Int32) (100 : Int32) h3) w_X8_needRange g_st_X8_needRange g_ml_RX8_74 (by decide) (rest := []) rfl rfl (Nat.le_of_ble_eq_true rfl) dX8_plan_18 (k_V fun h4 => ?_) (fun _ _ => VX_out F)
  refine V_aload (pc := 21) F dX8_plan_21 0 rfl ?_
  refine V_iload_n (pc := 23) F dX8_plan_23 3 rfl ?_
  refine V_iload_n (pc := 24) F dX8_plan_24 4 rfl ?_
  refine V_cVM (pc := 25) F 6 (by decide) (as := [vI x2, vI x3]) (C_X6_tryLegs r1 x2 x3 h4) w_X6_tryLegs g_in_X6_tryLegs g_se_X6_tryLegs g_ml_RX8_264 (by decide) (rest := []) rfl rfl (Nat.le_of_ble_eq_true rfl) dX8_plan_25 (k_I fun z5 h6 => ?_)
  exact V_iret (pc := 28) F (Or.inr rfl) dX8_plan_28
theorem C_X8_plan (x0 : Option Nat) (x1 : Int32) (x2 : Int32) (x3 : Int32) (h : MH) : CtrX yX8_plan (WSm yX8_plan cX8_plan 5 (some .int)) 7 [vR x0, vI x1, vI x2, vI x3] h (M_X8_plan x0 x1 x2 x3 h) :=
  CtrX_of (by decide) (Nat.le_of_ble_eq_true rfl) (fun K F hm hi => vM_X8_plan F hm x0 x1 x2 x3 h)
def M_X8_chance (x0 : Option Nat) (x1 : Int32) (x2 : Int32) (h : MH) : Res := chk h x0 8 <| calR (M_X8_searchNumbered x0 x1 h) fun r1 h2 => calV (M_X8_needCell x2 h2) fun h3 => gfR h3 r1 6 1 fun r4 => rdI h3 r4 20 x2 fun z5 => rtI z5 h3
theorem vM_X8_chance {K : CT} (F : Fr K cX8_chance RX8 (some .int) [] 7 1) (hm : mxL K = 4) (x0 : Option Nat) (x1 : Int32) (x2 : Int32) (h : MH) : V K 0 [(0, vR x0), (1, vI x1), (2, vI x2)] [] h (M_X8_chance x0 x1 x2 h) := by
  unfold M_X8_chance
  refine V_aload_n (pc := 0) F dX8_chance_0 0 rfl ?_
  refine V_iload_n (pc := 1) F dX8_chance_1 1 rfl ?_
  refine V_cV (pc := 2) F 8 (by decide) (as := [vI x1]) (C_X8_searchNumbered x0 x1 h) w_X8_searchNumbered g_in_X8_searchNumbered g_se_X8_searchNumbered g_ml_RX8_172 (by decide) (rest := []) rfl rfl (Nat.le_of_ble_eq_true rfl) dX8_chance_2 (k_R fun r1 h2 => ?_) (fun _ _ => VX_out F)
  refine V_astore_n (pc := 5) F [(3, vR r1), (0, vR x0), (1, vI x1), (2, vI x2)] dX8_chance_5 (lt_mx hm (by decide)) rfl ?_
  refine V_iload_n (pc := 6) F dX8_chance_6 3 rfl ?_
  refine V_cS (pc := 7) F (as := [vI x2]) (C_X8_needCell x2 h2) w_X8_needCell g_st_X8_needCell g_ml_RX8_48 (by decide) (rest := []) rfl rfl (Nat.le_of_ble_eq_true rfl) dX8_chance_7 (k_V fun h3 => ?_) (fun _ _ => VX_out F)
  refine V_aload_n (pc := 10) F dX8_chance_10 0 rfl ?_
  refine V_getR (pc := 11) F 6 1 (by decide) (by decide) rfl g_fl_RX8_176 dX8_chance_11 ?_
  intro r4
  refine V_iload_n (pc := 14) F dX8_chance_14 3 rfl ?_
  refine V_iald (pc := 15) F dX8_chance_15 ?_
  intro z5
  exact V_iret (pc := 16) F (Or.inr rfl) dX8_chance_16
theorem C_X8_chance (x0 : Option Nat) (x1 : Int32) (x2 : Int32) (h : MH) : CtrX yX8_chance (WSm yX8_chance cX8_chance 4 (some .int)) 7 [vR x0, vI x1, vI x2] h (M_X8_chance x0 x1 x2 h) :=
  CtrX_of (by decide) (Nat.le_of_ble_eq_true rfl) (fun K F hm hi => vM_X8_chance F hm x0 x1 x2 h)
def M_X8_ofReading (x0 : Option Nat) (x1 : Int32) (x2 : Int32) (h : MH) : Res := chk h x0 8 <| calR (M_X8_readingNumbered x0 x1 h) fun r1 h2 => calV (M_X8_needRange x2 (0 : Int32) (5 : Int32) h2) fun h3 => if x2 < (0 : Int32) then (gfR h3 r1 4 3 fun r4 => if r4 ≠ none then (gfR h3 r1 4 3 fun r5 => gfI h3 r5 0 0 fun z6 => rtI z6 h3) else (rtI (-1 : Int32) h3)) else if x2 = (0 : Int32) then (gfI h3 r1 4 0 fun z7 => rtI z7 h3) else if x2 = (1 : Int32) then (gfI h3 r1 4 1 fun z8 => rtI z8 h3) else if x2 = (2 : Int32) then (gfI h3 r1 4 2 fun z9 => rtI z9 h3) else if x2 = (3 : Int32) then (chk h3 r1 4 <| calI (M_X4_corrected r1 h3) fun z10 h11 => rtI z10 h11) else if x2 = (4 : Int32) then (gfR h3 x0 8 2 fun r12 => gfI h3 r12 2 2 fun z13 => chk h3 r1 4 <| calI (M_X4_flagBy r1 z13 h3) fun z14 h15 => rtI z14 h15) else (gfR h3 r1 4 3 fun r16 => if r16 ≠ none then (gfR h3 r1 4 3 fun r17 => gfI h3 r17 0 0 fun z18 => rtI z18 h3) else (rtI (-1 : Int32) h3))
theorem vM_X8_ofReading {K : CT} (F : Fr K cX8_ofReading RX8 (some .int) [] 7 1) (hm : mxL K = 4) (x0 : Option Nat) (x1 : Int32) (x2 : Int32) (h : MH) : V K 0 [(0, vR x0), (1, vI x1), (2, vI x2)] [] h (M_X8_ofReading x0 x1 x2 h) := by
  unfold M_X8_ofReading
  refine V_aload_n (pc := 0) F dX8_ofReading_0 0 rfl ?_
  refine V_iload_n (pc := 1) F dX8_ofReading_1 1 rfl ?_
  refine V_cV (pc := 2) F 8 (by decide) (as := [vI x1]) (C_X8_readingNumbered x0 x1 h) w_X8_readingNumbered g_in_X8_readingNumbered g_se_X8_readingNumbered g_ml_RX8_152 (by decide) (rest := []) rfl rfl (Nat.le_of_ble_eq_true rfl) dX8_ofReading_2 (k_R fun r1 h2 => ?_) (fun _ _ => VX_out F)
  refine V_astore_n (pc := 5) F [(3, vR r1), (0, vR x0), (1, vI x1), (2, vI x2)] dX8_ofReading_5 (lt_mx hm (by decide)) rfl ?_
  refine V_iload_n (pc := 6) F dX8_ofReading_6 3 rfl ?_
  refine V_iconst (pc := 7) F (x := (0 : Int32)) dX8_ofReading_7 (by decide) ?_
  refine V_iconst (pc := 8) F (x := (5 : Int32)) dX8_ofReading_8 (by decide) ?_
  refine V_cS (pc := 9) F (as := [vI x2, vI (0 : Int32), vI (5 : Int32)]) (C_X8_needRange x2 (0 : Int32) (5 : Int32) h2) w_X8_needRange g_st_X8_needRange g_ml_RX8_74 (by decide) (rest := []) rfl rfl (Nat.le_of_ble_eq_true rfl) dX8_ofReading_9 (k_V fun h3 => ?_) (fun _ _ => VX_out F)
  refine V_iload_n (pc := 12) F dX8_ofReading_12 3 rfl ?_
  refine V_tsw (pc := 13) F (0 : Int32) 80 dX8_ofReading_13 (by decide) (by decide) ?_ ?_
  · refine V_aload_n (pc := 80) F dX8_ofReading_80 0 rfl ?_
    refine V_getR (pc := 81) F 4 3 (by decide) (by decide) rfl g_fl_RX8_241 dX8_ofReading_81 ?_
    intro r4
    refine V_ifnonnull (pc := 84) F 91 dX8_ofReading_84 (by decide) ?_ ?_
    · refine V_aload_n (pc := 91) F dX8_ofReading_91 0 rfl ?_
      refine V_getR (pc := 92) F 4 3 (by decide) (by decide) rfl g_fl_RX8_241 dX8_ofReading_92 ?_
      intro r5
      refine V_getI (pc := 95) F 0 0 (by decide) (by decide) rfl g_fl_RX8_245 dX8_ofReading_95 ?_
      intro z6
      exact V_iret (pc := 98) F (Or.inr rfl) dX8_ofReading_98
    · refine V_iconst (pc := 87) F (x := (-1 : Int32)) dX8_ofReading_87 (by decide) ?_
      refine V_goto (pc := 88) F 98 dX8_ofReading_88 (by decide) ?_
      exact V_iret (pc := 98) F (Or.inr rfl) dX8_ofReading_98
  refine VT_peel (pc := 13) F (i := 0) (off := 35) (0 : Int32) 48 dX8_ofReading_13 (by decide) (by decide) (by decide) (by decide) ?_ ?_
  · refine V_aload_n (pc := 48) F dX8_ofReading_48 0 rfl ?_
    refine V_getI (pc := 49) F 4 0 (by decide) (by decide) rfl g_fl_RX8_233 dX8_ofReading_49 ?_
    intro z7
    exact V_iret (pc := 52) F (Or.inr rfl) dX8_ofReading_52
  refine VT_peel (pc := 13) F (i := 1) (off := 40) (1 : Int32) 53 dX8_ofReading_13 (by decide) (by decide) (by decide) (by decide) ?_ ?_
  · refine V_aload_n (pc := 53) F dX8_ofReading_53 0 rfl ?_
    refine V_getI (pc := 54) F 4 1 (by decide) (by decide) rfl g_fl_RX8_236 dX8_ofReading_54 ?_
    intro z8
    exact V_iret (pc := 57) F (Or.inr rfl) dX8_ofReading_57
  refine VT_peel (pc := 13) F (i := 2) (off := 45) (2 : Int32) 58 dX8_ofReading_13 (by decide) (by decide) (by decide) (by decide) ?_ ?_
  · refine V_aload_n (pc := 58) F dX8_ofReading_58 0 rfl ?_
    refine V_getI (pc := 59) F 4 2 (by decide) (by decide) rfl g_fl_RX8_139 dX8_ofReading_59 ?_
    intro z9
    exact V_iret (pc := 62) F (Or.inr rfl) dX8_ofReading_62
  refine VT_peel (pc := 13) F (i := 3) (off := 50) (3 : Int32) 63 dX8_ofReading_13 (by decide) (by decide) (by decide) (by decide) ?_ ?_
  · refine V_aload_n (pc := 63) F dX8_ofReading_63 0 rfl ?_
    refine V_cVM (pc := 64) F 4 (by decide) (as := []) (C_X4_corrected r1 h3) w_X4_corrected g_in_X4_corrected g_se_X4_corrected g_ml_RX8_237 (by decide) (rest := []) rfl rfl (Nat.le_of_ble_eq_true rfl) dX8_ofReading_64 (k_I fun z10 h11 => ?_)
    exact V_iret (pc := 67) F (Or.inr rfl) dX8_ofReading_67
  refine VT_peel (pc := 13) F (i := 4) (off := 55) (4 : Int32) 68 dX8_ofReading_13 (by decide) (by decide) (by decide) (by decide) ?_ ?_
  · refine V_aload_n (pc := 68) F dX8_ofReading_68 0 rfl ?_
    refine V_aload_n (pc := 69) F dX8_ofReading_69 1 rfl ?_
    refine V_getR (pc := 70) F 8 2 (by decide) (by decide) rfl g_fl_RX8_25 dX8_ofReading_70 ?_
    intro r12
    refine V_getI (pc := 73) F 2 2 (by decide) (by decide) rfl g_fl_RX8_156 dX8_ofReading_73 ?_
    intro z13
    refine V_cVM (pc := 76) F 4 (by decide) (as := [vI z13]) (C_X4_flagBy r1 z13 h3) w_X4_flagBy g_in_X4_flagBy g_se_X4_flagBy g_ml_RX8_159 (by decide) (rest := []) rfl rfl (Nat.le_of_ble_eq_true rfl) dX8_ofReading_76 (k_I fun z14 h15 => ?_)
    exact V_iret (pc := 79) F (Or.inr rfl) dX8_ofReading_79
  refine VT_end (pc := 13) F 80 dX8_ofReading_13 (by decide) (by decide) ?_
  refine V_aload_n (pc := 80) F dX8_ofReading_80 0 rfl ?_
  refine V_getR (pc := 81) F 4 3 (by decide) (by decide) rfl g_fl_RX8_241 dX8_ofReading_81 ?_
  intro r16
  refine V_ifnonnull (pc := 84) F 91 dX8_ofReading_84 (by decide) ?_ ?_
  · refine V_aload_n (pc := 91) F dX8_ofReading_91 0 rfl ?_
    refine V_getR (pc := 92) F 4 3 (by decide) (by decide) rfl g_fl_RX8_241 dX8_ofReading_92 ?_
    intro r17
    refine V_getI (pc := 95) F 0 0 (by decide) (by decide) rfl g_fl_RX8_245 dX8_ofReading_95 ?_
    intro z18
    exact V_iret (pc := 98) F (Or.inr rfl) dX8_ofReading_98
  · refine V_iconst (pc := 87) F (x := (-1 : Int32)) dX8_ofReading_87 (by decide) ?_
    refine V_goto (pc := 88) F 98 dX8_ofReading_88 (by decide) ?_
    exact V_iret (pc := 98) F (Or.inr rfl) dX8_ofReading_98
theorem C_X8_ofReading (x0 : Option Nat) (x1 : Int32) (x2 : Int32) (h : MH) : CtrX yX8_ofReading (WSm yX8_ofReading cX8_ofReading 4 (some .int)) 7 [vR x0, vI x1, vI x2] h (M_X8_ofReading x0 x1 x2 h) :=
  CtrX_of (by decide) (Nat.le_of_ble_eq_true rfl) (fun K F hm hi => vM_X8_ofReading F hm x0 x1 x2 h)
