def M_X5_init (x0 : Option Nat) (h : MH) : Res := nnl x0 <| nwO h 1 fun r1 h2 => nnl r1 <| calV (M_X1_init r1 (1000 : Int32) (350 : Int32) h2) fun h3 => pfR h3 x0 5 0 r1 fun h4 => nwO h4 1 fun r5 h6 => nnl r5 <| calV (M_X1_init r5 (400 : Int32) (360 : Int32) h6) fun h7 => pfR h7 x0 5 1 r5 fun h8 => nwA h8 20 (60 : Int32) fun r9 h10 => pfR h10 x0 5 2 r9 fun h11 => nwA h11 20 (6 : Int32) fun r12 h13 => pfR h13 x0 5 3 r12 fun h14 => nwA h14 21 (60 : Int32) fun r15 h16 => pfR h16 x0 5 5 r15 fun h17 => nwA h17 20 (60 : Int32) fun r18 h19 => pfR h19 x0 5 6 r18 fun h20 => rtV h20
theorem vM_X5_init {K : CT} (F : Fr K cX5_init RX5 none [] 2 0) (hm : mxL K = 1) (hi : nmK K "<init>") (x0 : Option Nat) (h : MH) : V K 0 [(0, vR x0)] [] h (M_X5_init x0 h) := by
  unfold M_X5_init
  refine V_aload_n (pc := 0) F dX5_init_0 0 rfl ?_
  refine V_obj (pc := 1) F (by decide) g_ml_RX5_3 g_in_obj g_cw_obj (Nat.le_of_ble_eq_true rfl) dX5_init_1 ?_
  refine V_aload_n (pc := 4) F dX5_init_4 0 rfl ?_
  refine V_new (pc := 5) F 1 (by decide) rfl g_clN_RX5_9 g_inst_1 g_iniN_1 dX5_init_5 ?_
  intro r1 h2
  refine V_dup (pc := 8) F dX5_init_8 rfl ?_
  refine V_sipush (pc := 9) F (x := (1000 : Int32)) dX5_init_9 (by decide) ?_
  refine V_sipush (pc := 12) F (x := (350 : Int32)) dX5_init_12 (by decide) ?_
  refine V_cI (pc := 15) F (as := [vI (1000 : Int32), vI (350 : Int32)]) (C_X1_init r1 (1000 : Int32) (350 : Int32) h2) rfl w_X1_init g_in_X1_init g_ml_RX5_11 (by decide) (rest := [vR r1, vR x0]) rfl rfl (Nat.le_of_ble_eq_true rfl) dX5_init_15 (k_V fun h3 => ?_)
  refine V_putRF (pc := 18) F hi 5 0 (by decide) (by decide) rfl rfl rfl g_fl_RX5_14 dX5_init_18 ?_
  intro h4
  refine V_aload_n (pc := 21) F dX5_init_21 0 rfl ?_
  refine V_new (pc := 22) F 1 (by decide) rfl g_clN_RX5_9 g_inst_1 g_iniN_1 dX5_init_22 ?_
  intro r5 h6
  refine V_dup (pc := 25) F dX5_init_25 rfl ?_
  refine V_sipush (pc := 26) F (x := (400 : Int32)) dX5_init_26 (by decide) ?_
  refine V_sipush (pc := 29) F (x := (360 : Int32)) dX5_init_29 (by decide) ?_
  refine V_cI (pc := 32) F (as := [vI (400 : Int32), vI (360 : Int32)]) (C_X1_init r5 (400 : Int32) (360 : Int32) h6) rfl w_X1_init g_in_X1_init g_ml_RX5_11 (by decide) (rest := [vR r5, vR x0]) rfl rfl (Nat.le_of_ble_eq_true rfl) dX5_init_32 (k_V fun h7 => ?_)
  refine V_putRF (pc := 35) F hi 5 1 (by decide) (by decide) rfl rfl rfl g_fl_RX5_20 dX5_init_35 ?_
  intro h8
  refine V_aload_n (pc := 38) F dX5_init_38 0 rfl ?_
  refine V_bipush (pc := 39) F (x := (60 : Int32)) dX5_init_39 (by decide) ?_
  refine V_newa (pc := 41) F 20 (by decide) g_arr_20 dX5_init_41 ?_
  intro r9 h10
  refine V_putRF (pc := 43) F hi 5 2 (by decide) (by decide) rfl rfl rfl g_fl_RX5_23 dX5_init_43 ?_
  intro h11
  refine V_aload_n (pc := 46) F dX5_init_46 0 rfl ?_
  refine V_bipush (pc := 47) F (x := (6 : Int32)) dX5_init_47 (by decide) ?_
  refine V_newa (pc := 49) F 20 (by decide) g_arr_20 dX5_init_49 ?_
  intro r12 h13
  refine V_putRF (pc := 51) F hi 5 3 (by decide) (by decide) rfl rfl rfl g_fl_RX5_27 dX5_init_51 ?_
  intro h14
  refine V_aload_n (pc := 54) F dX5_init_54 0 rfl ?_
  refine V_bipush (pc := 55) F (x := (60 : Int32)) dX5_init_55 (by decide) ?_
  refine V_newa (pc := 57) F 21 (by decide) g_arr_21 dX5_init_57 ?_
  intro r15 h16
  refine V_putRF (pc := 59) F hi 5 5 (by decide) (by decide) rfl rfl rfl g_fl_RX5_30 dX5_init_59 ?_
  intro h17
  refine V_aload_n (pc := 62) F dX5_init_62 0 rfl ?_
  refine V_bipush (pc := 63) F (x := (60 : Int32)) dX5_init_63 (by decide) ?_
  refine V_newa (pc := 65) F 20 (by decide) g_arr_20 dX5_init_65 ?_
  intro r18 h19
  refine V_putRF (pc := 67) F hi 5 6 (by decide) (by decide) rfl rfl rfl g_fl_RX5_34 dX5_init_67 ?_
  intro h20
  exact V_vret (pc := 70) F (Or.inl rfl) dX5_init_70
theorem C_X5_init (x0 : Option Nat) (h : MH) : CtrM yX5_init (WSm yX5_init cX5_init 1 none) 2 [vR x0] h (M_X5_init x0 h) :=
  CtrM_of (by decide) (Nat.le_of_ble_eq_true rfl) (fun K F hm hi => vM_X5_init F hm hi x0 h)
def M_X5_isLand (x0 : Option Nat) (x1 : Int32) (h : MH) : Res := calI (M_X8_isCell x1 h) fun z1 h2 => if z1 = 0 then (rtZ (0 : Int32) h2) else (gfR h2 x0 5 5 fun r3 => rdI h2 r3 21 x1 fun z4 => if z4 = 0 then (rtZ (0 : Int32) h2) else (rtZ (1 : Int32) h2))
theorem vM_X5_isLand {K : CT} (F : Fr K cX5_isLand RX5 (some .boolean) [] 1 0) (hm : mxL K = 2) (x0 : Option Nat) (x1 : Int32) (h : MH) : V K 0 [(0, vR x0), (1, vI x1)] [] h (M_X5_isLand x0 x1 h) := by
  unfold M_X5_isLand
  refine V_iload_n (pc := 0) F dX5_isLand_0 1 rfl ?_
  refine V_cSN (pc := 1) F (as := [vI x1]) (C_X8_isCell x1 h) w_X8_isCell g_st_X8_isCell (host := "GyreWatch") (by decide +kernel) (by decide) (rest := []) rfl rfl (Nat.le_of_ble_eq_true rfl) dX5_isLand_1 (k_I fun z1 h2 => ?_)
  refine V_if_eq (pc := 4) F 20 dX5_isLand_4 (by decide) ?_ ?_
  · refine V_iconst (pc := 20) F (x := (0 : Int32)) dX5_isLand_20 (by decide) ?_
    exact V_zret (pc := 21) F (Or.inl rfl) dX5_isLand_21
  · refine V_aload_n (pc := 7) F dX5_isLand_7 0 rfl ?_
    refine V_getR (pc := 8) F 5 5 (by decide) (by decide) rfl g_fl_RX5_30 dX5_isLand_8 ?_
    intro r3
    refine V_iload_n (pc := 11) F dX5_isLand_11 1 rfl ?_
    refine V_zald (pc := 12) F dX5_isLand_12 ?_
    intro z4
    refine V_if_eq (pc := 13) F 20 dX5_isLand_13 (by decide) ?_ ?_
    · refine V_iconst (pc := 20) F (x := (0 : Int32)) dX5_isLand_20 (by decide) ?_
      exact V_zret (pc := 21) F (Or.inl rfl) dX5_isLand_21
    · refine V_iconst (pc := 16) F (x := (1 : Int32)) dX5_isLand_16 (by decide) ?_
      refine V_goto (pc := 17) F 21 dX5_isLand_17 (by decide) ?_
      exact V_zret (pc := 21) F (Or.inl rfl) dX5_isLand_21
theorem C_X5_isLand (x0 : Option Nat) (x1 : Int32) (h : MH) : CtrM yX5_isLand (WSm yX5_isLand cX5_isLand 2 (some .boolean)) 1 [vR x0, vI x1] h (M_X5_isLand x0 x1 h) :=
  CtrM_of (by decide) (Nat.le_of_ble_eq_true rfl) (fun K F hm hi => vM_X5_isLand F hm x0 x1 h)
def M_X5_makeLand (x0 : Option Nat) (x1 : Int32) (h : MH) : Res := calI (M_X8_isCell x1 h) fun z1 h2 => if z1 = 0 then (gfI h2 x0 5 7 fun z3 => rtI z3 h2) else (gfR h2 x0 5 5 fun r4 => rdI h2 r4 21 x1 fun z5 => if z5 ≠ 0 then (gfI h2 x0 5 7 fun z6 => rtI z6 h2) else (gfR h2 x0 5 5 fun r7 => wrI h2 r7 21 x1 (1 : Int32) fun h8 => gfI h8 x0 5 7 fun z9 => bnd (z9 + (1 : Int32)) fun z10 => pfI h8 x0 5 7 z10 fun h11 => gfR h11 x0 5 0 fun r12 => chk h11 r12 1 <| calV (M_X1_emptyAt r12 x1 h11) fun h13 => gfR h13 x0 5 1 fun r14 => chk h13 r14 1 <| calV (M_X1_emptyAt r14 x1 h13) fun h15 => gfI h15 x0 5 7 fun z16 => rtI z16 h15))
theorem vM_X5_makeLand {K : CT} (F : Fr K cX5_makeLand RX5 (some .int) [] 2 0) (hm : mxL K = 2) (x0 : Option Nat) (x1 : Int32) (h : MH) : V K 0 [(0, vR x0), (1, vI x1)] [] h (M_X5_makeLand x0 x1 h) := by
  unfold M_X5_makeLand
  refine V_iload_n (pc := 0) F dX5_makeLand_0 1 rfl ?_
  refine V_cSN (pc := 1) F (as := [vI x1]) (C_X8_isCell x1 h) w_X8_isCell g_st_X8_isCell (host := "GyreWatch") (by decide +kernel) (by decide) (rest := []) rfl rfl (Nat.le_of_ble_eq_true rfl) dX5_makeLand_1 (k_I fun z1 h2 => ?_)
  refine V_if_eq (pc := 4) F 49 dX5_makeLand_4 (by decide) ?_ ?_
  · refine V_aload_n (pc := 49) F dX5_makeLand_49 0 rfl ?_
    refine V_getI (pc := 50) F 5 7 (by decide) (by decide) rfl g_fl_RX5_44 dX5_makeLand_50 ?_
    intro z3
    exact V_iret (pc := 53) F (Or.inl rfl) dX5_makeLand_53
  · refine V_aload_n (pc := 7) F dX5_makeLand_7 0 rfl ?_
    refine V_getR (pc := 8) F 5 5 (by decide) (by decide) rfl g_fl_RX5_30 dX5_makeLand_8 ?_
    intro r4
    refine V_iload_n (pc := 11) F dX5_makeLand_11 1 rfl ?_
    refine V_zald (pc := 12) F dX5_makeLand_12 ?_
    intro z5
    refine V_if_ne (pc := 13) F 49 dX5_makeLand_13 (by decide) ?_ ?_
    · refine V_aload_n (pc := 49) F dX5_makeLand_49 0 rfl ?_
      refine V_getI (pc := 50) F 5 7 (by decide) (by decide) rfl g_fl_RX5_44 dX5_makeLand_50 ?_
      intro z6
      exact V_iret (pc := 53) F (Or.inl rfl) dX5_makeLand_53
    · refine V_aload_n (pc := 16) F dX5_makeLand_16 0 rfl ?_
      refine V_getR (pc := 17) F 5 5 (by decide) (by decide) rfl g_fl_RX5_30 dX5_makeLand_17 ?_
      intro r7
      refine V_iload_n (pc := 20) F dX5_makeLand_20 1 rfl ?_
      refine V_iconst (pc := 21) F (x := (1 : Int32)) dX5_makeLand_21 (by decide) ?_
      refine V_zast (pc := 22) F dX5_makeLand_22 ?_
      intro h8
      refine V_aload_n (pc := 23) F dX5_makeLand_23 0 rfl ?_
      refine V_dup (pc := 24) F dX5_makeLand_24 rfl ?_
      refine V_getI (pc := 25) F 5 7 (by decide) (by decide) rfl g_fl_RX5_44 dX5_makeLand_25 ?_
      intro z9
      refine V_iconst (pc := 28) F (x := (1 : Int32)) dX5_makeLand_28 (by decide) ?_
      refine V_iadd (pc := 29) F dX5_makeLand_29 ?_
      intro z10
      refine V_putI (pc := 30) F 5 7 (by decide) (by decide) rfl rfl g_fl_RX5_44 dX5_makeLand_30 ?_
      intro h11
      refine V_aload_n (pc := 33) F dX5_makeLand_33 0 rfl ?_
      refine V_getR (pc := 34) F 5 0 (by decide) (by decide) rfl g_fl_RX5_14 dX5_makeLand_34 ?_
      intro r12
      refine V_iload_n (pc := 37) F dX5_makeLand_37 1 rfl ?_
      refine V_cVM (pc := 38) F 1 (by decide) (as := [vI x1]) (C_X1_emptyAt r12 x1 h11) w_X1_emptyAt g_in_X1_emptyAt g_se_X1_emptyAt g_ml_RX5_48 (by decide) (rest := []) rfl rfl (Nat.le_of_ble_eq_true rfl) dX5_makeLand_38 (k_V fun h13 => ?_)
      refine V_aload_n (pc := 41) F dX5_makeLand_41 0 rfl ?_
      refine V_getR (pc := 42) F 5 1 (by decide) (by decide) rfl g_fl_RX5_20 dX5_makeLand_42 ?_
      intro r14
      refine V_iload_n (pc := 45) F dX5_makeLand_45 1 rfl ?_
      refine V_cVM (pc := 46) F 1 (by decide) (as := [vI x1]) (C_X1_emptyAt r14 x1 h13) w_X1_emptyAt g_in_X1_emptyAt g_se_X1_emptyAt g_ml_RX5_48 (by decide) (rest := []) rfl rfl (Nat.le_of_ble_eq_true rfl) dX5_makeLand_46 (k_V fun h15 => ?_)
      refine V_aload_n (pc := 49) F dX5_makeLand_49 0 rfl ?_
      refine V_getI (pc := 50) F 5 7 (by decide) (by decide) rfl g_fl_RX5_44 dX5_makeLand_50 ?_
      intro z16
      exact V_iret (pc := 53) F (Or.inl rfl) dX5_makeLand_53
theorem C_X5_makeLand (x0 : Option Nat) (x1 : Int32) (h : MH) : CtrM yX5_makeLand (WSm yX5_makeLand cX5_makeLand 2 (some .int)) 2 [vR x0, vI x1] h (M_X5_makeLand x0 x1 h) :=
  CtrM_of (by decide) (Nat.le_of_ble_eq_true rfl) (fun K F hm hi => vM_X5_makeLand F hm x0 x1 h)
def M_X6_init (x0 : Option Nat) (x1 : Int32) (h : MH) : Res := nnl x0 <| nwA h 20 (60 : Int32) fun r1 h2 => pfR h2 x0 6 1 r1 fun h3 => nwA h3 20 (60 : Int32) fun r4 h5 => pfR h5 x0 6 2 r4 fun h6 => pfI h6 x0 6 0 x1 fun h7 => calI (M_X8_isCell x1 h7) fun z8 h9 => if z8 = 0 then (rtV h9) else (gfR h9 x0 6 1 fun r10 => wrI h9 r10 20 x1 (10000 : Int32) fun h11 => rtV h11)
theorem vM_X6_init {K : CT} (F : Fr K cX6_init RX6 none [] 1 0) (hm : mxL K = 2) (hi : nmK K "<init>") (x0 : Option Nat) (x1 : Int32) (h : MH) : V K 0 [(0, vR x0), (1, vI x1)] [] h (M_X6_init x0 x1 h) := by
  unfold M_X6_init
  refine V_aload_n (pc := 0) F dX6_init_0 0 rfl ?_
  refine V_obj (pc := 1) F (by decide) g_ml_RX6_3 g_in_obj g_cw_obj (Nat.le_of_ble_eq_true rfl) dX6_init_1 ?_
  refine V_aload_n (pc := 4) F dX6_init_4 0 rfl ?_
  refine V_bipush (pc := 5) F (x := (60 : Int32)) dX6_init_5 (by decide) ?_
  refine V_newa (pc := 7) F 20 (by decide) g_arr_20 dX6_init_7 ?_
  intro r1 h2
  refine V_putRF (pc := 9) F hi 6 1 (by decide) (by decide) rfl rfl rfl g_fl_RX6_9 dX6_init_9 ?_
  intro h3
  refine V_aload_n (pc := 12) F dX6_init_12 0 rfl ?_
  refine V_bipush (pc := 13) F (x := (60 : Int32)) dX6_init_13 (by decide) ?_
  refine V_newa (pc := 15) F 20 (by decide) g_arr_20 dX6_init_15 ?_
  intro r4 h5
  refine V_putRF (pc := 17) F hi 6 2 (by decide) (by decide) rfl rfl rfl g_fl_RX6_15 dX6_init_17 ?_
  intro h6
  refine V_aload_n (pc := 20) F dX6_init_20 0 rfl ?_
  refine V_iload_n (pc := 21) F dX6_init_21 1 rfl ?_
  refine V_putIF (pc := 22) F hi 6 0 (by decide) (by decide) rfl rfl rfl g_fl_RX6_18 dX6_init_22 ?_
  intro h7
  refine V_iload_n (pc := 25) F dX6_init_25 1 rfl ?_
  refine V_cSN (pc := 26) F (as := [vI x1]) (C_X8_isCell x1 h7) w_X8_isCell g_st_X8_isCell (host := "GyreWatch") (by decide +kernel) (by decide) (rest := []) rfl rfl (Nat.le_of_ble_eq_true rfl) dX6_init_26 (k_I fun z8 h9 => ?_)
  refine V_if_eq (pc := 29) F 41 dX6_init_29 (by decide) ?_ ?_
  · exact V_vret (pc := 41) F (Or.inl rfl) dX6_init_41
  · refine V_aload_n (pc := 32) F dX6_init_32 0 rfl ?_
    refine V_getR (pc := 33) F 6 1 (by decide) (by decide) rfl g_fl_RX6_9 dX6_init_33 ?_
    intro r10
    refine V_iload_n (pc := 36) F dX6_init_36 1 rfl ?_
    refine V_sipush (pc := 37) F (x := (10000 : Int32)) dX6_init_37 (by decide) ?_
    refine V_iast (pc := 40) F dX6_init_40 ?_
    intro h11
    exact V_vret (pc := 41) F (Or.inl rfl) dX6_init_41
theorem C_X6_init (x0 : Option Nat) (x1 : Int32) (h : MH) : CtrM yX6_init (WSm yX6_init cX6_init 2 none) 1 [vR x0, vI x1] h (M_X6_init x0 x1 h) :=
  CtrM_of (by decide) (Nat.le_of_ble_eq_true rfl) (fun K F hm hi => vM_X6_init F hm hi x0 x1 h)
def M_X6_lookAt (x0 : Option Nat) (x1 : Int32) (x2 : Int32) (h : MH) : Res := aln h x0 fun z1 => calI (M_X8_isIndex x1 z1 h) fun z2 h3 => if z2 ≠ 0 then (rdI h3 x0 20 x1 fun z4 => bnd (z4 * x2) fun z5 => dvI z5 (100 : Int32) fun z6 => rdI h3 x0 20 x1 fun z7 => bnd (z7 - z6) fun z8 => wrI h3 x0 20 x1 z8 fun h9 => rtI z6 h9) else (rtI (0 : Int32) h3)
theorem vM_X6_lookAt {K : CT} (F : Fr K cX6_lookAt RX6 (some .int) [] 1 0) (hm : mxL K = 4) (x0 : Option Nat) (x1 : Int32) (x2 : Int32) (h : MH) : V K 0 [(0, vR x0), (1, vI x1), (2, vI x2)] [] h (M_X6_lookAt x0 x1 x2 h) := by
  unfold M_X6_lookAt
  refine V_iload_n (pc := 0) F dX6_lookAt_0 1 rfl ?_
  refine V_aload_n (pc := 1) F dX6_lookAt_1 0 rfl ?_
  refine V_alen (pc := 2) F dX6_lookAt_2 ?_
  intro z1
  refine V_cSN (pc := 3) F (as := [vI x1, vI z1]) (C_X8_isIndex x1 z1 h) w_X8_isIndex g_st_X8_isIndex (host := "GyreWatch") (by decide +kernel) (by decide) (rest := []) rfl rfl (Nat.le_of_ble_eq_true rfl) dX6_lookAt_3 (k_I fun z2 h3 => ?_)
  refine V_if_ne (pc := 6) F 11 dX6_lookAt_6 (by decide) ?_ ?_
  · refine V_aload_n (pc := 11) F dX6_lookAt_11 0 rfl ?_
    refine V_iload_n (pc := 12) F dX6_lookAt_12 1 rfl ?_
    refine V_iald (pc := 13) F dX6_lookAt_13 ?_
    intro z4
    refine V_iload_n (pc := 14) F dX6_lookAt_14 2 rfl ?_
    refine V_imul (pc := 15) F dX6_lookAt_15 ?_
    intro z5
    refine V_bipush (pc := 16) F (x := (100 : Int32)) dX6_lookAt_16 (by decide) ?_
    refine V_idiv (pc := 18) F dX6_lookAt_18 ?_
    intro z6
    refine V_istore_n (pc := 19) F [(3, vI z6), (0, vR x0), (1, vI x1), (2, vI x2)] dX6_lookAt_19 (lt_mx hm (by decide)) rfl ?_
    refine V_aload_n (pc := 20) F dX6_lookAt_20 1 rfl ?_
    refine V_iload_n (pc := 21) F dX6_lookAt_21 2 rfl ?_
    refine V_dup2 (pc := 22) F dX6_lookAt_22 rfl rfl ?_
    refine V_iald (pc := 23) F dX6_lookAt_23 ?_
    intro z7
    refine V_iload_n (pc := 24) F dX6_lookAt_24 0 rfl ?_
    refine V_isub (pc := 25) F dX6_lookAt_25 ?_
    intro z8
    refine V_iast (pc := 26) F dX6_lookAt_26 ?_
    intro h9
    refine V_iload_n (pc := 27) F dX6_lookAt_27 0 rfl ?_
    exact V_iret (pc := 28) F (Or.inl rfl) dX6_lookAt_28
  · refine V_iconst (pc := 9) F (x := (0 : Int32)) dX6_lookAt_9 (by decide) ?_
    exact V_iret (pc := 10) F (Or.inl rfl) dX6_lookAt_10
theorem C_X6_lookAt (x0 : Option Nat) (x1 : Int32) (x2 : Int32) (h : MH) : CtrM yX6_lookAt (WSm yX6_lookAt cX6_lookAt 4 (some .int)) 1 [vR x0, vI x1, vI x2] h (M_X6_lookAt x0 x1 x2 h) :=
  CtrM_of (by decide) (Nat.le_of_ble_eq_true rfl) (fun K F hm hi => vM_X6_lookAt F hm x0 x1 x2 h)
def B_X5_seaBeside_78 (x0 : Option Nat) (x3 : Int32) (x4 : Int32) (h : MH) : Res := calI (M_X8_isIndex x3 (10 : Int32) h) fun z9 h10 => if z9 = 0 then (rtI (-1 : Int32) h10) else (calI (M_X8_isIndex x4 (6 : Int32) h10) fun z11 h12 => if z11 ≠ 0 then (bnd ((10 : Int32) * x4) fun z13 => bnd (z13 + x3) fun z14 => calI (M_X8_isCell z14 h12) fun z15 h16 => if z15 = 0 then (rtI (-1 : Int32) h16) else (gfR h16 x0 5 5 fun r17 => rdI h16 r17 21 z14 fun z18 => if z18 ≠ 0 then (rtI (-1 : Int32) h16) else (rtI z14 h16))) else (rtI (-1 : Int32) h12))
def M_X5_seaBeside (x0 : Option Nat) (x1 : Int32) (x2 : Int32) (h : MH) : Res := calI (M_X8_isCell x1 h) fun z1 h2 => if z1 ≠ 0 then (rmI x1 (10 : Int32) fun z3 => dvI x1 (10 : Int32) fun z4 => if x2 < (1 : Int32) then (rtI (-1 : Int32) h2) else if x2 = (1 : Int32) then (bnd (z3 + (1)) fun z5 => B_X5_seaBeside_78 x0 z5 z4 h2) else if x2 = (2 : Int32) then (bnd (z3 + (-1)) fun z6 => B_X5_seaBeside_78 x0 z6 z4 h2) else if x2 = (3 : Int32) then (bnd (z4 + (1)) fun z7 => B_X5_seaBeside_78 x0 z3 z7 h2) else if x2 = (4 : Int32) then (bnd (z4 + (-1)) fun z8 => B_X5_seaBeside_78 x0 z3 z8 h2) else (rtI (-1 : Int32) h2)) else (rtI (-1 : Int32) h2)
theorem vB_X5_seaBeside_78 {K : CT} (F : Fr K cX5_seaBeside RX5 (some .int) [] 1 0) (hm : mxL K = 6) (x0 : Option Nat) (x3 : Int32) (x4 : Int32) (h : MH) : V K 78 [(0, vR x0), (3, vI x3), (4, vI x4)] [] h (B_X5_seaBeside_78 x0 x3 x4 h) := by
  unfold B_X5_seaBeside_78
  refine V_iload_n (pc := 78) F dX5_seaBeside_78 1 rfl ?_
  refine V_bipush (pc := 79) F (x := (10 : Int32)) dX5_seaBeside_79 (by decide) ?_
  refine V_cSN (pc := 81) F (as := [vI x3, vI (10 : Int32)]) (C_X8_isIndex x3 (10 : Int32) h) w_X8_isIndex g_st_X8_isIndex (host := "GyreWatch") (by decide +kernel) (by decide) (rest := []) rfl rfl (Nat.le_of_ble_eq_true rfl) dX5_seaBeside_81 (k_I fun z9 h10 => ?_)
  refine V_if_eq (pc := 84) F 97 dX5_seaBeside_84 (by decide) ?_ ?_
  · refine V_iconst (pc := 97) F (x := (-1 : Int32)) dX5_seaBeside_97 (by decide) ?_
    exact V_iret (pc := 98) F (Or.inl rfl) dX5_seaBeside_98
  · refine V_iload (pc := 87) F dX5_seaBeside_87 2 rfl ?_
    refine V_bipush (pc := 89) F (x := (6 : Int32)) dX5_seaBeside_89 (by decide) ?_
    refine V_cSN (pc := 91) F (as := [vI x4, vI (6 : Int32)]) (C_X8_isIndex x4 (6 : Int32) h10) w_X8_isIndex g_st_X8_isIndex (host := "GyreWatch") (by decide +kernel) (by decide) (rest := []) rfl rfl (Nat.le_of_ble_eq_true rfl) dX5_seaBeside_91 (k_I fun z11 h12 => ?_)
    refine V_if_ne (pc := 94) F 99 dX5_seaBeside_94 (by decide) ?_ ?_
    · refine V_bipush (pc := 99) F (x := (10 : Int32)) dX5_seaBeside_99 (by decide) ?_
      refine V_iload (pc := 101) F dX5_seaBeside_101 2 rfl ?_
      refine V_imul (pc := 103) F dX5_seaBeside_103 ?_
      intro z13
      refine V_iload_n (pc := 104) F dX5_seaBeside_104 1 rfl ?_
      refine V_iadd (pc := 105) F dX5_seaBeside_105 ?_
      intro z14
      refine V_istore (pc := 106) F [(5, vI z14), (0, vR x0), (3, vI x3), (4, vI x4)] dX5_seaBeside_106 (lt_mx hm (by decide)) rfl ?_
      refine V_iload (pc := 108) F dX5_seaBeside_108 0 rfl ?_
      refine V_cSN (pc := 110) F (as := [vI z14]) (C_X8_isCell z14 h12) w_X8_isCell g_st_X8_isCell (host := "GyreWatch") (by decide +kernel) (by decide) (rest := []) rfl rfl (Nat.le_of_ble_eq_true rfl) dX5_seaBeside_110 (k_I fun z15 h16 => ?_)
      refine V_if_eq (pc := 113) F 131 dX5_seaBeside_113 (by decide) ?_ ?_
      · refine V_iconst (pc := 131) F (x := (-1 : Int32)) dX5_seaBeside_131 (by decide) ?_
        exact V_iret (pc := 132) F (Or.inl rfl) dX5_seaBeside_132
      · refine V_aload_n (pc := 116) F dX5_seaBeside_116 1 rfl ?_
        refine V_getR (pc := 117) F 5 5 (by decide) (by decide) rfl g_fl_RX5_30 dX5_seaBeside_117 ?_
        intro r17
        refine V_iload (pc := 120) F dX5_seaBeside_120 0 rfl ?_
        refine V_zald (pc := 122) F dX5_seaBeside_122 ?_
        intro z18
        refine V_if_ne (pc := 123) F 131 dX5_seaBeside_123 (by decide) ?_ ?_
        · refine V_iconst (pc := 131) F (x := (-1 : Int32)) dX5_seaBeside_131 (by decide) ?_
          exact V_iret (pc := 132) F (Or.inl rfl) dX5_seaBeside_132
        · refine V_iload (pc := 126) F dX5_seaBeside_126 0 rfl ?_
          refine V_goto (pc := 128) F 132 dX5_seaBeside_128 (by decide) ?_
          exact V_iret (pc := 132) F (Or.inl rfl) dX5_seaBeside_132
    · refine V_iconst (pc := 97) F (x := (-1 : Int32)) dX5_seaBeside_97 (by decide) ?_
      exact V_iret (pc := 98) F (Or.inl rfl) dX5_seaBeside_98
theorem vM_X5_seaBeside {K : CT} (F : Fr K cX5_seaBeside RX5 (some .int) [] 1 0) (hm : mxL K = 6) (x0 : Option Nat) (x1 : Int32) (x2 : Int32) (h : MH) : V K 0 [(0, vR x0), (1, vI x1), (2, vI x2)] [] h (M_X5_seaBeside x0 x1 x2 h) := by
  unfold M_X5_seaBeside
  refine V_iload_n (pc := 0) F dX5_seaBeside_0 1 rfl ?_
  refine V_cSN (pc := 1) F (as := [vI x1]) (C_X8_isCell x1 h) w_X8_isCell g_st_X8_isCell (host := "GyreWatch") (by decide +kernel) (by decide) (rest := []) rfl rfl (Nat.le_of_ble_eq_true rfl) dX5_seaBeside_1 (k_I fun z1 h2 => ?_)
  refine V_if_ne (pc := 4) F 9 dX5_seaBeside_4 (by decide) ?_ ?_
  · refine V_iload_n (pc := 9) F dX5_seaBeside_9 1 rfl ?_
    refine V_bipush (pc := 10) F (x := (10 : Int32)) dX5_seaBeside_10 (by decide) ?_
    refine V_irem (pc := 12) F dX5_seaBeside_12 ?_
    intro z3
    refine V_istore_n (pc := 13) F [(3, vI z3), (0, vR x0), (1, vI x1), (2, vI x2)] dX5_seaBeside_13 (lt_mx hm (by decide)) rfl ?_
    refine V_iload_n (pc := 14) F dX5_seaBeside_14 2 rfl ?_
    refine V_bipush (pc := 15) F (x := (10 : Int32)) dX5_seaBeside_15 (by decide) ?_
    refine V_idiv (pc := 17) F dX5_seaBeside_17 ?_
    intro z4
    refine V_istore (pc := 18) F [(4, vI z4), (3, vI z3), (0, vR x0), (1, vI x1), (2, vI x2)] dX5_seaBeside_18 (lt_mx hm (by decide)) rfl ?_
    refine V_iload_n (pc := 20) F dX5_seaBeside_20 4 rfl ?_
    refine V_tsw (pc := 21) F (1 : Int32) 76 dX5_seaBeside_21 (by decide) (by decide) ?_ ?_
    · refine V_iconst (pc := 76) F (x := (-1 : Int32)) dX5_seaBeside_76 (by decide) ?_
      exact V_iret (pc := 77) F (Or.inl rfl) dX5_seaBeside_77
    refine VT_peel (pc := 21) F (i := 1) (off := 31) (1 : Int32) 52 dX5_seaBeside_21 (by decide) (by decide) (by decide) (by decide) ?_ ?_
    · refine V_iinc (pc := 52) F (fun z5 => [(3, vI z5), (4, vI z4), (0, vR x0), (1, vI x1), (2, vI x2)]) dX5_seaBeside_52 (lt_mx hm (by decide)) 1 rfl (dx := (1 : Int32)) (by decide) (fun _ => rfl) ?_
      intro z5
      refine V_goto (pc := 55) F 78 dX5_seaBeside_55 (by decide) ?_
      refine V_sub [2, 0, 1] (L' := [(0, vR x0), (3, vI z5), (4, vI z4)]) rfl ?_
      exact vB_X5_seaBeside_78 F hm x0 z5 z4 h2
    refine VT_peel (pc := 21) F (i := 2) (off := 37) (2 : Int32) 58 dX5_seaBeside_21 (by decide) (by decide) (by decide) (by decide) ?_ ?_
    · refine V_iinc (pc := 58) F (fun z6 => [(3, vI z6), (4, vI z4), (0, vR x0), (1, vI x1), (2, vI x2)]) dX5_seaBeside_58 (lt_mx hm (by decide)) 1 rfl (dx := (-1 : Int32)) (by decide) (fun _ => rfl) ?_
      intro z6
      refine V_goto (pc := 61) F 78 dX5_seaBeside_61 (by decide) ?_
      refine V_sub [2, 0, 1] (L' := [(0, vR x0), (3, vI z6), (4, vI z4)]) rfl ?_
      exact vB_X5_seaBeside_78 F hm x0 z6 z4 h2
    refine VT_peel (pc := 21) F (i := 3) (off := 43) (3 : Int32) 64 dX5_seaBeside_21 (by decide) (by decide) (by decide) (by decide) ?_ ?_
    · refine V_iinc (pc := 64) F (fun z7 => [(4, vI z7), (3, vI z3), (0, vR x0), (1, vI x1), (2, vI x2)]) dX5_seaBeside_64 (lt_mx hm (by decide)) 0 rfl (dx := (1 : Int32)) (by decide) (fun _ => rfl) ?_
      intro z7
      refine V_goto (pc := 67) F 78 dX5_seaBeside_67 (by decide) ?_
      refine V_sub [2, 1, 0] (L' := [(0, vR x0), (3, vI z3), (4, vI z7)]) rfl ?_
      exact vB_X5_seaBeside_78 F hm x0 z3 z7 h2
    refine VT_peel (pc := 21) F (i := 4) (off := 49) (4 : Int32) 70 dX5_seaBeside_21 (by decide) (by decide) (by decide) (by decide) ?_ ?_
    · refine V_iinc (pc := 70) F (fun z8 => [(4, vI z8), (3, vI z3), (0, vR x0), (1, vI x1), (2, vI x2)]) dX5_seaBeside_70 (lt_mx hm (by decide)) 0 rfl (dx := (-1 : Int32)) (by decide) (fun _ => rfl) ?_
      intro z8
      refine V_goto (pc := 73) F 78 dX5_seaBeside_73 (by decide) ?_
      refine V_sub [2, 1, 0] (L' := [(0, vR x0), (3, vI z3), (4, vI z8)]) rfl ?_
      exact vB_X5_seaBeside_78 F hm x0 z3 z8 h2
    refine VT_end (pc := 21) F 76 dX5_seaBeside_21 (by decide) (by decide) ?_
    refine V_iconst (pc := 76) F (x := (-1 : Int32)) dX5_seaBeside_76 (by decide) ?_
    exact V_iret (pc := 77) F (Or.inl rfl) dX5_seaBeside_77
  · refine V_iconst (pc := 7) F (x := (-1 : Int32)) dX5_seaBeside_7 (by decide) ?_
    exact V_iret (pc := 8) F (Or.inl rfl) dX5_seaBeside_8
theorem C_X5_seaBeside (x0 : Option Nat) (x1 : Int32) (x2 : Int32) (h : MH) : CtrM yX5_seaBeside (WSm yX5_seaBeside cX5_seaBeside 6 (some .int)) 1 [vR x0, vI x1, vI x2] h (M_X5_seaBeside x0 x1 x2 h) :=
  CtrM_of (by decide) (Nat.le_of_ble_eq_true rfl) (fun K F hm hi => vM_X5_seaBeside F hm x0 x1 x2 h)
def M_X5_leadsTo (x0 : Option Nat) (x1 : Int32) (h : MH) : Res := calI (M_X8_isCell x1 h) fun z1 h2 => if z1 = 0 then (rtI (-1 : Int32) h2) else (gfR h2 x0 5 2 fun r3 => rdI h2 r3 20 x1 fun z4 => chk h2 x0 5 <| calI (M_X5_seaBeside x0 x1 z4 h2) fun z5 h6 => rtI z5 h6)
theorem vM_X5_leadsTo {K : CT} (F : Fr K cX5_leadsTo RX5 (some .int) [] 2 0) (hm : mxL K = 2) (x0 : Option Nat) (x1 : Int32) (h : MH) : V K 0 [(0, vR x0), (1, vI x1)] [] h (M_X5_leadsTo x0 x1 h) := by
  unfold M_X5_leadsTo
  refine V_iload_n (pc := 0) F dX5_leadsTo_0 1 rfl ?_
  refine V_cSN (pc := 1) F (as := [vI x1]) (C_X8_isCell x1 h) w_X8_isCell g_st_X8_isCell (host := "GyreWatch") (by decide +kernel) (by decide) (rest := []) rfl rfl (Nat.le_of_ble_eq_true rfl) dX5_leadsTo_1 (k_I fun z1 h2 => ?_)
  refine V_if_eq (pc := 4) F 21 dX5_leadsTo_4 (by decide) ?_ ?_
  · refine V_iconst (pc := 21) F (x := (-1 : Int32)) dX5_leadsTo_21 (by decide) ?_
    exact V_iret (pc := 22) F (Or.inl rfl) dX5_leadsTo_22
  · refine V_aload_n (pc := 7) F dX5_leadsTo_7 0 rfl ?_
    refine V_iload_n (pc := 8) F dX5_leadsTo_8 1 rfl ?_
    refine V_aload_n (pc := 9) F dX5_leadsTo_9 0 rfl ?_
    refine V_getR (pc := 10) F 5 2 (by decide) (by decide) rfl g_fl_RX5_23 dX5_leadsTo_10 ?_
    intro r3
    refine V_iload_n (pc := 13) F dX5_leadsTo_13 1 rfl ?_
    refine V_iald (pc := 14) F dX5_leadsTo_14 ?_
    intro z4
    refine V_cVM (pc := 15) F 5 (by decide) (as := [vI x1, vI z4]) (C_X5_seaBeside x0 x1 z4 h2) w_X5_seaBeside g_in_X5_seaBeside g_se_X5_seaBeside g_ml_RX5_56 (by decide) (rest := []) rfl rfl (Nat.le_of_ble_eq_true rfl) dX5_leadsTo_15 (k_I fun z5 h6 => ?_)
    refine V_goto (pc := 18) F 22 dX5_leadsTo_18 (by decide) ?_
    exact V_iret (pc := 22) F (Or.inl rfl) dX5_leadsTo_22
theorem C_X5_leadsTo (x0 : Option Nat) (x1 : Int32) (h : MH) : CtrM yX5_leadsTo (WSm yX5_leadsTo cX5_leadsTo 2 (some .int)) 2 [vR x0, vI x1] h (M_X5_leadsTo x0 x1 h) :=
  CtrM_of (by decide) (Nat.le_of_ble_eq_true rfl) (fun K F hm hi => vM_X5_leadsTo F hm x0 x1 h)
def B_X5_carry_70 (rc21 : Option Nat → Option Nat → Int32 → Int32 → MH → Res) (x0 : Option Nat) (x1 : Option Nat) (x2 : Int32) (x3 : Int32) (h : MH) : Res := bnd (x3 + (1)) fun z18 => rc21 x0 x1 x2 z18 h
def B_X5_carry_21 (rc21 : Option Nat → Option Nat → Int32 → Int32 → MH → Res) (x0 : Option Nat) (x1 : Option Nat) (x2 : Int32) (x3 : Int32) (h : MH) : Res := if x2 ≤ x3 then (rtV h) else (chk h x0 5 <| calI (M_X5_leadsTo x0 x3 h) fun z5 h6 => calI (M_X8_isIndex z5 x2 h6) fun z7 h8 => if z7 = 0 then (B_X5_carry_70 rc21 x0 x1 x2 x3 h8) else (gfR h8 x0 5 6 fun r9 => rdI h8 r9 20 x3 fun z10 => dvI z10 (10 : Int32) fun z11 => rdI h8 x1 20 x3 fun z12 => bnd (z12 - z11) fun z13 => wrI h8 x1 20 x3 z13 fun h14 => rdI h14 x1 20 z5 fun z15 => bnd (z15 + z11) fun z16 => wrI h14 x1 20 z5 z16 fun h17 => B_X5_carry_70 rc21 x0 x1 x2 x3 h17))
def L_X5_carry_21 : Nat → Option Nat → Option Nat → Int32 → Int32 → MH → Res
  | 0 => fun _ _ _ _ _ => none
  | n + 1 => B_X5_carry_21 (L_X5_carry_21 n)
def M_X5_carry (x0 : Option Nat) (x1 : Option Nat) (h : MH) : Res := aln h x1 fun z1 => bnd (if (60 : Int32) < z1 then (60 : Int32) else z1) fun z2 => gfR h x0 5 6 fun r3 => cpI h x1 (0 : Int32) r3 (0 : Int32) z2 fun h4 => L_X5_carry_21 fuel x0 x1 z2 (0 : Int32) h4
theorem vB_X5_carry_70 {K : CT} (F : Fr K cX5_carry RX5 none [] 3 0) (hm : mxL K = 6) (rc21 : Option Nat → Option Nat → Int32 → Int32 → MH → Res) (hrc21 : ∀ x0 x1 x2 x3 h, V K 21 [(0, vR x0), (1, vR x1), (2, vI x2), (3, vI x3)] [] h (rc21 x0 x1 x2 x3 h)) (x0 : Option Nat) (x1 : Option Nat) (x2 : Int32) (x3 : Int32) (h : MH) : V K 70 [(0, vR x0), (1, vR x1), (2, vI x2), (3, vI x3)] [] h (B_X5_carry_70 rc21 x0 x1 x2 x3 h) := by
  unfold B_X5_carry_70
  refine V_iinc (pc := 70) F (fun z18 => [(3, vI z18), (0, vR x0), (1, vR x1), (2, vI x2)]) dX5_carry_70 (lt_mx hm (by decide)) 3 rfl (dx := (1 : Int32)) (by decide) (fun _ => rfl) ?_
  intro z18
  refine V_goto (pc := 73) F 21 dX5_carry_73 (by decide) ?_
  refine V_sub [1, 2, 3, 0] (L' := [(0, vR x0), (1, vR x1), (2, vI x2), (3, vI z18)]) rfl ?_
  exact hrc21 x0 x1 x2 z18 h
theorem vB_X5_carry_21 {K : CT} (F : Fr K cX5_carry RX5 none [] 3 0) (hm : mxL K = 6) (rc21 : Option Nat → Option Nat → Int32 → Int32 → MH → Res) (hrc21 : ∀ x0 x1 x2 x3 h, V K 21 [(0, vR x0), (1, vR x1), (2, vI x2), (3, vI x3)] [] h (rc21 x0 x1 x2 x3 h)) (x0 : Option Nat) (x1 : Option Nat) (x2 : Int32) (x3 : Int32) (h : MH) : V K 21 [(0, vR x0), (1, vR x1), (2, vI x2), (3, vI x3)] [] h (B_X5_carry_21 rc21 x0 x1 x2 x3 h) := by
  unfold B_X5_carry_21
  refine V_iload_n (pc := 21) F dX5_carry_21 3 rfl ?_
  refine V_iload_n (pc := 22) F dX5_carry_22 2 rfl ?_
  refine V_icmp_ge (pc := 23) F 76 dX5_carry_23 (by decide) ?_ ?_
  · exact V_vret (pc := 76) F (Or.inl rfl) dX5_carry_76
  · refine V_aload_n (pc := 26) F dX5_carry_26 0 rfl ?_
    refine V_iload_n (pc := 27) F dX5_carry_27 3 rfl ?_
    refine V_cVM (pc := 28) F 5 (by decide) (as := [vI x3]) (C_X5_leadsTo x0 x3 h) w_X5_leadsTo g_in_X5_leadsTo g_se_X5_leadsTo g_ml_RX5_78 (by decide) (rest := []) rfl rfl (Nat.le_of_ble_eq_true rfl) dX5_carry_28 (k_I fun z5 h6 => ?_)
    refine V_istore (pc := 31) F [(4, vI z5), (0, vR x0), (1, vR x1), (2, vI x2), (3, vI x3)] dX5_carry_31 (lt_mx hm (by decide)) rfl ?_
    refine V_iload (pc := 33) F dX5_carry_33 0 rfl ?_
    refine V_iload_n (pc := 35) F dX5_carry_35 3 rfl ?_
    refine V_cSN (pc := 36) F (as := [vI z5, vI x2]) (C_X8_isIndex z5 x2 h6) w_X8_isIndex g_st_X8_isIndex (host := "GyreWatch") (by decide +kernel) (by decide) (rest := []) rfl rfl (Nat.le_of_ble_eq_true rfl) dX5_carry_36 (k_I fun z7 h8 => ?_)
    refine V_if_eq (pc := 39) F 70 dX5_carry_39 (by decide) ?_ ?_
    · refine V_sub [1, 2, 3, 4] (L' := [(0, vR x0), (1, vR x1), (2, vI x2), (3, vI x3)]) rfl ?_
      exact vB_X5_carry_70 F hm rc21 hrc21 x0 x1 x2 x3 h8
    · refine V_aload_n (pc := 42) F dX5_carry_42 1 rfl ?_
      refine V_getR (pc := 43) F 5 6 (by decide) (by decide) rfl g_fl_RX5_34 dX5_carry_43 ?_
      intro r9
      refine V_iload_n (pc := 46) F dX5_carry_46 4 rfl ?_
      refine V_iald (pc := 47) F dX5_carry_47 ?_
      intro z10
      refine V_bipush (pc := 48) F (x := (10 : Int32)) dX5_carry_48 (by decide) ?_
      refine V_idiv (pc := 50) F dX5_carry_50 ?_
      intro z11
      refine V_istore (pc := 51) F [(5, vI z11), (4, vI z5), (0, vR x0), (1, vR x1), (2, vI x2), (3, vI x3)] dX5_carry_51 (lt_mx hm (by decide)) rfl ?_
      refine V_aload_n (pc := 53) F dX5_carry_53 3 rfl ?_
      refine V_iload_n (pc := 54) F dX5_carry_54 5 rfl ?_
      refine V_dup2 (pc := 55) F dX5_carry_55 rfl rfl ?_
      refine V_iald (pc := 56) F dX5_carry_56 ?_
      intro z12
      refine V_iload (pc := 57) F dX5_carry_57 0 rfl ?_
      refine V_isub (pc := 59) F dX5_carry_59 ?_
      intro z13
      refine V_iast (pc := 60) F dX5_carry_60 ?_
      intro h14
      refine V_aload_n (pc := 61) F dX5_carry_61 3 rfl ?_
      refine V_iload (pc := 62) F dX5_carry_62 1 rfl ?_
      refine V_dup2 (pc := 64) F dX5_carry_64 rfl rfl ?_
      refine V_iald (pc := 65) F dX5_carry_65 ?_
      intro z15
      refine V_iload (pc := 66) F dX5_carry_66 0 rfl ?_
      refine V_iadd (pc := 68) F dX5_carry_68 ?_
      intro z16
      refine V_iast (pc := 69) F dX5_carry_69 ?_
      intro h17
      refine V_sub [2, 3, 4, 5] (L' := [(0, vR x0), (1, vR x1), (2, vI x2), (3, vI x3)]) rfl ?_
      exact vB_X5_carry_70 F hm rc21 hrc21 x0 x1 x2 x3 h17
theorem vL_X5_carry_21 {K : CT} (F : Fr K cX5_carry RX5 none [] 3 0) (hm : mxL K = 6) (n : Nat) : ∀ x0 x1 x2 x3 h, V K 21 [(0, vR x0), (1, vR x1), (2, vI x2), (3, vI x3)] [] h (L_X5_carry_21 n x0 x1 x2 x3 h) := by
  induction n with
  | zero => intros; exact V_none
  | succ n ih => intro x0 x1 x2 x3 h; exact vB_X5_carry_21 F hm _ ih x0 x1 x2 x3 h
theorem vM_X5_carry {K : CT} (F : Fr K cX5_carry RX5 none [] 3 0) (hm : mxL K = 6) (x0 : Option Nat) (x1 : Option Nat) (h : MH) : V K 0 [(0, vR x0), (1, vR x1)] [] h (M_X5_carry x0 x1 h) := by
  unfold M_X5_carry
  refine V_aload_n (pc := 0) F dX5_carry_0 1 rfl ?_
  refine V_alen (pc := 1) F dX5_carry_1 ?_
  intro z1
  refine V_bipush (pc := 2) F (x := (60 : Int32)) dX5_carry_2 (by decide) ?_
  refine V_mmin (pc := 4) F (by decide) g_ml_RX5_67 g_st_math_min g_ini_math g_cw_math_min (Nat.le_of_ble_eq_true rfl) dX5_carry_4 ?_
  intro z2
  refine V_istore_n (pc := 7) F [(2, vI z2), (0, vR x0), (1, vR x1)] dX5_carry_7 (lt_mx hm (by decide)) rfl ?_
  refine V_aload_n (pc := 8) F dX5_carry_8 2 rfl ?_
  refine V_iconst (pc := 9) F (x := (0 : Int32)) dX5_carry_9 (by decide) ?_
  refine V_aload_n (pc := 10) F dX5_carry_10 1 rfl ?_
  refine V_getR (pc := 11) F 5 6 (by decide) (by decide) rfl g_fl_RX5_34 dX5_carry_11 ?_
  intro r3
  refine V_iconst (pc := 14) F (x := (0 : Int32)) dX5_carry_14 (by decide) ?_
  refine V_iload_n (pc := 15) F dX5_carry_15 0 rfl ?_
  refine V_cpI (pc := 16) F (by decide) g_ml_RX5_72 g_nat_cpy g_st_arraycopy g_ini_sys (Nat.le_of_ble_eq_true rfl) dX5_carry_16 ?_
  intro h4
  refine V_iconst (pc := 19) F (x := (0 : Int32)) dX5_carry_19 (by decide) ?_
  refine V_istore_n (pc := 20) F [(3, vI (0 : Int32)), (2, vI z2), (0, vR x0), (1, vR x1)] dX5_carry_20 (lt_mx hm (by decide)) rfl ?_
  refine V_sub [2, 3, 1, 0] (L' := [(0, vR x0), (1, vR x1), (2, vI z2), (3, vI (0 : Int32))]) rfl ?_
  exact vL_X5_carry_21 F hm fuel x0 x1 z2 (0 : Int32) h4
theorem C_X5_carry (x0 : Option Nat) (x1 : Option Nat) (h : MH) : CtrM yX5_carry (WSm yX5_carry cX5_carry 6 none) 3 [vR x0, vR x1] h (M_X5_carry x0 x1 h) :=
  CtrM_of (by decide) (Nat.le_of_ble_eq_true rfl) (fun K F hm hi => vM_X5_carry F hm x0 x1 h)
def M_X5_flow (x0 : Option Nat) (h : MH) : Res := gfR h x0 5 0 fun r1 => gfR h r1 1 0 fun r2 => chk h x0 5 <| calV (M_X5_carry x0 r2 h) fun h3 => gfR h3 x0 5 0 fun r4 => gfR h3 r4 1 1 fun r5 => chk h3 x0 5 <| calV (M_X5_carry x0 r5 h3) fun h6 => rtV h6
theorem vM_X5_flow {K : CT} (F : Fr K cX5_flow RX5 none [] 4 0) (hm : mxL K = 1) (x0 : Option Nat) (h : MH) : V K 0 [(0, vR x0)] [] h (M_X5_flow x0 h) := by
  unfold M_X5_flow
  refine V_aload_n (pc := 0) F dX5_flow_0 0 rfl ?_
  refine V_aload_n (pc := 1) F dX5_flow_1 0 rfl ?_
  refine V_getR (pc := 2) F 5 0 (by decide) (by decide) rfl g_fl_RX5_14 dX5_flow_2 ?_
  intro r1
  refine V_getR (pc := 5) F 1 0 (by decide) (by decide) rfl g_fl_RX5_41 dX5_flow_5 ?_
  intro r2
  refine V_cVM (pc := 8) F 5 (by decide) (as := [vR r2]) (C_X5_carry x0 r2 h) w_X5_carry g_in_X5_carry g_se_X5_carry g_ml_RX5_60 (by decide) (rest := []) rfl rfl (Nat.le_of_ble_eq_true rfl) dX5_flow_8 (k_V fun h3 => ?_)
  refine V_aload_n (pc := 11) F dX5_flow_11 0 rfl ?_
  refine V_aload_n (pc := 12) F dX5_flow_12 0 rfl ?_
  refine V_getR (pc := 13) F 5 0 (by decide) (by decide) rfl g_fl_RX5_14 dX5_flow_13 ?_
  intro r4
  refine V_getR (pc := 16) F 1 1 (by decide) (by decide) rfl g_fl_RX5_64 dX5_flow_16 ?_
  intro r5
  refine V_cVM (pc := 19) F 5 (by decide) (as := [vR r5]) (C_X5_carry x0 r5 h3) w_X5_carry g_in_X5_carry g_se_X5_carry g_ml_RX5_60 (by decide) (rest := []) rfl rfl (Nat.le_of_ble_eq_true rfl) dX5_flow_19 (k_V fun h6 => ?_)
  exact V_vret (pc := 22) F (Or.inl rfl) dX5_flow_22
theorem C_X5_flow (x0 : Option Nat) (h : MH) : CtrM yX5_flow (WSm yX5_flow cX5_flow 1 none) 4 [vR x0] h (M_X5_flow x0 h) :=
  CtrM_of (by decide) (Nat.le_of_ble_eq_true rfl) (fun K F hm hi => vM_X5_flow F hm x0 h)
def B_X5_shine_71 (rc2 : Option Nat → Int32 → MH → Res) (x0 : Option Nat) (x1 : Int32) (h : MH) : Res := bnd (x1 + (1)) fun z21 => rc2 x0 z21 h
def B_X5_shine_2 (rc2 : Option Nat → Int32 → MH → Res) (x0 : Option Nat) (x1 : Int32) (h : MH) : Res := if (60 : Int32) ≤ x1 then (rtV h) else (gfR h x0 5 5 fun r1 => rdI h r1 21 x1 fun z2 => if z2 ≠ 0 then (B_X5_shine_71 rc2 x0 x1 h) else (gfR h x0 5 0 fun r3 => gfR h r3 1 0 fun r4 => rdI h r4 20 x1 fun z5 => gfR h x0 5 0 fun r6 => gfR h r6 1 0 fun r7 => gfR h x0 5 3 fun r8 => dvI x1 (10 : Int32) fun z9 => rdI h r8 20 z9 fun z10 => bnd (z5 + z10) fun z11 => bnd (if (0 : Int32) < z11 then z11 else (0 : Int32)) fun z12 => wrI h r7 20 x1 z12 fun h13 => gfI h13 x0 5 4 fun z14 => gfR h13 x0 5 0 fun r15 => gfR h13 r15 1 0 fun r16 => rdI h13 r16 20 x1 fun z17 => bnd (z17 - z5) fun z18 => bnd (z14 + z18) fun z19 => pfI h13 x0 5 4 z19 fun h20 => B_X5_shine_71 rc2 x0 x1 h20))
def L_X5_shine_2 : Nat → Option Nat → Int32 → MH → Res
  | 0 => fun _ _ _ => none
  | n + 1 => B_X5_shine_2 (L_X5_shine_2 n)
def M_X5_shine (x0 : Option Nat) (h : MH) : Res := L_X5_shine_2 fuel x0 (0 : Int32) h
theorem vB_X5_shine_71 {K : CT} (F : Fr K cX5_shine RX5 none [] 1 0) (hm : mxL K = 3) (rc2 : Option Nat → Int32 → MH → Res) (hrc2 : ∀ x0 x1 h, V K 2 [(0, vR x0), (1, vI x1)] [] h (rc2 x0 x1 h)) (x0 : Option Nat) (x1 : Int32) (h : MH) : V K 71 [(0, vR x0), (1, vI x1)] [] h (B_X5_shine_71 rc2 x0 x1 h) := by
  unfold B_X5_shine_71
  refine V_iinc (pc := 71) F (fun z21 => [(1, vI z21), (0, vR x0)]) dX5_shine_71 (lt_mx hm (by decide)) 1 rfl (dx := (1 : Int32)) (by decide) (fun _ => rfl) ?_
  intro z21
  refine V_goto (pc := 74) F 2 dX5_shine_74 (by decide) ?_
  refine V_sub [1, 0] (L' := [(0, vR x0), (1, vI z21)]) rfl ?_
  exact hrc2 x0 z21 h
theorem vB_X5_shine_2 {K : CT} (F : Fr K cX5_shine RX5 none [] 1 0) (hm : mxL K = 3) (rc2 : Option Nat → Int32 → MH → Res) (hrc2 : ∀ x0 x1 h, V K 2 [(0, vR x0), (1, vI x1)] [] h (rc2 x0 x1 h)) (x0 : Option Nat) (x1 : Int32) (h : MH) : V K 2 [(0, vR x0), (1, vI x1)] [] h (B_X5_shine_2 rc2 x0 x1 h) := by
  unfold B_X5_shine_2
  refine V_iload_n (pc := 2) F dX5_shine_2 1 rfl ?_
  refine V_bipush (pc := 3) F (x := (60 : Int32)) dX5_shine_3 (by decide) ?_
  refine V_icmp_ge (pc := 5) F 77 dX5_shine_5 (by decide) ?_ ?_
  · exact V_vret (pc := 77) F (Or.inl rfl) dX5_shine_77
  · refine V_aload_n (pc := 8) F dX5_shine_8 0 rfl ?_
    refine V_getR (pc := 9) F 5 5 (by decide) (by decide) rfl g_fl_RX5_30 dX5_shine_9 ?_
    intro r1
    refine V_iload_n (pc := 12) F dX5_shine_12 1 rfl ?_
    refine V_zald (pc := 13) F dX5_shine_13 ?_
    intro z2
    refine V_if_ne (pc := 14) F 71 dX5_shine_14 (by decide) ?_ ?_
    · exact vB_X5_shine_71 F hm rc2 hrc2 x0 x1 h
    · refine V_aload_n (pc := 17) F dX5_shine_17 0 rfl ?_
      refine V_getR (pc := 18) F 5 0 (by decide) (by decide) rfl g_fl_RX5_14 dX5_shine_18 ?_
      intro r3
      refine V_getR (pc := 21) F 1 0 (by decide) (by decide) rfl g_fl_RX5_41 dX5_shine_21 ?_
      intro r4
      refine V_iload_n (pc := 24) F dX5_shine_24 1 rfl ?_
      refine V_iald (pc := 25) F dX5_shine_25 ?_
      intro z5
      refine V_istore_n (pc := 26) F [(2, vI z5), (0, vR x0), (1, vI x1)] dX5_shine_26 (lt_mx hm (by decide)) rfl ?_
      refine V_aload_n (pc := 27) F dX5_shine_27 1 rfl ?_
      refine V_getR (pc := 28) F 5 0 (by decide) (by decide) rfl g_fl_RX5_14 dX5_shine_28 ?_
      intro r6
      refine V_getR (pc := 31) F 1 0 (by decide) (by decide) rfl g_fl_RX5_41 dX5_shine_31 ?_
      intro r7
      refine V_iload_n (pc := 34) F dX5_shine_34 2 rfl ?_
      refine V_iconst (pc := 35) F (x := (0 : Int32)) dX5_shine_35 (by decide) ?_
      refine V_iload_n (pc := 36) F dX5_shine_36 0 rfl ?_
      refine V_aload_n (pc := 37) F dX5_shine_37 1 rfl ?_
      refine V_getR (pc := 38) F 5 3 (by decide) (by decide) rfl g_fl_RX5_27 dX5_shine_38 ?_
      intro r8
      refine V_iload_n (pc := 41) F dX5_shine_41 2 rfl ?_
      refine V_bipush (pc := 42) F (x := (10 : Int32)) dX5_shine_42 (by decide) ?_
      refine V_idiv (pc := 44) F dX5_shine_44 ?_
      intro z9
      refine V_iald (pc := 45) F dX5_shine_45 ?_
      intro z10
      refine V_iadd (pc := 46) F dX5_shine_46 ?_
      intro z11
      refine V_mmax (pc := 47) F (by decide) g_ml_RX5_82 g_st_math_max g_ini_math g_cw_math_max (Nat.le_of_ble_eq_true rfl) dX5_shine_47 ?_
      intro z12
      refine V_iast (pc := 50) F dX5_shine_50 ?_
      intro h13
      refine V_aload_n (pc := 51) F dX5_shine_51 1 rfl ?_
      refine V_dup (pc := 52) F dX5_shine_52 rfl ?_
      refine V_getI (pc := 53) F 5 4 (by decide) (by decide) rfl g_fl_RX5_85 dX5_shine_53 ?_
      intro z14
      refine V_aload_n (pc := 56) F dX5_shine_56 1 rfl ?_
      refine V_getR (pc := 57) F 5 0 (by decide) (by decide) rfl g_fl_RX5_14 dX5_shine_57 ?_
      intro r15
      refine V_getR (pc := 60) F 1 0 (by decide) (by decide) rfl g_fl_RX5_41 dX5_shine_60 ?_
      intro r16
      refine V_iload_n (pc := 63) F dX5_shine_63 2 rfl ?_
      refine V_iald (pc := 64) F dX5_shine_64 ?_
      intro z17
      refine V_iload_n (pc := 65) F dX5_shine_65 0 rfl ?_
      refine V_isub (pc := 66) F dX5_shine_66 ?_
      intro z18
      refine V_iadd (pc := 67) F dX5_shine_67 ?_
      intro z19
      refine V_putI (pc := 68) F 5 4 (by decide) (by decide) rfl rfl g_fl_RX5_85 dX5_shine_68 ?_
      intro h20
      refine V_sub [1, 2] (L' := [(0, vR x0), (1, vI x1)]) rfl ?_
      exact vB_X5_shine_71 F hm rc2 hrc2 x0 x1 h20
theorem vL_X5_shine_2 {K : CT} (F : Fr K cX5_shine RX5 none [] 1 0) (hm : mxL K = 3) (n : Nat) : ∀ x0 x1 h, V K 2 [(0, vR x0), (1, vI x1)] [] h (L_X5_shine_2 n x0 x1 h) := by
  induction n with
  | zero => intros; exact V_none
  | succ n ih => intro x0 x1 h; exact vB_X5_shine_2 F hm _ ih x0 x1 h
theorem vM_X5_shine {K : CT} (F : Fr K cX5_shine RX5 none [] 1 0) (hm : mxL K = 3) (x0 : Option Nat) (h : MH) : V K 0 [(0, vR x0)] [] h (M_X5_shine x0 h) := by
  unfold M_X5_shine
  refine V_iconst (pc := 0) F (x := (0 : Int32)) dX5_shine_0 (by decide) ?_
  refine V_istore_n (pc := 1) F [(1, vI (0 : Int32)), (0, vR x0)] dX5_shine_1 (lt_mx hm (by decide)) rfl ?_
  refine V_sub [1, 0] (L' := [(0, vR x0), (1, vI (0 : Int32))]) rfl ?_
  exact vL_X5_shine_2 F hm fuel x0 (0 : Int32) h
theorem C_X5_shine (x0 : Option Nat) (h : MH) : CtrM yX5_shine (WSm yX5_shine cX5_shine 3 none) 1 [vR x0] h (M_X5_shine x0 h) :=
  CtrM_of (by decide) (Nat.le_of_ble_eq_true rfl) (fun K F hm hi => vM_X5_shine F hm x0 h)
def M_X5_share (x0 : Option Nat) (x1 : Option Nat) (x2 : Int32) (h : MH) : Res := aln h x0 fun z1 => calI (M_X8_isIndex x2 z1 h) fun z2 h3 => if z2 = 0 then (rtV h3) else (aln h3 x1 fun z4 => calI (M_X8_isIndex x2 z4 h3) fun z5 h6 => if z5 = 0 then (rtV h6) else (rdI h6 x0 20 x2 fun z7 => rdI h6 x1 20 x2 fun z8 => bnd (z7 + z8) fun z9 => dvI z9 (2 : Int32) fun z10 => wrI h6 x0 20 x2 z10 fun h11 => rdI h11 x0 20 x2 fun z12 => bnd (z9 - z12) fun z13 => wrI h11 x1 20 x2 z13 fun h14 => rtV h14))
theorem vM_X5_share {K : CT} (F : Fr K cX5_share RX5 none [] 1 0) (hm : mxL K = 4) (x0 : Option Nat) (x1 : Option Nat) (x2 : Int32) (h : MH) : V K 0 [(0, vR x0), (1, vR x1), (2, vI x2)] [] h (M_X5_share x0 x1 x2 h) := by
  unfold M_X5_share
  refine V_iload_n (pc := 0) F dX5_share_0 2 rfl ?_
  refine V_aload_n (pc := 1) F dX5_share_1 0 rfl ?_
  refine V_alen (pc := 2) F dX5_share_2 ?_
  intro z1
  refine V_cSN (pc := 3) F (as := [vI x2, vI z1]) (C_X8_isIndex x2 z1 h) w_X8_isIndex g_st_X8_isIndex (host := "GyreWatch") (by decide +kernel) (by decide) (rest := []) rfl rfl (Nat.le_of_ble_eq_true rfl) dX5_share_3 (k_I fun z2 h3 => ?_)
  refine V_if_eq (pc := 6) F 40 dX5_share_6 (by decide) ?_ ?_
  · exact V_vret (pc := 40) F (Or.inl rfl) dX5_share_40
  · refine V_iload_n (pc := 9) F dX5_share_9 2 rfl ?_
    refine V_aload_n (pc := 10) F dX5_share_10 1 rfl ?_
    refine V_alen (pc := 11) F dX5_share_11 ?_
    intro z4
    refine V_cSN (pc := 12) F (as := [vI x2, vI z4]) (C_X8_isIndex x2 z4 h3) w_X8_isIndex g_st_X8_isIndex (host := "GyreWatch") (by decide +kernel) (by decide) (rest := []) rfl rfl (Nat.le_of_ble_eq_true rfl) dX5_share_12 (k_I fun z5 h6 => ?_)
    refine V_if_eq (pc := 15) F 40 dX5_share_15 (by decide) ?_ ?_
    · exact V_vret (pc := 40) F (Or.inl rfl) dX5_share_40
    · refine V_aload_n (pc := 18) F dX5_share_18 0 rfl ?_
      refine V_iload_n (pc := 19) F dX5_share_19 2 rfl ?_
      refine V_iald (pc := 20) F dX5_share_20 ?_
      intro z7
      refine V_aload_n (pc := 21) F dX5_share_21 1 rfl ?_
      refine V_iload_n (pc := 22) F dX5_share_22 2 rfl ?_
      refine V_iald (pc := 23) F dX5_share_23 ?_
      intro z8
      refine V_iadd (pc := 24) F dX5_share_24 ?_
      intro z9
      refine V_istore_n (pc := 25) F [(3, vI z9), (0, vR x0), (1, vR x1), (2, vI x2)] dX5_share_25 (lt_mx hm (by decide)) rfl ?_
      refine V_aload_n (pc := 26) F dX5_share_26 1 rfl ?_
      refine V_iload_n (pc := 27) F dX5_share_27 3 rfl ?_
      refine V_iload_n (pc := 28) F dX5_share_28 0 rfl ?_
      refine V_iconst (pc := 29) F (x := (2 : Int32)) dX5_share_29 (by decide) ?_
      refine V_idiv (pc := 30) F dX5_share_30 ?_
      intro z10
      refine V_iast (pc := 31) F dX5_share_31 ?_
      intro h11
      refine V_aload_n (pc := 32) F dX5_share_32 2 rfl ?_
      refine V_iload_n (pc := 33) F dX5_share_33 3 rfl ?_
      refine V_iload_n (pc := 34) F dX5_share_34 0 rfl ?_
      refine V_aload_n (pc := 35) F dX5_share_35 1 rfl ?_
      refine V_iload_n (pc := 36) F dX5_share_36 3 rfl ?_
      refine V_iald (pc := 37) F dX5_share_37 ?_
      intro z12
      refine V_isub (pc := 38) F dX5_share_38 ?_
      intro z13
      refine V_iast (pc := 39) F dX5_share_39 ?_
      intro h14
      exact V_vret (pc := 40) F (Or.inl rfl) dX5_share_40
theorem C_X5_share (x0 : Option Nat) (x1 : Option Nat) (x2 : Int32) (h : MH) : CtrM yX5_share (WSm yX5_share cX5_share 4 none) 1 [vR x0, vR x1, vI x2] h (M_X5_share x0 x1 x2 h) :=
  CtrM_of (by decide) (Nat.le_of_ble_eq_true rfl) (fun K F hm hi => vM_X5_share F hm x0 x1 x2 h)
def B_X5_turnOver_63 (rc2 : Option Nat → Int32 → MH → Res) (x0 : Option Nat) (x1 : Int32) (h : MH) : Res := bnd (x1 + (1)) fun z17 => rc2 x0 z17 h
def B_X5_turnOver_2 (rc2 : Option Nat → Int32 → MH → Res) (x0 : Option Nat) (x1 : Int32) (h : MH) : Res := if (60 : Int32) ≤ x1 then (rtV h) else (gfR h x0 5 0 fun r1 => chk h r1 1 <| calI (M_X1_weightAt r1 x1 h) fun z2 h3 => gfR h3 x0 5 1 fun r4 => chk h3 r4 1 <| calI (M_X1_weightAt r4 x1 h3) fun z5 h6 => if z2 ≤ z5 then (B_X5_turnOver_63 rc2 x0 x1 h6) else (gfR h6 x0 5 0 fun r7 => gfR h6 r7 1 0 fun r8 => gfR h6 x0 5 1 fun r9 => gfR h6 r9 1 0 fun r10 => calV (M_X5_share r8 r10 x1 h6) fun h11 => gfR h11 x0 5 0 fun r12 => gfR h11 r12 1 1 fun r13 => gfR h11 x0 5 1 fun r14 => gfR h11 r14 1 1 fun r15 => calV (M_X5_share r13 r15 x1 h11) fun h16 => B_X5_turnOver_63 rc2 x0 x1 h16))
def L_X5_turnOver_2 : Nat → Option Nat → Int32 → MH → Res
  | 0 => fun _ _ _ => none
  | n + 1 => B_X5_turnOver_2 (L_X5_turnOver_2 n)
def M_X5_turnOver (x0 : Option Nat) (h : MH) : Res := L_X5_turnOver_2 fuel x0 (0 : Int32) h
theorem vB_X5_turnOver_63 {K : CT} (F : Fr K cX5_turnOver RX5 none [] 2 0) (hm : mxL K = 2) (rc2 : Option Nat → Int32 → MH → Res) (hrc2 : ∀ x0 x1 h, V K 2 [(0, vR x0), (1, vI x1)] [] h (rc2 x0 x1 h)) (x0 : Option Nat) (x1 : Int32) (h : MH) : V K 63 [(0, vR x0), (1, vI x1)] [] h (B_X5_turnOver_63 rc2 x0 x1 h) := by
  unfold B_X5_turnOver_63
  refine V_iinc (pc := 63) F (fun z17 => [(1, vI z17), (0, vR x0)]) dX5_turnOver_63 (lt_mx hm (by decide)) 1 rfl (dx := (1 : Int32)) (by decide) (fun _ => rfl) ?_
  intro z17
  refine V_goto (pc := 66) F 2 dX5_turnOver_66 (by decide) ?_
  refine V_sub [1, 0] (L' := [(0, vR x0), (1, vI z17)]) rfl ?_
  exact hrc2 x0 z17 h
theorem vB_X5_turnOver_2 {K : CT} (F : Fr K cX5_turnOver RX5 none [] 2 0) (hm : mxL K = 2) (rc2 : Option Nat → Int32 → MH → Res) (hrc2 : ∀ x0 x1 h, V K 2 [(0, vR x0), (1, vI x1)] [] h (rc2 x0 x1 h)) (x0 : Option Nat) (x1 : Int32) (h : MH) : V K 2 [(0, vR x0), (1, vI x1)] [] h (B_X5_turnOver_2 rc2 x0 x1 h) := by
  unfold B_X5_turnOver_2
  refine V_iload_n (pc := 2) F dX5_turnOver_2 1 rfl ?_
  refine V_bipush (pc := 3) F (x := (60 : Int32)) dX5_turnOver_3 (by decide) ?_
  refine V_icmp_ge (pc := 5) F 69 dX5_turnOver_5 (by decide) ?_ ?_
  · exact V_vret (pc := 69) F (Or.inl rfl) dX5_turnOver_69
  · refine V_aload_n (pc := 8) F dX5_turnOver_8 0 rfl ?_
    refine V_getR (pc := 9) F 5 0 (by decide) (by decide) rfl g_fl_RX5_14 dX5_turnOver_9 ?_
    intro r1
    refine V_iload_n (pc := 12) F dX5_turnOver_12 1 rfl ?_
    refine V_cVM (pc := 13) F 1 (by decide) (as := [vI x1]) (C_X1_weightAt r1 x1 h) w_X1_weightAt g_in_X1_weightAt g_se_X1_weightAt g_ml_RX5_88 (by decide) (rest := []) rfl rfl (Nat.le_of_ble_eq_true rfl) dX5_turnOver_13 (k_I fun z2 h3 => ?_)
    refine V_aload_n (pc := 16) F dX5_turnOver_16 0 rfl ?_
    refine V_getR (pc := 17) F 5 1 (by decide) (by decide) rfl g_fl_RX5_20 dX5_turnOver_17 ?_
    intro r4
    refine V_iload_n (pc := 20) F dX5_turnOver_20 1 rfl ?_
    refine V_cVM (pc := 21) F 1 (by decide) (as := [vI x1]) (C_X1_weightAt r4 x1 h3) w_X1_weightAt g_in_X1_weightAt g_se_X1_weightAt g_ml_RX5_88 (by decide) (rest := [vI z2]) rfl rfl (Nat.le_of_ble_eq_true rfl) dX5_turnOver_21 (k_I fun z5 h6 => ?_)
    refine V_icmp_le (pc := 24) F 63 dX5_turnOver_24 (by decide) ?_ ?_
    · exact vB_X5_turnOver_63 F hm rc2 hrc2 x0 x1 h6
    · refine V_aload_n (pc := 27) F dX5_turnOver_27 0 rfl ?_
      refine V_getR (pc := 28) F 5 0 (by decide) (by decide) rfl g_fl_RX5_14 dX5_turnOver_28 ?_
      intro r7
      refine V_getR (pc := 31) F 1 0 (by decide) (by decide) rfl g_fl_RX5_41 dX5_turnOver_31 ?_
      intro r8
      refine V_aload_n (pc := 34) F dX5_turnOver_34 0 rfl ?_
      refine V_getR (pc := 35) F 5 1 (by decide) (by decide) rfl g_fl_RX5_20 dX5_turnOver_35 ?_
      intro r9
      refine V_getR (pc := 38) F 1 0 (by decide) (by decide) rfl g_fl_RX5_41 dX5_turnOver_38 ?_
      intro r10
      refine V_iload_n (pc := 41) F dX5_turnOver_41 1 rfl ?_
      refine V_cSM (pc := 42) F (as := [vR r8, vR r10, vI x1]) (C_X5_share r8 r10 x1 h6) w_X5_share g_st_X5_share g_ml_RX5_91 (by decide) (rest := []) rfl rfl (Nat.le_of_ble_eq_true rfl) dX5_turnOver_42 (k_V fun h11 => ?_)
      refine V_aload_n (pc := 45) F dX5_turnOver_45 0 rfl ?_
      refine V_getR (pc := 46) F 5 0 (by decide) (by decide) rfl g_fl_RX5_14 dX5_turnOver_46 ?_
      intro r12
      refine V_getR (pc := 49) F 1 1 (by decide) (by decide) rfl g_fl_RX5_64 dX5_turnOver_49 ?_
      intro r13
      refine V_aload_n (pc := 52) F dX5_turnOver_52 0 rfl ?_
      refine V_getR (pc := 53) F 5 1 (by decide) (by decide) rfl g_fl_RX5_20 dX5_turnOver_53 ?_
      intro r14
      refine V_getR (pc := 56) F 1 1 (by decide) (by decide) rfl g_fl_RX5_64 dX5_turnOver_56 ?_
      intro r15
      refine V_iload_n (pc := 59) F dX5_turnOver_59 1 rfl ?_
      refine V_cSM (pc := 60) F (as := [vR r13, vR r15, vI x1]) (C_X5_share r13 r15 x1 h11) w_X5_share g_st_X5_share g_ml_RX5_91 (by decide) (rest := []) rfl rfl (Nat.le_of_ble_eq_true rfl) dX5_turnOver_60 (k_V fun h16 => ?_)
      exact vB_X5_turnOver_63 F hm rc2 hrc2 x0 x1 h16
theorem vL_X5_turnOver_2 {K : CT} (F : Fr K cX5_turnOver RX5 none [] 2 0) (hm : mxL K = 2) (n : Nat) : ∀ x0 x1 h, V K 2 [(0, vR x0), (1, vI x1)] [] h (L_X5_turnOver_2 n x0 x1 h) := by
  induction n with
  | zero => intros; exact V_none
  | succ n ih => intro x0 x1 h; exact vB_X5_turnOver_2 F hm _ ih x0 x1 h
theorem vM_X5_turnOver {K : CT} (F : Fr K cX5_turnOver RX5 none [] 2 0) (hm : mxL K = 2) (x0 : Option Nat) (h : MH) : V K 0 [(0, vR x0)] [] h (M_X5_turnOver x0 h) := by
  unfold M_X5_turnOver
  refine V_iconst (pc := 0) F (x := (0 : Int32)) dX5_turnOver_0 (by decide) ?_
  refine V_istore_n (pc := 1) F [(1, vI (0 : Int32)), (0, vR x0)] dX5_turnOver_1 (lt_mx hm (by decide)) rfl ?_
  refine V_sub [1, 0] (L' := [(0, vR x0), (1, vI (0 : Int32))]) rfl ?_
  exact vL_X5_turnOver_2 F hm fuel x0 (0 : Int32) h
theorem C_X5_turnOver (x0 : Option Nat) (h : MH) : CtrM yX5_turnOver (WSm yX5_turnOver cX5_turnOver 2 none) 2 [vR x0] h (M_X5_turnOver x0 h) :=
  CtrM_of (by decide) (Nat.le_of_ble_eq_true rfl) (fun K F hm hi => vM_X5_turnOver F hm x0 h)
def M_X5_upperHeat (x0 : Option Nat) (x1 : Int32) (h : MH) : Res := calI (M_X8_isCell x1 h) fun z1 h2 => if z1 = 0 then (rtI (0 : Int32) h2) else (gfR h2 x0 5 0 fun r3 => gfR h2 r3 1 0 fun r4 => rdI h2 r4 20 x1 fun z5 => rtI z5 h2)
theorem vM_X5_upperHeat {K : CT} (F : Fr K cX5_upperHeat RX5 (some .int) [] 1 0) (hm : mxL K = 2) (x0 : Option Nat) (x1 : Int32) (h : MH) : V K 0 [(0, vR x0), (1, vI x1)] [] h (M_X5_upperHeat x0 x1 h) := by
  unfold M_X5_upperHeat
  refine V_iload_n (pc := 0) F dX5_upperHeat_0 1 rfl ?_
  refine V_cSN (pc := 1) F (as := [vI x1]) (C_X8_isCell x1 h) w_X8_isCell g_st_X8_isCell (host := "GyreWatch") (by decide +kernel) (by decide) (rest := []) rfl rfl (Nat.le_of_ble_eq_true rfl) dX5_upperHeat_1 (k_I fun z1 h2 => ?_)
  refine V_if_eq (pc := 4) F 19 dX5_upperHeat_4 (by decide) ?_ ?_
  · refine V_iconst (pc := 19) F (x := (0 : Int32)) dX5_upperHeat_19 (by decide) ?_
    exact V_iret (pc := 20) F (Or.inl rfl) dX5_upperHeat_20
  · refine V_aload_n (pc := 7) F dX5_upperHeat_7 0 rfl ?_
    refine V_getR (pc := 8) F 5 0 (by decide) (by decide) rfl g_fl_RX5_14 dX5_upperHeat_8 ?_
    intro r3
    refine V_getR (pc := 11) F 1 0 (by decide) (by decide) rfl g_fl_RX5_41 dX5_upperHeat_11 ?_
    intro r4
    refine V_iload_n (pc := 14) F dX5_upperHeat_14 1 rfl ?_
    refine V_iald (pc := 15) F dX5_upperHeat_15 ?_
    intro z5
    refine V_goto (pc := 16) F 20 dX5_upperHeat_16 (by decide) ?_
    exact V_iret (pc := 20) F (Or.inl rfl) dX5_upperHeat_20
theorem C_X5_upperHeat (x0 : Option Nat) (x1 : Int32) (h : MH) : CtrM yX5_upperHeat (WSm yX5_upperHeat cX5_upperHeat 2 (some .int)) 1 [vR x0, vI x1] h (M_X5_upperHeat x0 x1 h) :=
  CtrM_of (by decide) (Nat.le_of_ble_eq_true rfl) (fun K F hm hi => vM_X5_upperHeat F hm x0 x1 h)
def M_X6_give (x0 : Option Nat) (x1 : Int32) (x2 : Int32) (x3 : Int32) (h : MH) : Res := calI (M_X8_isCell x1 h) fun z1 h2 => if z1 = 0 then (rtV h2) else (calI (M_X8_isCell x2 h2) fun z3 h4 => if z3 = 0 then (rtV h4) else (gfR h4 x0 6 1 fun r5 => rdI h4 r5 20 x1 fun z6 => bnd (z6 - x3) fun z7 => wrI h4 r5 20 x1 z7 fun h8 => gfR h8 x0 6 1 fun r9 => rdI h8 r9 20 x2 fun z10 => bnd (z10 + x3) fun z11 => wrI h8 r9 20 x2 z11 fun h12 => rtV h12))
theorem vM_X6_give {K : CT} (F : Fr K cX6_give RX6 none [] 1 0) (hm : mxL K = 4) (x0 : Option Nat) (x1 : Int32) (x2 : Int32) (x3 : Int32) (h : MH) : V K 0 [(0, vR x0), (1, vI x1), (2, vI x2), (3, vI x3)] [] h (M_X6_give x0 x1 x2 x3 h) := by
  unfold M_X6_give
  refine V_iload_n (pc := 0) F dX6_give_0 1 rfl ?_
  refine V_cSN (pc := 1) F (as := [vI x1]) (C_X8_isCell x1 h) w_X8_isCell g_st_X8_isCell (host := "GyreWatch") (by decide +kernel) (by decide) (rest := []) rfl rfl (Nat.le_of_ble_eq_true rfl) dX6_give_1 (k_I fun z1 h2 => ?_)
  refine V_if_eq (pc := 4) F 34 dX6_give_4 (by decide) ?_ ?_
  · exact V_vret (pc := 34) F (Or.inl rfl) dX6_give_34
  · refine V_iload_n (pc := 7) F dX6_give_7 2 rfl ?_
    refine V_cSN (pc := 8) F (as := [vI x2]) (C_X8_isCell x2 h2) w_X8_isCell g_st_X8_isCell (host := "GyreWatch") (by decide +kernel) (by decide) (rest := []) rfl rfl (Nat.le_of_ble_eq_true rfl) dX6_give_8 (k_I fun z3 h4 => ?_)
    refine V_if_eq (pc := 11) F 34 dX6_give_11 (by decide) ?_ ?_
    · exact V_vret (pc := 34) F (Or.inl rfl) dX6_give_34
    · refine V_aload_n (pc := 14) F dX6_give_14 0 rfl ?_
      refine V_getR (pc := 15) F 6 1 (by decide) (by decide) rfl g_fl_RX6_9 dX6_give_15 ?_
      intro r5
      refine V_iload_n (pc := 18) F dX6_give_18 1 rfl ?_
      refine V_dup2 (pc := 19) F dX6_give_19 rfl rfl ?_
      refine V_iald (pc := 20) F dX6_give_20 ?_
      intro z6
      refine V_iload_n (pc := 21) F dX6_give_21 3 rfl ?_
      refine V_isub (pc := 22) F dX6_give_22 ?_
      intro z7
      refine V_iast (pc := 23) F dX6_give_23 ?_
      intro h8
      refine V_aload_n (pc := 24) F dX6_give_24 0 rfl ?_
      refine V_getR (pc := 25) F 6 1 (by decide) (by decide) rfl g_fl_RX6_9 dX6_give_25 ?_
      intro r9
      refine V_iload_n (pc := 28) F dX6_give_28 2 rfl ?_
      refine V_dup2 (pc := 29) F dX6_give_29 rfl rfl ?_
      refine V_iald (pc := 30) F dX6_give_30 ?_
      intro z10
      refine V_iload_n (pc := 31) F dX6_give_31 3 rfl ?_
      refine V_iadd (pc := 32) F dX6_give_32 ?_
      intro z11
      refine V_iast (pc := 33) F dX6_give_33 ?_
      intro h12
      exact V_vret (pc := 34) F (Or.inl rfl) dX6_give_34
theorem C_X6_give (x0 : Option Nat) (x1 : Int32) (x2 : Int32) (x3 : Int32) (h : MH) : CtrM yX6_give (WSm yX6_give cX6_give 4 none) 1 [vR x0, vI x1, vI x2, vI x3] h (M_X6_give x0 x1 x2 x3 h) :=
  CtrM_of (by decide) (Nat.le_of_ble_eq_true rfl) (fun K F hm hi => vM_X6_give F hm x0 x1 x2 x3 h)
def B_X6_goOn_33 (rc17 : Option Nat → Option Nat → Int32 → MH → Res) (rc33 : Option Nat → Option Nat → Int32 → Int32 → Int32 → MH → Res) (x0 : Option Nat) (x1 : Option Nat) (x2 : Int32) (x3 : Int32) (x4 : Int32) (h : MH) : Res := if (4 : Int32) < x4 then (chk h x1 5 <| calI (M_X5_leadsTo x1 x2 h) fun z6 h7 => bnd ((4 : Int32) * x3) fun z8 => dvI z8 (10 : Int32) fun z9 => chk h7 x0 6 <| calV (M_X6_give x0 x2 z6 z9 h7) fun h10 => bnd (x2 + (1)) fun z11 => rc17 x0 x1 z11 h10) else (chk h x1 5 <| calI (M_X5_seaBeside x1 x2 x4 h) fun z12 h13 => dvI x3 (10 : Int32) fun z14 => chk h13 x0 6 <| calV (M_X6_give x0 x2 z12 z14 h13) fun h15 => bnd (x4 + (1)) fun z16 => rc33 x0 x1 x2 x3 z16 h15)
def L_X6_goOn_33 (rc17 : Option Nat → Option Nat → Int32 → MH → Res) : Nat → Option Nat → Option Nat → Int32 → Int32 → Int32 → MH → Res
  | 0 => fun _ _ _ _ _ _ => none
  | n + 1 => B_X6_goOn_33 rc17 (L_X6_goOn_33 rc17 n)
def B_X6_goOn_17 (rc17 : Option Nat → Option Nat → Int32 → MH → Res) (x0 : Option Nat) (x1 : Option Nat) (x2 : Int32) (h : MH) : Res := if (60 : Int32) ≤ x2 then (rtV h) else (gfR h x0 6 2 fun r4 => rdI h r4 20 x2 fun z5 => L_X6_goOn_33 rc17 fuel x0 x1 x2 z5 (1 : Int32) h)
def L_X6_goOn_17 : Nat → Option Nat → Option Nat → Int32 → MH → Res
  | 0 => fun _ _ _ _ => none
  | n + 1 => B_X6_goOn_17 (L_X6_goOn_17 n)
def M_X6_goOn (x0 : Option Nat) (x1 : Option Nat) (h : MH) : Res := gfR h x0 6 1 fun r1 => gfR h x0 6 2 fun r2 => cpI h r1 (0 : Int32) r2 (0 : Int32) (60 : Int32) fun h3 => L_X6_goOn_17 fuel x0 x1 (0 : Int32) h3
theorem vB_X6_goOn_33 {K : CT} (F : Fr K cX6_goOn RX6 none [] 3 0) (hm : mxL K = 5) (rc17 : Option Nat → Option Nat → Int32 → MH → Res) (hrc17 : ∀ x0 x1 x2 h, V K 17 [(0, vR x0), (1, vR x1), (2, vI x2)] [] h (rc17 x0 x1 x2 h)) (rc33 : Option Nat → Option Nat → Int32 → Int32 → Int32 → MH → Res) (hrc33 : ∀ x0 x1 x2 x3 x4 h, V K 33 [(0, vR x0), (1, vR x1), (2, vI x2), (3, vI x3), (4, vI x4)] [] h (rc33 x0 x1 x2 x3 x4 h)) (x0 : Option Nat) (x1 : Option Nat) (x2 : Int32) (x3 : Int32) (x4 : Int32) (h : MH) : V K 33 [(0, vR x0), (1, vR x1), (2, vI x2), (3, vI x3), (4, vI x4)] [] h (B_X6_goOn_33 rc17 rc33 x0 x1 x2 x3 x4 h) := by
  unfold B_X6_goOn_33
  refine V_iload (pc := 33) F dX6_goOn_33 4 rfl ?_
  refine V_iconst (pc := 35) F (x := (4 : Int32)) dX6_goOn_35 (by decide) ?_
  refine V_icmp_gt (pc := 36) F 61 dX6_goOn_36 (by decide) ?_ ?_
  · refine V_aload_n (pc := 61) F dX6_goOn_61 0 rfl ?_
    refine V_iload_n (pc := 62) F dX6_goOn_62 2 rfl ?_
    refine V_aload_n (pc := 63) F dX6_goOn_63 1 rfl ?_
    refine V_iload_n (pc := 64) F dX6_goOn_64 2 rfl ?_
    refine V_cVM (pc := 65) F 5 (by decide) (as := [vI x2]) (C_X5_leadsTo x1 x2 h) w_X5_leadsTo g_in_X5_leadsTo g_se_X5_leadsTo g_ml_RX6_42 (by decide) (rest := [vI x2, vR x0]) rfl rfl (Nat.le_of_ble_eq_true rfl) dX6_goOn_65 (k_I fun z6 h7 => ?_)
    refine V_iconst (pc := 68) F (x := (4 : Int32)) dX6_goOn_68 (by decide) ?_
    refine V_iload_n (pc := 69) F dX6_goOn_69 3 rfl ?_
    refine V_imul (pc := 70) F dX6_goOn_70 ?_
    intro z8
    refine V_bipush (pc := 71) F (x := (10 : Int32)) dX6_goOn_71 (by decide) ?_
    refine V_idiv (pc := 73) F dX6_goOn_73 ?_
    intro z9
    refine V_cVM (pc := 74) F 6 (by decide) (as := [vI x2, vI z6, vI z9]) (C_X6_give x0 x2 z6 z9 h7) w_X6_give g_in_X6_give g_se_X6_give g_ml_RX6_38 (by decide) (rest := []) rfl rfl (Nat.le_of_ble_eq_true rfl) dX6_goOn_74 (k_V fun h10 => ?_)
    refine V_iinc (pc := 77) F (fun z11 => [(2, vI z11), (0, vR x0), (1, vR x1), (3, vI x3), (4, vI x4)]) dX6_goOn_77 (lt_mx hm (by decide)) 2 rfl (dx := (1 : Int32)) (by decide) (fun _ => rfl) ?_
    intro z11
    refine V_goto (pc := 80) F 17 dX6_goOn_80 (by decide) ?_
    refine V_sub [1, 2, 0] (L' := [(0, vR x0), (1, vR x1), (2, vI z11)]) rfl ?_
    exact hrc17 x0 x1 z11 h10
  · refine V_aload_n (pc := 39) F dX6_goOn_39 0 rfl ?_
    refine V_iload_n (pc := 40) F dX6_goOn_40 2 rfl ?_
    refine V_aload_n (pc := 41) F dX6_goOn_41 1 rfl ?_
    refine V_iload_n (pc := 42) F dX6_goOn_42 2 rfl ?_
    refine V_iload (pc := 43) F dX6_goOn_43 4 rfl ?_
    refine V_cVM (pc := 45) F 5 (by decide) (as := [vI x2, vI x4]) (C_X5_seaBeside x1 x2 x4 h) w_X5_seaBeside g_in_X5_seaBeside g_se_X5_seaBeside g_ml_RX6_32 (by decide) (rest := [vI x2, vR x0]) rfl rfl (Nat.le_of_ble_eq_true rfl) dX6_goOn_45 (k_I fun z12 h13 => ?_)
    refine V_iload_n (pc := 48) F dX6_goOn_48 3 rfl ?_
    refine V_bipush (pc := 49) F (x := (10 : Int32)) dX6_goOn_49 (by decide) ?_
    refine V_idiv (pc := 51) F dX6_goOn_51 ?_
    intro z14
    refine V_cVM (pc := 52) F 6 (by decide) (as := [vI x2, vI z12, vI z14]) (C_X6_give x0 x2 z12 z14 h13) w_X6_give g_in_X6_give g_se_X6_give g_ml_RX6_38 (by decide) (rest := []) rfl rfl (Nat.le_of_ble_eq_true rfl) dX6_goOn_52 (k_V fun h15 => ?_)
    refine V_iinc (pc := 55) F (fun z16 => [(4, vI z16), (0, vR x0), (1, vR x1), (2, vI x2), (3, vI x3)]) dX6_goOn_55 (lt_mx hm (by decide)) 4 rfl (dx := (1 : Int32)) (by decide) (fun _ => rfl) ?_
    intro z16
    refine V_goto (pc := 58) F 33 dX6_goOn_58 (by decide) ?_
    refine V_sub [1, 2, 3, 4, 0] (L' := [(0, vR x0), (1, vR x1), (2, vI x2), (3, vI x3), (4, vI z16)]) rfl ?_
    exact hrc33 x0 x1 x2 x3 z16 h15
theorem vL_X6_goOn_33 {K : CT} (F : Fr K cX6_goOn RX6 none [] 3 0) (hm : mxL K = 5) (rc17 : Option Nat → Option Nat → Int32 → MH → Res) (hrc17 : ∀ x0 x1 x2 h, V K 17 [(0, vR x0), (1, vR x1), (2, vI x2)] [] h (rc17 x0 x1 x2 h)) (n : Nat) : ∀ x0 x1 x2 x3 x4 h, V K 33 [(0, vR x0), (1, vR x1), (2, vI x2), (3, vI x3), (4, vI x4)] [] h (L_X6_goOn_33 rc17 n x0 x1 x2 x3 x4 h) := by
  induction n with
  | zero => intros; exact V_none
  | succ n ih => intro x0 x1 x2 x3 x4 h; exact vB_X6_goOn_33 F hm rc17 hrc17 _ ih x0 x1 x2 x3 x4 h
theorem vB_X6_goOn_17 {K : CT} (F : Fr K cX6_goOn RX6 none [] 3 0) (hm : mxL K = 5) (rc17 : Option Nat → Option Nat → Int32 → MH → Res) (hrc17 : ∀ x0 x1 x2 h, V K 17 [(0, vR x0), (1, vR x1), (2, vI x2)] [] h (rc17 x0 x1 x2 h)) (x0 : Option Nat) (x1 : Option Nat) (x2 : Int32) (h : MH) : V K 17 [(0, vR x0), (1, vR x1), (2, vI x2)] [] h (B_X6_goOn_17 rc17 x0 x1 x2 h) := by
  unfold B_X6_goOn_17
  refine V_iload_n (pc := 17) F dX6_goOn_17 2 rfl ?_
  refine V_bipush (pc := 18) F (x := (60 : Int32)) dX6_goOn_18 (by decide) ?_
  refine V_icmp_ge (pc := 20) F 83 dX6_goOn_20 (by decide) ?_ ?_
  · exact V_vret (pc := 83) F (Or.inl rfl) dX6_goOn_83
  · refine V_aload_n (pc := 23) F dX6_goOn_23 0 rfl ?_
    refine V_getR (pc := 24) F 6 2 (by decide) (by decide) rfl g_fl_RX6_15 dX6_goOn_24 ?_
    intro r4
    refine V_iload_n (pc := 27) F dX6_goOn_27 2 rfl ?_
    refine V_iald (pc := 28) F dX6_goOn_28 ?_
    intro z5
    refine V_istore_n (pc := 29) F [(3, vI z5), (0, vR x0), (1, vR x1), (2, vI x2)] dX6_goOn_29 (lt_mx hm (by decide)) rfl ?_
    refine V_iconst (pc := 30) F (x := (1 : Int32)) dX6_goOn_30 (by decide) ?_
    refine V_istore (pc := 31) F [(4, vI (1 : Int32)), (3, vI z5), (0, vR x0), (1, vR x1), (2, vI x2)] dX6_goOn_31 (lt_mx hm (by decide)) rfl ?_
    refine V_sub [2, 3, 4, 1, 0] (L' := [(0, vR x0), (1, vR x1), (2, vI x2), (3, vI z5), (4, vI (1 : Int32))]) rfl ?_
    exact vL_X6_goOn_33 F hm rc17 hrc17 fuel x0 x1 x2 z5 (1 : Int32) h
theorem vL_X6_goOn_17 {K : CT} (F : Fr K cX6_goOn RX6 none [] 3 0) (hm : mxL K = 5) (n : Nat) : ∀ x0 x1 x2 h, V K 17 [(0, vR x0), (1, vR x1), (2, vI x2)] [] h (L_X6_goOn_17 n x0 x1 x2 h) := by
  induction n with
  | zero => intros; exact V_none
  | succ n ih => intro x0 x1 x2 h; exact vB_X6_goOn_17 F hm _ ih x0 x1 x2 h
theorem vM_X6_goOn {K : CT} (F : Fr K cX6_goOn RX6 none [] 3 0) (hm : mxL K = 5) (x0 : Option Nat) (x1 : Option Nat) (h : MH) : V K 0 [(0, vR x0), (1, vR x1)] [] h (M_X6_goOn x0 x1 h) := by
  unfold M_X6_goOn
  refine V_aload_n (pc := 0) F dX6_goOn_0 0 rfl ?_
  refine V_getR (pc := 1) F 6 1 (by decide) (by decide) rfl g_fl_RX6_9 dX6_goOn_1 ?_
  intro r1
  refine V_iconst (pc := 4) F (x := (0 : Int32)) dX6_goOn_4 (by decide) ?_
  refine V_aload_n (pc := 5) F dX6_goOn_5 0 rfl ?_
  refine V_getR (pc := 6) F 6 2 (by decide) (by decide) rfl g_fl_RX6_15 dX6_goOn_6 ?_
  intro r2
  refine V_iconst (pc := 9) F (x := (0 : Int32)) dX6_goOn_9 (by decide) ?_
  refine V_bipush (pc := 10) F (x := (60 : Int32)) dX6_goOn_10 (by decide) ?_
  refine V_cpI (pc := 12) F (by decide) g_ml_RX6_26 g_nat_cpy g_st_arraycopy g_ini_sys (Nat.le_of_ble_eq_true rfl) dX6_goOn_12 ?_
  intro h3
  refine V_iconst (pc := 15) F (x := (0 : Int32)) dX6_goOn_15 (by decide) ?_
  refine V_istore_n (pc := 16) F [(2, vI (0 : Int32)), (0, vR x0), (1, vR x1)] dX6_goOn_16 (lt_mx hm (by decide)) rfl ?_
  refine V_sub [1, 2, 0] (L' := [(0, vR x0), (1, vR x1), (2, vI (0 : Int32))]) rfl ?_
  exact vL_X6_goOn_17 F hm fuel x0 x1 (0 : Int32) h3
theorem C_X6_goOn (x0 : Option Nat) (x1 : Option Nat) (h : MH) : CtrM yX6_goOn (WSm yX6_goOn cX6_goOn 5 none) 3 [vR x0, vR x1] h (M_X6_goOn x0 x1 h) :=
  CtrM_of (by decide) (Nat.le_of_ble_eq_true rfl) (fun K F hm hi => vM_X6_goOn F hm x0 x1 h)
def B_X6_bestOf_21 (rc4 : Option Nat → Int32 → Int32 → MH → Res) (x0 : Option Nat) (x1 : Int32) (x2 : Int32) (h : MH) : Res := bnd (x2 + (1)) fun z4 => rc4 x0 x1 z4 h
def B_X6_bestOf_4 (rc4 : Option Nat → Int32 → Int32 → MH → Res) (x0 : Option Nat) (x1 : Int32) (x2 : Int32) (h : MH) : Res := aln h x0 fun z1 => if z1 ≤ x2 then (rtI x1 h) else (rdI h x0 20 x2 fun z2 => rdI h x0 20 x1 fun z3 => if z2 ≤ z3 then (B_X6_bestOf_21 rc4 x0 x1 x2 h) else (B_X6_bestOf_21 rc4 x0 x2 x2 h))
def L_X6_bestOf_4 : Nat → Option Nat → Int32 → Int32 → MH → Res
  | 0 => fun _ _ _ _ => none
  | n + 1 => B_X6_bestOf_4 (L_X6_bestOf_4 n)
def M_X6_bestOf (x0 : Option Nat) (h : MH) : Res := L_X6_bestOf_4 fuel x0 (0 : Int32) (1 : Int32) h
theorem vB_X6_bestOf_21 {K : CT} (F : Fr K cX6_bestOf RX6 (some .int) [] 0 0) (hm : mxL K = 3) (rc4 : Option Nat → Int32 → Int32 → MH → Res) (hrc4 : ∀ x0 x1 x2 h, V K 4 [(0, vR x0), (1, vI x1), (2, vI x2)] [] h (rc4 x0 x1 x2 h)) (x0 : Option Nat) (x1 : Int32) (x2 : Int32) (h : MH) : V K 21 [(0, vR x0), (1, vI x1), (2, vI x2)] [] h (B_X6_bestOf_21 rc4 x0 x1 x2 h) := by
  unfold B_X6_bestOf_21
  refine V_iinc (pc := 21) F (fun z4 => [(2, vI z4), (0, vR x0), (1, vI x1)]) dX6_bestOf_21 (lt_mx hm (by decide)) 2 rfl (dx := (1 : Int32)) (by decide) (fun _ => rfl) ?_
  intro z4
  refine V_goto (pc := 24) F 4 dX6_bestOf_24 (by decide) ?_
  refine V_sub [1, 2, 0] (L' := [(0, vR x0), (1, vI x1), (2, vI z4)]) rfl ?_
  exact hrc4 x0 x1 z4 h
theorem vB_X6_bestOf_4 {K : CT} (F : Fr K cX6_bestOf RX6 (some .int) [] 0 0) (hm : mxL K = 3) (rc4 : Option Nat → Int32 → Int32 → MH → Res) (hrc4 : ∀ x0 x1 x2 h, V K 4 [(0, vR x0), (1, vI x1), (2, vI x2)] [] h (rc4 x0 x1 x2 h)) (x0 : Option Nat) (x1 : Int32) (x2 : Int32) (h : MH) : V K 4 [(0, vR x0), (1, vI x1), (2, vI x2)] [] h (B_X6_bestOf_4 rc4 x0 x1 x2 h) := by
  unfold B_X6_bestOf_4
  refine V_iload_n (pc := 4) F dX6_bestOf_4 2 rfl ?_
  refine V_aload_n (pc := 5) F dX6_bestOf_5 0 rfl ?_
  refine V_alen (pc := 6) F dX6_bestOf_6 ?_
  intro z1
  refine V_icmp_ge (pc := 7) F 27 dX6_bestOf_7 (by decide) ?_ ?_
  · refine V_iload_n (pc := 27) F dX6_bestOf_27 1 rfl ?_
    exact V_iret (pc := 28) F (Or.inl rfl) dX6_bestOf_28
  · refine V_aload_n (pc := 10) F dX6_bestOf_10 0 rfl ?_
    refine V_iload_n (pc := 11) F dX6_bestOf_11 2 rfl ?_
    refine V_iald (pc := 12) F dX6_bestOf_12 ?_
    intro z2
    refine V_aload_n (pc := 13) F dX6_bestOf_13 0 rfl ?_
    refine V_iload_n (pc := 14) F dX6_bestOf_14 1 rfl ?_
    refine V_iald (pc := 15) F dX6_bestOf_15 ?_
    intro z3
    refine V_icmp_le (pc := 16) F 21 dX6_bestOf_16 (by decide) ?_ ?_
    · exact vB_X6_bestOf_21 F hm rc4 hrc4 x0 x1 x2 h
    · refine V_iload_n (pc := 19) F dX6_bestOf_19 2 rfl ?_
      refine V_istore_n (pc := 20) F [(1, vI x2), (0, vR x0), (2, vI x2)] dX6_bestOf_20 (lt_mx hm (by decide)) rfl ?_
      refine V_sub [1, 0, 2] (L' := [(0, vR x0), (1, vI x2), (2, vI x2)]) rfl ?_
      exact vB_X6_bestOf_21 F hm rc4 hrc4 x0 x2 x2 h
theorem vL_X6_bestOf_4 {K : CT} (F : Fr K cX6_bestOf RX6 (some .int) [] 0 0) (hm : mxL K = 3) (n : Nat) : ∀ x0 x1 x2 h, V K 4 [(0, vR x0), (1, vI x1), (2, vI x2)] [] h (L_X6_bestOf_4 n x0 x1 x2 h) := by
  induction n with
  | zero => intros; exact V_none
  | succ n ih => intro x0 x1 x2 h; exact vB_X6_bestOf_4 F hm _ ih x0 x1 x2 h
theorem vM_X6_bestOf {K : CT} (F : Fr K cX6_bestOf RX6 (some .int) [] 0 0) (hm : mxL K = 3) (x0 : Option Nat) (h : MH) : V K 0 [(0, vR x0)] [] h (M_X6_bestOf x0 h) := by
  unfold M_X6_bestOf
  refine V_iconst (pc := 0) F (x := (0 : Int32)) dX6_bestOf_0 (by decide) ?_
  refine V_istore_n (pc := 1) F [(1, vI (0 : Int32)), (0, vR x0)] dX6_bestOf_1 (lt_mx hm (by decide)) rfl ?_
  refine V_iconst (pc := 2) F (x := (1 : Int32)) dX6_bestOf_2 (by decide) ?_
  refine V_istore_n (pc := 3) F [(2, vI (1 : Int32)), (1, vI (0 : Int32)), (0, vR x0)] dX6_bestOf_3 (lt_mx hm (by decide)) rfl ?_
  refine V_sub [2, 1, 0] (L' := [(0, vR x0), (1, vI (0 : Int32)), (2, vI (1 : Int32))]) rfl ?_
  exact vL_X6_bestOf_4 F hm fuel x0 (0 : Int32) (1 : Int32) h
theorem C_X6_bestOf (x0 : Option Nat) (h : MH) : CtrM yX6_bestOf (WSm yX6_bestOf cX6_bestOf 3 (some .int)) 0 [vR x0] h (M_X6_bestOf x0 h) :=
  CtrM_of (by decide) (Nat.le_of_ble_eq_true rfl) (fun K F hm hi => vM_X6_bestOf F hm x0 h)
def B_X6_tryLegs_20 (rc20 : Option Nat → Int32 → Int32 → Int32 → Int32 → MH → Res) (x0 : Option Nat) (x1 : Int32) (x2 : Int32) (x3 : Int32) (x4 : Int32) (h : MH) : Res := if x1 ≤ x4 then (rtI x3 h) else (gfR h x0 6 2 fun r4 => gfR h x0 6 2 fun r5 => calI (M_X6_bestOf r5 h) fun z6 h7 => calI (M_X6_lookAt r4 z6 x2 h7) fun z8 h9 => bnd (x3 + z8) fun z10 => bnd (x4 + (1)) fun z11 => rc20 x0 x1 x2 z10 z11 h9)
def L_X6_tryLegs_20 : Nat → Option Nat → Int32 → Int32 → Int32 → Int32 → MH → Res
  | 0 => fun _ _ _ _ _ _ => none
  | n + 1 => B_X6_tryLegs_20 (L_X6_tryLegs_20 n)
def M_X6_tryLegs (x0 : Option Nat) (x1 : Int32) (x2 : Int32) (h : MH) : Res := gfR h x0 6 1 fun r1 => gfR h x0 6 2 fun r2 => cpI h r1 (0 : Int32) r2 (0 : Int32) (60 : Int32) fun h3 => L_X6_tryLegs_20 fuel x0 x1 x2 (0 : Int32) (0 : Int32) h3
theorem vB_X6_tryLegs_20 {K : CT} (F : Fr K cX6_tryLegs RX6 (some .int) [] 2 0) (hm : mxL K = 5) (rc20 : Option Nat → Int32 → Int32 → Int32 → Int32 → MH → Res) (hrc20 : ∀ x0 x1 x2 x3 x4 h, V K 20 [(0, vR x0), (1, vI x1), (2, vI x2), (3, vI x3), (4, vI x4)] [] h (rc20 x0 x1 x2 x3 x4 h)) (x0 : Option Nat) (x1 : Int32) (x2 : Int32) (x3 : Int32) (x4 : Int32) (h : MH) : V K 20 [(0, vR x0), (1, vI x1), (2, vI x2), (3, vI x3), (4, vI x4)] [] h (B_X6_tryLegs_20 rc20 x0 x1 x2 x3 x4 h) := by
  unfold B_X6_tryLegs_20
  refine V_iload (pc := 20) F dX6_tryLegs_20 4 rfl ?_
  refine V_iload_n (pc := 22) F dX6_tryLegs_22 1 rfl ?_
  refine V_icmp_ge (pc := 23) F 50 dX6_tryLegs_23 (by decide) ?_ ?_
  · refine V_iload_n (pc := 50) F dX6_tryLegs_50 3 rfl ?_
    exact V_iret (pc := 51) F (Or.inl rfl) dX6_tryLegs_51
  · refine V_iload_n (pc := 26) F dX6_tryLegs_26 3 rfl ?_
    refine V_aload_n (pc := 27) F dX6_tryLegs_27 0 rfl ?_
    refine V_getR (pc := 28) F 6 2 (by decide) (by decide) rfl g_fl_RX6_15 dX6_tryLegs_28 ?_
    intro r4
    refine V_aload_n (pc := 31) F dX6_tryLegs_31 0 rfl ?_
    refine V_getR (pc := 32) F 6 2 (by decide) (by decide) rfl g_fl_RX6_15 dX6_tryLegs_32 ?_
    intro r5
    refine V_cSM (pc := 35) F (as := [vR r5]) (C_X6_bestOf r5 h) w_X6_bestOf g_st_X6_bestOf g_ml_RX6_46 (by decide) (rest := [vR r4, vI x3]) rfl rfl (Nat.le_of_ble_eq_true rfl) dX6_tryLegs_35 (k_I fun z6 h7 => ?_)
    refine V_iload_n (pc := 38) F dX6_tryLegs_38 2 rfl ?_
    refine V_cSM (pc := 39) F (as := [vR r4, vI z6, vI x2]) (C_X6_lookAt r4 z6 x2 h7) w_X6_lookAt g_st_X6_lookAt g_ml_RX6_50 (by decide) (rest := [vI x3]) rfl rfl (Nat.le_of_ble_eq_true rfl) dX6_tryLegs_39 (k_I fun z8 h9 => ?_)
    refine V_iadd (pc := 42) F dX6_tryLegs_42 ?_
    intro z10
    refine V_istore_n (pc := 43) F [(3, vI z10), (0, vR x0), (1, vI x1), (2, vI x2), (4, vI x4)] dX6_tryLegs_43 (lt_mx hm (by decide)) rfl ?_
    refine V_iinc (pc := 44) F (fun z11 => [(4, vI z11), (3, vI z10), (0, vR x0), (1, vI x1), (2, vI x2)]) dX6_tryLegs_44 (lt_mx hm (by decide)) 4 rfl (dx := (1 : Int32)) (by decide) (fun _ => rfl) ?_
    intro z11
    refine V_goto (pc := 47) F 20 dX6_tryLegs_47 (by decide) ?_
    refine V_sub [2, 3, 4, 1, 0] (L' := [(0, vR x0), (1, vI x1), (2, vI x2), (3, vI z10), (4, vI z11)]) rfl ?_
    exact hrc20 x0 x1 x2 z10 z11 h9
theorem vL_X6_tryLegs_20 {K : CT} (F : Fr K cX6_tryLegs RX6 (some .int) [] 2 0) (hm : mxL K = 5) (n : Nat) : ∀ x0 x1 x2 x3 x4 h, V K 20 [(0, vR x0), (1, vI x1), (2, vI x2), (3, vI x3), (4, vI x4)] [] h (L_X6_tryLegs_20 n x0 x1 x2 x3 x4 h) := by
  induction n with
  | zero => intros; exact V_none
  | succ n ih => intro x0 x1 x2 x3 x4 h; exact vB_X6_tryLegs_20 F hm _ ih x0 x1 x2 x3 x4 h
theorem vM_X6_tryLegs {K : CT} (F : Fr K cX6_tryLegs RX6 (some .int) [] 2 0) (hm : mxL K = 5) (x0 : Option Nat) (x1 : Int32) (x2 : Int32) (h : MH) : V K 0 [(0, vR x0), (1, vI x1), (2, vI x2)] [] h (M_X6_tryLegs x0 x1 x2 h) := by
  unfold M_X6_tryLegs
  refine V_aload_n (pc := 0) F dX6_tryLegs_0 0 rfl ?_
  refine V_getR (pc := 1) F 6 1 (by decide) (by decide) rfl g_fl_RX6_9 dX6_tryLegs_1 ?_
  intro r1
  refine V_iconst (pc := 4) F (x := (0 : Int32)) dX6_tryLegs_4 (by decide) ?_
  refine V_aload_n (pc := 5) F dX6_tryLegs_5 0 rfl ?_
  refine V_getR (pc := 6) F 6 2 (by decide) (by decide) rfl g_fl_RX6_15 dX6_tryLegs_6 ?_
  intro r2
  refine V_iconst (pc := 9) F (x := (0 : Int32)) dX6_tryLegs_9 (by decide) ?_
  refine V_bipush (pc := 10) F (x := (60 : Int32)) dX6_tryLegs_10 (by decide) ?_
  refine V_cpI (pc := 12) F (by decide) g_ml_RX6_26 g_nat_cpy g_st_arraycopy g_ini_sys (Nat.le_of_ble_eq_true rfl) dX6_tryLegs_12 ?_
  intro h3
  refine V_iconst (pc := 15) F (x := (0 : Int32)) dX6_tryLegs_15 (by decide) ?_
  refine V_istore_n (pc := 16) F [(3, vI (0 : Int32)), (0, vR x0), (1, vI x1), (2, vI x2)] dX6_tryLegs_16 (lt_mx hm (by decide)) rfl ?_
  refine V_iconst (pc := 17) F (x := (0 : Int32)) dX6_tryLegs_17 (by decide) ?_
  refine V_istore (pc := 18) F [(4, vI (0 : Int32)), (3, vI (0 : Int32)), (0, vR x0), (1, vI x1), (2, vI x2)] dX6_tryLegs_18 (lt_mx hm (by decide)) rfl ?_
  refine V_sub [2, 3, 4, 1, 0] (L' := [(0, vR x0), (1, vI x1), (2, vI x2), (3, vI (0 : Int32)), (4, vI (0 : Int32))]) rfl ?_
  exact vL_X6_tryLegs_20 F hm fuel x0 x1 x2 (0 : Int32) (0 : Int32) h3
theorem C_X6_tryLegs (x0 : Option Nat) (x1 : Int32) (x2 : Int32) (h : MH) : CtrM yX6_tryLegs (WSm yX6_tryLegs cX6_tryLegs 5 (some .int)) 2 [vR x0, vI x1, vI x2] h (M_X6_tryLegs x0 x1 x2 h) :=
  CtrM_of (by decide) (Nat.le_of_ble_eq_true rfl) (fun K F hm hi => vM_X6_tryLegs F hm x0 x1 x2 h)
