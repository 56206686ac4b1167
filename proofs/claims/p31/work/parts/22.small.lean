def M_X1_init (x0 : Option Nat) (x1 : Int32) (x2 : Int32) (h : MH) : Res := nnl x0 <| nwA h 20 (60 : Int32) fun r1 h2 => pfR h2 x0 1 0 r1 fun h3 => nwA h3 20 (60 : Int32) fun r4 h5 => pfR h5 x0 1 1 r4 fun h6 => gfR h6 x0 1 0 fun r7 => calV (M_J7_fill_53178 r7 x1 h6) fun h8 => gfR h8 x0 1 1 fun r9 => calV (M_J7_fill_53178 r9 x2 h8) fun h10 => rtV h10
theorem vM_X1_init {K : CT} (F : Fr K cX1_init RX1 none [] 1 0) (hm : mxL K = 3) (hi : nmK K "<init>") (x0 : Option Nat) (x1 : Int32) (x2 : Int32) (h : MH) : V K 0 [(0, vR x0), (1, vI x1), (2, vI x2)] [] h (M_X1_init x0 x1 x2 h) := by
  unfold M_X1_init
  refine V_aload_n (pc := 0) F dX1_init_0 0 rfl ?_
  refine V_obj (pc := 1) F (by decide) g_ml_RX1_3 g_in_obj g_cw_obj (Nat.le_of_ble_eq_true rfl) dX1_init_1 ?_
  refine V_aload_n (pc := 4) F dX1_init_4 0 rfl ?_
  refine V_bipush (pc := 5) F (x := (60 : Int32)) dX1_init_5 (by decide) ?_
  refine V_newa (pc := 7) F 20 (by decide) g_arr_20 dX1_init_7 ?_
  intro r1 h2
  refine V_putRF (pc := 9) F hi 1 0 (by decide) (by decide) rfl rfl rfl g_fl_RX1_9 dX1_init_9 ?_
  intro h3
  refine V_aload_n (pc := 12) F dX1_init_12 0 rfl ?_
  refine V_bipush (pc := 13) F (x := (60 : Int32)) dX1_init_13 (by decide) ?_
  refine V_newa (pc := 15) F 20 (by decide) g_arr_20 dX1_init_15 ?_
  intro r4 h5
  refine V_putRF (pc := 17) F hi 1 1 (by decide) (by decide) rfl rfl rfl g_fl_RX1_15 dX1_init_17 ?_
  intro h6
  refine V_aload_n (pc := 20) F dX1_init_20 0 rfl ?_
  refine V_getR (pc := 21) F 1 0 (by decide) (by decide) rfl g_fl_RX1_9 dX1_init_21 ?_
  intro r7
  refine V_iload_n (pc := 24) F dX1_init_24 1 rfl ?_
  refine V_cSM (pc := 25) F (as := [vR r7, vI x1]) (C_J7_fill_53178 r7 x1 h6) w_J7_fill_53178 g_st_J7_fill_53178 g_ml_RX1_18 (by decide) (rest := []) rfl rfl (Nat.le_of_ble_eq_true rfl) dX1_init_25 (k_V fun h8 => ?_)
  refine V_aload_n (pc := 28) F dX1_init_28 0 rfl ?_
  refine V_getR (pc := 29) F 1 1 (by decide) (by decide) rfl g_fl_RX1_15 dX1_init_29 ?_
  intro r9
  refine V_iload_n (pc := 32) F dX1_init_32 2 rfl ?_
  refine V_cSM (pc := 33) F (as := [vR r9, vI x2]) (C_J7_fill_53178 r9 x2 h8) w_J7_fill_53178 g_st_J7_fill_53178 g_ml_RX1_18 (by decide) (rest := []) rfl rfl (Nat.le_of_ble_eq_true rfl) dX1_init_33 (k_V fun h10 => ?_)
  exact V_vret (pc := 36) F (Or.inl rfl) dX1_init_36
theorem C_X1_init (x0 : Option Nat) (x1 : Int32) (x2 : Int32) (h : MH) : CtrM yX1_init (WSm yX1_init cX1_init 3 none) 1 [vR x0, vI x1, vI x2] h (M_X1_init x0 x1 x2 h) :=
  CtrM_of (by decide) (Nat.le_of_ble_eq_true rfl) (fun K F hm hi => vM_X1_init F hm hi x0 x1 x2 h)
def M_X8_isCell (x0 : Int32) (h : MH) : Res := if x0 < 0 then (rtZ (0 : Int32) h) else (if (60 : Int32) ≤ x0 then (rtZ (0 : Int32) h) else (rtZ (1 : Int32) h))
theorem vM_X8_isCell {K : CT} (F : Fr K cX8_isCell RX8 (some .boolean) [] 0 0) (hm : mxL K = 1) (x0 : Int32) (h : MH) : V K 0 [(0, vI x0)] [] h (M_X8_isCell x0 h) := by
  unfold M_X8_isCell
  refine V_iload_n (pc := 0) F dX8_isCell_0 0 rfl ?_
  refine V_if_lt (pc := 1) F 14 dX8_isCell_1 (by decide) ?_ ?_
  · refine V_iconst (pc := 14) F (x := (0 : Int32)) dX8_isCell_14 (by decide) ?_
    exact V_zret (pc := 15) F (Or.inl rfl) dX8_isCell_15
  · refine V_iload_n (pc := 4) F dX8_isCell_4 0 rfl ?_
    refine V_bipush (pc := 5) F (x := (60 : Int32)) dX8_isCell_5 (by decide) ?_
    refine V_icmp_ge (pc := 7) F 14 dX8_isCell_7 (by decide) ?_ ?_
    · refine V_iconst (pc := 14) F (x := (0 : Int32)) dX8_isCell_14 (by decide) ?_
      exact V_zret (pc := 15) F (Or.inl rfl) dX8_isCell_15
    · refine V_iconst (pc := 10) F (x := (1 : Int32)) dX8_isCell_10 (by decide) ?_
      refine V_goto (pc := 11) F 15 dX8_isCell_11 (by decide) ?_
      exact V_zret (pc := 15) F (Or.inl rfl) dX8_isCell_15
theorem C_X8_isCell (x0 : Int32) (h : MH) : CtrM yX8_isCell (WSm yX8_isCell cX8_isCell 1 (some .boolean)) 0 [vI x0] h (M_X8_isCell x0 h) :=
  CtrM_of (by decide) (Nat.le_of_ble_eq_true rfl) (fun K F hm hi => vM_X8_isCell F hm x0 h)
def M_X8_isIndex (x0 : Int32) (x1 : Int32) (h : MH) : Res := if x0 < 0 then (rtZ (0 : Int32) h) else (if x1 ≤ x0 then (rtZ (0 : Int32) h) else (rtZ (1 : Int32) h))
theorem vM_X8_isIndex {K : CT} (F : Fr K cX8_isIndex RX8 (some .boolean) [] 0 0) (hm : mxL K = 2) (x0 : Int32) (x1 : Int32) (h : MH) : V K 0 [(0, vI x0), (1, vI x1)] [] h (M_X8_isIndex x0 x1 h) := by
  unfold M_X8_isIndex
  refine V_iload_n (pc := 0) F dX8_isIndex_0 0 rfl ?_
  refine V_if_lt (pc := 1) F 13 dX8_isIndex_1 (by decide) ?_ ?_
  · refine V_iconst (pc := 13) F (x := (0 : Int32)) dX8_isIndex_13 (by decide) ?_
    exact V_zret (pc := 14) F (Or.inl rfl) dX8_isIndex_14
  · refine V_iload_n (pc := 4) F dX8_isIndex_4 0 rfl ?_
    refine V_iload_n (pc := 5) F dX8_isIndex_5 1 rfl ?_
    refine V_icmp_ge (pc := 6) F 13 dX8_isIndex_6 (by decide) ?_ ?_
    · refine V_iconst (pc := 13) F (x := (0 : Int32)) dX8_isIndex_13 (by decide) ?_
      exact V_zret (pc := 14) F (Or.inl rfl) dX8_isIndex_14
    · refine V_iconst (pc := 9) F (x := (1 : Int32)) dX8_isIndex_9 (by decide) ?_
      refine V_goto (pc := 10) F 14 dX8_isIndex_10 (by decide) ?_
      exact V_zret (pc := 14) F (Or.inl rfl) dX8_isIndex_14
theorem C_X8_isIndex (x0 : Int32) (x1 : Int32) (h : MH) : CtrM yX8_isIndex (WSm yX8_isIndex cX8_isIndex 2 (some .boolean)) 0 [vI x0, vI x1] h (M_X8_isIndex x0 x1 h) :=
  CtrM_of (by decide) (Nat.le_of_ble_eq_true rfl) (fun K F hm hi => vM_X8_isIndex F hm x0 x1 h)
def M_X1_emptyAt (x0 : Option Nat) (x1 : Int32) (h : MH) : Res := calI (M_X8_isCell x1 h) fun z1 h2 => if z1 = 0 then (rtV h2) else (gfR h2 x0 1 0 fun r3 => wrI h2 r3 20 x1 (0 : Int32) fun h4 => gfR h4 x0 1 1 fun r5 => wrI h4 r5 20 x1 (0 : Int32) fun h6 => rtV h6)
theorem vM_X1_emptyAt {K : CT} (F : Fr K cX1_emptyAt RX1 none [] 1 0) (hm : mxL K = 2) (x0 : Option Nat) (x1 : Int32) (h : MH) : V K 0 [(0, vR x0), (1, vI x1)] [] h (M_X1_emptyAt x0 x1 h) := by
  unfold M_X1_emptyAt
  refine V_iload_n (pc := 0) F dX1_emptyAt_0 1 rfl ?_
  refine V_cSN (pc := 1) F (as := [vI x1]) (C_X8_isCell x1 h) w_X8_isCell g_st_X8_isCell (host := "GyreWatch") (by decide +kernel) (by decide) (rest := []) rfl rfl (Nat.le_of_ble_eq_true rfl) dX1_emptyAt_1 (k_I fun z1 h2 => ?_)
  refine V_if_eq (pc := 4) F 21 dX1_emptyAt_4 (by decide) ?_ ?_
  · exact V_vret (pc := 21) F (Or.inl rfl) dX1_emptyAt_21
  · refine V_aload_n (pc := 7) F dX1_emptyAt_7 0 rfl ?_
    refine V_getR (pc := 8) F 1 0 (by decide) (by decide) rfl g_fl_RX1_9 dX1_emptyAt_8 ?_
    intro r3
    refine V_iload_n (pc := 11) F dX1_emptyAt_11 1 rfl ?_
    refine V_iconst (pc := 12) F (x := (0 : Int32)) dX1_emptyAt_12 (by decide) ?_
    refine V_iast (pc := 13) F dX1_emptyAt_13 ?_
    intro h4
    refine V_aload_n (pc := 14) F dX1_emptyAt_14 0 rfl ?_
    refine V_getR (pc := 15) F 1 1 (by decide) (by decide) rfl g_fl_RX1_15 dX1_emptyAt_15 ?_
    intro r5
    refine V_iload_n (pc := 18) F dX1_emptyAt_18 1 rfl ?_
    refine V_iconst (pc := 19) F (x := (0 : Int32)) dX1_emptyAt_19 (by decide) ?_
    refine V_iast (pc := 20) F dX1_emptyAt_20 ?_
    intro h6
    exact V_vret (pc := 21) F (Or.inl rfl) dX1_emptyAt_21
theorem C_X1_emptyAt (x0 : Option Nat) (x1 : Int32) (h : MH) : CtrM yX1_emptyAt (WSm yX1_emptyAt cX1_emptyAt 2 none) 1 [vR x0, vI x1] h (M_X1_emptyAt x0 x1 h) :=
  CtrM_of (by decide) (Nat.le_of_ble_eq_true rfl) (fun K F hm hi => vM_X1_emptyAt F hm x0 x1 h)
def M_X4_daysFrom (x0 : Option Nat) (x1 : Int32) (h : MH) : Res := gfI h x0 4 0 fun z1 => bnd (z1 - x1) fun z2 => bnd (if 0 ≤ z2 then z2 else 0 - z2) fun z3 => rtI z3 h
theorem vM_X4_daysFrom {K : CT} (F : Fr K cX4_daysFrom RX4 (some .int) [] 1 0) (hm : mxL K = 2) (x0 : Option Nat) (x1 : Int32) (h : MH) : V K 0 [(0, vR x0), (1, vI x1)] [] h (M_X4_daysFrom x0 x1 h) := by
  unfold M_X4_daysFrom
  refine V_aload_n (pc := 0) F dX4_daysFrom_0 0 rfl ?_
  refine V_getI (pc := 1) F 4 0 (by decide) (by decide) rfl g_fl_RX4_15 dX4_daysFrom_1 ?_
  intro z1
  refine V_iload_n (pc := 4) F dX4_daysFrom_4 1 rfl ?_
  refine V_isub (pc := 5) F dX4_daysFrom_5 ?_
  intro z2
  refine V_mabs (pc := 6) F (by decide) g_ml_RX4_48 g_st_math_abs g_ini_math g_cw_math_abs (Nat.le_of_ble_eq_true rfl) dX4_daysFrom_6 ?_
  intro z3
  exact V_iret (pc := 9) F (Or.inl rfl) dX4_daysFrom_9
theorem C_X4_daysFrom (x0 : Option Nat) (x1 : Int32) (h : MH) : CtrM yX4_daysFrom (WSm yX4_daysFrom cX4_daysFrom 2 (some .int)) 1 [vR x0, vI x1] h (M_X4_daysFrom x0 x1 h) :=
  CtrM_of (by decide) (Nat.le_of_ble_eq_true rfl) (fun K F hm hi => vM_X4_daysFrom F hm x0 x1 h)
def M_X0_init (x0 : Option Nat) (x1 : Int32) (x2 : Int32) (x3 : Int32) (x4 : Int32) (x5 : Int32) (h : MH) : Res := nnl x0 <| pfI h x0 0 0 x1 fun h1 => pfI h1 x0 0 3 x2 fun h2 => pfI h2 x0 0 1 x3 fun h3 => pfI h3 x0 0 4 x3 fun h4 => pfI h4 x0 0 5 x4 fun h5 => pfI h5 x0 0 2 x5 fun h6 => rtV h6
theorem vM_X0_init {K : CT} (F : Fr K cX0_init RX0 none [] 1 0) (hm : mxL K = 6) (hi : nmK K "<init>") (x0 : Option Nat) (x1 : Int32) (x2 : Int32) (x3 : Int32) (x4 : Int32) (x5 : Int32) (h : MH) : V K 0 [(0, vR x0), (1, vI x1), (2, vI x2), (3, vI x3), (4, vI x4), (5, vI x5)] [] h (M_X0_init x0 x1 x2 x3 x4 x5 h) := by
  unfold M_X0_init
  refine V_aload_n (pc := 0) F dX0_init_0 0 rfl ?_
  refine V_obj (pc := 1) F (by decide) g_ml_RX0_1 g_in_obj g_cw_obj (Nat.le_of_ble_eq_true rfl) dX0_init_1 ?_
  refine V_aload_n (pc := 4) F dX0_init_4 0 rfl ?_
  refine V_iload_n (pc := 5) F dX0_init_5 1 rfl ?_
  refine V_putIF (pc := 6) F hi 0 0 (by decide) (by decide) rfl rfl rfl g_fl_RX0_7 dX0_init_6 ?_
  intro h1
  refine V_aload_n (pc := 9) F dX0_init_9 0 rfl ?_
  refine V_iload_n (pc := 10) F dX0_init_10 2 rfl ?_
  refine V_putI (pc := 11) F 0 3 (by decide) (by decide) rfl rfl g_fl_RX0_13 dX0_init_11 ?_
  intro h2
  refine V_aload_n (pc := 14) F dX0_init_14 0 rfl ?_
  refine V_iload_n (pc := 15) F dX0_init_15 3 rfl ?_
  refine V_putIF (pc := 16) F hi 0 1 (by decide) (by decide) rfl rfl rfl g_fl_RX0_16 dX0_init_16 ?_
  intro h3
  refine V_aload_n (pc := 19) F dX0_init_19 0 rfl ?_
  refine V_iload_n (pc := 20) F dX0_init_20 3 rfl ?_
  refine V_putI (pc := 21) F 0 4 (by decide) (by decide) rfl rfl g_fl_RX0_19 dX0_init_21 ?_
  intro h4
  refine V_aload_n (pc := 24) F dX0_init_24 0 rfl ?_
  refine V_iload (pc := 25) F dX0_init_25 4 rfl ?_
  refine V_putI (pc := 27) F 0 5 (by decide) (by decide) rfl rfl g_fl_RX0_22 dX0_init_27 ?_
  intro h5
  refine V_aload_n (pc := 30) F dX0_init_30 0 rfl ?_
  refine V_iload (pc := 31) F dX0_init_31 5 rfl ?_
  refine V_putIF (pc := 33) F hi 0 2 (by decide) (by decide) rfl rfl rfl g_fl_RX0_25 dX0_init_33 ?_
  intro h6
  exact V_vret (pc := 36) F (Or.inl rfl) dX0_init_36
theorem C_X0_init (x0 : Option Nat) (x1 : Int32) (x2 : Int32) (x3 : Int32) (x4 : Int32) (x5 : Int32) (h : MH) : CtrM yX0_init (WSm yX0_init cX0_init 6 none) 1 [vR x0, vI x1, vI x2, vI x3, vI x4, vI x5] h (M_X0_init x0 x1 x2 x3 x4 x5 h) :=
  CtrM_of (by decide) (Nat.le_of_ble_eq_true rfl) (fun K F hm hi => vM_X0_init F hm hi x0 x1 x2 x3 x4 x5 h)
def M_X4_corrected (x0 : Option Nat) (h : MH) : Res := gfR h x0 4 3 fun r1 => if r1 ≠ none then (gfI h x0 4 2 fun z2 => gfR h x0 4 3 fun r3 => gfI h r3 0 6 fun z4 => bnd (z2 - z4) fun z5 => rtI z5 h) else (gfI h x0 4 2 fun z6 => rtI z6 h)
theorem vM_X4_corrected {K : CT} (F : Fr K cX4_corrected RX4 (some .int) [] 0 0) (hm : mxL K = 1) (x0 : Option Nat) (h : MH) : V K 0 [(0, vR x0)] [] h (M_X4_corrected x0 h) := by
  unfold M_X4_corrected
  refine V_aload_n (pc := 0) F dX4_corrected_0 0 rfl ?_
  refine V_getR (pc := 1) F 4 3 (by decide) (by decide) rfl g_fl_RX4_24 dX4_corrected_1 ?_
  intro r1
  refine V_ifnonnull (pc := 4) F 14 dX4_corrected_4 (by decide) ?_ ?_
  · refine V_aload_n (pc := 14) F dX4_corrected_14 0 rfl ?_
    refine V_getI (pc := 15) F 4 2 (by decide) (by decide) rfl g_fl_RX4_21 dX4_corrected_15 ?_
    intro z2
    refine V_aload_n (pc := 18) F dX4_corrected_18 0 rfl ?_
    refine V_getR (pc := 19) F 4 3 (by decide) (by decide) rfl g_fl_RX4_24 dX4_corrected_19 ?_
    intro r3
    refine V_getI (pc := 22) F 0 6 (by decide) (by decide) rfl g_fl_RX4_28 dX4_corrected_22 ?_
    intro z4
    refine V_isub (pc := 25) F dX4_corrected_25 ?_
    intro z5
    exact V_iret (pc := 26) F (Or.inl rfl) dX4_corrected_26
  · refine V_aload_n (pc := 7) F dX4_corrected_7 0 rfl ?_
    refine V_getI (pc := 8) F 4 2 (by decide) (by decide) rfl g_fl_RX4_21 dX4_corrected_8 ?_
    intro z6
    refine V_goto (pc := 11) F 26 dX4_corrected_11 (by decide) ?_
    exact V_iret (pc := 26) F (Or.inl rfl) dX4_corrected_26
theorem C_X4_corrected (x0 : Option Nat) (h : MH) : CtrM yX4_corrected (WSm yX4_corrected cX4_corrected 1 (some .int)) 0 [vR x0] h (M_X4_corrected x0 h) :=
  CtrM_of (by decide) (Nat.le_of_ble_eq_true rfl) (fun K F hm hi => vM_X4_corrected F hm x0 h)
def B_X4_isSpike_64 (h : MH) : Res := rtZ (1 : Int32) h
def B_X4_isSpike_52 (x1 : Int32) (x2 : Int32) (x3 : Int32) (h : MH) : Res := bnd (-x1) fun z15 => if z15 ≤ x2 then (rtZ (0 : Int32) h) else (bnd (-x1) fun z16 => if z16 ≤ x3 then (rtZ (0 : Int32) h) else (B_X4_isSpike_64 h))
def M_X4_isSpike (x0 : Option Nat) (x1 : Int32) (h : MH) : Res := gfR h x0 4 5 fun r1 => if r1 = none then (rtZ (0 : Int32) h) else (gfR h x0 4 6 fun r2 => if r2 ≠ none then (chk h x0 4 <| calI (M_X4_corrected x0 h) fun z3 h4 => gfR h4 x0 4 5 fun r5 => chk h4 r5 4 <| calI (M_X4_corrected r5 h4) fun z6 h7 => bnd (z3 - z6) fun z8 => chk h7 x0 4 <| calI (M_X4_corrected x0 h7) fun z9 h10 => gfR h10 x0 4 6 fun r11 => chk h10 r11 4 <| calI (M_X4_corrected r11 h10) fun z12 h13 => bnd (z9 - z12) fun z14 => if z8 ≤ x1 then (B_X4_isSpike_52 x1 z8 z14 h13) else (if x1 < z14 then (B_X4_isSpike_64 h13) else (B_X4_isSpike_52 x1 z8 z14 h13))) else (rtZ (0 : Int32) h))
theorem vB_X4_isSpike_64 {K : CT} (F : Fr K cX4_isSpike RX4 (some .boolean) [] 1 0) (hm : mxL K = 4) (h : MH) : V K 64 [] [] h (B_X4_isSpike_64 h) := by
  unfold B_X4_isSpike_64
  refine V_iconst (pc := 64) F (x := (1 : Int32)) dX4_isSpike_64 (by decide) ?_
  refine V_goto (pc := 65) F 69 dX4_isSpike_65 (by decide) ?_
  exact V_zret (pc := 69) F (Or.inl rfl) dX4_isSpike_69
theorem vB_X4_isSpike_52 {K : CT} (F : Fr K cX4_isSpike RX4 (some .boolean) [] 1 0) (hm : mxL K = 4) (x1 : Int32) (x2 : Int32) (x3 : Int32) (h : MH) : V K 52 [(1, vI x1), (2, vI x2), (3, vI x3)] [] h (B_X4_isSpike_52 x1 x2 x3 h) := by
  unfold B_X4_isSpike_52
  refine V_iload_n (pc := 52) F dX4_isSpike_52 1 rfl ?_
  refine V_iload_n (pc := 53) F dX4_isSpike_53 0 rfl ?_
  refine V_ineg (pc := 54) F dX4_isSpike_54 ?_
  intro z15
  refine V_icmp_ge (pc := 55) F 68 dX4_isSpike_55 (by decide) ?_ ?_
  · refine V_iconst (pc := 68) F (x := (0 : Int32)) dX4_isSpike_68 (by decide) ?_
    exact V_zret (pc := 69) F (Or.inl rfl) dX4_isSpike_69
  · refine V_iload_n (pc := 58) F dX4_isSpike_58 2 rfl ?_
    refine V_iload_n (pc := 59) F dX4_isSpike_59 0 rfl ?_
    refine V_ineg (pc := 60) F dX4_isSpike_60 ?_
    intro z16
    refine V_icmp_ge (pc := 61) F 68 dX4_isSpike_61 (by decide) ?_ ?_
    · refine V_iconst (pc := 68) F (x := (0 : Int32)) dX4_isSpike_68 (by decide) ?_
      exact V_zret (pc := 69) F (Or.inl rfl) dX4_isSpike_69
    · refine V_sub [] (L' := []) rfl ?_
      exact vB_X4_isSpike_64 F hm h
theorem vM_X4_isSpike {K : CT} (F : Fr K cX4_isSpike RX4 (some .boolean) [] 1 0) (hm : mxL K = 4) (x0 : Option Nat) (x1 : Int32) (h : MH) : V K 0 [(0, vR x0), (1, vI x1)] [] h (M_X4_isSpike x0 x1 h) := by
  unfold M_X4_isSpike
  refine V_aload_n (pc := 0) F dX4_isSpike_0 0 rfl ?_
  refine V_getR (pc := 1) F 4 5 (by decide) (by decide) rfl g_fl_RX4_37 dX4_isSpike_1 ?_
  intro r1
  refine V_ifnull (pc := 4) F 14 dX4_isSpike_4 (by decide) ?_ ?_
  · refine V_iconst (pc := 14) F (x := (0 : Int32)) dX4_isSpike_14 (by decide) ?_
    exact V_zret (pc := 15) F (Or.inl rfl) dX4_isSpike_15
  · refine V_aload_n (pc := 7) F dX4_isSpike_7 0 rfl ?_
    refine V_getR (pc := 8) F 4 6 (by decide) (by decide) rfl g_fl_RX4_41 dX4_isSpike_8 ?_
    intro r2
    refine V_ifnonnull (pc := 11) F 16 dX4_isSpike_11 (by decide) ?_ ?_
    · refine V_aload_n (pc := 16) F dX4_isSpike_16 0 rfl ?_
      refine V_cVM (pc := 17) F 4 (by decide) (as := []) (C_X4_corrected x0 h) w_X4_corrected g_in_X4_corrected g_se_X4_corrected g_ml_RX4_44 (by decide) (rest := []) rfl rfl (Nat.le_of_ble_eq_true rfl) dX4_isSpike_17 (k_I fun z3 h4 => ?_)
      refine V_aload_n (pc := 20) F dX4_isSpike_20 0 rfl ?_
      refine V_getR (pc := 21) F 4 5 (by decide) (by decide) rfl g_fl_RX4_37 dX4_isSpike_21 ?_
      intro r5
      refine V_cVM (pc := 24) F 4 (by decide) (as := []) (C_X4_corrected r5 h4) w_X4_corrected g_in_X4_corrected g_se_X4_corrected g_ml_RX4_44 (by decide) (rest := [vI z3]) rfl rfl (Nat.le_of_ble_eq_true rfl) dX4_isSpike_24 (k_I fun z6 h7 => ?_)
      refine V_isub (pc := 27) F dX4_isSpike_27 ?_
      intro z8
      refine V_istore_n (pc := 28) F [(2, vI z8), (0, vR x0), (1, vI x1)] dX4_isSpike_28 (lt_mx hm (by decide)) rfl ?_
      refine V_aload_n (pc := 29) F dX4_isSpike_29 1 rfl ?_
      refine V_cVM (pc := 30) F 4 (by decide) (as := []) (C_X4_corrected x0 h7) w_X4_corrected g_in_X4_corrected g_se_X4_corrected g_ml_RX4_44 (by decide) (rest := []) rfl rfl (Nat.le_of_ble_eq_true rfl) dX4_isSpike_30 (k_I fun z9 h10 => ?_)
      refine V_aload_n (pc := 33) F dX4_isSpike_33 1 rfl ?_
      refine V_getR (pc := 34) F 4 6 (by decide) (by decide) rfl g_fl_RX4_41 dX4_isSpike_34 ?_
      intro r11
      refine V_cVM (pc := 37) F 4 (by decide) (as := []) (C_X4_corrected r11 h10) w_X4_corrected g_in_X4_corrected g_se_X4_corrected g_ml_RX4_44 (by decide) (rest := [vI z9]) rfl rfl (Nat.le_of_ble_eq_true rfl) dX4_isSpike_37 (k_I fun z12 h13 => ?_)
      refine V_isub (pc := 40) F dX4_isSpike_40 ?_
      intro z14
      refine V_istore_n (pc := 41) F [(3, vI z14), (2, vI z8), (0, vR x0), (1, vI x1)] dX4_isSpike_41 (lt_mx hm (by decide)) rfl ?_
      refine V_iload_n (pc := 42) F dX4_isSpike_42 1 rfl ?_
      refine V_iload_n (pc := 43) F dX4_isSpike_43 3 rfl ?_
      refine V_icmp_le (pc := 44) F 52 dX4_isSpike_44 (by decide) ?_ ?_
      · refine V_sub [3, 1, 0] (L' := [(1, vI x1), (2, vI z8), (3, vI z14)]) rfl ?_
        exact vB_X4_isSpike_52 F hm x1 z8 z14 h13
      · refine V_iload_n (pc := 47) F dX4_isSpike_47 0 rfl ?_
        refine V_iload_n (pc := 48) F dX4_isSpike_48 3 rfl ?_
        refine V_icmp_gt (pc := 49) F 64 dX4_isSpike_49 (by decide) ?_ ?_
        · refine V_sub [] (L' := []) rfl ?_
          exact vB_X4_isSpike_64 F hm h13
        · refine V_sub [3, 1, 0] (L' := [(1, vI x1), (2, vI z8), (3, vI z14)]) rfl ?_
          exact vB_X4_isSpike_52 F hm x1 z8 z14 h13
    · refine V_iconst (pc := 14) F (x := (0 : Int32)) dX4_isSpike_14 (by decide) ?_
      exact V_zret (pc := 15) F (Or.inl rfl) dX4_isSpike_15
theorem C_X4_isSpike (x0 : Option Nat) (x1 : Int32) (h : MH) : CtrM yX4_isSpike (WSm yX4_isSpike cX4_isSpike 4 (some .boolean)) 1 [vR x0, vI x1] h (M_X4_isSpike x0 x1 h) :=
  CtrM_of (by decide) (Nat.le_of_ble_eq_true rfl) (fun K F hm hi => vM_X4_isSpike F hm x0 x1 h)
def M_X4_flagBy (x0 : Option Nat) (x1 : Int32) (h : MH) : Res := gfI h x0 4 4 fun z1 => if z1 = (-1 : Int32) then (chk h x0 4 <| calI (M_X4_isSpike x0 x1 h) fun z2 h3 => if z2 = 0 then (rtI (0 : Int32) h3) else (rtI (1 : Int32) h3)) else (gfI h x0 4 4 fun z4 => rtI z4 h)
theorem vM_X4_flagBy {K : CT} (F : Fr K cX4_flagBy RX4 (some .int) [] 2 0) (hm : mxL K = 2) (x0 : Option Nat) (x1 : Int32) (h : MH) : V K 0 [(0, vR x0), (1, vI x1)] [] h (M_X4_flagBy x0 x1 h) := by
  unfold M_X4_flagBy
  refine V_aload_n (pc := 0) F dX4_flagBy_0 0 rfl ?_
  refine V_getI (pc := 1) F 4 4 (by decide) (by decide) rfl g_fl_RX4_9 dX4_flagBy_1 ?_
  intro z1
  refine V_iconst (pc := 4) F (x := (-1 : Int32)) dX4_flagBy_4 (by decide) ?_
  refine V_icmp_eq (pc := 5) F 13 dX4_flagBy_5 (by decide) ?_ ?_
  · refine V_aload_n (pc := 13) F dX4_flagBy_13 0 rfl ?_
    refine V_iload_n (pc := 14) F dX4_flagBy_14 1 rfl ?_
    refine V_cVM (pc := 15) F 4 (by decide) (as := [vI x1]) (C_X4_isSpike x0 x1 h) w_X4_isSpike g_in_X4_isSpike g_se_X4_isSpike g_ml_RX4_33 (by decide) (rest := []) rfl rfl (Nat.le_of_ble_eq_true rfl) dX4_flagBy_15 (k_I fun z2 h3 => ?_)
    refine V_if_eq (pc := 18) F 25 dX4_flagBy_18 (by decide) ?_ ?_
    · refine V_iconst (pc := 25) F (x := (0 : Int32)) dX4_flagBy_25 (by decide) ?_
      exact V_iret (pc := 26) F (Or.inl rfl) dX4_flagBy_26
    · refine V_iconst (pc := 21) F (x := (1 : Int32)) dX4_flagBy_21 (by decide) ?_
      refine V_goto (pc := 22) F 26 dX4_flagBy_22 (by decide) ?_
      exact V_iret (pc := 26) F (Or.inl rfl) dX4_flagBy_26
  · refine V_aload_n (pc := 8) F dX4_flagBy_8 0 rfl ?_
    refine V_getI (pc := 9) F 4 4 (by decide) (by decide) rfl g_fl_RX4_9 dX4_flagBy_9 ?_
    intro z4
    exact V_iret (pc := 12) F (Or.inl rfl) dX4_flagBy_12
theorem C_X4_flagBy (x0 : Option Nat) (x1 : Int32) (h : MH) : CtrM yX4_flagBy (WSm yX4_flagBy cX4_flagBy 2 (some .int)) 2 [vR x0, vI x1] h (M_X4_flagBy x0 x1 h) :=
  CtrM_of (by decide) (Nat.le_of_ble_eq_true rfl) (fun K F hm hi => vM_X4_flagBy F hm x0 x1 h)
def M_X4_weightIn (x0 : Option Nat) (x1 : Int32) (h : MH) : Res := gfI h x0 4 1 fun z1 => rmI z1 (10 : Int32) fun z2 => rmI x1 (10 : Int32) fun z3 => bnd (z2 - z3) fun z4 => bnd (if 0 ≤ z4 then z4 else 0 - z4) fun z5 => gfI h x0 4 1 fun z6 => dvI z6 (10 : Int32) fun z7 => dvI x1 (10 : Int32) fun z8 => bnd (z7 - z8) fun z9 => bnd (if 0 ≤ z9 then z9 else 0 - z9) fun z10 => bnd (z5 + z10) fun z11 => bnd ((8 : Int32) - z11) fun z12 => bnd (if (0 : Int32) < z12 then z12 else (0 : Int32)) fun z13 => rtI z13 h
theorem vM_X4_weightIn {K : CT} (F : Fr K cX4_weightIn RX4 (some .int) [] 1 0) (hm : mxL K = 3) (x0 : Option Nat) (x1 : Int32) (h : MH) : V K 0 [(0, vR x0), (1, vI x1)] [] h (M_X4_weightIn x0 x1 h) := by
  unfold M_X4_weightIn
  refine V_aload_n (pc := 0) F dX4_weightIn_0 0 rfl ?_
  refine V_getI (pc := 1) F 4 1 (by decide) (by decide) rfl g_fl_RX4_18 dX4_weightIn_1 ?_
  intro z1
  refine V_bipush (pc := 4) F (x := (10 : Int32)) dX4_weightIn_4 (by decide) ?_
  refine V_irem (pc := 6) F dX4_weightIn_6 ?_
  intro z2
  refine V_iload_n (pc := 7) F dX4_weightIn_7 1 rfl ?_
  refine V_bipush (pc := 8) F (x := (10 : Int32)) dX4_weightIn_8 (by decide) ?_
  refine V_irem (pc := 10) F dX4_weightIn_10 ?_
  intro z3
  refine V_isub (pc := 11) F dX4_weightIn_11 ?_
  intro z4
  refine V_mabs (pc := 12) F (by decide) g_ml_RX4_48 g_st_math_abs g_ini_math g_cw_math_abs (Nat.le_of_ble_eq_true rfl) dX4_weightIn_12 ?_
  intro z5
  refine V_aload_n (pc := 15) F dX4_weightIn_15 0 rfl ?_
  refine V_getI (pc := 16) F 4 1 (by decide) (by decide) rfl g_fl_RX4_18 dX4_weightIn_16 ?_
  intro z6
  refine V_bipush (pc := 19) F (x := (10 : Int32)) dX4_weightIn_19 (by decide) ?_
  refine V_idiv (pc := 21) F dX4_weightIn_21 ?_
  intro z7
  refine V_iload_n (pc := 22) F dX4_weightIn_22 1 rfl ?_
  refine V_bipush (pc := 23) F (x := (10 : Int32)) dX4_weightIn_23 (by decide) ?_
  refine V_idiv (pc := 25) F dX4_weightIn_25 ?_
  intro z8
  refine V_isub (pc := 26) F dX4_weightIn_26 ?_
  intro z9
  refine V_mabs (pc := 27) F (by decide) g_ml_RX4_48 g_st_math_abs g_ini_math g_cw_math_abs (Nat.le_of_ble_eq_true rfl) dX4_weightIn_27 ?_
  intro z10
  refine V_iadd (pc := 30) F dX4_weightIn_30 ?_
  intro z11
  refine V_istore_n (pc := 31) F [(2, vI z11), (0, vR x0), (1, vI x1)] dX4_weightIn_31 (lt_mx hm (by decide)) rfl ?_
  refine V_iconst (pc := 32) F (x := (0 : Int32)) dX4_weightIn_32 (by decide) ?_
  refine V_bipush (pc := 33) F (x := (8 : Int32)) dX4_weightIn_33 (by decide) ?_
  refine V_iload_n (pc := 35) F dX4_weightIn_35 0 rfl ?_
  refine V_isub (pc := 36) F dX4_weightIn_36 ?_
  intro z12
  refine V_mmax (pc := 37) F (by decide) g_ml_RX4_54 g_st_math_max g_ini_math g_cw_math_max (Nat.le_of_ble_eq_true rfl) dX4_weightIn_37 ?_
  intro z13
  exact V_iret (pc := 40) F (Or.inl rfl) dX4_weightIn_40
theorem C_X4_weightIn (x0 : Option Nat) (x1 : Int32) (h : MH) : CtrM yX4_weightIn (WSm yX4_weightIn cX4_weightIn 3 (some .int)) 1 [vR x0, vI x1] h (M_X4_weightIn x0 x1 h) :=
  CtrM_of (by decide) (Nat.le_of_ble_eq_true rfl) (fun K F hm hi => vM_X4_weightIn F hm x0 x1 h)
def M_X1_weightAt (x0 : Option Nat) (x1 : Int32) (h : MH) : Res := calI (M_X8_isCell x1 h) fun z1 h2 => if z1 = 0 then (rtI (0 : Int32) h2) else (gfR h2 x0 1 1 fun r3 => rdI h2 r3 20 x1 fun z4 => bnd ((5 : Int32) * z4) fun z5 => gfR h2 x0 1 0 fun r6 => rdI h2 r6 20 x1 fun z7 => bnd (z5 - z7) fun z8 => rtI z8 h2)
theorem vM_X1_weightAt {K : CT} (F : Fr K cX1_weightAt RX1 (some .int) [] 1 0) (hm : mxL K = 2) (x0 : Option Nat) (x1 : Int32) (h : MH) : V K 0 [(0, vR x0), (1, vI x1)] [] h (M_X1_weightAt x0 x1 h) := by
  unfold M_X1_weightAt
  refine V_iload_n (pc := 0) F dX1_weightAt_0 1 rfl ?_
  refine V_cSN (pc := 1) F (as := [vI x1]) (C_X8_isCell x1 h) w_X8_isCell g_st_X8_isCell (host := "GyreWatch") (by decide +kernel) (by decide) (rest := []) rfl rfl (Nat.le_of_ble_eq_true rfl) dX1_weightAt_1 (k_I fun z1 h2 => ?_)
  refine V_if_eq (pc := 4) F 25 dX1_weightAt_4 (by decide) ?_ ?_
  · refine V_iconst (pc := 25) F (x := (0 : Int32)) dX1_weightAt_25 (by decide) ?_
    exact V_iret (pc := 26) F (Or.inl rfl) dX1_weightAt_26
  · refine V_iconst (pc := 7) F (x := (5 : Int32)) dX1_weightAt_7 (by decide) ?_
    refine V_aload_n (pc := 8) F dX1_weightAt_8 0 rfl ?_
    refine V_getR (pc := 9) F 1 1 (by decide) (by decide) rfl g_fl_RX1_15 dX1_weightAt_9 ?_
    intro r3
    refine V_iload_n (pc := 12) F dX1_weightAt_12 1 rfl ?_
    refine V_iald (pc := 13) F dX1_weightAt_13 ?_
    intro z4
    refine V_imul (pc := 14) F dX1_weightAt_14 ?_
    intro z5
    refine V_aload_n (pc := 15) F dX1_weightAt_15 0 rfl ?_
    refine V_getR (pc := 16) F 1 0 (by decide) (by decide) rfl g_fl_RX1_9 dX1_weightAt_16 ?_
    intro r6
    refine V_iload_n (pc := 19) F dX1_weightAt_19 1 rfl ?_
    refine V_iald (pc := 20) F dX1_weightAt_20 ?_
    intro z7
    refine V_isub (pc := 21) F dX1_weightAt_21 ?_
    intro z8
    refine V_goto (pc := 22) F 26 dX1_weightAt_22 (by decide) ?_
    exact V_iret (pc := 26) F (Or.inl rfl) dX1_weightAt_26
theorem C_X1_weightAt (x0 : Option Nat) (x1 : Int32) (h : MH) : CtrM yX1_weightAt (WSm yX1_weightAt cX1_weightAt 2 (some .int)) 1 [vR x0, vI x1] h (M_X1_weightAt x0 x1 h) :=
  CtrM_of (by decide) (Nat.le_of_ble_eq_true rfl) (fun K F hm hi => vM_X1_weightAt F hm x0 x1 h)
def M_X4_init (x0 : Option Nat) (x1 : Int32) (x2 : Int32) (x3 : Int32) (x4 : Option Nat) (h : MH) : Res := nnl x0 <| pfI h x0 4 4 (-1 : Int32) fun h1 => pfI h1 x0 4 0 x1 fun h2 => pfI h2 x0 4 1 x2 fun h3 => pfI h3 x0 4 2 x3 fun h4 => pfR h4 x0 4 3 x4 fun h5 => rtV h5
theorem vM_X4_init {K : CT} (F : Fr K cX4_init RX4 none [] 1 0) (hm : mxL K = 5) (hi : nmK K "<init>") (x0 : Option Nat) (x1 : Int32) (x2 : Int32) (x3 : Int32) (x4 : Option Nat) (h : MH) : V K 0 [(0, vR x0), (1, vI x1), (2, vI x2), (3, vI x3), (4, vR x4)] [] h (M_X4_init x0 x1 x2 x3 x4 h) := by
  unfold M_X4_init
  refine V_aload_n (pc := 0) F dX4_init_0 0 rfl ?_
  refine V_obj (pc := 1) F (by decide) g_ml_RX4_3 g_in_obj g_cw_obj (Nat.le_of_ble_eq_true rfl) dX4_init_1 ?_
  refine V_aload_n (pc := 4) F dX4_init_4 0 rfl ?_
  refine V_iconst (pc := 5) F (x := (-1 : Int32)) dX4_init_5 (by decide) ?_
  refine V_putI (pc := 6) F 4 4 (by decide) (by decide) rfl rfl g_fl_RX4_9 dX4_init_6 ?_
  intro h1
  refine V_aload_n (pc := 9) F dX4_init_9 0 rfl ?_
  refine V_iload_n (pc := 10) F dX4_init_10 1 rfl ?_
  refine V_putIF (pc := 11) F hi 4 0 (by decide) (by decide) rfl rfl rfl g_fl_RX4_15 dX4_init_11 ?_
  intro h2
  refine V_aload_n (pc := 14) F dX4_init_14 0 rfl ?_
  refine V_iload_n (pc := 15) F dX4_init_15 2 rfl ?_
  refine V_putIF (pc := 16) F hi 4 1 (by decide) (by decide) rfl rfl rfl g_fl_RX4_18 dX4_init_16 ?_
  intro h3
  refine V_aload_n (pc := 19) F dX4_init_19 0 rfl ?_
  refine V_iload_n (pc := 20) F dX4_init_20 3 rfl ?_
  refine V_putIF (pc := 21) F hi 4 2 (by decide) (by decide) rfl rfl rfl g_fl_RX4_21 dX4_init_21 ?_
  intro h4
  refine V_aload_n (pc := 24) F dX4_init_24 0 rfl ?_
  refine V_aload (pc := 25) F dX4_init_25 4 rfl ?_
  refine V_putRF (pc := 27) F hi 4 3 (by decide) (by decide) rfl rfl rfl g_fl_RX4_24 dX4_init_27 ?_
  intro h5
  exact V_vret (pc := 30) F (Or.inl rfl) dX4_init_30
theorem C_X4_init (x0 : Option Nat) (x1 : Int32) (x2 : Int32) (x3 : Int32) (x4 : Option Nat) (h : MH) : CtrM yX4_init (WSm yX4_init cX4_init 5 none) 1 [vR x0, vI x1, vI x2, vI x3, vR x4] h (M_X4_init x0 x1 x2 x3 x4 h) :=
  CtrM_of (by decide) (Nat.le_of_ble_eq_true rfl) (fun K F hm hi => vM_X4_init F hm hi x0 x1 x2 x3 x4 h)
