def M_X2_init (x0 : Option Nat) (h : MH) : Res := nnl x0 <| nwA h 24 (100 : Int32) fun r1 h2 => pfR h2 x0 2 0 r1 fun h3 => pfI h3 x0 2 2 (100 : Int32) fun h4 => rtV h4
theorem vM_X2_init {K : CT} (F : Fr K cX2_init RX2 none [] 1 0) (hm : mxL K = 1) (hi : nmK K "<init>") (x0 : Option Nat) (h : MH) : V K 0 [(0, vR x0)] [] h (M_X2_init x0 h) := by
  unfold M_X2_init
  refine V_aload_n (pc := 0) F dX2_init_0 0 rfl ?_
  refine V_obj (pc := 1) F (by decide) g_ml_RX2_3 g_in_obj g_cw_obj (Nat.le_of_ble_eq_true rfl) dX2_init_1 ?_
  refine V_aload_n (pc := 4) F dX2_init_4 0 rfl ?_
  refine V_bipush (pc := 5) F (x := (100 : Int32)) dX2_init_5 (by decide) ?_
  refine V_newq (pc := 7) F 24 (by decide) g_clA_RX2_9 (by decide) dX2_init_7 ?_
  intro r1 h2
  refine V_putRF (pc := 10) F hi 2 0 (by decide) (by decide) rfl rfl rfl g_fl_RX2_11 dX2_init_10 ?_
  intro h3
  refine V_aload_n (pc := 13) F dX2_init_13 0 rfl ?_
  refine V_bipush (pc := 14) F (x := (100 : Int32)) dX2_init_14 (by decide) ?_
  refine V_putI (pc := 16) F 2 2 (by decide) (by decide) rfl rfl g_fl_RX2_17 dX2_init_16 ?_
  intro h4
  exact V_vret (pc := 19) F (Or.inl rfl) dX2_init_19
theorem C_X2_init (x0 : Option Nat) (h : MH) : CtrM yX2_init (WSm yX2_init cX2_init 1 none) 1 [vR x0] h (M_X2_init x0 h) :=
  CtrM_of (by decide) (Nat.le_of_ble_eq_true rfl) (fun K F hm hi => vM_X2_init F hm hi x0 h)
def M_X7_init (x0 : Option Nat) (h : MH) : Res := nnl x0 <| nwA h 20 (30 : Int32) fun r1 h2 => pfR h2 x0 7 1 r1 fun h3 => nwA h3 20 (20 : Int32) fun r4 h5 => pfR h5 x0 7 2 r4 fun h6 => nwA h6 20 (20 : Int32) fun r7 h8 => pfR h8 x0 7 3 r7 fun h9 => rtV h9
theorem vM_X7_init {K : CT} (F : Fr K cX7_init RX7 none [] 1 0) (hm : mxL K = 1) (hi : nmK K "<init>") (x0 : Option Nat) (h : MH) : V K 0 [(0, vR x0)] [] h (M_X7_init x0 h) := by
  unfold M_X7_init
  refine V_aload_n (pc := 0) F dX7_init_0 0 rfl ?_
  refine V_obj (pc := 1) F (by decide) g_ml_RX7_3 g_in_obj g_cw_obj (Nat.le_of_ble_eq_true rfl) dX7_init_1 ?_
  refine V_aload_n (pc := 4) F dX7_init_4 0 rfl ?_
  refine V_bipush (pc := 5) F (x := (30 : Int32)) dX7_init_5 (by decide) ?_
  refine V_newa (pc := 7) F 20 (by decide) g_arr_20 dX7_init_7 ?_
  intro r1 h2
  refine V_putRF (pc := 9) F hi 7 1 (by decide) (by decide) rfl rfl rfl g_fl_RX7_9 dX7_init_9 ?_
  intro h3
  refine V_aload_n (pc := 12) F dX7_init_12 0 rfl ?_
  refine V_bipush (pc := 13) F (x := (20 : Int32)) dX7_init_13 (by decide) ?_
  refine V_newa (pc := 15) F 20 (by decide) g_arr_20 dX7_init_15 ?_
  intro r4 h5
  refine V_putRF (pc := 17) F hi 7 2 (by decide) (by decide) rfl rfl rfl g_fl_RX7_15 dX7_init_17 ?_
  intro h6
  refine V_aload_n (pc := 20) F dX7_init_20 0 rfl ?_
  refine V_bipush (pc := 21) F (x := (20 : Int32)) dX7_init_21 (by decide) ?_
  refine V_newa (pc := 23) F 20 (by decide) g_arr_20 dX7_init_23 ?_
  intro r7 h8
  refine V_putRF (pc := 25) F hi 7 3 (by decide) (by decide) rfl rfl rfl g_fl_RX7_18 dX7_init_25 ?_
  intro h9
  exact V_vret (pc := 28) F (Or.inl rfl) dX7_init_28
theorem C_X7_init (x0 : Option Nat) (h : MH) : CtrM yX7_init (WSm yX7_init cX7_init 1 none) 1 [vR x0] h (M_X7_init x0 h) :=
  CtrM_of (by decide) (Nat.le_of_ble_eq_true rfl) (fun K F hm hi => vM_X7_init F hm hi x0 h)
def M_X7_cellOf (x0 : Option Nat) (x1 : Int32) (h : MH) : Res := gfR h x0 7 1 fun r1 => aln h r1 fun z2 => calI (M_X8_isIndex x1 z2 h) fun z3 h4 => if z3 = 0 then (rtI (0 : Int32) h4) else (gfR h4 x0 7 1 fun r5 => rdI h4 r5 20 x1 fun z6 => rmI z6 (60 : Int32) fun z7 => rtI z7 h4)
theorem vM_X7_cellOf {K : CT} (F : Fr K cX7_cellOf RX7 (some .int) [] 1 0) (hm : mxL K = 2) (x0 : Option Nat) (x1 : Int32) (h : MH) : V K 0 [(0, vR x0), (1, vI x1)] [] h (M_X7_cellOf x0 x1 h) := by
  unfold M_X7_cellOf
  refine V_iload_n (pc := 0) F dX7_cellOf_0 1 rfl ?_
  refine V_aload_n (pc := 1) F dX7_cellOf_1 0 rfl ?_
  refine V_getR (pc := 2) F 7 1 (by decide) (by decide) rfl g_fl_RX7_9 dX7_cellOf_2 ?_
  intro r1
  refine V_alen (pc := 5) F dX7_cellOf_5 ?_
  intro z2
  refine V_cSN (pc := 6) F (as := [vI x1, vI z2]) (C_X8_isIndex x1 z2 h) w_X8_isIndex g_st_X8_isIndex (host := "GyreWatch") (by decide +kernel) (by decide) (rest := []) rfl rfl (Nat.le_of_ble_eq_true rfl) dX7_cellOf_6 (k_I fun z3 h4 => ?_)
  refine V_if_eq (pc := 9) F 24 dX7_cellOf_9 (by decide) ?_ ?_
  · refine V_iconst (pc := 24) F (x := (0 : Int32)) dX7_cellOf_24 (by decide) ?_
    exact V_iret (pc := 25) F (Or.inl rfl) dX7_cellOf_25
  · refine V_aload_n (pc := 12) F dX7_cellOf_12 0 rfl ?_
    refine V_getR (pc := 13) F 7 1 (by decide) (by decide) rfl g_fl_RX7_9 dX7_cellOf_13 ?_
    intro r5
    refine V_iload_n (pc := 16) F dX7_cellOf_16 1 rfl ?_
    refine V_iald (pc := 17) F dX7_cellOf_17 ?_
    intro z6
    refine V_bipush (pc := 18) F (x := (60 : Int32)) dX7_cellOf_18 (by decide) ?_
    refine V_irem (pc := 20) F dX7_cellOf_20 ?_
    intro z7
    refine V_goto (pc := 21) F 25 dX7_cellOf_21 (by decide) ?_
    exact V_iret (pc := 25) F (Or.inl rfl) dX7_cellOf_25
theorem C_X7_cellOf (x0 : Option Nat) (x1 : Int32) (h : MH) : CtrM yX7_cellOf (WSm yX7_cellOf cX7_cellOf 2 (some .int)) 1 [vR x0, vI x1] h (M_X7_cellOf x0 x1 h) :=
  CtrM_of (by decide) (Nat.le_of_ble_eq_true rfl) (fun K F hm hi => vM_X7_cellOf F hm x0 x1 h)
def B_X7_hasStationIn_2 (rc2 : Option Nat → Int32 → Int32 → MH → Res) (x0 : Option Nat) (x1 : Int32) (x2 : Int32) (h : MH) : Res := gfI h x0 7 0 fun z1 => if z1 ≤ x2 then (rtZ (0 : Int32) h) else (gfR h x0 7 1 fun r2 => aln h r2 fun z3 => if z3 ≤ x2 then (rtZ (0 : Int32) h) else (chk h x0 7 <| calI (M_X7_cellOf x0 x2 h) fun z4 h5 => if z4 ≠ x1 then (bnd (x2 + (1)) fun z6 => rc2 x0 x1 z6 h5) else (rtZ (1 : Int32) h5)))
def L_X7_hasStationIn_2 : Nat → Option Nat → Int32 → Int32 → MH → Res
  | 0 => fun _ _ _ _ => none
  | n + 1 => B_X7_hasStationIn_2 (L_X7_hasStationIn_2 n)
def M_X7_hasStationIn (x0 : Option Nat) (x1 : Int32) (h : MH) : Res := L_X7_hasStationIn_2 fuel x0 x1 (0 : Int32) h
theorem vB_X7_hasStationIn_2 {K : CT} (F : Fr K cX7_hasStationIn RX7 (some .boolean) [] 2 0) (hm : mxL K = 3) (rc2 : Option Nat → Int32 → Int32 → MH → Res) (hrc2 : ∀ x0 x1 x2 h, V K 2 [(0, vR x0), (1, vI x1), (2, vI x2)] [] h (rc2 x0 x1 x2 h)) (x0 : Option Nat) (x1 : Int32) (x2 : Int32) (h : MH) : V K 2 [(0, vR x0), (1, vI x1), (2, vI x2)] [] h (B_X7_hasStationIn_2 rc2 x0 x1 x2 h) := by
  unfold B_X7_hasStationIn_2
  refine V_iload_n (pc := 2) F dX7_hasStationIn_2 2 rfl ?_
  refine V_aload_n (pc := 3) F dX7_hasStationIn_3 0 rfl ?_
  refine V_getI (pc := 4) F 7 0 (by decide) (by decide) rfl g_fl_RX7_29 dX7_hasStationIn_4 ?_
  intro z1
  refine V_icmp_ge (pc := 7) F 36 dX7_hasStationIn_7 (by decide) ?_ ?_
  · refine V_iconst (pc := 36) F (x := (0 : Int32)) dX7_hasStationIn_36 (by decide) ?_
    exact V_zret (pc := 37) F (Or.inl rfl) dX7_hasStationIn_37
  · refine V_iload_n (pc := 10) F dX7_hasStationIn_10 2 rfl ?_
    refine V_aload_n (pc := 11) F dX7_hasStationIn_11 0 rfl ?_
    refine V_getR (pc := 12) F 7 1 (by decide) (by decide) rfl g_fl_RX7_9 dX7_hasStationIn_12 ?_
    intro r2
    refine V_alen (pc := 15) F dX7_hasStationIn_15 ?_
    intro z3
    refine V_icmp_ge (pc := 16) F 36 dX7_hasStationIn_16 (by decide) ?_ ?_
    · refine V_iconst (pc := 36) F (x := (0 : Int32)) dX7_hasStationIn_36 (by decide) ?_
      exact V_zret (pc := 37) F (Or.inl rfl) dX7_hasStationIn_37
    · refine V_aload_n (pc := 19) F dX7_hasStationIn_19 0 rfl ?_
      refine V_iload_n (pc := 20) F dX7_hasStationIn_20 2 rfl ?_
      refine V_cVM (pc := 21) F 7 (by decide) (as := [vI x2]) (C_X7_cellOf x0 x2 h) w_X7_cellOf g_in_X7_cellOf g_se_X7_cellOf g_ml_RX7_33 (by decide) (rest := []) rfl rfl (Nat.le_of_ble_eq_true rfl) dX7_hasStationIn_21 (k_I fun z4 h5 => ?_)
      refine V_iload_n (pc := 24) F dX7_hasStationIn_24 1 rfl ?_
      refine V_icmp_ne (pc := 25) F 30 dX7_hasStationIn_25 (by decide) ?_ ?_
      · refine V_iinc (pc := 30) F (fun z6 => [(2, vI z6), (0, vR x0), (1, vI x1)]) dX7_hasStationIn_30 (lt_mx hm (by decide)) 2 rfl (dx := (1 : Int32)) (by decide) (fun _ => rfl) ?_
        intro z6
        refine V_goto (pc := 33) F 2 dX7_hasStationIn_33 (by decide) ?_
        refine V_sub [1, 2, 0] (L' := [(0, vR x0), (1, vI x1), (2, vI z6)]) rfl ?_
        exact hrc2 x0 x1 z6 h5
      · refine V_iconst (pc := 28) F (x := (1 : Int32)) dX7_hasStationIn_28 (by decide) ?_
        exact V_zret (pc := 29) F (Or.inl rfl) dX7_hasStationIn_29
theorem vL_X7_hasStationIn_2 {K : CT} (F : Fr K cX7_hasStationIn RX7 (some .boolean) [] 2 0) (hm : mxL K = 3) (n : Nat) : ∀ x0 x1 x2 h, V K 2 [(0, vR x0), (1, vI x1), (2, vI x2)] [] h (L_X7_hasStationIn_2 n x0 x1 x2 h) := by
  induction n with
  | zero => intros; exact V_none
  | succ n ih => intro x0 x1 x2 h; exact vB_X7_hasStationIn_2 F hm _ ih x0 x1 x2 h
theorem vM_X7_hasStationIn {K : CT} (F : Fr K cX7_hasStationIn RX7 (some .boolean) [] 2 0) (hm : mxL K = 3) (x0 : Option Nat) (x1 : Int32) (h : MH) : V K 0 [(0, vR x0), (1, vI x1)] [] h (M_X7_hasStationIn x0 x1 h) := by
  unfold M_X7_hasStationIn
  refine V_iconst (pc := 0) F (x := (0 : Int32)) dX7_hasStationIn_0 (by decide) ?_
  refine V_istore_n (pc := 1) F [(2, vI (0 : Int32)), (0, vR x0), (1, vI x1)] dX7_hasStationIn_1 (lt_mx hm (by decide)) rfl ?_
  refine V_sub [1, 2, 0] (L' := [(0, vR x0), (1, vI x1), (2, vI (0 : Int32))]) rfl ?_
  exact vL_X7_hasStationIn_2 F hm fuel x0 x1 (0 : Int32) h
theorem C_X7_hasStationIn (x0 : Option Nat) (x1 : Int32) (h : MH) : CtrM yX7_hasStationIn (WSm yX7_hasStationIn cX7_hasStationIn 3 (some .boolean)) 2 [vR x0, vI x1] h (M_X7_hasStationIn x0 x1 h) :=
  CtrM_of (by decide) (Nat.le_of_ble_eq_true rfl) (fun K F hm hi => vM_X7_hasStationIn F hm x0 x1 h)
def M_X7_stationOf (x0 : Int32) (x1 : Int32) (h : MH) : Res := bnd (x0 * (60 : Int32)) fun z1 => bnd (z1 + x1) fun z2 => rtI z2 h
theorem vM_X7_stationOf {K : CT} (F : Fr K cX7_stationOf RX7 (some .int) [] 0 0) (hm : mxL K = 2) (x0 : Int32) (x1 : Int32) (h : MH) : V K 0 [(0, vI x0), (1, vI x1)] [] h (M_X7_stationOf x0 x1 h) := by
  unfold M_X7_stationOf
  refine V_iload_n (pc := 0) F dX7_stationOf_0 0 rfl ?_
  refine V_bipush (pc := 1) F (x := (60 : Int32)) dX7_stationOf_1 (by decide) ?_
  refine V_imul (pc := 3) F dX7_stationOf_3 ?_
  intro z1
  refine V_iload_n (pc := 4) F dX7_stationOf_4 1 rfl ?_
  refine V_iadd (pc := 5) F dX7_stationOf_5 ?_
  intro z2
  exact V_iret (pc := 6) F (Or.inl rfl) dX7_stationOf_6
theorem C_X7_stationOf (x0 : Int32) (x1 : Int32) (h : MH) : CtrM yX7_stationOf (WSm yX7_stationOf cX7_stationOf 2 (some .int)) 0 [vI x0, vI x1] h (M_X7_stationOf x0 x1 h) :=
  CtrM_of (by decide) (Nat.le_of_ble_eq_true rfl) (fun K F hm hi => vM_X7_stationOf F hm x0 x1 h)
def B_X7_hasStation_9 (rc9 : Option Nat → Int32 → Int32 → MH → Res) (x0 : Option Nat) (x3 : Int32) (x4 : Int32) (h : MH) : Res := gfI h x0 7 0 fun z3 => if z3 ≤ x4 then (rtZ (0 : Int32) h) else (gfR h x0 7 1 fun r4 => aln h r4 fun z5 => if z5 ≤ x4 then (rtZ (0 : Int32) h) else (gfR h x0 7 1 fun r6 => rdI h r6 20 x4 fun z7 => if z7 ≠ x3 then (bnd (x4 + (1)) fun z8 => rc9 x0 x3 z8 h) else (rtZ (1 : Int32) h)))
def L_X7_hasStation_9 : Nat → Option Nat → Int32 → Int32 → MH → Res
  | 0 => fun _ _ _ _ => none
  | n + 1 => B_X7_hasStation_9 (L_X7_hasStation_9 n)
def M_X7_hasStation (x0 : Option Nat) (x1 : Int32) (x2 : Int32) (h : MH) : Res := calI (M_X7_stationOf x1 x2 h) fun z1 h2 => L_X7_hasStation_9 fuel x0 z1 (0 : Int32) h2
theorem vB_X7_hasStation_9 {K : CT} (F : Fr K cX7_hasStation RX7 (some .boolean) [] 1 0) (hm : mxL K = 5) (rc9 : Option Nat → Int32 → Int32 → MH → Res) (hrc9 : ∀ x0 x3 x4 h, V K 9 [(0, vR x0), (3, vI x3), (4, vI x4)] [] h (rc9 x0 x3 x4 h)) (x0 : Option Nat) (x3 : Int32) (x4 : Int32) (h : MH) : V K 9 [(0, vR x0), (3, vI x3), (4, vI x4)] [] h (B_X7_hasStation_9 rc9 x0 x3 x4 h) := by
  unfold B_X7_hasStation_9
  refine V_iload (pc := 9) F dX7_hasStation_9 2 rfl ?_
  refine V_aload_n (pc := 11) F dX7_hasStation_11 0 rfl ?_
  refine V_getI (pc := 12) F 7 0 (by decide) (by decide) rfl g_fl_RX7_29 dX7_hasStation_12 ?_
  intro z3
  refine V_icmp_ge (pc := 15) F 47 dX7_hasStation_15 (by decide) ?_ ?_
  · refine V_iconst (pc := 47) F (x := (0 : Int32)) dX7_hasStation_47 (by decide) ?_
    exact V_zret (pc := 48) F (Or.inl rfl) dX7_hasStation_48
  · refine V_iload (pc := 18) F dX7_hasStation_18 2 rfl ?_
    refine V_aload_n (pc := 20) F dX7_hasStation_20 0 rfl ?_
    refine V_getR (pc := 21) F 7 1 (by decide) (by decide) rfl g_fl_RX7_9 dX7_hasStation_21 ?_
    intro r4
    refine V_alen (pc := 24) F dX7_hasStation_24 ?_
    intro z5
    refine V_icmp_ge (pc := 25) F 47 dX7_hasStation_25 (by decide) ?_ ?_
    · refine V_iconst (pc := 47) F (x := (0 : Int32)) dX7_hasStation_47 (by decide) ?_
      exact V_zret (pc := 48) F (Or.inl rfl) dX7_hasStation_48
    · refine V_aload_n (pc := 28) F dX7_hasStation_28 0 rfl ?_
      refine V_getR (pc := 29) F 7 1 (by decide) (by decide) rfl g_fl_RX7_9 dX7_hasStation_29 ?_
      intro r6
      refine V_iload (pc := 32) F dX7_hasStation_32 2 rfl ?_
      refine V_iald (pc := 34) F dX7_hasStation_34 ?_
      intro z7
      refine V_iload_n (pc := 35) F dX7_hasStation_35 1 rfl ?_
      refine V_icmp_ne (pc := 36) F 41 dX7_hasStation_36 (by decide) ?_ ?_
      · refine V_iinc (pc := 41) F (fun z8 => [(4, vI z8), (0, vR x0), (3, vI x3)]) dX7_hasStation_41 (lt_mx hm (by decide)) 2 rfl (dx := (1 : Int32)) (by decide) (fun _ => rfl) ?_
        intro z8
        refine V_goto (pc := 44) F 9 dX7_hasStation_44 (by decide) ?_
        refine V_sub [1, 2, 0] (L' := [(0, vR x0), (3, vI x3), (4, vI z8)]) rfl ?_
        exact hrc9 x0 x3 z8 h
      · refine V_iconst (pc := 39) F (x := (1 : Int32)) dX7_hasStation_39 (by decide) ?_
        exact V_zret (pc := 40) F (Or.inl rfl) dX7_hasStation_40
theorem vL_X7_hasStation_9 {K : CT} (F : Fr K cX7_hasStation RX7 (some .boolean) [] 1 0) (hm : mxL K = 5) (n : Nat) : ∀ x0 x3 x4 h, V K 9 [(0, vR x0), (3, vI x3), (4, vI x4)] [] h (L_X7_hasStation_9 n x0 x3 x4 h) := by
  induction n with
  | zero => intros; exact V_none
  | succ n ih => intro x0 x3 x4 h; exact vB_X7_hasStation_9 F hm _ ih x0 x3 x4 h
theorem vM_X7_hasStation {K : CT} (F : Fr K cX7_hasStation RX7 (some .boolean) [] 1 0) (hm : mxL K = 5) (x0 : Option Nat) (x1 : Int32) (x2 : Int32) (h : MH) : V K 0 [(0, vR x0), (1, vI x1), (2, vI x2)] [] h (M_X7_hasStation x0 x1 x2 h) := by
  unfold M_X7_hasStation
  refine V_iload_n (pc := 0) F dX7_hasStation_0 1 rfl ?_
  refine V_iload_n (pc := 1) F dX7_hasStation_1 2 rfl ?_
  refine V_cSM (pc := 2) F (as := [vI x1, vI x2]) (C_X7_stationOf x1 x2 h) w_X7_stationOf g_st_X7_stationOf g_ml_RX7_25 (by decide) (rest := []) rfl rfl (Nat.le_of_ble_eq_true rfl) dX7_hasStation_2 (k_I fun z1 h2 => ?_)
  refine V_istore_n (pc := 5) F [(3, vI z1), (0, vR x0), (1, vI x1), (2, vI x2)] dX7_hasStation_5 (lt_mx hm (by decide)) rfl ?_
  refine V_iconst (pc := 6) F (x := (0 : Int32)) dX7_hasStation_6 (by decide) ?_
  refine V_istore (pc := 7) F [(4, vI (0 : Int32)), (3, vI z1), (0, vR x0), (1, vI x1), (2, vI x2)] dX7_hasStation_7 (lt_mx hm (by decide)) rfl ?_
  refine V_sub [2, 1, 0] (L' := [(0, vR x0), (3, vI z1), (4, vI (0 : Int32))]) rfl ?_
  exact vL_X7_hasStation_9 F hm fuel x0 z1 (0 : Int32) h2
theorem C_X7_hasStation (x0 : Option Nat) (x1 : Int32) (x2 : Int32) (h : MH) : CtrM yX7_hasStation (WSm yX7_hasStation cX7_hasStation 5 (some .boolean)) 1 [vR x0, vI x1, vI x2] h (M_X7_hasStation x0 x1 x2 h) :=
  CtrM_of (by decide) (Nat.le_of_ble_eq_true rfl) (fun K F hm hi => vM_X7_hasStation F hm x0 x1 x2 h)
def M_X7_areAllStationsTold (x0 : Option Nat) (h : MH) : Res := gfI h x0 7 0 fun z1 => gfR h x0 7 1 fun r2 => aln h r2 fun z3 => calI (M_X8_isIndex z1 z3 h) fun z4 h5 => if z4 ≠ 0 then (rtZ (0 : Int32) h5) else (rtZ (1 : Int32) h5)
theorem vM_X7_areAllStationsTold {K : CT} (F : Fr K cX7_areAllStationsTold RX7 (some .boolean) [] 1 0) (hm : mxL K = 1) (x0 : Option Nat) (h : MH) : V K 0 [(0, vR x0)] [] h (M_X7_areAllStationsTold x0 h) := by
  unfold M_X7_areAllStationsTold
  refine V_aload_n (pc := 0) F dX7_areAllStationsTold_0 0 rfl ?_
  refine V_getI (pc := 1) F 7 0 (by decide) (by decide) rfl g_fl_RX7_29 dX7_areAllStationsTold_1 ?_
  intro z1
  refine V_aload_n (pc := 4) F dX7_areAllStationsTold_4 0 rfl ?_
  refine V_getR (pc := 5) F 7 1 (by decide) (by decide) rfl g_fl_RX7_9 dX7_areAllStationsTold_5 ?_
  intro r2
  refine V_alen (pc := 8) F dX7_areAllStationsTold_8 ?_
  intro z3
  refine V_cSN (pc := 9) F (as := [vI z1, vI z3]) (C_X8_isIndex z1 z3 h) w_X8_isIndex g_st_X8_isIndex (host := "GyreWatch") (by decide +kernel) (by decide) (rest := []) rfl rfl (Nat.le_of_ble_eq_true rfl) dX7_areAllStationsTold_9 (k_I fun z4 h5 => ?_)
  refine V_if_ne (pc := 12) F 19 dX7_areAllStationsTold_12 (by decide) ?_ ?_
  · refine V_iconst (pc := 19) F (x := (0 : Int32)) dX7_areAllStationsTold_19 (by decide) ?_
    exact V_zret (pc := 20) F (Or.inl rfl) dX7_areAllStationsTold_20
  · refine V_iconst (pc := 15) F (x := (1 : Int32)) dX7_areAllStationsTold_15 (by decide) ?_
    refine V_goto (pc := 16) F 20 dX7_areAllStationsTold_16 (by decide) ?_
    exact V_zret (pc := 20) F (Or.inl rfl) dX7_areAllStationsTold_20
theorem C_X7_areAllStationsTold (x0 : Option Nat) (h : MH) : CtrM yX7_areAllStationsTold (WSm yX7_areAllStationsTold cX7_areAllStationsTold 1 (some .boolean)) 1 [vR x0] h (M_X7_areAllStationsTold x0 h) :=
  CtrM_of (by decide) (Nat.le_of_ble_eq_true rfl) (fun K F hm hi => vM_X7_areAllStationsTold F hm x0 h)
def B_X7_tellStation_64 (x0 : Option Nat) (x3 : Int32) (x4 : Int32) (h : MH) : Res := gfR h x0 7 1 fun r16 => wrI h r16 20 x4 x3 fun h17 => gfI h17 x0 7 0 fun z18 => bnd (z18 + (1 : Int32)) fun z19 => pfI h17 x0 7 0 z19 fun h20 => gfI h20 x0 7 0 fun z21 => rtI z21 h20
def B_X7_tellStation_24 (rc24 : Option Nat → Int32 → Int32 → MH → Res) (x0 : Option Nat) (x3 : Int32) (x4 : Int32) (h : MH) : Res := if x4 ≤ 0 then (B_X7_tellStation_64 x0 x3 x4 h) else (gfR h x0 7 1 fun r7 => bnd (x4 - (1 : Int32)) fun z8 => rdI h r7 20 z8 fun z9 => if z9 ≤ x3 then (B_X7_tellStation_64 x0 x3 x4 h) else (gfR h x0 7 1 fun r10 => gfR h x0 7 1 fun r11 => bnd (x4 - (1 : Int32)) fun z12 => rdI h r11 20 z12 fun z13 => wrI h r10 20 x4 z13 fun h14 => bnd (x4 + (-1)) fun z15 => rc24 x0 x3 z15 h14))
def L_X7_tellStation_24 : Nat → Option Nat → Int32 → Int32 → MH → Res
  | 0 => fun _ _ _ _ => none
  | n + 1 => B_X7_tellStation_24 (L_X7_tellStation_24 n)
def M_X7_tellStation (x0 : Option Nat) (x1 : Int32) (x2 : Int32) (h : MH) : Res := chk h x0 7 <| calI (M_X7_areAllStationsTold x0 h) fun z1 h2 => if z1 = 0 then (calI (M_X7_stationOf x1 x2 h2) fun z3 h4 => gfI h4 x0 7 0 fun z5 => L_X7_tellStation_24 fuel x0 z3 z5 h4) else (gfI h2 x0 7 0 fun z6 => rtI z6 h2)
theorem vB_X7_tellStation_64 {K : CT} (F : Fr K cX7_tellStation RX7 (some .int) [] 2 0) (hm : mxL K = 5) (x0 : Option Nat) (x3 : Int32) (x4 : Int32) (h : MH) : V K 64 [(0, vR x0), (3, vI x3), (4, vI x4)] [] h (B_X7_tellStation_64 x0 x3 x4 h) := by
  unfold B_X7_tellStation_64
  refine V_aload_n (pc := 64) F dX7_tellStation_64 0 rfl ?_
  refine V_getR (pc := 65) F 7 1 (by decide) (by decide) rfl g_fl_RX7_9 dX7_tellStation_65 ?_
  intro r16
  refine V_iload (pc := 68) F dX7_tellStation_68 2 rfl ?_
  refine V_iload_n (pc := 70) F dX7_tellStation_70 1 rfl ?_
  refine V_iast (pc := 71) F dX7_tellStation_71 ?_
  intro h17
  refine V_aload_n (pc := 72) F dX7_tellStation_72 0 rfl ?_
  refine V_dup (pc := 73) F dX7_tellStation_73 rfl ?_
  refine V_getI (pc := 74) F 7 0 (by decide) (by decide) rfl g_fl_RX7_29 dX7_tellStation_74 ?_
  intro z18
  refine V_iconst (pc := 77) F (x := (1 : Int32)) dX7_tellStation_77 (by decide) ?_
  refine V_iadd (pc := 78) F dX7_tellStation_78 ?_
  intro z19
  refine V_putI (pc := 79) F 7 0 (by decide) (by decide) rfl rfl g_fl_RX7_29 dX7_tellStation_79 ?_
  intro h20
  refine V_aload_n (pc := 82) F dX7_tellStation_82 0 rfl ?_
  refine V_getI (pc := 83) F 7 0 (by decide) (by decide) rfl g_fl_RX7_29 dX7_tellStation_83 ?_
  intro z21
  exact V_iret (pc := 86) F (Or.inl rfl) dX7_tellStation_86
theorem vB_X7_tellStation_24 {K : CT} (F : Fr K cX7_tellStation RX7 (some .int) [] 2 0) (hm : mxL K = 5) (rc24 : Option Nat → Int32 → Int32 → MH → Res) (hrc24 : ∀ x0 x3 x4 h, V K 24 [(0, vR x0), (3, vI x3), (4, vI x4)] [] h (rc24 x0 x3 x4 h)) (x0 : Option Nat) (x3 : Int32) (x4 : Int32) (h : MH) : V K 24 [(0, vR x0), (3, vI x3), (4, vI x4)] [] h (B_X7_tellStation_24 rc24 x0 x3 x4 h) := by
  unfold B_X7_tellStation_24
  refine V_iload (pc := 24) F dX7_tellStation_24 2 rfl ?_
  refine V_if_le (pc := 26) F 64 dX7_tellStation_26 (by decide) ?_ ?_
  · exact vB_X7_tellStation_64 F hm x0 x3 x4 h
  · refine V_aload_n (pc := 29) F dX7_tellStation_29 0 rfl ?_
    refine V_getR (pc := 30) F 7 1 (by decide) (by decide) rfl g_fl_RX7_9 dX7_tellStation_30 ?_
    intro r7
    refine V_iload (pc := 33) F dX7_tellStation_33 2 rfl ?_
    refine V_iconst (pc := 35) F (x := (1 : Int32)) dX7_tellStation_35 (by decide) ?_
    refine V_isub (pc := 36) F dX7_tellStation_36 ?_
    intro z8
    refine V_iald (pc := 37) F dX7_tellStation_37 ?_
    intro z9
    refine V_iload_n (pc := 38) F dX7_tellStation_38 1 rfl ?_
    refine V_icmp_le (pc := 39) F 64 dX7_tellStation_39 (by decide) ?_ ?_
    · exact vB_X7_tellStation_64 F hm x0 x3 x4 h
    · refine V_aload_n (pc := 42) F dX7_tellStation_42 0 rfl ?_
      refine V_getR (pc := 43) F 7 1 (by decide) (by decide) rfl g_fl_RX7_9 dX7_tellStation_43 ?_
      intro r10
      refine V_iload (pc := 46) F dX7_tellStation_46 2 rfl ?_
      refine V_aload_n (pc := 48) F dX7_tellStation_48 0 rfl ?_
      refine V_getR (pc := 49) F 7 1 (by decide) (by decide) rfl g_fl_RX7_9 dX7_tellStation_49 ?_
      intro r11
      refine V_iload (pc := 52) F dX7_tellStation_52 2 rfl ?_
      refine V_iconst (pc := 54) F (x := (1 : Int32)) dX7_tellStation_54 (by decide) ?_
      refine V_isub (pc := 55) F dX7_tellStation_55 ?_
      intro z12
      refine V_iald (pc := 56) F dX7_tellStation_56 ?_
      intro z13
      refine V_iast (pc := 57) F dX7_tellStation_57 ?_
      intro h14
      refine V_iinc (pc := 58) F (fun z15 => [(4, vI z15), (0, vR x0), (3, vI x3)]) dX7_tellStation_58 (lt_mx hm (by decide)) 2 rfl (dx := (-1 : Int32)) (by decide) (fun _ => rfl) ?_
      intro z15
      refine V_goto (pc := 61) F 24 dX7_tellStation_61 (by decide) ?_
      refine V_sub [1, 2, 0] (L' := [(0, vR x0), (3, vI x3), (4, vI z15)]) rfl ?_
      exact hrc24 x0 x3 z15 h14
theorem vL_X7_tellStation_24 {K : CT} (F : Fr K cX7_tellStation RX7 (some .int) [] 2 0) (hm : mxL K = 5) (n : Nat) : ∀ x0 x3 x4 h, V K 24 [(0, vR x0), (3, vI x3), (4, vI x4)] [] h (L_X7_tellStation_24 n x0 x3 x4 h) := by
  induction n with
  | zero => intros; exact V_none
  | succ n ih => intro x0 x3 x4 h; exact vB_X7_tellStation_24 F hm _ ih x0 x3 x4 h
theorem vM_X7_tellStation {K : CT} (F : Fr K cX7_tellStation RX7 (some .int) [] 2 0) (hm : mxL K = 5) (x0 : Option Nat) (x1 : Int32) (x2 : Int32) (h : MH) : V K 0 [(0, vR x0), (1, vI x1), (2, vI x2)] [] h (M_X7_tellStation x0 x1 x2 h) := by
  unfold M_X7_tellStation
  refine V_aload_n (pc := 0) F dX7_tellStation_0 0 rfl ?_
  refine V_cVM (pc := 1) F 7 (by decide) (as := []) (C_X7_areAllStationsTold x0 h) w_X7_areAllStationsTold g_in_X7_areAllStationsTold g_se_X7_areAllStationsTold g_ml_RX7_37 (by decide) (rest := []) rfl rfl (Nat.le_of_ble_eq_true rfl) dX7_tellStation_1 (k_I fun z1 h2 => ?_)
  refine V_if_eq (pc := 4) F 12 dX7_tellStation_4 (by decide) ?_ ?_
  · refine V_iload_n (pc := 12) F dX7_tellStation_12 1 rfl ?_
    refine V_iload_n (pc := 13) F dX7_tellStation_13 2 rfl ?_
    refine V_cSM (pc := 14) F (as := [vI x1, vI x2]) (C_X7_stationOf x1 x2 h2) w_X7_stationOf g_st_X7_stationOf g_ml_RX7_25 (by decide) (rest := []) rfl rfl (Nat.le_of_ble_eq_true rfl) dX7_tellStation_14 (k_I fun z3 h4 => ?_)
    refine V_istore_n (pc := 17) F [(3, vI z3), (0, vR x0), (1, vI x1), (2, vI x2)] dX7_tellStation_17 (lt_mx hm (by decide)) rfl ?_
    refine V_aload_n (pc := 18) F dX7_tellStation_18 1 rfl ?_
    refine V_getI (pc := 19) F 7 0 (by decide) (by decide) rfl g_fl_RX7_29 dX7_tellStation_19 ?_
    intro z5
    refine V_istore (pc := 22) F [(4, vI z5), (3, vI z3), (0, vR x0), (1, vI x1), (2, vI x2)] dX7_tellStation_22 (lt_mx hm (by decide)) rfl ?_
    refine V_sub [2, 1, 0] (L' := [(0, vR x0), (3, vI z3), (4, vI z5)]) rfl ?_
    exact vL_X7_tellStation_24 F hm fuel x0 z3 z5 h4
  · refine V_aload_n (pc := 7) F dX7_tellStation_7 0 rfl ?_
    refine V_getI (pc := 8) F 7 0 (by decide) (by decide) rfl g_fl_RX7_29 dX7_tellStation_8 ?_
    intro z6
    exact V_iret (pc := 11) F (Or.inl rfl) dX7_tellStation_11
theorem C_X7_tellStation (x0 : Option Nat) (x1 : Int32) (x2 : Int32) (h : MH) : CtrM yX7_tellStation (WSm yX7_tellStation cX7_tellStation 5 (some .int)) 2 [vR x0, vI x1, vI x2] h (M_X7_tellStation x0 x1 x2 h) :=
  CtrM_of (by decide) (Nat.le_of_ble_eq_true rfl) (fun K F hm hi => vM_X7_tellStation F hm x0 x1 x2 h)
def M_X7_areAllStormsTold (x0 : Option Nat) (h : MH) : Res := gfI h x0 7 4 fun z1 => calI (M_X8_isIndex z1 (20 : Int32) h) fun z2 h3 => if z2 ≠ 0 then (rtZ (0 : Int32) h3) else (rtZ (1 : Int32) h3)
theorem vM_X7_areAllStormsTold {K : CT} (F : Fr K cX7_areAllStormsTold RX7 (some .boolean) [] 1 0) (hm : mxL K = 1) (x0 : Option Nat) (h : MH) : V K 0 [(0, vR x0)] [] h (M_X7_areAllStormsTold x0 h) := by
  unfold M_X7_areAllStormsTold
  refine V_aload_n (pc := 0) F dX7_areAllStormsTold_0 0 rfl ?_
  refine V_getI (pc := 1) F 7 4 (by decide) (by decide) rfl g_fl_RX7_50 dX7_areAllStormsTold_1 ?_
  intro z1
  refine V_bipush (pc := 4) F (x := (20 : Int32)) dX7_areAllStormsTold_4 (by decide) ?_
  refine V_cSN (pc := 6) F (as := [vI z1, vI (20 : Int32)]) (C_X8_isIndex z1 (20 : Int32) h) w_X8_isIndex g_st_X8_isIndex (host := "GyreWatch") (by decide +kernel) (by decide) (rest := []) rfl rfl (Nat.le_of_ble_eq_true rfl) dX7_areAllStormsTold_6 (k_I fun z2 h3 => ?_)
  refine V_if_ne (pc := 9) F 16 dX7_areAllStormsTold_9 (by decide) ?_ ?_
  · refine V_iconst (pc := 16) F (x := (0 : Int32)) dX7_areAllStormsTold_16 (by decide) ?_
    exact V_zret (pc := 17) F (Or.inl rfl) dX7_areAllStormsTold_17
  · refine V_iconst (pc := 12) F (x := (1 : Int32)) dX7_areAllStormsTold_12 (by decide) ?_
    refine V_goto (pc := 13) F 17 dX7_areAllStormsTold_13 (by decide) ?_
    exact V_zret (pc := 17) F (Or.inl rfl) dX7_areAllStormsTold_17
theorem C_X7_areAllStormsTold (x0 : Option Nat) (h : MH) : CtrM yX7_areAllStormsTold (WSm yX7_areAllStormsTold cX7_areAllStormsTold 1 (some .boolean)) 1 [vR x0] h (M_X7_areAllStormsTold x0 h) :=
  CtrM_of (by decide) (Nat.le_of_ble_eq_true rfl) (fun K F hm hi => vM_X7_areAllStormsTold F hm x0 h)
def M_X7_dayOf (x0 : Int32) (h : MH) : Res := dvI x0 (60 : Int32) fun z1 => rtI z1 h
theorem vM_X7_dayOf {K : CT} (F : Fr K cX7_dayOf RX7 (some .int) [] 0 0) (hm : mxL K = 1) (x0 : Int32) (h : MH) : V K 0 [(0, vI x0)] [] h (M_X7_dayOf x0 h) := by
  unfold M_X7_dayOf
  refine V_iload_n (pc := 0) F dX7_dayOf_0 0 rfl ?_
  refine V_bipush (pc := 1) F (x := (60 : Int32)) dX7_dayOf_1 (by decide) ?_
  refine V_idiv (pc := 3) F dX7_dayOf_3 ?_
  intro z1
  exact V_iret (pc := 4) F (Or.inl rfl) dX7_dayOf_4
theorem C_X7_dayOf (x0 : Int32) (h : MH) : CtrM yX7_dayOf (WSm yX7_dayOf cX7_dayOf 1 (some .int)) 0 [vI x0] h (M_X7_dayOf x0 h) :=
  CtrM_of (by decide) (Nat.le_of_ble_eq_true rfl) (fun K F hm hi => vM_X7_dayOf F hm x0 h)
def B_X7_hasStorm_38 (rc2 : Option Nat → Int32 → Int32 → MH → Res) (x0 : Option Nat) (x1 : Int32) (x2 : Int32) (h : MH) : Res := bnd (x2 + (1)) fun z6 => rc2 x0 x1 z6 h
def B_X7_hasStorm_2 (rc2 : Option Nat → Int32 → Int32 → MH → Res) (x0 : Option Nat) (x1 : Int32) (x2 : Int32) (h : MH) : Res := gfI h x0 7 4 fun z1 => if z1 ≤ x2 then (rtZ (0 : Int32) h) else (if (20 : Int32) ≤ x2 then (rtZ (0 : Int32) h) else (gfR h x0 7 2 fun r2 => rdI h r2 20 x2 fun z3 => if x1 < z3 then (B_X7_hasStorm_38 rc2 x0 x1 x2 h) else (gfR h x0 7 3 fun r4 => rdI h r4 20 x2 fun z5 => if z5 < x1 then (B_X7_hasStorm_38 rc2 x0 x1 x2 h) else (rtZ (1 : Int32) h))))
def L_X7_hasStorm_2 : Nat → Option Nat → Int32 → Int32 → MH → Res
  | 0 => fun _ _ _ _ => none
  | n + 1 => B_X7_hasStorm_2 (L_X7_hasStorm_2 n)
def M_X7_hasStorm (x0 : Option Nat) (x1 : Int32) (h : MH) : Res := L_X7_hasStorm_2 fuel x0 x1 (0 : Int32) h
theorem vB_X7_hasStorm_38 {K : CT} (F : Fr K cX7_hasStorm RX7 (some .boolean) [] 0 0) (hm : mxL K = 3) (rc2 : Option Nat → Int32 → Int32 → MH → Res) (hrc2 : ∀ x0 x1 x2 h, V K 2 [(0, vR x0), (1, vI x1), (2, vI x2)] [] h (rc2 x0 x1 x2 h)) (x0 : Option Nat) (x1 : Int32) (x2 : Int32) (h : MH) : V K 38 [(0, vR x0), (1, vI x1), (2, vI x2)] [] h (B_X7_hasStorm_38 rc2 x0 x1 x2 h) := by
  unfold B_X7_hasStorm_38
  refine V_iinc (pc := 38) F (fun z6 => [(2, vI z6), (0, vR x0), (1, vI x1)]) dX7_hasStorm_38 (lt_mx hm (by decide)) 2 rfl (dx := (1 : Int32)) (by decide) (fun _ => rfl) ?_
  intro z6
  refine V_goto (pc := 41) F 2 dX7_hasStorm_41 (by decide) ?_
  refine V_sub [1, 2, 0] (L' := [(0, vR x0), (1, vI x1), (2, vI z6)]) rfl ?_
  exact hrc2 x0 x1 z6 h
theorem vB_X7_hasStorm_2 {K : CT} (F : Fr K cX7_hasStorm RX7 (some .boolean) [] 0 0) (hm : mxL K = 3) (rc2 : Option Nat → Int32 → Int32 → MH → Res) (hrc2 : ∀ x0 x1 x2 h, V K 2 [(0, vR x0), (1, vI x1), (2, vI x2)] [] h (rc2 x0 x1 x2 h)) (x0 : Option Nat) (x1 : Int32) (x2 : Int32) (h : MH) : V K 2 [(0, vR x0), (1, vI x1), (2, vI x2)] [] h (B_X7_hasStorm_2 rc2 x0 x1 x2 h) := by
  unfold B_X7_hasStorm_2
  refine V_iload_n (pc := 2) F dX7_hasStorm_2 2 rfl ?_
  refine V_aload_n (pc := 3) F dX7_hasStorm_3 0 rfl ?_
  refine V_getI (pc := 4) F 7 4 (by decide) (by decide) rfl g_fl_RX7_50 dX7_hasStorm_4 ?_
  intro z1
  refine V_icmp_ge (pc := 7) F 44 dX7_hasStorm_7 (by decide) ?_ ?_
  · refine V_iconst (pc := 44) F (x := (0 : Int32)) dX7_hasStorm_44 (by decide) ?_
    exact V_zret (pc := 45) F (Or.inl rfl) dX7_hasStorm_45
  · refine V_iload_n (pc := 10) F dX7_hasStorm_10 2 rfl ?_
    refine V_bipush (pc := 11) F (x := (20 : Int32)) dX7_hasStorm_11 (by decide) ?_
    refine V_icmp_ge (pc := 13) F 44 dX7_hasStorm_13 (by decide) ?_ ?_
    · refine V_iconst (pc := 44) F (x := (0 : Int32)) dX7_hasStorm_44 (by decide) ?_
      exact V_zret (pc := 45) F (Or.inl rfl) dX7_hasStorm_45
    · refine V_aload_n (pc := 16) F dX7_hasStorm_16 0 rfl ?_
      refine V_getR (pc := 17) F 7 2 (by decide) (by decide) rfl g_fl_RX7_15 dX7_hasStorm_17 ?_
      intro r2
      refine V_iload_n (pc := 20) F dX7_hasStorm_20 2 rfl ?_
      refine V_iald (pc := 21) F dX7_hasStorm_21 ?_
      intro z3
      refine V_iload_n (pc := 22) F dX7_hasStorm_22 1 rfl ?_
      refine V_icmp_gt (pc := 23) F 38 dX7_hasStorm_23 (by decide) ?_ ?_
      · exact vB_X7_hasStorm_38 F hm rc2 hrc2 x0 x1 x2 h
      · refine V_iload_n (pc := 26) F dX7_hasStorm_26 1 rfl ?_
        refine V_aload_n (pc := 27) F dX7_hasStorm_27 0 rfl ?_
        refine V_getR (pc := 28) F 7 3 (by decide) (by decide) rfl g_fl_RX7_18 dX7_hasStorm_28 ?_
        intro r4
        refine V_iload_n (pc := 31) F dX7_hasStorm_31 2 rfl ?_
        refine V_iald (pc := 32) F dX7_hasStorm_32 ?_
        intro z5
        refine V_icmp_gt (pc := 33) F 38 dX7_hasStorm_33 (by decide) ?_ ?_
        · exact vB_X7_hasStorm_38 F hm rc2 hrc2 x0 x1 x2 h
        · refine V_iconst (pc := 36) F (x := (1 : Int32)) dX7_hasStorm_36 (by decide) ?_
          exact V_zret (pc := 37) F (Or.inl rfl) dX7_hasStorm_37
theorem vL_X7_hasStorm_2 {K : CT} (F : Fr K cX7_hasStorm RX7 (some .boolean) [] 0 0) (hm : mxL K = 3) (n : Nat) : ∀ x0 x1 x2 h, V K 2 [(0, vR x0), (1, vI x1), (2, vI x2)] [] h (L_X7_hasStorm_2 n x0 x1 x2 h) := by
  induction n with
  | zero => intros; exact V_none
  | succ n ih => intro x0 x1 x2 h; exact vB_X7_hasStorm_2 F hm _ ih x0 x1 x2 h
theorem vM_X7_hasStorm {K : CT} (F : Fr K cX7_hasStorm RX7 (some .boolean) [] 0 0) (hm : mxL K = 3) (x0 : Option Nat) (x1 : Int32) (h : MH) : V K 0 [(0, vR x0), (1, vI x1)] [] h (M_X7_hasStorm x0 x1 h) := by
  unfold M_X7_hasStorm
  refine V_iconst (pc := 0) F (x := (0 : Int32)) dX7_hasStorm_0 (by decide) ?_
  refine V_istore_n (pc := 1) F [(2, vI (0 : Int32)), (0, vR x0), (1, vI x1)] dX7_hasStorm_1 (lt_mx hm (by decide)) rfl ?_
  refine V_sub [1, 2, 0] (L' := [(0, vR x0), (1, vI x1), (2, vI (0 : Int32))]) rfl ?_
  exact vL_X7_hasStorm_2 F hm fuel x0 x1 (0 : Int32) h
theorem C_X7_hasStorm (x0 : Option Nat) (x1 : Int32) (h : MH) : CtrM yX7_hasStorm (WSm yX7_hasStorm cX7_hasStorm 3 (some .boolean)) 0 [vR x0, vI x1] h (M_X7_hasStorm x0 x1 h) :=
  CtrM_of (by decide) (Nat.le_of_ble_eq_true rfl) (fun K F hm hi => vM_X7_hasStorm F hm x0 x1 h)
def B_X7_calmStations_60 (rc5 : Option Nat → Int32 → Int32 → Int32 → Int32 → MH → Res) (x0 : Option Nat) (x1 : Int32) (x2 : Int32) (x3 : Int32) (x4 : Int32) (h : MH) : Res := bnd (x4 + (1)) fun z11 => rc5 x0 x1 x2 x3 z11 h
def B_X7_calmStations_5 (rc5 : Option Nat → Int32 → Int32 → Int32 → Int32 → MH → Res) (x0 : Option Nat) (x1 : Int32) (x2 : Int32) (x3 : Int32) (x4 : Int32) (h : MH) : Res := gfI h x0 7 0 fun z1 => if z1 ≤ x4 then (rtI x3 h) else (gfR h x0 7 1 fun r2 => aln h r2 fun z3 => if z3 ≤ x4 then (rtI x3 h) else (gfR h x0 7 1 fun r4 => rdI h r4 20 x4 fun z5 => calI (M_X7_dayOf z5 h) fun z6 h7 => if z6 < x1 then (B_X7_calmStations_60 rc5 x0 x1 x2 x3 x4 h7) else (if x2 < z6 then (B_X7_calmStations_60 rc5 x0 x1 x2 x3 x4 h7) else (chk h7 x0 7 <| calI (M_X7_hasStorm x0 z6 h7) fun z8 h9 => if z8 ≠ 0 then (B_X7_calmStations_60 rc5 x0 x1 x2 x3 x4 h9) else (bnd (x3 + (1)) fun z10 => B_X7_calmStations_60 rc5 x0 x1 x2 z10 x4 h9)))))
def L_X7_calmStations_5 : Nat → Option Nat → Int32 → Int32 → Int32 → Int32 → MH → Res
  | 0 => fun _ _ _ _ _ _ => none
  | n + 1 => B_X7_calmStations_5 (L_X7_calmStations_5 n)
def M_X7_calmStations (x0 : Option Nat) (x1 : Int32) (x2 : Int32) (h : MH) : Res := L_X7_calmStations_5 fuel x0 x1 x2 (0 : Int32) (0 : Int32) h
theorem vB_X7_calmStations_60 {K : CT} (F : Fr K cX7_calmStations RX7 (some .int) [] 1 0) (hm : mxL K = 6) (rc5 : Option Nat → Int32 → Int32 → Int32 → Int32 → MH → Res) (hrc5 : ∀ x0 x1 x2 x3 x4 h, V K 5 [(0, vR x0), (1, vI x1), (2, vI x2), (3, vI x3), (4, vI x4)] [] h (rc5 x0 x1 x2 x3 x4 h)) (x0 : Option Nat) (x1 : Int32) (x2 : Int32) (x3 : Int32) (x4 : Int32) (h : MH) : V K 60 [(0, vR x0), (1, vI x1), (2, vI x2), (3, vI x3), (4, vI x4)] [] h (B_X7_calmStations_60 rc5 x0 x1 x2 x3 x4 h) := by
  unfold B_X7_calmStations_60
  refine V_iinc (pc := 60) F (fun z11 => [(4, vI z11), (0, vR x0), (1, vI x1), (2, vI x2), (3, vI x3)]) dX7_calmStations_60 (lt_mx hm (by decide)) 4 rfl (dx := (1 : Int32)) (by decide) (fun _ => rfl) ?_
  intro z11
  refine V_goto (pc := 63) F 5 dX7_calmStations_63 (by decide) ?_
  refine V_sub [1, 2, 3, 4, 0] (L' := [(0, vR x0), (1, vI x1), (2, vI x2), (3, vI x3), (4, vI z11)]) rfl ?_
  exact hrc5 x0 x1 x2 x3 z11 h
theorem vB_X7_calmStations_5 {K : CT} (F : Fr K cX7_calmStations RX7 (some .int) [] 1 0) (hm : mxL K = 6) (rc5 : Option Nat → Int32 → Int32 → Int32 → Int32 → MH → Res) (hrc5 : ∀ x0 x1 x2 x3 x4 h, V K 5 [(0, vR x0), (1, vI x1), (2, vI x2), (3, vI x3), (4, vI x4)] [] h (rc5 x0 x1 x2 x3 x4 h)) (x0 : Option Nat) (x1 : Int32) (x2 : Int32) (x3 : Int32) (x4 : Int32) (h : MH) : V K 5 [(0, vR x0), (1, vI x1), (2, vI x2), (3, vI x3), (4, vI x4)] [] h (B_X7_calmStations_5 rc5 x0 x1 x2 x3 x4 h) := by
  unfold B_X7_calmStations_5
  refine V_iload (pc := 5) F dX7_calmStations_5 4 rfl ?_
  refine V_aload_n (pc := 7) F dX7_calmStations_7 0 rfl ?_
  refine V_getI (pc := 8) F 7 0 (by decide) (by decide) rfl g_fl_RX7_29 dX7_calmStations_8 ?_
  intro z1
  refine V_icmp_ge (pc := 11) F 66 dX7_calmStations_11 (by decide) ?_ ?_
  · refine V_iload_n (pc := 66) F dX7_calmStations_66 3 rfl ?_
    exact V_iret (pc := 67) F (Or.inl rfl) dX7_calmStations_67
  · refine V_iload (pc := 14) F dX7_calmStations_14 4 rfl ?_
    refine V_aload_n (pc := 16) F dX7_calmStations_16 0 rfl ?_
    refine V_getR (pc := 17) F 7 1 (by decide) (by decide) rfl g_fl_RX7_9 dX7_calmStations_17 ?_
    intro r2
    refine V_alen (pc := 20) F dX7_calmStations_20 ?_
    intro z3
    refine V_icmp_ge (pc := 21) F 66 dX7_calmStations_21 (by decide) ?_ ?_
    · refine V_iload_n (pc := 66) F dX7_calmStations_66 3 rfl ?_
      exact V_iret (pc := 67) F (Or.inl rfl) dX7_calmStations_67
    · refine V_aload_n (pc := 24) F dX7_calmStations_24 0 rfl ?_
      refine V_getR (pc := 25) F 7 1 (by decide) (by decide) rfl g_fl_RX7_9 dX7_calmStations_25 ?_
      intro r4
      refine V_iload (pc := 28) F dX7_calmStations_28 4 rfl ?_
      refine V_iald (pc := 30) F dX7_calmStations_30 ?_
      intro z5
      refine V_cSM (pc := 31) F (as := [vI z5]) (C_X7_dayOf z5 h) w_X7_dayOf g_st_X7_dayOf g_ml_RX7_41 (by decide) (rest := []) rfl rfl (Nat.le_of_ble_eq_true rfl) dX7_calmStations_31 (k_I fun z6 h7 => ?_)
      refine V_istore (pc := 34) F [(5, vI z6), (0, vR x0), (1, vI x1), (2, vI x2), (3, vI x3), (4, vI x4)] dX7_calmStations_34 (lt_mx hm (by decide)) rfl ?_
      refine V_iload_n (pc := 36) F dX7_calmStations_36 2 rfl ?_
      refine V_iload (pc := 37) F dX7_calmStations_37 0 rfl ?_
      refine V_icmp_gt (pc := 39) F 60 dX7_calmStations_39 (by decide) ?_ ?_
      · refine V_sub [1, 2, 3, 4, 5] (L' := [(0, vR x0), (1, vI x1), (2, vI x2), (3, vI x3), (4, vI x4)]) rfl ?_
        exact vB_X7_calmStations_60 F hm rc5 hrc5 x0 x1 x2 x3 x4 h7
      · refine V_iload (pc := 42) F dX7_calmStations_42 0 rfl ?_
        refine V_iload_n (pc := 44) F dX7_calmStations_44 3 rfl ?_
        refine V_icmp_gt (pc := 45) F 60 dX7_calmStations_45 (by decide) ?_ ?_
        · refine V_sub [1, 2, 3, 4, 5] (L' := [(0, vR x0), (1, vI x1), (2, vI x2), (3, vI x3), (4, vI x4)]) rfl ?_
          exact vB_X7_calmStations_60 F hm rc5 hrc5 x0 x1 x2 x3 x4 h7
        · refine V_aload_n (pc := 48) F dX7_calmStations_48 1 rfl ?_
          refine V_iload (pc := 49) F dX7_calmStations_49 0 rfl ?_
          refine V_cVM (pc := 51) F 7 (by decide) (as := [vI z6]) (C_X7_hasStorm x0 z6 h7) w_X7_hasStorm g_in_X7_hasStorm g_se_X7_hasStorm g_ml_RX7_56 (by decide) (rest := []) rfl rfl (Nat.le_of_ble_eq_true rfl) dX7_calmStations_51 (k_I fun z8 h9 => ?_)
          refine V_if_ne (pc := 54) F 60 dX7_calmStations_54 (by decide) ?_ ?_
          · refine V_sub [1, 2, 3, 4, 5] (L' := [(0, vR x0), (1, vI x1), (2, vI x2), (3, vI x3), (4, vI x4)]) rfl ?_
            exact vB_X7_calmStations_60 F hm rc5 hrc5 x0 x1 x2 x3 x4 h9
          · refine V_iinc (pc := 57) F (fun z10 => [(3, vI z10), (5, vI z6), (0, vR x0), (1, vI x1), (2, vI x2), (4, vI x4)]) dX7_calmStations_57 (lt_mx hm (by decide)) 4 rfl (dx := (1 : Int32)) (by decide) (fun _ => rfl) ?_
            intro z10
            refine V_sub [2, 3, 4, 0, 5] (L' := [(0, vR x0), (1, vI x1), (2, vI x2), (3, vI z10), (4, vI x4)]) rfl ?_
            exact vB_X7_calmStations_60 F hm rc5 hrc5 x0 x1 x2 z10 x4 h9
theorem vL_X7_calmStations_5 {K : CT} (F : Fr K cX7_calmStations RX7 (some .int) [] 1 0) (hm : mxL K = 6) (n : Nat) : ∀ x0 x1 x2 x3 x4 h, V K 5 [(0, vR x0), (1, vI x1), (2, vI x2), (3, vI x3), (4, vI x4)] [] h (L_X7_calmStations_5 n x0 x1 x2 x3 x4 h) := by
  induction n with
  | zero => intros; exact V_none
  | succ n ih => intro x0 x1 x2 x3 x4 h; exact vB_X7_calmStations_5 F hm _ ih x0 x1 x2 x3 x4 h
theorem vM_X7_calmStations {K : CT} (F : Fr K cX7_calmStations RX7 (some .int) [] 1 0) (hm : mxL K = 6) (x0 : Option Nat) (x1 : Int32) (x2 : Int32) (h : MH) : V K 0 [(0, vR x0), (1, vI x1), (2, vI x2)] [] h (M_X7_calmStations x0 x1 x2 h) := by
  unfold M_X7_calmStations
  refine V_iconst (pc := 0) F (x := (0 : Int32)) dX7_calmStations_0 (by decide) ?_
  refine V_istore_n (pc := 1) F [(3, vI (0 : Int32)), (0, vR x0), (1, vI x1), (2, vI x2)] dX7_calmStations_1 (lt_mx hm (by decide)) rfl ?_
  refine V_iconst (pc := 2) F (x := (0 : Int32)) dX7_calmStations_2 (by decide) ?_
  refine V_istore (pc := 3) F [(4, vI (0 : Int32)), (3, vI (0 : Int32)), (0, vR x0), (1, vI x1), (2, vI x2)] dX7_calmStations_3 (lt_mx hm (by decide)) rfl ?_
  refine V_sub [2, 3, 4, 1, 0] (L' := [(0, vR x0), (1, vI x1), (2, vI x2), (3, vI (0 : Int32)), (4, vI (0 : Int32))]) rfl ?_
  exact vL_X7_calmStations_5 F hm fuel x0 x1 x2 (0 : Int32) (0 : Int32) h
theorem C_X7_calmStations (x0 : Option Nat) (x1 : Int32) (x2 : Int32) (h : MH) : CtrM yX7_calmStations (WSm yX7_calmStations cX7_calmStations 6 (some .int)) 1 [vR x0, vI x1, vI x2] h (M_X7_calmStations x0 x1 x2 h) :=
  CtrM_of (by decide) (Nat.le_of_ble_eq_true rfl) (fun K F hm hi => vM_X7_calmStations F hm x0 x1 x2 h)
def M_X7_tellStorm (x0 : Option Nat) (x1 : Int32) (x2 : Int32) (h : MH) : Res := chk h x0 7 <| calI (M_X7_areAllStormsTold x0 h) fun z1 h2 => if z1 ≠ 0 then (rtV h2) else (gfR h2 x0 7 2 fun r3 => gfI h2 x0 7 4 fun z4 => wrI h2 r3 20 z4 x1 fun h5 => gfR h5 x0 7 3 fun r6 => gfI h5 x0 7 4 fun z7 => wrI h5 r6 20 z7 x2 fun h8 => gfI h8 x0 7 4 fun z9 => bnd (z9 + (1 : Int32)) fun z10 => pfI h8 x0 7 4 z10 fun h11 => rtV h11)
theorem vM_X7_tellStorm {K : CT} (F : Fr K cX7_tellStorm RX7 none [] 2 0) (hm : mxL K = 3) (x0 : Option Nat) (x1 : Int32) (x2 : Int32) (h : MH) : V K 0 [(0, vR x0), (1, vI x1), (2, vI x2)] [] h (M_X7_tellStorm x0 x1 x2 h) := by
  unfold M_X7_tellStorm
  refine V_aload_n (pc := 0) F dX7_tellStorm_0 0 rfl ?_
  refine V_cVM (pc := 1) F 7 (by decide) (as := []) (C_X7_areAllStormsTold x0 h) w_X7_areAllStormsTold g_in_X7_areAllStormsTold g_se_X7_areAllStormsTold g_ml_RX7_53 (by decide) (rest := []) rfl rfl (Nat.le_of_ble_eq_true rfl) dX7_tellStorm_1 (k_I fun z1 h2 => ?_)
  refine V_if_ne (pc := 4) F 37 dX7_tellStorm_4 (by decide) ?_ ?_
  · exact V_vret (pc := 37) F (Or.inl rfl) dX7_tellStorm_37
  · refine V_aload_n (pc := 7) F dX7_tellStorm_7 0 rfl ?_
    refine V_getR (pc := 8) F 7 2 (by decide) (by decide) rfl g_fl_RX7_15 dX7_tellStorm_8 ?_
    intro r3
    refine V_aload_n (pc := 11) F dX7_tellStorm_11 0 rfl ?_
    refine V_getI (pc := 12) F 7 4 (by decide) (by decide) rfl g_fl_RX7_50 dX7_tellStorm_12 ?_
    intro z4
    refine V_iload_n (pc := 15) F dX7_tellStorm_15 1 rfl ?_
    refine V_iast (pc := 16) F dX7_tellStorm_16 ?_
    intro h5
    refine V_aload_n (pc := 17) F dX7_tellStorm_17 0 rfl ?_
    refine V_getR (pc := 18) F 7 3 (by decide) (by decide) rfl g_fl_RX7_18 dX7_tellStorm_18 ?_
    intro r6
    refine V_aload_n (pc := 21) F dX7_tellStorm_21 0 rfl ?_
    refine V_getI (pc := 22) F 7 4 (by decide) (by decide) rfl g_fl_RX7_50 dX7_tellStorm_22 ?_
    intro z7
    refine V_iload_n (pc := 25) F dX7_tellStorm_25 2 rfl ?_
    refine V_iast (pc := 26) F dX7_tellStorm_26 ?_
    intro h8
    refine V_aload_n (pc := 27) F dX7_tellStorm_27 0 rfl ?_
    refine V_dup (pc := 28) F dX7_tellStorm_28 rfl ?_
    refine V_getI (pc := 29) F 7 4 (by decide) (by decide) rfl g_fl_RX7_50 dX7_tellStorm_29 ?_
    intro z9
    refine V_iconst (pc := 32) F (x := (1 : Int32)) dX7_tellStorm_32 (by decide) ?_
    refine V_iadd (pc := 33) F dX7_tellStorm_33 ?_
    intro z10
    refine V_putI (pc := 34) F 7 4 (by decide) (by decide) rfl rfl g_fl_RX7_50 dX7_tellStorm_34 ?_
    intro h11
    exact V_vret (pc := 37) F (Or.inl rfl) dX7_tellStorm_37
theorem C_X7_tellStorm (x0 : Option Nat) (x1 : Int32) (x2 : Int32) (h : MH) : CtrM yX7_tellStorm (WSm yX7_tellStorm cX7_tellStorm 3 none) 2 [vR x0, vI x1, vI x2] h (M_X7_tellStorm x0 x1 x2 h) :=
  CtrM_of (by decide) (Nat.le_of_ble_eq_true rfl) (fun K F hm hi => vM_X7_tellStorm F hm x0 x1 x2 h)
def B_X2_nearestOfShip_83 (rc18 : Option Nat → Option Nat → Int32 → Option Nat → Int32 → Int32 → MH → Res) (x1 : Option Nat) (x2 : Option Nat) (x3 : Int32) (x4 : Option Nat) (x5 : Int32) (x6 : Int32) (h : MH) : Res := bnd (x6 + (1)) fun z13 => rc18 x1 x2 x3 x4 x5 z13 h
def B_X2_nearestOfShip_18 (rc18 : Option Nat → Option Nat → Int32 → Option Nat → Int32 → Int32 → MH → Res) (x1 : Option Nat) (x2 : Option Nat) (x3 : Int32) (x4 : Option Nat) (x5 : Int32) (x6 : Int32) (h : MH) : Res := if x5 ≤ x6 then (rtR x2 h) else (rdR h x4 x6 fun r3 => if r3 = none then (B_X2_nearestOfShip_83 rc18 x1 x2 x3 x4 x5 x6 h) else (gfR h r3 4 3 fun r4 => if r4 ≠ none then (B_X2_nearestOfShip_83 rc18 x1 x2 x3 x4 x5 x6 h) else (gfI h r3 4 1 fun z5 => gfI h x1 4 1 fun z6 => if z5 ≠ z6 then (B_X2_nearestOfShip_83 rc18 x1 x2 x3 x4 x5 x6 h) else (gfI h x1 4 0 fun z7 => chk h r3 4 <| calI (M_X4_daysFrom r3 z7 h) fun z8 h9 => if x3 ≤ z8 then (B_X2_nearestOfShip_83 rc18 x1 x2 x3 x4 x5 x6 h9) else (gfI h9 x1 4 0 fun z10 => chk h9 r3 4 <| calI (M_X4_daysFrom r3 z10 h9) fun z11 h12 => B_X2_nearestOfShip_83 rc18 x1 r3 z11 x4 x5 x6 h12)))))
def L_X2_nearestOfShip_18 : Nat → Option Nat → Option Nat → Int32 → Option Nat → Int32 → Int32 → MH → Res
  | 0 => fun _ _ _ _ _ _ _ => none
  | n + 1 => B_X2_nearestOfShip_18 (L_X2_nearestOfShip_18 n)
def M_X2_nearestOfShip (x0 : Option Nat) (x1 : Option Nat) (h : MH) : Res := gfR h x0 2 0 fun r1 => aln h r1 fun z2 => L_X2_nearestOfShip_18 fuel x1 none (3 : Int32) r1 z2 (0 : Int32) h
theorem vB_X2_nearestOfShip_83 {K : CT} (F : Fr K cX2_nearestOfShip RX2 (some (.object "GyreWatch$Reading")) [] 2 0) (hm : mxL K = 8) (rc18 : Option Nat → Option Nat → Int32 → Option Nat → Int32 → Int32 → MH → Res) (hrc18 : ∀ x1 x2 x3 x4 x5 x6 h, V K 18 [(1, vR x1), (2, vR x2), (3, vI x3), (4, vR x4), (5, vI x5), (6, vI x6)] [] h (rc18 x1 x2 x3 x4 x5 x6 h)) (x1 : Option Nat) (x2 : Option Nat) (x3 : Int32) (x4 : Option Nat) (x5 : Int32) (x6 : Int32) (h : MH) : V K 83 [(1, vR x1), (2, vR x2), (3, vI x3), (4, vR x4), (5, vI x5), (6, vI x6)] [] h (B_X2_nearestOfShip_83 rc18 x1 x2 x3 x4 x5 x6 h) := by
  unfold B_X2_nearestOfShip_83
  refine V_iinc (pc := 83) F (fun z13 => [(6, vI z13), (1, vR x1), (2, vR x2), (3, vI x3), (4, vR x4), (5, vI x5)]) dX2_nearestOfShip_83 (lt_mx hm (by decide)) 5 rfl (dx := (1 : Int32)) (by decide) (fun _ => rfl) ?_
  intro z13
  refine V_goto (pc := 86) F 18 dX2_nearestOfShip_86 (by decide) ?_
  refine V_sub [1, 2, 3, 4, 5, 0] (L' := [(1, vR x1), (2, vR x2), (3, vI x3), (4, vR x4), (5, vI x5), (6, vI z13)]) rfl ?_
  exact hrc18 x1 x2 x3 x4 x5 z13 h
theorem vB_X2_nearestOfShip_18 {K : CT} (F : Fr K cX2_nearestOfShip RX2 (some (.object "GyreWatch$Reading")) [] 2 0) (hm : mxL K = 8) (rc18 : Option Nat → Option Nat → Int32 → Option Nat → Int32 → Int32 → MH → Res) (hrc18 : ∀ x1 x2 x3 x4 x5 x6 h, V K 18 [(1, vR x1), (2, vR x2), (3, vI x3), (4, vR x4), (5, vI x5), (6, vI x6)] [] h (rc18 x1 x2 x3 x4 x5 x6 h)) (x1 : Option Nat) (x2 : Option Nat) (x3 : Int32) (x4 : Option Nat) (x5 : Int32) (x6 : Int32) (h : MH) : V K 18 [(1, vR x1), (2, vR x2), (3, vI x3), (4, vR x4), (5, vI x5), (6, vI x6)] [] h (B_X2_nearestOfShip_18 rc18 x1 x2 x3 x4 x5 x6 h) := by
  unfold B_X2_nearestOfShip_18
  refine V_iload (pc := 18) F dX2_nearestOfShip_18 5 rfl ?_
  refine V_iload (pc := 20) F dX2_nearestOfShip_20 4 rfl ?_
  refine V_icmp_ge (pc := 22) F 89 dX2_nearestOfShip_22 (by decide) ?_ ?_
  · refine V_aload_n (pc := 89) F dX2_nearestOfShip_89 1 rfl ?_
    exact V_aret (pc := 90) F (Or.inl rfl) (Or.inl ⟨_, rfl⟩) dX2_nearestOfShip_90
  · refine V_aload (pc := 25) F dX2_nearestOfShip_25 3 rfl ?_
    refine V_iload (pc := 27) F dX2_nearestOfShip_27 5 rfl ?_
    refine V_aald (pc := 29) F dX2_nearestOfShip_29 ?_
    intro r3
    refine V_astore (pc := 30) F [(7, vR r3), (1, vR x1), (2, vR x2), (3, vI x3), (4, vR x4), (5, vI x5), (6, vI x6)] dX2_nearestOfShip_30 (lt_mx hm (by decide)) rfl ?_
    refine V_aload (pc := 32) F dX2_nearestOfShip_32 0 rfl ?_
    refine V_ifnull (pc := 34) F 83 dX2_nearestOfShip_34 (by decide) ?_ ?_
    · refine V_sub [1, 2, 3, 4, 5, 6] (L' := [(1, vR x1), (2, vR x2), (3, vI x3), (4, vR x4), (5, vI x5), (6, vI x6)]) rfl ?_
      exact vB_X2_nearestOfShip_83 F hm rc18 hrc18 x1 x2 x3 x4 x5 x6 h
    · refine V_aload (pc := 37) F dX2_nearestOfShip_37 0 rfl ?_
      refine V_getR (pc := 39) F 4 3 (by decide) (by decide) rfl g_fl_RX2_50 dX2_nearestOfShip_39 ?_
      intro r4
      refine V_ifnonnull (pc := 42) F 83 dX2_nearestOfShip_42 (by decide) ?_ ?_
      · refine V_sub [1, 2, 3, 4, 5, 6] (L' := [(1, vR x1), (2, vR x2), (3, vI x3), (4, vR x4), (5, vI x5), (6, vI x6)]) rfl ?_
        exact vB_X2_nearestOfShip_83 F hm rc18 hrc18 x1 x2 x3 x4 x5 x6 h
      · refine V_aload (pc := 45) F dX2_nearestOfShip_45 0 rfl ?_
        refine V_getI (pc := 47) F 4 1 (by decide) (by decide) rfl g_fl_RX2_54 dX2_nearestOfShip_47 ?_
        intro z5
        refine V_aload_n (pc := 50) F dX2_nearestOfShip_50 1 rfl ?_
        refine V_getI (pc := 51) F 4 1 (by decide) (by decide) rfl g_fl_RX2_54 dX2_nearestOfShip_51 ?_
        intro z6
        refine V_icmp_ne (pc := 54) F 83 dX2_nearestOfShip_54 (by decide) ?_ ?_
        · refine V_sub [1, 2, 3, 4, 5, 6] (L' := [(1, vR x1), (2, vR x2), (3, vI x3), (4, vR x4), (5, vI x5), (6, vI x6)]) rfl ?_
          exact vB_X2_nearestOfShip_83 F hm rc18 hrc18 x1 x2 x3 x4 x5 x6 h
        · refine V_aload (pc := 57) F dX2_nearestOfShip_57 0 rfl ?_
          refine V_aload_n (pc := 59) F dX2_nearestOfShip_59 1 rfl ?_
          refine V_getI (pc := 60) F 4 0 (by decide) (by decide) rfl g_fl_RX2_57 dX2_nearestOfShip_60 ?_
          intro z7
          refine V_cVM (pc := 63) F 4 (by decide) (as := [vI z7]) (C_X4_daysFrom r3 z7 h) w_X4_daysFrom g_in_X4_daysFrom g_se_X4_daysFrom g_ml_RX2_60 (by decide) (rest := []) rfl rfl (Nat.le_of_ble_eq_true rfl) dX2_nearestOfShip_63 (k_I fun z8 h9 => ?_)
          refine V_iload_n (pc := 66) F dX2_nearestOfShip_66 3 rfl ?_
          refine V_icmp_ge (pc := 67) F 83 dX2_nearestOfShip_67 (by decide) ?_ ?_
          · refine V_sub [1, 2, 3, 4, 5, 6] (L' := [(1, vR x1), (2, vR x2), (3, vI x3), (4, vR x4), (5, vI x5), (6, vI x6)]) rfl ?_
            exact vB_X2_nearestOfShip_83 F hm rc18 hrc18 x1 x2 x3 x4 x5 x6 h9
          · refine V_aload (pc := 70) F dX2_nearestOfShip_70 0 rfl ?_
            refine V_astore_n (pc := 72) F [(2, vR r3), (7, vR r3), (1, vR x1), (3, vI x3), (4, vR x4), (5, vI x5), (6, vI x6)] dX2_nearestOfShip_72 (lt_mx hm (by decide)) rfl ?_
            refine V_aload (pc := 73) F dX2_nearestOfShip_73 1 rfl ?_
            refine V_aload_n (pc := 75) F dX2_nearestOfShip_75 2 rfl ?_
            refine V_getI (pc := 76) F 4 0 (by decide) (by decide) rfl g_fl_RX2_57 dX2_nearestOfShip_76 ?_
            intro z10
            refine V_cVM (pc := 79) F 4 (by decide) (as := [vI z10]) (C_X4_daysFrom r3 z10 h9) w_X4_daysFrom g_in_X4_daysFrom g_se_X4_daysFrom g_ml_RX2_60 (by decide) (rest := []) rfl rfl (Nat.le_of_ble_eq_true rfl) dX2_nearestOfShip_79 (k_I fun z11 h12 => ?_)
            refine V_istore_n (pc := 82) F [(3, vI z11), (2, vR r3), (7, vR r3), (1, vR x1), (4, vR x4), (5, vI x5), (6, vI x6)] dX2_nearestOfShip_82 (lt_mx hm (by decide)) rfl ?_
            refine V_sub [3, 1, 0, 4, 5, 6] (L' := [(1, vR x1), (2, vR r3), (3, vI z11), (4, vR x4), (5, vI x5), (6, vI x6)]) rfl ?_
            exact vB_X2_nearestOfShip_83 F hm rc18 hrc18 x1 r3 z11 x4 x5 x6 h12
theorem vL_X2_nearestOfShip_18 {K : CT} (F : Fr K cX2_nearestOfShip RX2 (some (.object "GyreWatch$Reading")) [] 2 0) (hm : mxL K = 8) (n : Nat) : ∀ x1 x2 x3 x4 x5 x6 h, V K 18 [(1, vR x1), (2, vR x2), (3, vI x3), (4, vR x4), (5, vI x5), (6, vI x6)] [] h (L_X2_nearestOfShip_18 n x1 x2 x3 x4 x5 x6 h) := by
  induction n with
  | zero => intros; exact V_none
  | succ n ih => intro x1 x2 x3 x4 x5 x6 h; exact vB_X2_nearestOfShip_18 F hm _ ih x1 x2 x3 x4 x5 x6 h
theorem vM_X2_nearestOfShip {K : CT} (F : Fr K cX2_nearestOfShip RX2 (some (.object "GyreWatch$Reading")) [] 2 0) (hm : mxL K = 8) (x0 : Option Nat) (x1 : Option Nat) (h : MH) : V K 0 [(0, vR x0), (1, vR x1)] [] h (M_X2_nearestOfShip x0 x1 h) := by
  unfold M_X2_nearestOfShip
  refine V_null (pc := 0) F dX2_nearestOfShip_0 ?_
  refine V_astore_n (pc := 1) F [(2, vR none), (0, vR x0), (1, vR x1)] dX2_nearestOfShip_1 (lt_mx hm (by decide)) rfl ?_
  refine V_iconst (pc := 2) F (x := (3 : Int32)) dX2_nearestOfShip_2 (by decide) ?_
  refine V_istore_n (pc := 3) F [(3, vI (3 : Int32)), (2, vR none), (0, vR x0), (1, vR x1)] dX2_nearestOfShip_3 (lt_mx hm (by decide)) rfl ?_
  refine V_aload_n (pc := 4) F dX2_nearestOfShip_4 2 rfl ?_
  refine V_getR (pc := 5) F 2 0 (by decide) (by decide) rfl g_fl_RX2_11 dX2_nearestOfShip_5 ?_
  intro r1
  refine V_astore (pc := 8) F [(4, vR r1), (3, vI (3 : Int32)), (2, vR none), (0, vR x0), (1, vR x1)] dX2_nearestOfShip_8 (lt_mx hm (by decide)) rfl ?_
  refine V_aload (pc := 10) F dX2_nearestOfShip_10 0 rfl ?_
  refine V_alen (pc := 12) F dX2_nearestOfShip_12 ?_
  intro z2
  refine V_istore (pc := 13) F [(5, vI z2), (4, vR r1), (3, vI (3 : Int32)), (2, vR none), (0, vR x0), (1, vR x1)] dX2_nearestOfShip_13 (lt_mx hm (by decide)) rfl ?_
  refine V_iconst (pc := 15) F (x := (0 : Int32)) dX2_nearestOfShip_15 (by decide) ?_
  refine V_istore (pc := 16) F [(6, vI (0 : Int32)), (5, vI z2), (4, vR r1), (3, vI (3 : Int32)), (2, vR none), (0, vR x0), (1, vR x1)] dX2_nearestOfShip_16 (lt_mx hm (by decide)) rfl ?_
  refine V_sub [6, 4, 3, 2, 1, 0] (L' := [(1, vR x1), (2, vR none), (3, vI (3 : Int32)), (4, vR r1), (5, vI z2), (6, vI (0 : Int32))]) rfl ?_
  exact vL_X2_nearestOfShip_18 F hm fuel x1 none (3 : Int32) r1 z2 (0 : Int32) h
theorem C_X2_nearestOfShip (x0 : Option Nat) (x1 : Option Nat) (h : MH) : CtrM yX2_nearestOfShip (WSm yX2_nearestOfShip cX2_nearestOfShip 8 (some (.object "GyreWatch$Reading"))) 2 [vR x0, vR x1] h (M_X2_nearestOfShip x0 x1 h) :=
  CtrM_of (by decide) (Nat.le_of_ble_eq_true rfl) (fun K F hm hi => vM_X2_nearestOfShip F hm x0 x1 h)
def M_X2_isInSpan (x0 : Option Nat) (x1 : Option Nat) (x2 : Int32) (x3 : Int32) (h : MH) : Res := if x1 = none then (rtZ (0 : Int32) h) else (chk h x1 4 <| calI (M_X4_daysFrom x1 x2 h) fun z1 h2 => if x3 < z1 then (rtZ (0 : Int32) h2) else (gfI h2 x0 2 2 fun z3 => chk h2 x1 4 <| calI (M_X4_flagBy x1 z3 h2) fun z4 h5 => if z4 ≠ 0 then (rtZ (0 : Int32) h5) else (rtZ (1 : Int32) h5)))
theorem vM_X2_isInSpan {K : CT} (F : Fr K cX2_isInSpan RX2 (some .boolean) [] 3 0) (hm : mxL K = 4) (x0 : Option Nat) (x1 : Option Nat) (x2 : Int32) (x3 : Int32) (h : MH) : V K 0 [(0, vR x0), (1, vR x1), (2, vI x2), (3, vI x3)] [] h (M_X2_isInSpan x0 x1 x2 x3 h) := by
  unfold M_X2_isInSpan
  refine V_aload_n (pc := 0) F dX2_isInSpan_0 1 rfl ?_
  refine V_ifnull (pc := 1) F 28 dX2_isInSpan_1 (by decide) ?_ ?_
  · refine V_iconst (pc := 28) F (x := (0 : Int32)) dX2_isInSpan_28 (by decide) ?_
    exact V_zret (pc := 29) F (Or.inl rfl) dX2_isInSpan_29
  · refine V_aload_n (pc := 4) F dX2_isInSpan_4 1 rfl ?_
    refine V_iload_n (pc := 5) F dX2_isInSpan_5 2 rfl ?_
    refine V_cVM (pc := 6) F 4 (by decide) (as := [vI x2]) (C_X4_daysFrom x1 x2 h) w_X4_daysFrom g_in_X4_daysFrom g_se_X4_daysFrom g_ml_RX2_60 (by decide) (rest := []) rfl rfl (Nat.le_of_ble_eq_true rfl) dX2_isInSpan_6 (k_I fun z1 h2 => ?_)
    refine V_iload_n (pc := 9) F dX2_isInSpan_9 3 rfl ?_
    refine V_icmp_gt (pc := 10) F 28 dX2_isInSpan_10 (by decide) ?_ ?_
    · refine V_iconst (pc := 28) F (x := (0 : Int32)) dX2_isInSpan_28 (by decide) ?_
      exact V_zret (pc := 29) F (Or.inl rfl) dX2_isInSpan_29
    · refine V_aload_n (pc := 13) F dX2_isInSpan_13 1 rfl ?_
      refine V_aload_n (pc := 14) F dX2_isInSpan_14 0 rfl ?_
      refine V_getI (pc := 15) F 2 2 (by decide) (by decide) rfl g_fl_RX2_17 dX2_isInSpan_15 ?_
      intro z3
      refine V_cVM (pc := 18) F 4 (by decide) (as := [vI z3]) (C_X4_flagBy x1 z3 h2) w_X4_flagBy g_in_X4_flagBy g_se_X4_flagBy g_ml_RX2_75 (by decide) (rest := []) rfl rfl (Nat.le_of_ble_eq_true rfl) dX2_isInSpan_18 (k_I fun z4 h5 => ?_)
      refine V_if_ne (pc := 21) F 28 dX2_isInSpan_21 (by decide) ?_ ?_
      · refine V_iconst (pc := 28) F (x := (0 : Int32)) dX2_isInSpan_28 (by decide) ?_
        exact V_zret (pc := 29) F (Or.inl rfl) dX2_isInSpan_29
      · refine V_iconst (pc := 24) F (x := (1 : Int32)) dX2_isInSpan_24 (by decide) ?_
        refine V_goto (pc := 25) F 29 dX2_isInSpan_25 (by decide) ?_
        exact V_zret (pc := 29) F (Or.inl rfl) dX2_isInSpan_29
theorem C_X2_isInSpan (x0 : Option Nat) (x1 : Option Nat) (x2 : Int32) (x3 : Int32) (h : MH) : CtrM yX2_isInSpan (WSm yX2_isInSpan cX2_isInSpan 4 (some .boolean)) 3 [vR x0, vR x1, vI x2, vI x3] h (M_X2_isInSpan x0 x1 x2 x3 h) :=
  CtrM_of (by decide) (Nat.le_of_ble_eq_true rfl) (fun K F hm hi => vM_X2_isInSpan F hm x0 x1 x2 x3 h)
def B_X2_weightsWithout_60 (rc17 : Option Nat → Option Nat → Int32 → Int32 → Int32 → Int32 → Option Nat → Int32 → Int32 → MH → Res) (x0 : Option Nat) (x1 : Option Nat) (x2 : Int32) (x3 : Int32) (x4 : Int32) (x5 : Int32) (x6 : Option Nat) (x7 : Int32) (x8 : Int32) (h : MH) : Res := bnd (x8 + (1)) fun z9 => rc17 x0 x1 x2 x3 x4 x5 x6 x7 z9 h
def B_X2_weightsWithout_17 (rc17 : Option Nat → Option Nat → Int32 → Int32 → Int32 → Int32 → Option Nat → Int32 → Int32 → MH → Res) (x0 : Option Nat) (x1 : Option Nat) (x2 : Int32) (x3 : Int32) (x4 : Int32) (x5 : Int32) (x6 : Option Nat) (x7 : Int32) (x8 : Int32) (h : MH) : Res := if x7 ≤ x8 then (rtI x5 h) else (rdR h x6 x8 fun r3 => acq h r3 x1 (B_X2_weightsWithout_60 rc17 x0 x1 x2 x3 x4 x5 x6 x7 x8 h) (chk h x0 2 <| calI (M_X2_isInSpan x0 r3 x3 x4 h) fun z4 h5 => if z4 = 0 then (B_X2_weightsWithout_60 rc17 x0 x1 x2 x3 x4 x5 x6 x7 x8 h5) else (chk h5 r3 4 <| calI (M_X4_weightIn r3 x2 h5) fun z6 h7 => bnd (x5 + z6) fun z8 => B_X2_weightsWithout_60 rc17 x0 x1 x2 x3 x4 z8 x6 x7 x8 h7)))
def L_X2_weightsWithout_17 : Nat → Option Nat → Option Nat → Int32 → Int32 → Int32 → Int32 → Option Nat → Int32 → Int32 → MH → Res
  | 0 => fun _ _ _ _ _ _ _ _ _ _ => none
  | n + 1 => B_X2_weightsWithout_17 (L_X2_weightsWithout_17 n)
def M_X2_weightsWithout (x0 : Option Nat) (x1 : Option Nat) (x2 : Int32) (x3 : Int32) (x4 : Int32) (h : MH) : Res := gfR h x0 2 0 fun r1 => aln h r1 fun z2 => L_X2_weightsWithout_17 fuel x0 x1 x2 x3 x4 (0 : Int32) r1 z2 (0 : Int32) h
theorem vB_X2_weightsWithout_60 {K : CT} (F : Fr K cX2_weightsWithout RX2 (some .int) [] 4 0) (hm : mxL K = 10) (rc17 : Option Nat → Option Nat → Int32 → Int32 → Int32 → Int32 → Option Nat → Int32 → Int32 → MH → Res) (hrc17 : ∀ x0 x1 x2 x3 x4 x5 x6 x7 x8 h, V K 17 [(0, vR x0), (1, vR x1), (2, vI x2), (3, vI x3), (4, vI x4), (5, vI x5), (6, vR x6), (7, vI x7), (8, vI x8)] [] h (rc17 x0 x1 x2 x3 x4 x5 x6 x7 x8 h)) (x0 : Option Nat) (x1 : Option Nat) (x2 : Int32) (x3 : Int32) (x4 : Int32) (x5 : Int32) (x6 : Option Nat) (x7 : Int32) (x8 : Int32) (h : MH) : V K 60 [(0, vR x0), (1, vR x1), (2, vI x2), (3, vI x3), (4, vI x4), (5, vI x5), (6, vR x6), (7, vI x7), (8, vI x8)] [] h (B_X2_weightsWithout_60 rc17 x0 x1 x2 x3 x4 x5 x6 x7 x8 h) := by
  unfold B_X2_weightsWithout_60
  refine V_iinc (pc := 60) F (fun z9 => [(8, vI z9), (0, vR x0), (1, vR x1), (2, vI x2), (3, vI x3), (4, vI x4), (5, vI x5), (6, vR x6), (7, vI x7)]) dX2_weightsWithout_60 (lt_mx hm (by decide)) 8 rfl (dx := (1 : Int32)) (by decide) (fun _ => rfl) ?_
  intro z9
  refine V_goto (pc := 63) F 17 dX2_weightsWithout_63 (by decide) ?_
  refine V_sub [1, 2, 3, 4, 5, 6, 7, 8, 0] (L' := [(0, vR x0), (1, vR x1), (2, vI x2), (3, vI x3), (4, vI x4), (5, vI x5), (6, vR x6), (7, vI x7), (8, vI z9)]) rfl ?_
  exact hrc17 x0 x1 x2 x3 x4 x5 x6 x7 z9 h
theorem vB_X2_weightsWithout_17 {K : CT} (F : Fr K cX2_weightsWithout RX2 (some .int) [] 4 0) (hm : mxL K = 10) (rc17 : Option Nat → Option Nat → Int32 → Int32 → Int32 → Int32 → Option Nat → Int32 → Int32 → MH → Res) (hrc17 : ∀ x0 x1 x2 x3 x4 x5 x6 x7 x8 h, V K 17 [(0, vR x0), (1, vR x1), (2, vI x2), (3, vI x3), (4, vI x4), (5, vI x5), (6, vR x6), (7, vI x7), (8, vI x8)] [] h (rc17 x0 x1 x2 x3 x4 x5 x6 x7 x8 h)) (x0 : Option Nat) (x1 : Option Nat) (x2 : Int32) (x3 : Int32) (x4 : Int32) (x5 : Int32) (x6 : Option Nat) (x7 : Int32) (x8 : Int32) (h : MH) : V K 17 [(0, vR x0), (1, vR x1), (2, vI x2), (3, vI x3), (4, vI x4), (5, vI x5), (6, vR x6), (7, vI x7), (8, vI x8)] [] h (B_X2_weightsWithout_17 rc17 x0 x1 x2 x3 x4 x5 x6 x7 x8 h) := by
  unfold B_X2_weightsWithout_17
  refine V_iload (pc := 17) F dX2_weightsWithout_17 8 rfl ?_
  refine V_iload (pc := 19) F dX2_weightsWithout_19 7 rfl ?_
  refine V_icmp_ge (pc := 21) F 66 dX2_weightsWithout_21 (by decide) ?_ ?_
  · refine V_iload (pc := 66) F dX2_weightsWithout_66 5 rfl ?_
    exact V_iret (pc := 68) F (Or.inl rfl) dX2_weightsWithout_68
  · refine V_aload (pc := 24) F dX2_weightsWithout_24 6 rfl ?_
    refine V_iload (pc := 26) F dX2_weightsWithout_26 8 rfl ?_
    refine V_aald (pc := 28) F dX2_weightsWithout_28 ?_
    intro r3
    refine V_astore (pc := 29) F [(9, vR r3), (0, vR x0), (1, vR x1), (2, vI x2), (3, vI x3), (4, vI x4), (5, vI x5), (6, vR x6), (7, vI x7), (8, vI x8)] dX2_weightsWithout_29 (lt_mx hm (by decide)) rfl ?_
    refine V_aload (pc := 31) F dX2_weightsWithout_31 0 rfl ?_
    refine V_aload_n (pc := 33) F dX2_weightsWithout_33 2 rfl ?_
    refine V_acq (pc := 34) F 60 dX2_weightsWithout_34 (by decide) ?_ ?_
    · refine V_sub [1, 2, 3, 4, 5, 6, 7, 8, 9] (L' := [(0, vR x0), (1, vR x1), (2, vI x2), (3, vI x3), (4, vI x4), (5, vI x5), (6, vR x6), (7, vI x7), (8, vI x8)]) rfl ?_
      exact vB_X2_weightsWithout_60 F hm rc17 hrc17 x0 x1 x2 x3 x4 x5 x6 x7 x8 h
    · refine V_aload_n (pc := 37) F dX2_weightsWithout_37 1 rfl ?_
      refine V_aload (pc := 38) F dX2_weightsWithout_38 0 rfl ?_
      refine V_iload_n (pc := 40) F dX2_weightsWithout_40 4 rfl ?_
      refine V_iload (pc := 41) F dX2_weightsWithout_41 5 rfl ?_
      refine V_cVM (pc := 43) F 2 (by decide) (as := [vR r3, vI x3, vI x4]) (C_X2_isInSpan x0 r3 x3 x4 h) w_X2_isInSpan g_in_X2_isInSpan g_se_X2_isInSpan g_ml_RX2_64 (by decide) (rest := []) rfl rfl (Nat.le_of_ble_eq_true rfl) dX2_weightsWithout_43 (k_I fun z4 h5 => ?_)
      refine V_if_eq (pc := 46) F 60 dX2_weightsWithout_46 (by decide) ?_ ?_
      · refine V_sub [1, 2, 3, 4, 5, 6, 7, 8, 9] (L' := [(0, vR x0), (1, vR x1), (2, vI x2), (3, vI x3), (4, vI x4), (5, vI x5), (6, vR x6), (7, vI x7), (8, vI x8)]) rfl ?_
        exact vB_X2_weightsWithout_60 F hm rc17 hrc17 x0 x1 x2 x3 x4 x5 x6 x7 x8 h5
      · refine V_iload (pc := 49) F dX2_weightsWithout_49 6 rfl ?_
        refine V_aload (pc := 51) F dX2_weightsWithout_51 0 rfl ?_
        refine V_iload_n (pc := 53) F dX2_weightsWithout_53 3 rfl ?_
        refine V_cVM (pc := 54) F 4 (by decide) (as := [vI x2]) (C_X4_weightIn r3 x2 h5) w_X4_weightIn g_in_X4_weightIn g_se_X4_weightIn g_ml_RX2_68 (by decide) (rest := [vI x5]) rfl rfl (Nat.le_of_ble_eq_true rfl) dX2_weightsWithout_54 (k_I fun z6 h7 => ?_)
        refine V_iadd (pc := 57) F dX2_weightsWithout_57 ?_
        intro z8
        refine V_istore (pc := 58) F [(5, vI z8), (9, vR r3), (0, vR x0), (1, vR x1), (2, vI x2), (3, vI x3), (4, vI x4), (6, vR x6), (7, vI x7), (8, vI x8)] dX2_weightsWithout_58 (lt_mx hm (by decide)) rfl ?_
        refine V_sub [2, 3, 4, 5, 6, 0, 7, 8, 9] (L' := [(0, vR x0), (1, vR x1), (2, vI x2), (3, vI x3), (4, vI x4), (5, vI z8), (6, vR x6), (7, vI x7), (8, vI x8)]) rfl ?_
        exact vB_X2_weightsWithout_60 F hm rc17 hrc17 x0 x1 x2 x3 x4 z8 x6 x7 x8 h7
theorem vL_X2_weightsWithout_17 {K : CT} (F : Fr K cX2_weightsWithout RX2 (some .int) [] 4 0) (hm : mxL K = 10) (n : Nat) : ∀ x0 x1 x2 x3 x4 x5 x6 x7 x8 h, V K 17 [(0, vR x0), (1, vR x1), (2, vI x2), (3, vI x3), (4, vI x4), (5, vI x5), (6, vR x6), (7, vI x7), (8, vI x8)] [] h (L_X2_weightsWithout_17 n x0 x1 x2 x3 x4 x5 x6 x7 x8 h) := by
  induction n with
  | zero => intros; exact V_none
  | succ n ih => intro x0 x1 x2 x3 x4 x5 x6 x7 x8 h; exact vB_X2_weightsWithout_17 F hm _ ih x0 x1 x2 x3 x4 x5 x6 x7 x8 h
theorem vM_X2_weightsWithout {K : CT} (F : Fr K cX2_weightsWithout RX2 (some .int) [] 4 0) (hm : mxL K = 10) (x0 : Option Nat) (x1 : Option Nat) (x2 : Int32) (x3 : Int32) (x4 : Int32) (h : MH) : V K 0 [(0, vR x0), (1, vR x1), (2, vI x2), (3, vI x3), (4, vI x4)] [] h (M_X2_weightsWithout x0 x1 x2 x3 x4 h) := by
  unfold M_X2_weightsWithout
  refine V_iconst (pc := 0) F (x := (0 : Int32)) dX2_weightsWithout_0 (by decide) ?_
  refine V_istore (pc := 1) F [(5, vI (0 : Int32)), (0, vR x0), (1, vR x1), (2, vI x2), (3, vI x3), (4, vI x4)] dX2_weightsWithout_1 (lt_mx hm (by decide)) rfl ?_
  refine V_aload_n (pc := 3) F dX2_weightsWithout_3 1 rfl ?_
  refine V_getR (pc := 4) F 2 0 (by decide) (by decide) rfl g_fl_RX2_11 dX2_weightsWithout_4 ?_
  intro r1
  refine V_astore (pc := 7) F [(6, vR r1), (5, vI (0 : Int32)), (0, vR x0), (1, vR x1), (2, vI x2), (3, vI x3), (4, vI x4)] dX2_weightsWithout_7 (lt_mx hm (by decide)) rfl ?_
  refine V_aload (pc := 9) F dX2_weightsWithout_9 0 rfl ?_
  refine V_alen (pc := 11) F dX2_weightsWithout_11 ?_
  intro z2
  refine V_istore (pc := 12) F [(7, vI z2), (6, vR r1), (5, vI (0 : Int32)), (0, vR x0), (1, vR x1), (2, vI x2), (3, vI x3), (4, vI x4)] dX2_weightsWithout_12 (lt_mx hm (by decide)) rfl ?_
  refine V_iconst (pc := 14) F (x := (0 : Int32)) dX2_weightsWithout_14 (by decide) ?_
  refine V_istore (pc := 15) F [(8, vI (0 : Int32)), (7, vI z2), (6, vR r1), (5, vI (0 : Int32)), (0, vR x0), (1, vR x1), (2, vI x2), (3, vI x3), (4, vI x4)] dX2_weightsWithout_15 (lt_mx hm (by decide)) rfl ?_
  refine V_sub [4, 5, 6, 7, 8, 3, 2, 1, 0] (L' := [(0, vR x0), (1, vR x1), (2, vI x2), (3, vI x3), (4, vI x4), (5, vI (0 : Int32)), (6, vR r1), (7, vI z2), (8, vI (0 : Int32))]) rfl ?_
  exact vL_X2_weightsWithout_17 F hm fuel x0 x1 x2 x3 x4 (0 : Int32) r1 z2 (0 : Int32) h
theorem C_X2_weightsWithout (x0 : Option Nat) (x1 : Option Nat) (x2 : Int32) (x3 : Int32) (x4 : Int32) (h : MH) : CtrM yX2_weightsWithout (WSm yX2_weightsWithout cX2_weightsWithout 10 (some .int)) 4 [vR x0, vR x1, vI x2, vI x3, vI x4] h (M_X2_weightsWithout x0 x1 x2 x3 x4 h) :=
  CtrM_of (by decide) (Nat.le_of_ble_eq_true rfl) (fun K F hm hi => vM_X2_weightsWithout F hm x0 x1 x2 x3 x4 h)
def B_X2_weighedValuesWithout_68 (rc17 : Option Nat → Option Nat → Int32 → Int32 → Int32 → Int64 → Option Nat → Int32 → Int32 → MH → Res) (x0 : Option Nat) (x1 : Option Nat) (x2 : Int32) (x3 : Int32) (x4 : Int32) (x5 : Int64) (x7 : Option Nat) (x8 : Int32) (x9 : Int32) (h : MH) : Res := bnd (x9 + (1)) fun z14 => rc17 x0 x1 x2 x3 x4 x5 x7 x8 z14 h
def B_X2_weighedValuesWithout_17 (rc17 : Option Nat → Option Nat → Int32 → Int32 → Int32 → Int64 → Option Nat → Int32 → Int32 → MH → Res) (x0 : Option Nat) (x1 : Option Nat) (x2 : Int32) (x3 : Int32) (x4 : Int32) (x5 : Int64) (x7 : Option Nat) (x8 : Int32) (x9 : Int32) (h : MH) : Res := if x8 ≤ x9 then (rtQ x5 h) else (rdR h x7 x9 fun r3 => acq h r3 x1 (B_X2_weighedValuesWithout_68 rc17 x0 x1 x2 x3 x4 x5 x7 x8 x9 h) (chk h x0 2 <| calI (M_X2_isInSpan x0 r3 x3 x4 h) fun z4 h5 => if z4 = 0 then (B_X2_weighedValuesWithout_68 rc17 x0 x1 x2 x3 x4 x5 x7 x8 x9 h5) else (chk h5 r3 4 <| calI (M_X4_corrected r3 h5) fun z6 h7 => bnd (Int32.toInt64 z6) fun z8 => chk h7 r3 4 <| calI (M_X4_weightIn r3 x2 h7) fun z9 h10 => bnd (Int32.toInt64 z9) fun z11 => bnd (z8 * z11) fun z12 => bnd (x5 + z12) fun z13 => B_X2_weighedValuesWithout_68 rc17 x0 x1 x2 x3 x4 z13 x7 x8 x9 h10)))
def L_X2_weighedValuesWithout_17 : Nat → Option Nat → Option Nat → Int32 → Int32 → Int32 → Int64 → Option Nat → Int32 → Int32 → MH → Res
  | 0 => fun _ _ _ _ _ _ _ _ _ _ => none
  | n + 1 => B_X2_weighedValuesWithout_17 (L_X2_weighedValuesWithout_17 n)
def M_X2_weighedValuesWithout (x0 : Option Nat) (x1 : Option Nat) (x2 : Int32) (x3 : Int32) (x4 : Int32) (h : MH) : Res := gfR h x0 2 0 fun r1 => aln h r1 fun z2 => L_X2_weighedValuesWithout_17 fuel x0 x1 x2 x3 x4 (0 : Int64) r1 z2 (0 : Int32) h
theorem vB_X2_weighedValuesWithout_68 {K : CT} (F : Fr K cX2_weighedValuesWithout RX2 (some .long) [] 4 0) (hm : mxL K = 11) (rc17 : Option Nat → Option Nat → Int32 → Int32 → Int32 → Int64 → Option Nat → Int32 → Int32 → MH → Res) (hrc17 : ∀ x0 x1 x2 x3 x4 x5 x7 x8 x9 h, V K 17 [(0, vR x0), (1, vR x1), (2, vI x2), (3, vI x3), (4, vI x4), (5, vL x5), (7, vR x7), (8, vI x8), (9, vI x9)] [] h (rc17 x0 x1 x2 x3 x4 x5 x7 x8 x9 h)) (x0 : Option Nat) (x1 : Option Nat) (x2 : Int32) (x3 : Int32) (x4 : Int32) (x5 : Int64) (x7 : Option Nat) (x8 : Int32) (x9 : Int32) (h : MH) : V K 68 [(0, vR x0), (1, vR x1), (2, vI x2), (3, vI x3), (4, vI x4), (5, vL x5), (7, vR x7), (8, vI x8), (9, vI x9)] [] h (B_X2_weighedValuesWithout_68 rc17 x0 x1 x2 x3 x4 x5 x7 x8 x9 h) := by
  unfold B_X2_weighedValuesWithout_68
  refine V_iinc (pc := 68) F (fun z14 => [(9, vI z14), (0, vR x0), (1, vR x1), (2, vI x2), (3, vI x3), (4, vI x4), (5, vL x5), (7, vR x7), (8, vI x8)]) dX2_weighedValuesWithout_68 (lt_mx hm (by decide)) 8 rfl (dx := (1 : Int32)) (by decide) (fun _ => rfl) ?_
  intro z14
  refine V_goto (pc := 71) F 17 dX2_weighedValuesWithout_71 (by decide) ?_
  refine V_sub [1, 2, 3, 4, 5, 6, 7, 8, 0] (L' := [(0, vR x0), (1, vR x1), (2, vI x2), (3, vI x3), (4, vI x4), (5, vL x5), (7, vR x7), (8, vI x8), (9, vI z14)]) rfl ?_
  exact hrc17 x0 x1 x2 x3 x4 x5 x7 x8 z14 h
theorem vB_X2_weighedValuesWithout_17 {K : CT} (F : Fr K cX2_weighedValuesWithout RX2 (some .long) [] 4 0) (hm : mxL K = 11) (rc17 : Option Nat → Option Nat → Int32 → Int32 → Int32 → Int64 → Option Nat → Int32 → Int32 → MH → Res) (hrc17 : ∀ x0 x1 x2 x3 x4 x5 x7 x8 x9 h, V K 17 [(0, vR x0), (1, vR x1), (2, vI x2), (3, vI x3), (4, vI x4), (5, vL x5), (7, vR x7), (8, vI x8), (9, vI x9)] [] h (rc17 x0 x1 x2 x3 x4 x5 x7 x8 x9 h)) (x0 : Option Nat) (x1 : Option Nat) (x2 : Int32) (x3 : Int32) (x4 : Int32) (x5 : Int64) (x7 : Option Nat) (x8 : Int32) (x9 : Int32) (h : MH) : V K 17 [(0, vR x0), (1, vR x1), (2, vI x2), (3, vI x3), (4, vI x4), (5, vL x5), (7, vR x7), (8, vI x8), (9, vI x9)] [] h (B_X2_weighedValuesWithout_17 rc17 x0 x1 x2 x3 x4 x5 x7 x8 x9 h) := by
  unfold B_X2_weighedValuesWithout_17
  refine V_iload (pc := 17) F dX2_weighedValuesWithout_17 8 rfl ?_
  refine V_iload (pc := 19) F dX2_weighedValuesWithout_19 7 rfl ?_
  refine V_icmp_ge (pc := 21) F 74 dX2_weighedValuesWithout_21 (by decide) ?_ ?_
  · refine V_lload (pc := 74) F dX2_weighedValuesWithout_74 5 rfl ?_
    exact V_lret (pc := 76) F (Or.inl rfl) dX2_weighedValuesWithout_76
  · refine V_aload (pc := 24) F dX2_weighedValuesWithout_24 6 rfl ?_
    refine V_iload (pc := 26) F dX2_weighedValuesWithout_26 8 rfl ?_
    refine V_aald (pc := 28) F dX2_weighedValuesWithout_28 ?_
    intro r3
    refine V_astore (pc := 29) F [(10, vR r3), (0, vR x0), (1, vR x1), (2, vI x2), (3, vI x3), (4, vI x4), (5, vL x5), (7, vR x7), (8, vI x8), (9, vI x9)] dX2_weighedValuesWithout_29 (lt_mx hm (by decide)) rfl ?_
    refine V_aload (pc := 31) F dX2_weighedValuesWithout_31 0 rfl ?_
    refine V_aload_n (pc := 33) F dX2_weighedValuesWithout_33 2 rfl ?_
    refine V_acq (pc := 34) F 68 dX2_weighedValuesWithout_34 (by decide) ?_ ?_
    · refine V_sub [1, 2, 3, 4, 5, 6, 7, 8, 9] (L' := [(0, vR x0), (1, vR x1), (2, vI x2), (3, vI x3), (4, vI x4), (5, vL x5), (7, vR x7), (8, vI x8), (9, vI x9)]) rfl ?_
      exact vB_X2_weighedValuesWithout_68 F hm rc17 hrc17 x0 x1 x2 x3 x4 x5 x7 x8 x9 h
    · refine V_aload_n (pc := 37) F dX2_weighedValuesWithout_37 1 rfl ?_
      refine V_aload (pc := 38) F dX2_weighedValuesWithout_38 0 rfl ?_
      refine V_iload_n (pc := 40) F dX2_weighedValuesWithout_40 4 rfl ?_
      refine V_iload (pc := 41) F dX2_weighedValuesWithout_41 5 rfl ?_
      refine V_cVM (pc := 43) F 2 (by decide) (as := [vR r3, vI x3, vI x4]) (C_X2_isInSpan x0 r3 x3 x4 h) w_X2_isInSpan g_in_X2_isInSpan g_se_X2_isInSpan g_ml_RX2_64 (by decide) (rest := []) rfl rfl (Nat.le_of_ble_eq_true rfl) dX2_weighedValuesWithout_43 (k_I fun z4 h5 => ?_)
      refine V_if_eq (pc := 46) F 68 dX2_weighedValuesWithout_46 (by decide) ?_ ?_
      · refine V_sub [1, 2, 3, 4, 5, 6, 7, 8, 9] (L' := [(0, vR x0), (1, vR x1), (2, vI x2), (3, vI x3), (4, vI x4), (5, vL x5), (7, vR x7), (8, vI x8), (9, vI x9)]) rfl ?_
        exact vB_X2_weighedValuesWithout_68 F hm rc17 hrc17 x0 x1 x2 x3 x4 x5 x7 x8 x9 h5
      · refine V_lload (pc := 49) F dX2_weighedValuesWithout_49 6 rfl ?_
        refine V_aload (pc := 51) F dX2_weighedValuesWithout_51 0 rfl ?_
        refine V_cVM (pc := 53) F 4 (by decide) (as := []) (C_X4_corrected r3 h5) w_X4_corrected g_in_X4_corrected g_se_X4_corrected g_ml_RX2_71 (by decide) (rest := [vL x5]) rfl rfl (Nat.le_of_ble_eq_true rfl) dX2_weighedValuesWithout_53 (k_I fun z6 h7 => ?_)
        refine V_i2l (pc := 56) F dX2_weighedValuesWithout_56 ?_
        intro z8
        refine V_aload (pc := 57) F dX2_weighedValuesWithout_57 0 rfl ?_
        refine V_iload_n (pc := 59) F dX2_weighedValuesWithout_59 3 rfl ?_
        refine V_cVM (pc := 60) F 4 (by decide) (as := [vI x2]) (C_X4_weightIn r3 x2 h7) w_X4_weightIn g_in_X4_weightIn g_se_X4_weightIn g_ml_RX2_68 (by decide) (rest := [vL z8, vL x5]) rfl rfl (Nat.le_of_ble_eq_true rfl) dX2_weighedValuesWithout_60 (k_I fun z9 h10 => ?_)
        refine V_i2l (pc := 63) F dX2_weighedValuesWithout_63 ?_
        intro z11
        refine V_lmul (pc := 64) F dX2_weighedValuesWithout_64 ?_
        intro z12
        refine V_ladd (pc := 65) F dX2_weighedValuesWithout_65 ?_
        intro z13
        refine V_lstore (pc := 66) F [(5, vL z13), (10, vR r3), (0, vR x0), (1, vR x1), (2, vI x2), (3, vI x3), (4, vI x4), (7, vR x7), (8, vI x8), (9, vI x9)] dX2_weighedValuesWithout_66 (lt_mx hm (by decide)) rfl ?_
        refine V_sub [2, 3, 4, 5, 6, 0, 7, 8, 9] (L' := [(0, vR x0), (1, vR x1), (2, vI x2), (3, vI x3), (4, vI x4), (5, vL z13), (7, vR x7), (8, vI x8), (9, vI x9)]) rfl ?_
        exact vB_X2_weighedValuesWithout_68 F hm rc17 hrc17 x0 x1 x2 x3 x4 z13 x7 x8 x9 h10
theorem vL_X2_weighedValuesWithout_17 {K : CT} (F : Fr K cX2_weighedValuesWithout RX2 (some .long) [] 4 0) (hm : mxL K = 11) (n : Nat) : ∀ x0 x1 x2 x3 x4 x5 x7 x8 x9 h, V K 17 [(0, vR x0), (1, vR x1), (2, vI x2), (3, vI x3), (4, vI x4), (5, vL x5), (7, vR x7), (8, vI x8), (9, vI x9)] [] h (L_X2_weighedValuesWithout_17 n x0 x1 x2 x3 x4 x5 x7 x8 x9 h) := by
  induction n with
  | zero => intros; exact V_none
  | succ n ih => intro x0 x1 x2 x3 x4 x5 x7 x8 x9 h; exact vB_X2_weighedValuesWithout_17 F hm _ ih x0 x1 x2 x3 x4 x5 x7 x8 x9 h
theorem vM_X2_weighedValuesWithout {K : CT} (F : Fr K cX2_weighedValuesWithout RX2 (some .long) [] 4 0) (hm : mxL K = 11) (x0 : Option Nat) (x1 : Option Nat) (x2 : Int32) (x3 : Int32) (x4 : Int32) (h : MH) : V K 0 [(0, vR x0), (1, vR x1), (2, vI x2), (3, vI x3), (4, vI x4)] [] h (M_X2_weighedValuesWithout x0 x1 x2 x3 x4 h) := by
  unfold M_X2_weighedValuesWithout
  refine V_lconst (pc := 0) F (x := (0 : Int64)) dX2_weighedValuesWithout_0 (by decide) ?_
  refine V_lstore (pc := 1) F [(5, vL (0 : Int64)), (0, vR x0), (1, vR x1), (2, vI x2), (3, vI x3), (4, vI x4)] dX2_weighedValuesWithout_1 (lt_mx hm (by decide)) rfl ?_
  refine V_aload_n (pc := 3) F dX2_weighedValuesWithout_3 1 rfl ?_
  refine V_getR (pc := 4) F 2 0 (by decide) (by decide) rfl g_fl_RX2_11 dX2_weighedValuesWithout_4 ?_
  intro r1
  refine V_astore (pc := 7) F [(7, vR r1), (5, vL (0 : Int64)), (0, vR x0), (1, vR x1), (2, vI x2), (3, vI x3), (4, vI x4)] dX2_weighedValuesWithout_7 (lt_mx hm (by decide)) rfl ?_
  refine V_aload (pc := 9) F dX2_weighedValuesWithout_9 0 rfl ?_
  refine V_alen (pc := 11) F dX2_weighedValuesWithout_11 ?_
  intro z2
  refine V_istore (pc := 12) F [(8, vI z2), (7, vR r1), (5, vL (0 : Int64)), (0, vR x0), (1, vR x1), (2, vI x2), (3, vI x3), (4, vI x4)] dX2_weighedValuesWithout_12 (lt_mx hm (by decide)) rfl ?_
  refine V_iconst (pc := 14) F (x := (0 : Int32)) dX2_weighedValuesWithout_14 (by decide) ?_
  refine V_istore (pc := 15) F [(9, vI (0 : Int32)), (8, vI z2), (7, vR r1), (5, vL (0 : Int64)), (0, vR x0), (1, vR x1), (2, vI x2), (3, vI x3), (4, vI x4)] dX2_weighedValuesWithout_15 (lt_mx hm (by decide)) rfl ?_
  refine V_sub [4, 5, 6, 7, 8, 3, 2, 1, 0] (L' := [(0, vR x0), (1, vR x1), (2, vI x2), (3, vI x3), (4, vI x4), (5, vL (0 : Int64)), (7, vR r1), (8, vI z2), (9, vI (0 : Int32))]) rfl ?_
  exact vL_X2_weighedValuesWithout_17 F hm fuel x0 x1 x2 x3 x4 (0 : Int64) r1 z2 (0 : Int32) h
theorem C_X2_weighedValuesWithout (x0 : Option Nat) (x1 : Option Nat) (x2 : Int32) (x3 : Int32) (x4 : Int32) (h : MH) : CtrM yX2_weighedValuesWithout (WSm yX2_weighedValuesWithout cX2_weighedValuesWithout 11 (some .long)) 4 [vR x0, vR x1, vI x2, vI x3, vI x4] h (M_X2_weighedValuesWithout x0 x1 x2 x3 x4 h) :=
  CtrM_of (by decide) (Nat.le_of_ble_eq_true rfl) (fun K F hm hi => vM_X2_weighedValuesWithout F hm x0 x1 x2 x3 x4 h)
def B_X2_chain_23 (x0 : Option Nat) (x1 : Option Nat) (h : MH) : Res := pfR h x1 0 8 x0 fun h6 => gfI h6 x1 0 7 fun z7 => bnd (z7 + (1 : Int32)) fun z8 => pfI h6 x1 0 7 z8 fun h9 => rtV h9
def M_X2_chain (x0 : Option Nat) (x1 : Option Nat) (h : MH) : Res := gfR h x1 0 8 fun r1 => pfR h x0 4 5 r1 fun h2 => gfR h2 x1 0 8 fun r3 => if r3 = none then (B_X2_chain_23 x0 x1 h2) else (gfR h2 x1 0 8 fun r4 => pfR h2 r4 4 6 x0 fun h5 => B_X2_chain_23 x0 x1 h5)
theorem vB_X2_chain_23 {K : CT} (F : Fr K cX2_chain RX2 none [] 0 0) (hm : mxL K = 2) (x0 : Option Nat) (x1 : Option Nat) (h : MH) : V K 23 [(0, vR x0), (1, vR x1)] [] h (B_X2_chain_23 x0 x1 h) := by
  unfold B_X2_chain_23
  refine V_aload_n (pc := 23) F dX2_chain_23 1 rfl ?_
  refine V_aload_n (pc := 24) F dX2_chain_24 0 rfl ?_
  refine V_putR (pc := 25) F 0 8 (by decide) (by decide) rfl rfl g_fl_RX2_35 dX2_chain_25 ?_
  intro h6
  refine V_aload_n (pc := 28) F dX2_chain_28 1 rfl ?_
  refine V_dup (pc := 29) F dX2_chain_29 rfl ?_
  refine V_getI (pc := 30) F 0 7 (by decide) (by decide) rfl g_fl_RX2_47 dX2_chain_30 ?_
  intro z7
  refine V_iconst (pc := 33) F (x := (1 : Int32)) dX2_chain_33 (by decide) ?_
  refine V_iadd (pc := 34) F dX2_chain_34 ?_
  intro z8
  refine V_putI (pc := 35) F 0 7 (by decide) (by decide) rfl rfl g_fl_RX2_47 dX2_chain_35 ?_
  intro h9
  exact V_vret (pc := 38) F (Or.inl rfl) dX2_chain_38
theorem vM_X2_chain {K : CT} (F : Fr K cX2_chain RX2 none [] 0 0) (hm : mxL K = 2) (x0 : Option Nat) (x1 : Option Nat) (h : MH) : V K 0 [(0, vR x0), (1, vR x1)] [] h (M_X2_chain x0 x1 h) := by
  unfold M_X2_chain
  refine V_aload_n (pc := 0) F dX2_chain_0 0 rfl ?_
  refine V_aload_n (pc := 1) F dX2_chain_1 1 rfl ?_
  refine V_getR (pc := 2) F 0 8 (by decide) (by decide) rfl g_fl_RX2_35 dX2_chain_2 ?_
  intro r1
  refine V_putR (pc := 5) F 4 5 (by decide) (by decide) rfl rfl g_fl_RX2_41 dX2_chain_5 ?_
  intro h2
  refine V_aload_n (pc := 8) F dX2_chain_8 1 rfl ?_
  refine V_getR (pc := 9) F 0 8 (by decide) (by decide) rfl g_fl_RX2_35 dX2_chain_9 ?_
  intro r3
  refine V_ifnull (pc := 12) F 23 dX2_chain_12 (by decide) ?_ ?_
  · exact vB_X2_chain_23 F hm x0 x1 h2
  · refine V_aload_n (pc := 15) F dX2_chain_15 1 rfl ?_
    refine V_getR (pc := 16) F 0 8 (by decide) (by decide) rfl g_fl_RX2_35 dX2_chain_16 ?_
    intro r4
    refine V_aload_n (pc := 19) F dX2_chain_19 0 rfl ?_
    refine V_putR (pc := 20) F 4 6 (by decide) (by decide) rfl rfl g_fl_RX2_44 dX2_chain_20 ?_
    intro h5
    exact vB_X2_chain_23 F hm x0 x1 h5
theorem C_X2_chain (x0 : Option Nat) (x1 : Option Nat) (h : MH) : CtrM yX2_chain (WSm yX2_chain cX2_chain 2 none) 0 [vR x0, vR x1] h (M_X2_chain x0 x1 h) :=
  CtrM_of (by decide) (Nat.le_of_ble_eq_true rfl) (fun K F hm hi => vM_X2_chain F hm x0 x1 h)
def M_X2_keep (x0 : Option Nat) (x1 : Int32) (x2 : Int32) (x3 : Int32) (x4 : Option Nat) (h : MH) : Res := gfI h x0 2 1 fun z1 => gfR h x0 2 0 fun r2 => aln h r2 fun z3 => calI (M_X8_isIndex z1 z3 h) fun z4 h5 => if z4 ≠ 0 then (nwO h5 4 fun r6 h7 => nnl r6 <| calV (M_X4_init r6 x1 x2 x3 x4 h7) fun h8 => gfR h8 x0 2 0 fun r9 => gfI h8 x0 2 1 fun z10 => wrR h8 r9 z10 r6 fun h11 => gfI h11 x0 2 1 fun z12 => bnd (z12 + (1 : Int32)) fun z13 => pfI h11 x0 2 1 z13 fun h14 => if x4 = none then (rtV h14) else (calV (M_X2_chain r6 x4 h14) fun h15 => rtV h15)) else (rtV h5)
theorem vM_X2_keep {K : CT} (F : Fr K cX2_keep RX2 none [] 2 0) (hm : mxL K = 6) (x0 : Option Nat) (x1 : Int32) (x2 : Int32) (x3 : Int32) (x4 : Option Nat) (h : MH) : V K 0 [(0, vR x0), (1, vI x1), (2, vI x2), (3, vI x3), (4, vR x4)] [] h (M_X2_keep x0 x1 x2 x3 x4 h) := by
  unfold M_X2_keep
  refine V_aload_n (pc := 0) F dX2_keep_0 0 rfl ?_
  refine V_getI (pc := 1) F 2 1 (by decide) (by decide) rfl g_fl_RX2_21 dX2_keep_1 ?_
  intro z1
  refine V_aload_n (pc := 4) F dX2_keep_4 0 rfl ?_
  refine V_getR (pc := 5) F 2 0 (by decide) (by decide) rfl g_fl_RX2_11 dX2_keep_5 ?_
  intro r2
  refine V_alen (pc := 8) F dX2_keep_8 ?_
  intro z3
  refine V_cSN (pc := 9) F (as := [vI z1, vI z3]) (C_X8_isIndex z1 z3 h) w_X8_isIndex g_st_X8_isIndex (host := "GyreWatch") (by decide +kernel) (by decide) (rest := []) rfl rfl (Nat.le_of_ble_eq_true rfl) dX2_keep_9 (k_I fun z4 h5 => ?_)
  refine V_if_ne (pc := 12) F 16 dX2_keep_12 (by decide) ?_ ?_
  · refine V_new (pc := 16) F 4 (by decide) rfl g_clN_RX2_9 g_inst_4 g_iniN_4 dX2_keep_16 ?_
    intro r6 h7
    refine V_dup (pc := 19) F dX2_keep_19 rfl ?_
    refine V_iload_n (pc := 20) F dX2_keep_20 1 rfl ?_
    refine V_iload_n (pc := 21) F dX2_keep_21 2 rfl ?_
    refine V_iload_n (pc := 22) F dX2_keep_22 3 rfl ?_
    refine V_aload (pc := 23) F dX2_keep_23 4 rfl ?_
    refine V_cI (pc := 25) F (as := [vI x1, vI x2, vI x3, vR x4]) (C_X4_init r6 x1 x2 x3 x4 h7) rfl w_X4_init g_in_X4_init g_ml_RX2_28 (by decide) (rest := [vR r6]) rfl rfl (Nat.le_of_ble_eq_true rfl) dX2_keep_25 (k_V fun h8 => ?_)
    refine V_astore (pc := 28) F [(5, vR r6), (0, vR x0), (1, vI x1), (2, vI x2), (3, vI x3), (4, vR x4)] dX2_keep_28 (lt_mx hm (by decide)) rfl ?_
    refine V_aload_n (pc := 30) F dX2_keep_30 1 rfl ?_
    refine V_getR (pc := 31) F 2 0 (by decide) (by decide) rfl g_fl_RX2_11 dX2_keep_31 ?_
    intro r9
    refine V_aload_n (pc := 34) F dX2_keep_34 1 rfl ?_
    refine V_getI (pc := 35) F 2 1 (by decide) (by decide) rfl g_fl_RX2_21 dX2_keep_35 ?_
    intro z10
    refine V_aload (pc := 38) F dX2_keep_38 0 rfl ?_
    refine V_aast (pc := 40) F dX2_keep_40 ?_
    intro h11
    refine V_aload_n (pc := 41) F dX2_keep_41 1 rfl ?_
    refine V_dup (pc := 42) F dX2_keep_42 rfl ?_
    refine V_getI (pc := 43) F 2 1 (by decide) (by decide) rfl g_fl_RX2_21 dX2_keep_43 ?_
    intro z12
    refine V_iconst (pc := 46) F (x := (1 : Int32)) dX2_keep_46 (by decide) ?_
    refine V_iadd (pc := 47) F dX2_keep_47 ?_
    intro z13
    refine V_putI (pc := 48) F 2 1 (by decide) (by decide) rfl rfl g_fl_RX2_21 dX2_keep_48 ?_
    intro h14
    refine V_aload (pc := 51) F dX2_keep_51 5 rfl ?_
    refine V_ifnull (pc := 53) F 63 dX2_keep_53 (by decide) ?_ ?_
    · exact V_vret (pc := 63) F (Or.inl rfl) dX2_keep_63
    · refine V_aload (pc := 56) F dX2_keep_56 0 rfl ?_
      refine V_aload (pc := 58) F dX2_keep_58 5 rfl ?_
      refine V_cSM (pc := 60) F (as := [vR r6, vR x4]) (C_X2_chain r6 x4 h14) w_X2_chain g_st_X2_chain g_ml_RX2_31 (by decide) (rest := []) rfl rfl (Nat.le_of_ble_eq_true rfl) dX2_keep_60 (k_V fun h15 => ?_)
      exact V_vret (pc := 63) F (Or.inl rfl) dX2_keep_63
  · exact V_vret (pc := 15) F (Or.inl rfl) dX2_keep_15
theorem C_X2_keep (x0 : Option Nat) (x1 : Int32) (x2 : Int32) (x3 : Int32) (x4 : Option Nat) (h : MH) : CtrM yX2_keep (WSm yX2_keep cX2_keep 6 none) 2 [vR x0, vI x1, vI x2, vI x3, vR x4] h (M_X2_keep x0 x1 x2 x3 x4 h) :=
  CtrM_of (by decide) (Nat.le_of_ble_eq_true rfl) (fun K F hm hi => vM_X2_keep F hm x0 x1 x2 x3 x4 h)
def B_X7_countDue_2 (rc2 : Option Nat → Int32 → Int32 → MH → Res) (x0 : Option Nat) (x1 : Int32) (x2 : Int32) (h : MH) : Res := gfI h x0 7 0 fun z1 => if z1 ≤ x2 then (rtI x2 h) else (gfR h x0 7 1 fun r2 => aln h r2 fun z3 => if z3 ≤ x2 then (rtI x2 h) else (gfR h x0 7 1 fun r4 => rdI h r4 20 x2 fun z5 => calI (M_X7_dayOf z5 h) fun z6 h7 => if x1 < z6 then (rtI x2 h7) else (bnd (x2 + (1)) fun z8 => rc2 x0 x1 z8 h7)))
def L_X7_countDue_2 : Nat → Option Nat → Int32 → Int32 → MH → Res
  | 0 => fun _ _ _ _ => none
  | n + 1 => B_X7_countDue_2 (L_X7_countDue_2 n)
def M_X7_countDue (x0 : Option Nat) (x1 : Int32) (h : MH) : Res := L_X7_countDue_2 fuel x0 x1 (0 : Int32) h
theorem vB_X7_countDue_2 {K : CT} (F : Fr K cX7_countDue RX7 (some .int) [] 1 0) (hm : mxL K = 3) (rc2 : Option Nat → Int32 → Int32 → MH → Res) (hrc2 : ∀ x0 x1 x2 h, V K 2 [(0, vR x0), (1, vI x1), (2, vI x2)] [] h (rc2 x0 x1 x2 h)) (x0 : Option Nat) (x1 : Int32) (x2 : Int32) (h : MH) : V K 2 [(0, vR x0), (1, vI x1), (2, vI x2)] [] h (B_X7_countDue_2 rc2 x0 x1 x2 h) := by
  unfold B_X7_countDue_2
  refine V_iload_n (pc := 2) F dX7_countDue_2 2 rfl ?_
  refine V_aload_n (pc := 3) F dX7_countDue_3 0 rfl ?_
  refine V_getI (pc := 4) F 7 0 (by decide) (by decide) rfl g_fl_RX7_29 dX7_countDue_4 ?_
  intro z1
  refine V_icmp_ge (pc := 7) F 38 dX7_countDue_7 (by decide) ?_ ?_
  · refine V_iload_n (pc := 38) F dX7_countDue_38 2 rfl ?_
    exact V_iret (pc := 39) F (Or.inl rfl) dX7_countDue_39
  · refine V_iload_n (pc := 10) F dX7_countDue_10 2 rfl ?_
    refine V_aload_n (pc := 11) F dX7_countDue_11 0 rfl ?_
    refine V_getR (pc := 12) F 7 1 (by decide) (by decide) rfl g_fl_RX7_9 dX7_countDue_12 ?_
    intro r2
    refine V_alen (pc := 15) F dX7_countDue_15 ?_
    intro z3
    refine V_icmp_ge (pc := 16) F 38 dX7_countDue_16 (by decide) ?_ ?_
    · refine V_iload_n (pc := 38) F dX7_countDue_38 2 rfl ?_
      exact V_iret (pc := 39) F (Or.inl rfl) dX7_countDue_39
    · refine V_aload_n (pc := 19) F dX7_countDue_19 0 rfl ?_
      refine V_getR (pc := 20) F 7 1 (by decide) (by decide) rfl g_fl_RX7_9 dX7_countDue_20 ?_
      intro r4
      refine V_iload_n (pc := 23) F dX7_countDue_23 2 rfl ?_
      refine V_iald (pc := 24) F dX7_countDue_24 ?_
      intro z5
      refine V_cSM (pc := 25) F (as := [vI z5]) (C_X7_dayOf z5 h) w_X7_dayOf g_st_X7_dayOf g_ml_RX7_41 (by decide) (rest := []) rfl rfl (Nat.le_of_ble_eq_true rfl) dX7_countDue_25 (k_I fun z6 h7 => ?_)
      refine V_iload_n (pc := 28) F dX7_countDue_28 1 rfl ?_
      refine V_icmp_gt (pc := 29) F 38 dX7_countDue_29 (by decide) ?_ ?_
      · refine V_iload_n (pc := 38) F dX7_countDue_38 2 rfl ?_
        exact V_iret (pc := 39) F (Or.inl rfl) dX7_countDue_39
      · refine V_iinc (pc := 32) F (fun z8 => [(2, vI z8), (0, vR x0), (1, vI x1)]) dX7_countDue_32 (lt_mx hm (by decide)) 2 rfl (dx := (1 : Int32)) (by decide) (fun _ => rfl) ?_
        intro z8
        refine V_goto (pc := 35) F 2 dX7_countDue_35 (by decide) ?_
        refine V_sub [1, 2, 0] (L' := [(0, vR x0), (1, vI x1), (2, vI z8)]) rfl ?_
        exact hrc2 x0 x1 z8 h7
theorem vL_X7_countDue_2 {K : CT} (F : Fr K cX7_countDue RX7 (some .int) [] 1 0) (hm : mxL K = 3) (n : Nat) : ∀ x0 x1 x2 h, V K 2 [(0, vR x0), (1, vI x1), (2, vI x2)] [] h (L_X7_countDue_2 n x0 x1 x2 h) := by
  induction n with
  | zero => intros; exact V_none
  | succ n ih => intro x0 x1 x2 h; exact vB_X7_countDue_2 F hm _ ih x0 x1 x2 h
theorem vM_X7_countDue {K : CT} (F : Fr K cX7_countDue RX7 (some .int) [] 1 0) (hm : mxL K = 3) (x0 : Option Nat) (x1 : Int32) (h : MH) : V K 0 [(0, vR x0), (1, vI x1)] [] h (M_X7_countDue x0 x1 h) := by
  unfold M_X7_countDue
  refine V_iconst (pc := 0) F (x := (0 : Int32)) dX7_countDue_0 (by decide) ?_
  refine V_istore_n (pc := 1) F [(2, vI (0 : Int32)), (0, vR x0), (1, vI x1)] dX7_countDue_1 (lt_mx hm (by decide)) rfl ?_
  refine V_sub [1, 2, 0] (L' := [(0, vR x0), (1, vI x1), (2, vI (0 : Int32))]) rfl ?_
  exact vL_X7_countDue_2 F hm fuel x0 x1 (0 : Int32) h
theorem C_X7_countDue (x0 : Option Nat) (x1 : Int32) (h : MH) : CtrM yX7_countDue (WSm yX7_countDue cX7_countDue 3 (some .int)) 1 [vR x0, vI x1] h (M_X7_countDue x0 x1 h) :=
  CtrM_of (by decide) (Nat.le_of_ble_eq_true rfl) (fun K F hm hi => vM_X7_countDue F hm x0 x1 h)
def M_X7_dropFirst (x0 : Option Nat) (x1 : Int32) (h : MH) : Res := if x1 ≤ 0 then (rtV h) else (gfI h x0 7 0 fun z1 => if z1 < x1 then (rtV h) else (gfI h x0 7 0 fun z2 => gfR h x0 7 1 fun r3 => aln h r3 fun z4 => if z2 ≤ z4 then (gfI h x0 7 0 fun z5 => bnd (z5 - x1) fun z6 => pfI h x0 7 0 z6 fun h7 => gfR h7 x0 7 1 fun r8 => gfR h7 x0 7 1 fun r9 => gfI h7 x0 7 0 fun z10 => cpI h7 r8 x1 r9 (0 : Int32) z10 fun h11 => rtV h11) else (rtV h)))
theorem vM_X7_dropFirst {K : CT} (F : Fr K cX7_dropFirst RX7 none [] 1 0) (hm : mxL K = 2) (x0 : Option Nat) (x1 : Int32) (h : MH) : V K 0 [(0, vR x0), (1, vI x1)] [] h (M_X7_dropFirst x0 x1 h) := by
  unfold M_X7_dropFirst
  refine V_iload_n (pc := 0) F dX7_dropFirst_0 1 rfl ?_
  refine V_if_le (pc := 1) F 24 dX7_dropFirst_1 (by decide) ?_ ?_
  · exact V_vret (pc := 24) F (Or.inl rfl) dX7_dropFirst_24
  · refine V_iload_n (pc := 4) F dX7_dropFirst_4 1 rfl ?_
    refine V_aload_n (pc := 5) F dX7_dropFirst_5 0 rfl ?_
    refine V_getI (pc := 6) F 7 0 (by decide) (by decide) rfl g_fl_RX7_29 dX7_dropFirst_6 ?_
    intro z1
    refine V_icmp_gt (pc := 9) F 24 dX7_dropFirst_9 (by decide) ?_ ?_
    · exact V_vret (pc := 24) F (Or.inl rfl) dX7_dropFirst_24
    · refine V_aload_n (pc := 12) F dX7_dropFirst_12 0 rfl ?_
      refine V_getI (pc := 13) F 7 0 (by decide) (by decide) rfl g_fl_RX7_29 dX7_dropFirst_13 ?_
      intro z2
      refine V_aload_n (pc := 16) F dX7_dropFirst_16 0 rfl ?_
      refine V_getR (pc := 17) F 7 1 (by decide) (by decide) rfl g_fl_RX7_9 dX7_dropFirst_17 ?_
      intro r3
      refine V_alen (pc := 20) F dX7_dropFirst_20 ?_
      intro z4
      refine V_icmp_le (pc := 21) F 25 dX7_dropFirst_21 (by decide) ?_ ?_
      · refine V_aload_n (pc := 25) F dX7_dropFirst_25 0 rfl ?_
        refine V_dup (pc := 26) F dX7_dropFirst_26 rfl ?_
        refine V_getI (pc := 27) F 7 0 (by decide) (by decide) rfl g_fl_RX7_29 dX7_dropFirst_27 ?_
        intro z5
        refine V_iload_n (pc := 30) F dX7_dropFirst_30 1 rfl ?_
        refine V_isub (pc := 31) F dX7_dropFirst_31 ?_
        intro z6
        refine V_putI (pc := 32) F 7 0 (by decide) (by decide) rfl rfl g_fl_RX7_29 dX7_dropFirst_32 ?_
        intro h7
        refine V_aload_n (pc := 35) F dX7_dropFirst_35 0 rfl ?_
        refine V_getR (pc := 36) F 7 1 (by decide) (by decide) rfl g_fl_RX7_9 dX7_dropFirst_36 ?_
        intro r8
        refine V_iload_n (pc := 39) F dX7_dropFirst_39 1 rfl ?_
        refine V_aload_n (pc := 40) F dX7_dropFirst_40 0 rfl ?_
        refine V_getR (pc := 41) F 7 1 (by decide) (by decide) rfl g_fl_RX7_9 dX7_dropFirst_41 ?_
        intro r9
        refine V_iconst (pc := 44) F (x := (0 : Int32)) dX7_dropFirst_44 (by decide) ?_
        refine V_aload_n (pc := 45) F dX7_dropFirst_45 0 rfl ?_
        refine V_getI (pc := 46) F 7 0 (by decide) (by decide) rfl g_fl_RX7_29 dX7_dropFirst_46 ?_
        intro z10
        refine V_cpI (pc := 49) F (by decide) g_ml_RX7_44 g_nat_cpy g_st_arraycopy g_ini_sys (Nat.le_of_ble_eq_true rfl) dX7_dropFirst_49 ?_
        intro h11
        exact V_vret (pc := 52) F (Or.inl rfl) dX7_dropFirst_52
      · exact V_vret (pc := 24) F (Or.inl rfl) dX7_dropFirst_24
theorem C_X7_dropFirst (x0 : Option Nat) (x1 : Int32) (h : MH) : CtrM yX7_dropFirst (WSm yX7_dropFirst cX7_dropFirst 2 none) 1 [vR x0, vI x1] h (M_X7_dropFirst x0 x1 h) :=
  CtrM_of (by decide) (Nat.le_of_ble_eq_true rfl) (fun K F hm hi => vM_X7_dropFirst F hm x0 x1 h)
