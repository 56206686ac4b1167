def M_L_land (x0 : Option Nat) (x1 : Int32) (x2 : Option Nat) (h : MH) : Res := chk h x0 8 <| calG (M_X8_land x0 x1 h) (toI fun z1 h2 => bnd (Int32.toInt64 z1) fun z5 => wrQ h2 x2 (0 : Int32) z5 fun h6 => rtI (0 : Int32) h6) (fun e7 h8 => if e7 = 1 then (rtI (1 : Int32) h8) else if e7 = 3 then (rtI (2 : Int32) h8) else none)
theorem vM_L_land {K : CT} (F : Fr K cL_land RL (some .int) [(0, 9, 12, 13), (0, 9, 15, 15)] 8 1) (hm : mxL K = 4) (x0 : Option Nat) (x1 : Int32) (x2 : Option Nat) (h : MH) : V K 0 [(0, vR x0), (1, vI x1), (2, vR x2)] [] h (M_L_land x0 x1 x2 h) := by
  unfold M_L_land
  refine V_aload_n (pc := 0) F dL_land_0 2 rfl ?_
  refine V_iconst (pc := 1) F (x := (0 : Int32)) dL_land_1 (by decide) ?_
  refine V_aload_n (pc := 2) F dL_land_2 0 rfl ?_
  refine V_iload_n (pc := 3) F dL_land_3 1 rfl ?_
  refine V_cV (pc := 4) F 8 (by decide) (as := [vI x1]) (C_X8_land x0 x1 h) w_X8_land g_in_X8_land g_se_X8_land g_ml_RL_7 (by decide) (rest := [vI (0 : Int32), vR x2]) rfl rfl (Nat.le_of_ble_eq_true rfl) dL_land_4 (k_I fun z1 h2 => ?_) ?_
  · refine V_i2l (pc := 7) F dL_land_7 ?_
    intro z5
    refine V_last (pc := 8) F dL_land_8 ?_
    intro h6
    refine V_goto (pc := 9) F 18 dL_land_9 (by decide) ?_
    refine V_iconst (pc := 18) F (x := (0 : Int32)) dL_land_18 (by decide) ?_
    exact V_iret (pc := 19) F (Or.inr rfl) dL_land_19
  · intro e7 h8
    refine VX_if ?_ ?_
    · refine VX_catch (pc := 4) F [] ⟨0, 9, 12, 13⟩ [⟨0, 9, 15, 15⟩] rfl (fun _ hw => nomatch hw) rfl (by decide) g_cl_RL_13 (i := 3) (nx := 13) (lt_mx hm (by decide)) (Or.inl ⟨3, rfl, dL_land_12, rfl⟩) (L' := [(0, vR x0), (1, vI x1), (2, vR x2)]) rfl ?_
      refine V_iconst (pc := 13) F (x := (1 : Int32)) dL_land_13 (by decide) ?_
      exact V_iret (pc := 14) F (Or.inr rfl) dL_land_14
    refine VX_if ?_ ?_
    · refine VX_catch (pc := 4) F [⟨0, 9, 12, 13⟩] ⟨0, 9, 15, 15⟩ [] rfl (List.forall_mem_cons.mpr ⟨Or.inr ⟨by decide, exN 1, g_cl_RL_13, by decide⟩, fun _ hw => nomatch hw⟩) rfl (by decide) g_cl_RL_15 (i := 3) (nx := 16) (lt_mx hm (by decide)) (Or.inl ⟨3, rfl, dL_land_15, rfl⟩) (L' := [(0, vR x0), (1, vI x1), (2, vR x2)]) rfl ?_
      refine V_iconst (pc := 16) F (x := (2 : Int32)) dL_land_16 (by decide) ?_
      exact V_iret (pc := 17) F (Or.inr rfl) dL_land_17
    exact VX_none
theorem C_L_land (x0 : Option Nat) (x1 : Int32) (x2 : Option Nat) (h : MH) : CtrX yL_land (WSw yL_land cL_land 4 (some .int) [(0, 9, 12, 13), (0, 9, 15, 15)]) 8 [vR x0, vI x1, vR x2] h (M_L_land x0 x1 x2 h) :=
  CtrW_of (by decide) (Nat.le_of_ble_eq_true rfl) (fun K F hm hi => vM_L_land F hm x0 x1 x2 h)
def M_L_current (x0 : Option Nat) (x1 : Int32) (x2 : Int32) (x3 : Option Nat) (h : MH) : Res := chk h x0 8 <| calG (M_X8_current x0 x1 x2 h) (toI fun z1 h2 => bnd (Int32.toInt64 z1) fun z5 => wrQ h2 x3 (0 : Int32) z5 fun h6 => rtI (0 : Int32) h6) (fun e7 h8 => if e7 = 1 then (rtI (1 : Int32) h8) else if e7 = 2 then (rtI (2 : Int32) h8) else none)
theorem vM_L_current {K : CT} (F : Fr K cL_current RL (some .int) [(0, 10, 13, 13), (0, 10, 17, 21)] 8 1) (hm : mxL K = 5) (x0 : Option Nat) (x1 : Int32) (x2 : Int32) (x3 : Option Nat) (h : MH) : V K 0 [(0, vR x0), (1, vI x1), (2, vI x2), (3, vR x3)] [] h (M_L_current x0 x1 x2 x3 h) := by
  unfold M_L_current
  refine V_aload_n (pc := 0) F dL_current_0 3 rfl ?_
  refine V_iconst (pc := 1) F (x := (0 : Int32)) dL_current_1 (by decide) ?_
  refine V_aload_n (pc := 2) F dL_current_2 0 rfl ?_
  refine V_iload_n (pc := 3) F dL_current_3 1 rfl ?_
  refine V_iload_n (pc := 4) F dL_current_4 2 rfl ?_
  refine V_cV (pc := 5) F 8 (by decide) (as := [vI x1, vI x2]) (C_X8_current x0 x1 x2 h) w_X8_current g_in_X8_current g_se_X8_current g_ml_RL_17 (by decide) (rest := [vI (0 : Int32), vR x3]) rfl rfl (Nat.le_of_ble_eq_true rfl) dL_current_5 (k_I fun z1 h2 => ?_) ?_
  · refine V_i2l (pc := 8) F dL_current_8 ?_
    intro z5
    refine V_last (pc := 9) F dL_current_9 ?_
    intro h6
    refine V_goto (pc := 10) F 21 dL_current_10 (by decide) ?_
    refine V_iconst (pc := 21) F (x := (0 : Int32)) dL_current_21 (by decide) ?_
    exact V_iret (pc := 22) F (Or.inr rfl) dL_current_22
  · intro e7 h8
    refine VX_if ?_ ?_
    · refine VX_catch (pc := 5) F [] ⟨0, 10, 13, 13⟩ [⟨0, 10, 17, 21⟩] rfl (fun _ hw => nomatch hw) rfl (by decide) g_cl_RL_13 (i := 4) (nx := 15) (lt_mx hm (by decide)) (Or.inr ⟨dL_current_13, rfl⟩) (L' := [(0, vR x0), (1, vI x1), (2, vI x2), (3, vR x3)]) rfl ?_
      refine V_iconst (pc := 15) F (x := (1 : Int32)) dL_current_15 (by decide) ?_
      exact V_iret (pc := 16) F (Or.inr rfl) dL_current_16
    refine VX_if ?_ ?_
    · refine VX_catch (pc := 5) F [⟨0, 10, 13, 13⟩] ⟨0, 10, 17, 21⟩ [] rfl (List.forall_mem_cons.mpr ⟨Or.inr ⟨by decide, exN 1, g_cl_RL_13, by decide⟩, fun _ hw => nomatch hw⟩) rfl (by decide) g_cl_RL_21 (i := 4) (nx := 19) (lt_mx hm (by decide)) (Or.inr ⟨dL_current_17, rfl⟩) (L' := [(0, vR x0), (1, vI x1), (2, vI x2), (3, vR x3)]) rfl ?_
      refine V_iconst (pc := 19) F (x := (2 : Int32)) dL_current_19 (by decide) ?_
      exact V_iret (pc := 20) F (Or.inr rfl) dL_current_20
    exact VX_none
theorem C_L_current (x0 : Option Nat) (x1 : Int32) (x2 : Int32) (x3 : Option Nat) (h : MH) : CtrX yL_current (WSw yL_current cL_current 5 (some .int) [(0, 10, 13, 13), (0, 10, 17, 21)]) 8 [vR x0, vI x1, vI x2, vR x3] h (M_L_current x0 x1 x2 x3 h) :=
  CtrW_of (by decide) (Nat.le_of_ble_eq_true rfl) (fun K F hm hi => vM_L_current F hm x0 x1 x2 x3 h)
def M_L_sun (x0 : Option Nat) (x1 : Int32) (x2 : Int32) (x3 : Option Nat) (h : MH) : Res := chk h x0 8 <| calG (M_X8_sun x0 x1 x2 h) (toI fun z1 h2 => bnd (Int32.toInt64 z1) fun z4 => wrQ h2 x3 (0 : Int32) z4 fun h5 => rtI (0 : Int32) h5) (fun e6 h7 => if e6 = 2 then (rtI (1 : Int32) h7) else none)
theorem vM_L_sun {K : CT} (F : Fr K cL_sun RL (some .int) [(0, 10, 13, 21)] 8 1) (hm : mxL K = 5) (x0 : Option Nat) (x1 : Int32) (x2 : Int32) (x3 : Option Nat) (h : MH) : V K 0 [(0, vR x0), (1, vI x1), (2, vI x2), (3, vR x3)] [] h (M_L_sun x0 x1 x2 x3 h) := by
  unfold M_L_sun
  refine V_aload_n (pc := 0) F dL_sun_0 3 rfl ?_
  refine V_iconst (pc := 1) F (x := (0 : Int32)) dL_sun_1 (by decide) ?_
  refine V_aload_n (pc := 2) F dL_sun_2 0 rfl ?_
  refine V_iload_n (pc := 3) F dL_sun_3 1 rfl ?_
  refine V_iload_n (pc := 4) F dL_sun_4 2 rfl ?_
  refine V_cV (pc := 5) F 8 (by decide) (as := [vI x1, vI x2]) (C_X8_sun x0 x1 x2 h) w_X8_sun g_in_X8_sun g_se_X8_sun g_ml_RL_23 (by decide) (rest := [vI (0 : Int32), vR x3]) rfl rfl (Nat.le_of_ble_eq_true rfl) dL_sun_5 (k_I fun z1 h2 => ?_) ?_
  · refine V_i2l (pc := 8) F dL_sun_8 ?_
    intro z4
    refine V_last (pc := 9) F dL_sun_9 ?_
    intro h5
    refine V_goto (pc := 10) F 17 dL_sun_10 (by decide) ?_
    refine V_iconst (pc := 17) F (x := (0 : Int32)) dL_sun_17 (by decide) ?_
    exact V_iret (pc := 18) F (Or.inr rfl) dL_sun_18
  · intro e6 h7
    refine VX_if ?_ ?_
    · refine VX_catch (pc := 5) F [] ⟨0, 10, 13, 21⟩ [] rfl (fun _ hw => nomatch hw) rfl (by decide) g_cl_RL_21 (i := 4) (nx := 15) (lt_mx hm (by decide)) (Or.inr ⟨dL_sun_13, rfl⟩) (L' := [(0, vR x0), (1, vI x1), (2, vI x2), (3, vR x3)]) rfl ?_
      refine V_iconst (pc := 15) F (x := (1 : Int32)) dL_sun_15 (by decide) ?_
      exact V_iret (pc := 16) F (Or.inr rfl) dL_sun_16
    exact VX_none
theorem C_L_sun (x0 : Option Nat) (x1 : Int32) (x2 : Int32) (x3 : Option Nat) (h : MH) : CtrX yL_sun (WSw yL_sun cL_sun 5 (some .int) [(0, 10, 13, 21)]) 8 [vR x0, vI x1, vI x2, vR x3] h (M_L_sun x0 x1 x2 x3 h) :=
  CtrW_of (by decide) (Nat.le_of_ble_eq_true rfl) (fun K F hm hi => vM_L_sun F hm x0 x1 x2 x3 h)
def M_L_pass (x0 : Option Nat) (x1 : Int32) (x2 : Option Nat) (h : MH) : Res := chk h x0 8 <| calG (M_X8_pass x0 x1 h) (toI fun z1 h2 => bnd (Int32.toInt64 z1) fun z5 => wrQ h2 x2 (0 : Int32) z5 fun h6 => rtI (0 : Int32) h6) (fun e7 h8 => if e7 = 2 then (rtI (1 : Int32) h8) else if e7 = 3 then (rtI (2 : Int32) h8) else none)
theorem vM_L_pass {K : CT} (F : Fr K cL_pass RL (some .int) [(0, 9, 12, 21), (0, 9, 15, 15)] 8 1) (hm : mxL K = 4) (x0 : Option Nat) (x1 : Int32) (x2 : Option Nat) (h : MH) : V K 0 [(0, vR x0), (1, vI x1), (2, vR x2)] [] h (M_L_pass x0 x1 x2 h) := by
  unfold M_L_pass
  refine V_aload_n (pc := 0) F dL_pass_0 2 rfl ?_
  refine V_iconst (pc := 1) F (x := (0 : Int32)) dL_pass_1 (by decide) ?_
  refine V_aload_n (pc := 2) F dL_pass_2 0 rfl ?_
  refine V_iload_n (pc := 3) F dL_pass_3 1 rfl ?_
  refine V_cV (pc := 4) F 8 (by decide) (as := [vI x1]) (C_X8_pass x0 x1 h) w_X8_pass g_in_X8_pass g_se_X8_pass g_ml_RL_26 (by decide) (rest := [vI (0 : Int32), vR x2]) rfl rfl (Nat.le_of_ble_eq_true rfl) dL_pass_4 (k_I fun z1 h2 => ?_) ?_
  · refine V_i2l (pc := 7) F dL_pass_7 ?_
    intro z5
    refine V_last (pc := 8) F dL_pass_8 ?_
    intro h6
    refine V_goto (pc := 9) F 18 dL_pass_9 (by decide) ?_
    refine V_iconst (pc := 18) F (x := (0 : Int32)) dL_pass_18 (by decide) ?_
    exact V_iret (pc := 19) F (Or.inr rfl) dL_pass_19
  · intro e7 h8
    refine VX_if ?_ ?_
    · refine VX_catch (pc := 4) F [] ⟨0, 9, 12, 21⟩ [⟨0, 9, 15, 15⟩] rfl (fun _ hw => nomatch hw) rfl (by decide) g_cl_RL_21 (i := 3) (nx := 13) (lt_mx hm (by decide)) (Or.inl ⟨3, rfl, dL_pass_12, rfl⟩) (L' := [(0, vR x0), (1, vI x1), (2, vR x2)]) rfl ?_
      refine V_iconst (pc := 13) F (x := (1 : Int32)) dL_pass_13 (by decide) ?_
      exact V_iret (pc := 14) F (Or.inr rfl) dL_pass_14
    refine VX_if ?_ ?_
    · refine VX_catch (pc := 4) F [⟨0, 9, 12, 21⟩] ⟨0, 9, 15, 15⟩ [] rfl (List.forall_mem_cons.mpr ⟨Or.inr ⟨by decide, exN 2, g_cl_RL_21, by decide⟩, fun _ hw => nomatch hw⟩) rfl (by decide) g_cl_RL_15 (i := 3) (nx := 16) (lt_mx hm (by decide)) (Or.inl ⟨3, rfl, dL_pass_15, rfl⟩) (L' := [(0, vR x0), (1, vI x1), (2, vR x2)]) rfl ?_
      refine V_iconst (pc := 16) F (x := (2 : Int32)) dL_pass_16 (by decide) ?_
      exact V_iret (pc := 17) F (Or.inr rfl) dL_pass_17
    exact VX_none
theorem C_L_pass (x0 : Option Nat) (x1 : Int32) (x2 : Option Nat) (h : MH) : CtrX yL_pass (WSw yL_pass cL_pass 4 (some .int) [(0, 9, 12, 21), (0, 9, 15, 15)]) 8 [vR x0, vI x1, vR x2] h (M_L_pass x0 x1 x2 h) :=
  CtrW_of (by decide) (Nat.le_of_ble_eq_true rfl) (fun K F hm hi => vM_L_pass F hm x0 x1 x2 h)
def M_L_lay (x0 : Option Nat) (x1 : Int32) (x2 : Int32) (x3 : Int32) (x4 : Int32) (x5 : Option Nat) (h : MH) : Res := chk h x0 8 <| calG (M_X8_lay x0 x1 x2 x3 x4 h) (toI fun z1 h2 => bnd (Int32.toInt64 z1) fun z6 => wrQ h2 x5 (0 : Int32) z6 fun h7 => rtI (0 : Int32) h7) (fun e8 h9 => if e8 = 1 then (rtI (1 : Int32) h9) else if e8 = 2 then (rtI (2 : Int32) h9) else if e8 = 3 then (rtI (3 : Int32) h9) else none)
theorem vM_L_lay {K : CT} (F : Fr K cL_lay RL (some .int) [(0, 14, 17, 13), (0, 14, 21, 21), (0, 14, 25, 15)] 8 1) (hm : mxL K = 7) (x0 : Option Nat) (x1 : Int32) (x2 : Int32) (x3 : Int32) (x4 : Int32) (x5 : Option Nat) (h : MH) : V K 0 [(0, vR x0), (1, vI x1), (2, vI x2), (3, vI x3), (4, vI x4), (5, vR x5)] [] h (M_L_lay x0 x1 x2 x3 x4 x5 h) := by
  unfold M_L_lay
  refine V_aload (pc := 0) F dL_lay_0 5 rfl ?_
  refine V_iconst (pc := 2) F (x := (0 : Int32)) dL_lay_2 (by decide) ?_
  refine V_aload_n (pc := 3) F dL_lay_3 0 rfl ?_
  refine V_iload_n (pc := 4) F dL_lay_4 1 rfl ?_
  refine V_iload_n (pc := 5) F dL_lay_5 2 rfl ?_
  refine V_iload_n (pc := 6) F dL_lay_6 3 rfl ?_
  refine V_iload (pc := 7) F dL_lay_7 4 rfl ?_
  refine V_cV (pc := 9) F 8 (by decide) (as := [vI x1, vI x2, vI x3, vI x4]) (C_X8_lay x0 x1 x2 x3 x4 h) w_X8_lay g_in_X8_lay g_se_X8_lay g_ml_RL_29 (by decide) (rest := [vI (0 : Int32), vR x5]) rfl rfl (Nat.le_of_ble_eq_true rfl) dL_lay_9 (k_I fun z1 h2 => ?_) ?_
  · refine V_i2l (pc := 12) F dL_lay_12 ?_
    intro z6
    refine V_last (pc := 13) F dL_lay_13 ?_
    intro h7
    refine V_goto (pc := 14) F 29 dL_lay_14 (by decide) ?_
    refine V_iconst (pc := 29) F (x := (0 : Int32)) dL_lay_29 (by decide) ?_
    exact V_iret (pc := 30) F (Or.inr rfl) dL_lay_30
  · intro e8 h9
    refine VX_if ?_ ?_
    · refine VX_catch (pc := 9) F [] ⟨0, 14, 17, 13⟩ [⟨0, 14, 21, 21⟩, ⟨0, 14, 25, 15⟩] rfl (fun _ hw => nomatch hw) rfl (by decide) g_cl_RL_13 (i := 6) (nx := 19) (lt_mx hm (by decide)) (Or.inr ⟨dL_lay_17, rfl⟩) (L' := [(0, vR x0), (1, vI x1), (2, vI x2), (3, vI x3), (4, vI x4), (5, vR x5)]) rfl ?_
      refine V_iconst (pc := 19) F (x := (1 : Int32)) dL_lay_19 (by decide) ?_
      exact V_iret (pc := 20) F (Or.inr rfl) dL_lay_20
    refine VX_if ?_ ?_
    · refine VX_catch (pc := 9) F [⟨0, 14, 17, 13⟩] ⟨0, 14, 21, 21⟩ [⟨0, 14, 25, 15⟩] rfl (List.forall_mem_cons.mpr ⟨Or.inr ⟨by decide, exN 1, g_cl_RL_13, by decide⟩, fun _ hw => nomatch hw⟩) rfl (by decide) g_cl_RL_21 (i := 6) (nx := 23) (lt_mx hm (by decide)) (Or.inr ⟨dL_lay_21, rfl⟩) (L' := [(0, vR x0), (1, vI x1), (2, vI x2), (3, vI x3), (4, vI x4), (5, vR x5)]) rfl ?_
      refine V_iconst (pc := 23) F (x := (2 : Int32)) dL_lay_23 (by decide) ?_
      exact V_iret (pc := 24) F (Or.inr rfl) dL_lay_24
    refine VX_if ?_ ?_
    · refine VX_catch (pc := 9) F [⟨0, 14, 17, 13⟩, ⟨0, 14, 21, 21⟩] ⟨0, 14, 25, 15⟩ [] rfl (List.forall_mem_cons.mpr ⟨Or.inr ⟨by decide, exN 1, g_cl_RL_13, by decide⟩, List.forall_mem_cons.mpr ⟨Or.inr ⟨by decide, exN 2, g_cl_RL_21, by decide⟩, fun _ hw => nomatch hw⟩⟩) rfl (by decide) g_cl_RL_15 (i := 6) (nx := 27) (lt_mx hm (by decide)) (Or.inr ⟨dL_lay_25, rfl⟩) (L' := [(0, vR x0), (1, vI x1), (2, vI x2), (3, vI x3), (4, vI x4), (5, vR x5)]) rfl ?_
      refine V_iconst (pc := 27) F (x := (3 : Int32)) dL_lay_27 (by decide) ?_
      exact V_iret (pc := 28) F (Or.inr rfl) dL_lay_28
    exact VX_none
theorem C_L_lay (x0 : Option Nat) (x1 : Int32) (x2 : Int32) (x3 : Int32) (x4 : Int32) (x5 : Option Nat) (h : MH) : CtrX yL_lay (WSw yL_lay cL_lay 7 (some .int) [(0, 14, 17, 13), (0, 14, 21, 21), (0, 14, 25, 15)]) 8 [vR x0, vI x1, vI x2, vI x3, vI x4, vR x5] h (M_L_lay x0 x1 x2 x3 x4 x5 h) :=
  CtrW_of (by decide) (Nat.le_of_ble_eq_true rfl) (fun K F hm hi => vM_L_lay F hm x0 x1 x2 x3 x4 x5 h)
def M_L_station (x0 : Option Nat) (x1 : Int32) (x2 : Int32) (x3 : Option Nat) (h : MH) : Res := chk h x0 8 <| calG (M_X8_station x0 x1 x2 h) (toI fun z1 h2 => bnd (Int32.toInt64 z1) fun z6 => wrQ h2 x3 (0 : Int32) z6 fun h7 => rtI (0 : Int32) h7) (fun e8 h9 => if e8 = 1 then (rtI (1 : Int32) h9) else if e8 = 2 then (rtI (2 : Int32) h9) else if e8 = 3 then (rtI (3 : Int32) h9) else none)
theorem vM_L_station {K : CT} (F : Fr K cL_station RL (some .int) [(0, 10, 13, 13), (0, 10, 17, 21), (0, 10, 21, 15)] 8 1) (hm : mxL K = 5) (x0 : Option Nat) (x1 : Int32) (x2 : Int32) (x3 : Option Nat) (h : MH) : V K 0 [(0, vR x0), (1, vI x1), (2, vI x2), (3, vR x3)] [] h (M_L_station x0 x1 x2 x3 h) := by
  unfold M_L_station
  refine V_aload_n (pc := 0) F dL_station_0 3 rfl ?_
  refine V_iconst (pc := 1) F (x := (0 : Int32)) dL_station_1 (by decide) ?_
  refine V_aload_n (pc := 2) F dL_station_2 0 rfl ?_
  refine V_iload_n (pc := 3) F dL_station_3 1 rfl ?_
  refine V_iload_n (pc := 4) F dL_station_4 2 rfl ?_
  refine V_cV (pc := 5) F 8 (by decide) (as := [vI x1, vI x2]) (C_X8_station x0 x1 x2 h) w_X8_station g_in_X8_station g_se_X8_station g_ml_RL_33 (by decide) (rest := [vI (0 : Int32), vR x3]) rfl rfl (Nat.le_of_ble_eq_true rfl) dL_station_5 (k_I fun z1 h2 => ?_) ?_
  · refine V_i2l (pc := 8) F dL_station_8 ?_
    intro z6
    refine V_last (pc := 9) F dL_station_9 ?_
    intro h7
    refine V_goto (pc := 10) F 25 dL_station_10 (by decide) ?_
    refine V_iconst (pc := 25) F (x := (0 : Int32)) dL_station_25 (by decide) ?_
    exact V_iret (pc := 26) F (Or.inr rfl) dL_station_26
  · intro e8 h9
    refine VX_if ?_ ?_
    · refine VX_catch (pc := 5) F [] ⟨0, 10, 13, 13⟩ [⟨0, 10, 17, 21⟩, ⟨0, 10, 21, 15⟩] rfl (fun _ hw => nomatch hw) rfl (by decide) g_cl_RL_13 (i := 4) (nx := 15) (lt_mx hm (by decide)) (Or.inr ⟨dL_station_13, rfl⟩) (L' := [(0, vR x0), (1, vI x1), (2, vI x2), (3, vR x3)]) rfl ?_
      refine V_iconst (pc := 15) F (x := (1 : Int32)) dL_station_15 (by decide) ?_
      exact V_iret (pc := 16) F (Or.inr rfl) dL_station_16
    refine VX_if ?_ ?_
    · refine VX_catch (pc := 5) F [⟨0, 10, 13, 13⟩] ⟨0, 10, 17, 21⟩ [⟨0, 10, 21, 15⟩] rfl (List.forall_mem_cons.mpr ⟨Or.inr ⟨by decide, exN 1, g_cl_RL_13, by decide⟩, fun _ hw => nomatch hw⟩) rfl (by decide) g_cl_RL_21 (i := 4) (nx := 19) (lt_mx hm (by decide)) (Or.inr ⟨dL_station_17, rfl⟩) (L' := [(0, vR x0), (1, vI x1), (2, vI x2), (3, vR x3)]) rfl ?_
      refine V_iconst (pc := 19) F (x := (2 : Int32)) dL_station_19 (by decide) ?_
      exact V_iret (pc := 20) F (Or.inr rfl) dL_station_20
    refine VX_if ?_ ?_
    · refine VX_catch (pc := 5) F [⟨0, 10, 13, 13⟩, ⟨0, 10, 17, 21⟩] ⟨0, 10, 21, 15⟩ [] rfl (List.forall_mem_cons.mpr ⟨Or.inr ⟨by decide, exN 1, g_cl_RL_13, by decide⟩, List.forall_mem_cons.mpr ⟨Or.inr ⟨by decide, exN 2, g_cl_RL_21, by decide⟩, fun _ hw => nomatch hw⟩⟩) rfl (by decide) g_cl_RL_15 (i := 4) (nx := 23) (lt_mx hm (by decide)) (Or.inr ⟨dL_station_21, rfl⟩) (L' := [(0, vR x0), (1, vI x1), (2, vI x2), (3, vR x3)]) rfl ?_
      refine V_iconst (pc := 23) F (x := (3 : Int32)) dL_station_23 (by decide) ?_
      exact V_iret (pc := 24) F (Or.inr rfl) dL_station_24
    exact VX_none
theorem C_L_station (x0 : Option Nat) (x1 : Int32) (x2 : Int32) (x3 : Option Nat) (h : MH) : CtrX yL_station (WSw yL_station cL_station 5 (some .int) [(0, 10, 13, 13), (0, 10, 17, 21), (0, 10, 21, 15)]) 8 [vR x0, vI x1, vI x2, vR x3] h (M_L_station x0 x1 x2 x3 h) :=
  CtrW_of (by decide) (Nat.le_of_ble_eq_true rfl) (fun K F hm hi => vM_L_station F hm x0 x1 x2 x3 h)
def M_L_storm (x0 : Option Nat) (x1 : Int32) (x2 : Int32) (x3 : Option Nat) (h : MH) : Res := chk h x0 8 <| calG (M_X8_storm x0 x1 x2 h) (toI fun z1 h2 => bnd (Int32.toInt64 z1) fun z5 => wrQ h2 x3 (0 : Int32) z5 fun h6 => rtI (0 : Int32) h6) (fun e7 h8 => if e7 = 2 then (rtI (1 : Int32) h8) else if e7 = 3 then (rtI (2 : Int32) h8) else none)
theorem vM_L_storm {K : CT} (F : Fr K cL_storm RL (some .int) [(0, 10, 13, 21), (0, 10, 17, 15)] 8 1) (hm : mxL K = 5) (x0 : Option Nat) (x1 : Int32) (x2 : Int32) (x3 : Option Nat) (h : MH) : V K 0 [(0, vR x0), (1, vI x1), (2, vI x2), (3, vR x3)] [] h (M_L_storm x0 x1 x2 x3 h) := by
  unfold M_L_storm
  refine V_aload_n (pc := 0) F dL_storm_0 3 rfl ?_
  refine V_iconst (pc := 1) F (x := (0 : Int32)) dL_storm_1 (by decide) ?_
  refine V_aload_n (pc := 2) F dL_storm_2 0 rfl ?_
  refine V_iload_n (pc := 3) F dL_storm_3 1 rfl ?_
  refine V_iload_n (pc := 4) F dL_storm_4 2 rfl ?_
  refine V_cV (pc := 5) F 8 (by decide) (as := [vI x1, vI x2]) (C_X8_storm x0 x1 x2 h) w_X8_storm g_in_X8_storm g_se_X8_storm g_ml_RL_36 (by decide) (rest := [vI (0 : Int32), vR x3]) rfl rfl (Nat.le_of_ble_eq_true rfl) dL_storm_5 (k_I fun z1 h2 => ?_) ?_
  · refine V_i2l (pc := 8) F dL_storm_8 ?_
    intro z5
    refine V_last (pc := 9) F dL_storm_9 ?_
    intro h6
    refine V_goto (pc := 10) F 21 dL_storm_10 (by decide) ?_
    refine V_iconst (pc := 21) F (x := (0 : Int32)) dL_storm_21 (by decide) ?_
    exact V_iret (pc := 22) F (Or.inr rfl) dL_storm_22
  · intro e7 h8
    refine VX_if ?_ ?_
    · refine VX_catch (pc := 5) F [] ⟨0, 10, 13, 21⟩ [⟨0, 10, 17, 15⟩] rfl (fun _ hw => nomatch hw) rfl (by decide) g_cl_RL_21 (i := 4) (nx := 15) (lt_mx hm (by decide)) (Or.inr ⟨dL_storm_13, rfl⟩) (L' := [(0, vR x0), (1, vI x1), (2, vI x2), (3, vR x3)]) rfl ?_
      refine V_iconst (pc := 15) F (x := (1 : Int32)) dL_storm_15 (by decide) ?_
      exact V_iret (pc := 16) F (Or.inr rfl) dL_storm_16
    refine VX_if ?_ ?_
    · refine VX_catch (pc := 5) F [⟨0, 10, 13, 21⟩] ⟨0, 10, 17, 15⟩ [] rfl (List.forall_mem_cons.mpr ⟨Or.inr ⟨by decide, exN 2, g_cl_RL_21, by decide⟩, fun _ hw => nomatch hw⟩) rfl (by decide) g_cl_RL_15 (i := 4) (nx := 19) (lt_mx hm (by decide)) (Or.inr ⟨dL_storm_17, rfl⟩) (L' := [(0, vR x0), (1, vI x1), (2, vI x2), (3, vR x3)]) rfl ?_
      refine V_iconst (pc := 19) F (x := (2 : Int32)) dL_storm_19 (by decide) ?_
      exact V_iret (pc := 20) F (Or.inr rfl) dL_storm_20
    exact VX_none
theorem C_L_storm (x0 : Option Nat) (x1 : Int32) (x2 : Int32) (x3 : Option Nat) (h : MH) : CtrX yL_storm (WSw yL_storm cL_storm 5 (some .int) [(0, 10, 13, 21), (0, 10, 17, 15)]) 8 [vR x0, vI x1, vI x2, vR x3] h (M_L_storm x0 x1 x2 x3 h) :=
  CtrW_of (by decide) (Nat.le_of_ble_eq_true rfl) (fun K F hm hi => vM_L_storm F hm x0 x1 x2 x3 h)
def M_L_calibrate (x0 : Option Nat) (x1 : Int32) (x2 : Option Nat) (h : MH) : Res := chk h x0 8 <| calG (M_X8_calibrate x0 x1 h) (toI fun z1 h2 => bnd (Int32.toInt64 z1) fun z5 => wrQ h2 x2 (0 : Int32) z5 fun h6 => rtI (0 : Int32) h6) (fun e7 h8 => if e7 = 1 then (rtI (1 : Int32) h8) else if e7 = 3 then (rtI (2 : Int32) h8) else none)
theorem vM_L_calibrate {K : CT} (F : Fr K cL_calibrate RL (some .int) [(0, 9, 12, 13), (0, 9, 15, 15)] 8 1) (hm : mxL K = 4) (x0 : Option Nat) (x1 : Int32) (x2 : Option Nat) (h : MH) : V K 0 [(0, vR x0), (1, vI x1), (2, vR x2)] [] h (M_L_calibrate x0 x1 x2 h) := by
  unfold M_L_calibrate
  refine V_aload_n (pc := 0) F dL_calibrate_0 2 rfl ?_
  refine V_iconst (pc := 1) F (x := (0 : Int32)) dL_calibrate_1 (by decide) ?_
  refine V_aload_n (pc := 2) F dL_calibrate_2 0 rfl ?_
  refine V_iload_n (pc := 3) F dL_calibrate_3 1 rfl ?_
  refine V_cV (pc := 4) F 8 (by decide) (as := [vI x1]) (C_X8_calibrate x0 x1 h) w_X8_calibrate g_in_X8_calibrate g_se_X8_calibrate g_ml_RL_39 (by decide) (rest := [vI (0 : Int32), vR x2]) rfl rfl (Nat.le_of_ble_eq_true rfl) dL_calibrate_4 (k_I fun z1 h2 => ?_) ?_
  · refine V_i2l (pc := 7) F dL_calibrate_7 ?_
    intro z5
    refine V_last (pc := 8) F dL_calibrate_8 ?_
    intro h6
    refine V_goto (pc := 9) F 18 dL_calibrate_9 (by decide) ?_
    refine V_iconst (pc := 18) F (x := (0 : Int32)) dL_calibrate_18 (by decide) ?_
    exact V_iret (pc := 19) F (Or.inr rfl) dL_calibrate_19
  · intro e7 h8
    refine VX_if ?_ ?_
    · refine VX_catch (pc := 4) F [] ⟨0, 9, 12, 13⟩ [⟨0, 9, 15, 15⟩] rfl (fun _ hw => nomatch hw) rfl (by decide) g_cl_RL_13 (i := 3) (nx := 13) (lt_mx hm (by decide)) (Or.inl ⟨3, rfl, dL_calibrate_12, rfl⟩) (L' := [(0, vR x0), (1, vI x1), (2, vR x2)]) rfl ?_
      refine V_iconst (pc := 13) F (x := (1 : Int32)) dL_calibrate_13 (by decide) ?_
      exact V_iret (pc := 14) F (Or.inr rfl) dL_calibrate_14
    refine VX_if ?_ ?_
    · refine VX_catch (pc := 4) F [⟨0, 9, 12, 13⟩] ⟨0, 9, 15, 15⟩ [] rfl (List.forall_mem_cons.mpr ⟨Or.inr ⟨by decide, exN 1, g_cl_RL_13, by decide⟩, fun _ hw => nomatch hw⟩) rfl (by decide) g_cl_RL_15 (i := 3) (nx := 16) (lt_mx hm (by decide)) (Or.inl ⟨3, rfl, dL_calibrate_15, rfl⟩) (L' := [(0, vR x0), (1, vI x1), (2, vR x2)]) rfl ?_
      refine V_iconst (pc := 16) F (x := (2 : Int32)) dL_calibrate_16 (by decide) ?_
      exact V_iret (pc := 17) F (Or.inr rfl) dL_calibrate_17
    exact VX_none
theorem C_L_calibrate (x0 : Option Nat) (x1 : Int32) (x2 : Option Nat) (h : MH) : CtrX yL_calibrate (WSw yL_calibrate cL_calibrate 4 (some .int) [(0, 9, 12, 13), (0, 9, 15, 15)]) 8 [vR x0, vI x1, vR x2] h (M_L_calibrate x0 x1 x2 h) :=
  CtrW_of (by decide) (Nat.le_of_ble_eq_true rfl) (fun K F hm hi => vM_L_calibrate F hm x0 x1 x2 h)
def M_L_flag (x0 : Option Nat) (x1 : Int32) (x2 : Int32) (x3 : Option Nat) (h : MH) : Res := chk h x0 8 <| calG (M_X8_flag x0 x1 x2 h) (toI fun z1 h2 => bnd (Int32.toInt64 z1) fun z5 => wrQ h2 x3 (0 : Int32) z5 fun h6 => rtI (0 : Int32) h6) (fun e7 h8 => if e7 = 1 then (rtI (1 : Int32) h8) else if e7 = 2 then (rtI (2 : Int32) h8) else none)
theorem vM_L_flag {K : CT} (F : Fr K cL_flag RL (some .int) [(0, 10, 13, 13), (0, 10, 17, 21)] 8 1) (hm : mxL K = 5) (x0 : Option Nat) (x1 : Int32) (x2 : Int32) (x3 : Option Nat) (h : MH) : V K 0 [(0, vR x0), (1, vI x1), (2, vI x2), (3, vR x3)] [] h (M_L_flag x0 x1 x2 x3 h) := by
  unfold M_L_flag
  refine V_aload_n (pc := 0) F dL_flag_0 3 rfl ?_
  refine V_iconst (pc := 1) F (x := (0 : Int32)) dL_flag_1 (by decide) ?_
  refine V_aload_n (pc := 2) F dL_flag_2 0 rfl ?_
  refine V_iload_n (pc := 3) F dL_flag_3 1 rfl ?_
  refine V_iload_n (pc := 4) F dL_flag_4 2 rfl ?_
  refine V_cV (pc := 5) F 8 (by decide) (as := [vI x1, vI x2]) (C_X8_flag x0 x1 x2 h) w_X8_flag g_in_X8_flag g_se_X8_flag g_ml_RL_42 (by decide) (rest := [vI (0 : Int32), vR x3]) rfl rfl (Nat.le_of_ble_eq_true rfl) dL_flag_5 (k_I fun z1 h2 => ?_) ?_
  · refine V_i2l (pc := 8) F dL_flag_8 ?_
    intro z5
    refine V_last (pc := 9) F dL_flag_9 ?_
    intro h6
    refine V_goto (pc := 10) F 21 dL_flag_10 (by decide) ?_
    refine V_iconst (pc := 21) F (x := (0 : Int32)) dL_flag_21 (by decide) ?_
    exact V_iret (pc := 22) F (Or.inr rfl) dL_flag_22
  · intro e7 h8
    refine VX_if ?_ ?_
    · refine VX_catch (pc := 5) F [] ⟨0, 10, 13, 13⟩ [⟨0, 10, 17, 21⟩] rfl (fun _ hw => nomatch hw) rfl (by decide) g_cl_RL_13 (i := 4) (nx := 15) (lt_mx hm (by decide)) (Or.inr ⟨dL_flag_13, rfl⟩) (L' := [(0, vR x0), (1, vI x1), (2, vI x2), (3, vR x3)]) rfl ?_
      refine V_iconst (pc := 15) F (x := (1 : Int32)) dL_flag_15 (by decide) ?_
      exact V_iret (pc := 16) F (Or.inr rfl) dL_flag_16
    refine VX_if ?_ ?_
    · refine VX_catch (pc := 5) F [⟨0, 10, 13, 13⟩] ⟨0, 10, 17, 21⟩ [] rfl (List.forall_mem_cons.mpr ⟨Or.inr ⟨by decide, exN 1, g_cl_RL_13, by decide⟩, fun _ hw => nomatch hw⟩) rfl (by decide) g_cl_RL_21 (i := 4) (nx := 19) (lt_mx hm (by decide)) (Or.inr ⟨dL_flag_17, rfl⟩) (L' := [(0, vR x0), (1, vI x1), (2, vI x2), (3, vR x3)]) rfl ?_
      refine V_iconst (pc := 19) F (x := (2 : Int32)) dL_flag_19 (by decide) ?_
      exact V_iret (pc := 20) F (Or.inr rfl) dL_flag_20
    exact VX_none
theorem C_L_flag (x0 : Option Nat) (x1 : Int32) (x2 : Int32) (x3 : Option Nat) (h : MH) : CtrX yL_flag (WSw yL_flag cL_flag 5 (some .int) [(0, 10, 13, 13), (0, 10, 17, 21)]) 8 [vR x0, vI x1, vI x2, vR x3] h (M_L_flag x0 x1 x2 x3 h) :=
  CtrW_of (by decide) (Nat.le_of_ble_eq_true rfl) (fun K F hm hi => vM_L_flag F hm x0 x1 x2 x3 h)
def M_L_bound (x0 : Option Nat) (x1 : Int32) (x2 : Option Nat) (h : MH) : Res := chk h x0 8 <| calG (M_X8_bound x0 x1 h) (toI fun z1 h2 => bnd (Int32.toInt64 z1) fun z4 => wrQ h2 x2 (0 : Int32) z4 fun h5 => rtI (0 : Int32) h5) (fun e6 h7 => if e6 = 2 then (rtI (1 : Int32) h7) else none)
theorem vM_L_bound {K : CT} (F : Fr K cL_bound RL (some .int) [(0, 9, 12, 21)] 8 1) (hm : mxL K = 4) (x0 : Option Nat) (x1 : Int32) (x2 : Option Nat) (h : MH) : V K 0 [(0, vR x0), (1, vI x1), (2, vR x2)] [] h (M_L_bound x0 x1 x2 h) := by
  unfold M_L_bound
  refine V_aload_n (pc := 0) F dL_bound_0 2 rfl ?_
  refine V_iconst (pc := 1) F (x := (0 : Int32)) dL_bound_1 (by decide) ?_
  refine V_aload_n (pc := 2) F dL_bound_2 0 rfl ?_
  refine V_iload_n (pc := 3) F dL_bound_3 1 rfl ?_
  refine V_cV (pc := 4) F 8 (by decide) (as := [vI x1]) (C_X8_bound x0 x1 h) w_X8_bound g_in_X8_bound g_se_X8_bound g_ml_RL_45 (by decide) (rest := [vI (0 : Int32), vR x2]) rfl rfl (Nat.le_of_ble_eq_true rfl) dL_bound_4 (k_I fun z1 h2 => ?_) ?_
  · refine V_i2l (pc := 7) F dL_bound_7 ?_
    intro z4
    refine V_last (pc := 8) F dL_bound_8 ?_
    intro h5
    refine V_goto (pc := 9) F 15 dL_bound_9 (by decide) ?_
    refine V_iconst (pc := 15) F (x := (0 : Int32)) dL_bound_15 (by decide) ?_
    exact V_iret (pc := 16) F (Or.inr rfl) dL_bound_16
  · intro e6 h7
    refine VX_if ?_ ?_
    · refine VX_catch (pc := 4) F [] ⟨0, 9, 12, 21⟩ [] rfl (fun _ hw => nomatch hw) rfl (by decide) g_cl_RL_21 (i := 3) (nx := 13) (lt_mx hm (by decide)) (Or.inl ⟨3, rfl, dL_bound_12, rfl⟩) (L' := [(0, vR x0), (1, vI x1), (2, vR x2)]) rfl ?_
      refine V_iconst (pc := 13) F (x := (1 : Int32)) dL_bound_13 (by decide) ?_
      exact V_iret (pc := 14) F (Or.inr rfl) dL_bound_14
    exact VX_none
theorem C_L_bound (x0 : Option Nat) (x1 : Int32) (x2 : Option Nat) (h : MH) : CtrX yL_bound (WSw yL_bound cL_bound 4 (some .int) [(0, 9, 12, 21)]) 8 [vR x0, vI x1, vR x2] h (M_L_bound x0 x1 x2 h) :=
  CtrW_of (by decide) (Nat.le_of_ble_eq_true rfl) (fun K F hm hi => vM_L_bound F hm x0 x1 x2 h)
def M_L_search (x0 : Option Nat) (x1 : Int32) (x2 : Option Nat) (h : MH) : Res := chk h x0 8 <| calG (M_X8_search x0 x1 h) (toI fun z1 h2 => bnd (Int32.toInt64 z1) fun z5 => wrQ h2 x2 (0 : Int32) z5 fun h6 => rtI (0 : Int32) h6) (fun e7 h8 => if e7 = 1 then (rtI (1 : Int32) h8) else if e7 = 3 then (rtI (2 : Int32) h8) else none)
theorem vM_L_search {K : CT} (F : Fr K cL_search RL (some .int) [(0, 9, 12, 13), (0, 9, 15, 15)] 8 1) (hm : mxL K = 4) (x0 : Option Nat) (x1 : Int32) (x2 : Option Nat) (h : MH) : V K 0 [(0, vR x0), (1, vI x1), (2, vR x2)] [] h (M_L_search x0 x1 x2 h) := by
  unfold M_L_search
  refine V_aload_n (pc := 0) F dL_search_0 2 rfl ?_
  refine V_iconst (pc := 1) F (x := (0 : Int32)) dL_search_1 (by decide) ?_
  refine V_aload_n (pc := 2) F dL_search_2 0 rfl ?_
  refine V_iload_n (pc := 3) F dL_search_3 1 rfl ?_
  refine V_cV (pc := 4) F 8 (by decide) (as := [vI x1]) (C_X8_search x0 x1 h) w_X8_search g_in_X8_search g_se_X8_search g_ml_RL_48 (by decide) (rest := [vI (0 : Int32), vR x2]) rfl rfl (Nat.le_of_ble_eq_true rfl) dL_search_4 (k_I fun z1 h2 => ?_) ?_
  · refine V_i2l (pc := 7) F dL_search_7 ?_
    intro z5
    refine V_last (pc := 8) F dL_search_8 ?_
    intro h6
    refine V_goto (pc := 9) F 18 dL_search_9 (by decide) ?_
    refine V_iconst (pc := 18) F (x := (0 : Int32)) dL_search_18 (by decide) ?_
    exact V_iret (pc := 19) F (Or.inr rfl) dL_search_19
  · intro e7 h8
    refine VX_if ?_ ?_
    · refine VX_catch (pc := 4) F [] ⟨0, 9, 12, 13⟩ [⟨0, 9, 15, 15⟩] rfl (fun _ hw => nomatch hw) rfl (by decide) g_cl_RL_13 (i := 3) (nx := 13) (lt_mx hm (by decide)) (Or.inl ⟨3, rfl, dL_search_12, rfl⟩) (L' := [(0, vR x0), (1, vI x1), (2, vR x2)]) rfl ?_
      refine V_iconst (pc := 13) F (x := (1 : Int32)) dL_search_13 (by decide) ?_
      exact V_iret (pc := 14) F (Or.inr rfl) dL_search_14
    refine VX_if ?_ ?_
    · refine VX_catch (pc := 4) F [⟨0, 9, 12, 13⟩] ⟨0, 9, 15, 15⟩ [] rfl (List.forall_mem_cons.mpr ⟨Or.inr ⟨by decide, exN 1, g_cl_RL_13, by decide⟩, fun _ hw => nomatch hw⟩) rfl (by decide) g_cl_RL_15 (i := 3) (nx := 16) (lt_mx hm (by decide)) (Or.inl ⟨3, rfl, dL_search_15, rfl⟩) (L' := [(0, vR x0), (1, vI x1), (2, vR x2)]) rfl ?_
      refine V_iconst (pc := 16) F (x := (2 : Int32)) dL_search_16 (by decide) ?_
      exact V_iret (pc := 17) F (Or.inr rfl) dL_search_17
    exact VX_none
theorem C_L_search (x0 : Option Nat) (x1 : Int32) (x2 : Option Nat) (h : MH) : CtrX yL_search (WSw yL_search cL_search 4 (some .int) [(0, 9, 12, 13), (0, 9, 15, 15)]) 8 [vR x0, vI x1, vR x2] h (M_L_search x0 x1 x2 h) :=
  CtrW_of (by decide) (Nat.le_of_ble_eq_true rfl) (fun K F hm hi => vM_L_search F hm x0 x1 x2 h)
def M_L_leg (x0 : Option Nat) (x1 : Int32) (x2 : Int32) (x3 : Int32) (x4 : Option Nat) (h : MH) : Res := chk h x0 8 <| calG (M_X8_leg x0 x1 x2 x3 h) (toI fun z1 h2 => bnd (Int32.toInt64 z1) fun z5 => wrQ h2 x4 (0 : Int32) z5 fun h6 => rtI (0 : Int32) h6) (fun e7 h8 => if e7 = 1 then (rtI (1 : Int32) h8) else if e7 = 2 then (rtI (2 : Int32) h8) else none)
theorem vM_L_leg {K : CT} (F : Fr K cL_leg RL (some .int) [(0, 12, 15, 13), (0, 12, 19, 21)] 8 1) (hm : mxL K = 6) (x0 : Option Nat) (x1 : Int32) (x2 : Int32) (x3 : Int32) (x4 : Option Nat) (h : MH) : V K 0 [(0, vR x0), (1, vI x1), (2, vI x2), (3, vI x3), (4, vR x4)] [] h (M_L_leg x0 x1 x2 x3 x4 h) := by
  unfold M_L_leg
  refine V_aload (pc := 0) F dL_leg_0 4 rfl ?_
  refine V_iconst (pc := 2) F (x := (0 : Int32)) dL_leg_2 (by decide) ?_
  refine V_aload_n (pc := 3) F dL_leg_3 0 rfl ?_
  refine V_iload_n (pc := 4) F dL_leg_4 1 rfl ?_
  refine V_iload_n (pc := 5) F dL_leg_5 2 rfl ?_
  refine V_iload_n (pc := 6) F dL_leg_6 3 rfl ?_
  refine V_cV (pc := 7) F 8 (by decide) (as := [vI x1, vI x2, vI x3]) (C_X8_leg x0 x1 x2 x3 h) w_X8_leg g_in_X8_leg g_se_X8_leg g_ml_RL_51 (by decide) (rest := [vI (0 : Int32), vR x4]) rfl rfl (Nat.le_of_ble_eq_true rfl) dL_leg_7 (k_I fun z1 h2 => ?_) ?_
  · refine V_i2l (pc := 10) F dL_leg_10 ?_
    intro z5
    refine V_last (pc := 11) F dL_leg_11 ?_
    intro h6
    refine V_goto (pc := 12) F 23 dL_leg_12 (by decide) ?_
    refine V_iconst (pc := 23) F (x := (0 : Int32)) dL_leg_23 (by decide) ?_
    exact V_iret (pc := 24) F (Or.inr rfl) dL_leg_24
  · intro e7 h8
    refine VX_if ?_ ?_
    · refine VX_catch (pc := 7) F [] ⟨0, 12, 15, 13⟩ [⟨0, 12, 19, 21⟩] rfl (fun _ hw => nomatch hw) rfl (by decide) g_cl_RL_13 (i := 5) (nx := 17) (lt_mx hm (by decide)) (Or.inr ⟨dL_leg_15, rfl⟩) (L' := [(0, vR x0), (1, vI x1), (2, vI x2), (3, vI x3), (4, vR x4)]) rfl ?_
      refine V_iconst (pc := 17) F (x := (1 : Int32)) dL_leg_17 (by decide) ?_
      exact V_iret (pc := 18) F (Or.inr rfl) dL_leg_18
    refine VX_if ?_ ?_
    · refine VX_catch (pc := 7) F [⟨0, 12, 15, 13⟩] ⟨0, 12, 19, 21⟩ [] rfl (List.forall_mem_cons.mpr ⟨Or.inr ⟨by decide, exN 1, g_cl_RL_13, by decide⟩, fun _ hw => nomatch hw⟩) rfl (by decide) g_cl_RL_21 (i := 5) (nx := 21) (lt_mx hm (by decide)) (Or.inr ⟨dL_leg_19, rfl⟩) (L' := [(0, vR x0), (1, vI x1), (2, vI x2), (3, vI x3), (4, vR x4)]) rfl ?_
      refine V_iconst (pc := 21) F (x := (2 : Int32)) dL_leg_21 (by decide) ?_
      exact V_iret (pc := 22) F (Or.inr rfl) dL_leg_22
    exact VX_none
theorem C_L_leg (x0 : Option Nat) (x1 : Int32) (x2 : Int32) (x3 : Int32) (x4 : Option Nat) (h : MH) : CtrX yL_leg (WSw yL_leg cL_leg 6 (some .int) [(0, 12, 15, 13), (0, 12, 19, 21)]) 8 [vR x0, vI x1, vI x2, vI x3, vR x4] h (M_L_leg x0 x1 x2 x3 x4 h) :=
  CtrW_of (by decide) (Nat.le_of_ble_eq_true rfl) (fun K F hm hi => vM_L_leg F hm x0 x1 x2 x3 x4 h)
def M_L_part (x0 : Option Nat) (x1 : Int32) (x2 : Int32) (x3 : Int32) (x4 : Option Nat) (h : MH) : Res := chk h x0 8 <| calG (M_X8_part x0 x1 x2 x3 h) (toI fun z1 h2 => bnd (Int32.toInt64 z1) fun z5 => wrQ h2 x4 (0 : Int32) z5 fun h6 => rtI (0 : Int32) h6) (fun e7 h8 => if e7 = 2 then (rtI (1 : Int32) h8) else if e7 = 3 then (rtI (2 : Int32) h8) else none)
theorem vM_L_part {K : CT} (F : Fr K cL_part RL (some .int) [(0, 12, 15, 21), (0, 12, 19, 15)] 8 1) (hm : mxL K = 6) (x0 : Option Nat) (x1 : Int32) (x2 : Int32) (x3 : Int32) (x4 : Option Nat) (h : MH) : V K 0 [(0, vR x0), (1, vI x1), (2, vI x2), (3, vI x3), (4, vR x4)] [] h (M_L_part x0 x1 x2 x3 x4 h) := by
  unfold M_L_part
  refine V_aload (pc := 0) F dL_part_0 4 rfl ?_
  refine V_iconst (pc := 2) F (x := (0 : Int32)) dL_part_2 (by decide) ?_
  refine V_aload_n (pc := 3) F dL_part_3 0 rfl ?_
  refine V_iload_n (pc := 4) F dL_part_4 1 rfl ?_
  refine V_iload_n (pc := 5) F dL_part_5 2 rfl ?_
  refine V_iload_n (pc := 6) F dL_part_6 3 rfl ?_
  refine V_cV (pc := 7) F 8 (by decide) (as := [vI x1, vI x2, vI x3]) (C_X8_part x0 x1 x2 x3 h) w_X8_part g_in_X8_part g_se_X8_part g_ml_RL_55 (by decide) (rest := [vI (0 : Int32), vR x4]) rfl rfl (Nat.le_of_ble_eq_true rfl) dL_part_7 (k_I fun z1 h2 => ?_) ?_
  · refine V_i2l (pc := 10) F dL_part_10 ?_
    intro z5
    refine V_last (pc := 11) F dL_part_11 ?_
    intro h6
    refine V_goto (pc := 12) F 23 dL_part_12 (by decide) ?_
    refine V_iconst (pc := 23) F (x := (0 : Int32)) dL_part_23 (by decide) ?_
    exact V_iret (pc := 24) F (Or.inr rfl) dL_part_24
  · intro e7 h8
    refine VX_if ?_ ?_
    · refine VX_catch (pc := 7) F [] ⟨0, 12, 15, 21⟩ [⟨0, 12, 19, 15⟩] rfl (fun _ hw => nomatch hw) rfl (by decide) g_cl_RL_21 (i := 5) (nx := 17) (lt_mx hm (by decide)) (Or.inr ⟨dL_part_15, rfl⟩) (L' := [(0, vR x0), (1, vI x1), (2, vI x2), (3, vI x3), (4, vR x4)]) rfl ?_
      refine V_iconst (pc := 17) F (x := (1 : Int32)) dL_part_17 (by decide) ?_
      exact V_iret (pc := 18) F (Or.inr rfl) dL_part_18
    refine VX_if ?_ ?_
    · refine VX_catch (pc := 7) F [⟨0, 12, 15, 21⟩] ⟨0, 12, 19, 15⟩ [] rfl (List.forall_mem_cons.mpr ⟨Or.inr ⟨by decide, exN 2, g_cl_RL_21, by decide⟩, fun _ hw => nomatch hw⟩) rfl (by decide) g_cl_RL_15 (i := 5) (nx := 21) (lt_mx hm (by decide)) (Or.inr ⟨dL_part_19, rfl⟩) (L' := [(0, vR x0), (1, vI x1), (2, vI x2), (3, vI x3), (4, vR x4)]) rfl ?_
      refine V_iconst (pc := 21) F (x := (2 : Int32)) dL_part_21 (by decide) ?_
      exact V_iret (pc := 22) F (Or.inr rfl) dL_part_22
    exact VX_none
theorem C_L_part (x0 : Option Nat) (x1 : Int32) (x2 : Int32) (x3 : Int32) (x4 : Option Nat) (h : MH) : CtrX yL_part (WSw yL_part cL_part 6 (some .int) [(0, 12, 15, 21), (0, 12, 19, 15)]) 8 [vR x0, vI x1, vI x2, vI x3, vR x4] h (M_L_part x0 x1 x2 x3 x4 h) :=
  CtrW_of (by decide) (Nat.le_of_ble_eq_true rfl) (fun K F hm hi => vM_L_part F hm x0 x1 x2 x3 x4 h)
def M_L_ofLayer (x0 : Option Nat) (x1 : Int32) (x2 : Int32) (x3 : Int32) (x4 : Option Nat) (h : MH) : Res := chk h x0 8 <| calG (M_X8_ofLayer x0 x1 x2 x3 h) (toI fun z1 h2 => bnd (Int32.toInt64 z1) fun z5 => wrQ h2 x4 (0 : Int32) z5 fun h6 => rtI (0 : Int32) h6) (fun e7 h8 => if e7 = 1 then (rtI (1 : Int32) h8) else if e7 = 2 then (rtI (2 : Int32) h8) else none)
theorem vM_L_ofLayer {K : CT} (F : Fr K cL_ofLayer RL (some .int) [(0, 12, 15, 13), (0, 12, 19, 21)] 8 1) (hm : mxL K = 6) (x0 : Option Nat) (x1 : Int32) (x2 : Int32) (x3 : Int32) (x4 : Option Nat) (h : MH) : V K 0 [(0, vR x0), (1, vI x1), (2, vI x2), (3, vI x3), (4, vR x4)] [] h (M_L_ofLayer x0 x1 x2 x3 x4 h) := by
  unfold M_L_ofLayer
  refine V_aload (pc := 0) F dL_ofLayer_0 4 rfl ?_
  refine V_iconst (pc := 2) F (x := (0 : Int32)) dL_ofLayer_2 (by decide) ?_
  refine V_aload_n (pc := 3) F dL_ofLayer_3 0 rfl ?_
  refine V_iload_n (pc := 4) F dL_ofLayer_4 1 rfl ?_
  refine V_iload_n (pc := 5) F dL_ofLayer_5 2 rfl ?_
  refine V_iload_n (pc := 6) F dL_ofLayer_6 3 rfl ?_
  refine V_cV (pc := 7) F 8 (by decide) (as := [vI x1, vI x2, vI x3]) (C_X8_ofLayer x0 x1 x2 x3 h) w_X8_ofLayer g_in_X8_ofLayer g_se_X8_ofLayer g_ml_RL_58 (by decide) (rest := [vI (0 : Int32), vR x4]) rfl rfl (Nat.le_of_ble_eq_true rfl) dL_ofLayer_7 (k_I fun z1 h2 => ?_) ?_
  · refine V_i2l (pc := 10) F dL_ofLayer_10 ?_
    intro z5
    refine V_last (pc := 11) F dL_ofLayer_11 ?_
    intro h6
    refine V_goto (pc := 12) F 23 dL_ofLayer_12 (by decide) ?_
    refine V_iconst (pc := 23) F (x := (0 : Int32)) dL_ofLayer_23 (by decide) ?_
    exact V_iret (pc := 24) F (Or.inr rfl) dL_ofLayer_24
  · intro e7 h8
    refine VX_if ?_ ?_
    · refine VX_catch (pc := 7) F [] ⟨0, 12, 15, 13⟩ [⟨0, 12, 19, 21⟩] rfl (fun _ hw => nomatch hw) rfl (by decide) g_cl_RL_13 (i := 5) (nx := 17) (lt_mx hm (by decide)) (Or.inr ⟨dL_ofLayer_15, rfl⟩) (L' := [(0, vR x0), (1, vI x1), (2, vI x2), (3, vI x3), (4, vR x4)]) rfl ?_
      refine V_iconst (pc := 17) F (x := (1 : Int32)) dL_ofLayer_17 (by decide) ?_
      exact V_iret (pc := 18) F (Or.inr rfl) dL_ofLayer_18
    refine VX_if ?_ ?_
    · refine VX_catch (pc := 7) F [⟨0, 12, 15, 13⟩] ⟨0, 12, 19, 21⟩ [] rfl (List.forall_mem_cons.mpr ⟨Or.inr ⟨by decide, exN 1, g_cl_RL_13, by decide⟩, fun _ hw => nomatch hw⟩) rfl (by decide) g_cl_RL_21 (i := 5) (nx := 21) (lt_mx hm (by decide)) (Or.inr ⟨dL_ofLayer_19, rfl⟩) (L' := [(0, vR x0), (1, vI x1), (2, vI x2), (3, vI x3), (4, vR x4)]) rfl ?_
      refine V_iconst (pc := 21) F (x := (2 : Int32)) dL_ofLayer_21 (by decide) ?_
      exact V_iret (pc := 22) F (Or.inr rfl) dL_ofLayer_22
    exact VX_none
theorem C_L_ofLayer (x0 : Option Nat) (x1 : Int32) (x2 : Int32) (x3 : Int32) (x4 : Option Nat) (h : MH) : CtrX yL_ofLayer (WSw yL_ofLayer cL_ofLayer 6 (some .int) [(0, 12, 15, 13), (0, 12, 19, 21)]) 8 [vR x0, vI x1, vI x2, vI x3, vR x4] h (M_L_ofLayer x0 x1 x2 x3 x4 h) :=
  CtrW_of (by decide) (Nat.le_of_ble_eq_true rfl) (fun K F hm hi => vM_L_ofLayer F hm x0 x1 x2 x3 x4 h)
def M_L_total (x0 : Option Nat) (x1 : Int32) (x2 : Option Nat) (h : MH) : Res := chk h x0 8 <| calG (M_X8_total x0 x1 h) (toI fun z1 h2 => bnd (Int32.toInt64 z1) fun z4 => wrQ h2 x2 (0 : Int32) z4 fun h5 => rtI (0 : Int32) h5) (fun e6 h7 => if e6 = 2 then (rtI (1 : Int32) h7) else none)
theorem vM_L_total {K : CT} (F : Fr K cL_total RL (some .int) [(0, 9, 12, 21)] 8 1) (hm : mxL K = 4) (x0 : Option Nat) (x1 : Int32) (x2 : Option Nat) (h : MH) : V K 0 [(0, vR x0), (1, vI x1), (2, vR x2)] [] h (M_L_total x0 x1 x2 h) := by
  unfold M_L_total
  refine V_aload_n (pc := 0) F dL_total_0 2 rfl ?_
  refine V_iconst (pc := 1) F (x := (0 : Int32)) dL_total_1 (by decide) ?_
  refine V_aload_n (pc := 2) F dL_total_2 0 rfl ?_
  refine V_iload_n (pc := 3) F dL_total_3 1 rfl ?_
  refine V_cV (pc := 4) F 8 (by decide) (as := [vI x1]) (C_X8_total x0 x1 h) w_X8_total g_in_X8_total g_se_X8_total g_ml_RL_61 (by decide) (rest := [vI (0 : Int32), vR x2]) rfl rfl (Nat.le_of_ble_eq_true rfl) dL_total_4 (k_I fun z1 h2 => ?_) ?_
  · refine V_i2l (pc := 7) F dL_total_7 ?_
    intro z4
    refine V_last (pc := 8) F dL_total_8 ?_
    intro h5
    refine V_goto (pc := 9) F 15 dL_total_9 (by decide) ?_
    refine V_iconst (pc := 15) F (x := (0 : Int32)) dL_total_15 (by decide) ?_
    exact V_iret (pc := 16) F (Or.inr rfl) dL_total_16
  · intro e6 h7
    refine VX_if ?_ ?_
    · refine VX_catch (pc := 4) F [] ⟨0, 9, 12, 21⟩ [] rfl (fun _ hw => nomatch hw) rfl (by decide) g_cl_RL_21 (i := 3) (nx := 13) (lt_mx hm (by decide)) (Or.inl ⟨3, rfl, dL_total_12, rfl⟩) (L' := [(0, vR x0), (1, vI x1), (2, vR x2)]) rfl ?_
      refine V_iconst (pc := 13) F (x := (1 : Int32)) dL_total_13 (by decide) ?_
      exact V_iret (pc := 14) F (Or.inr rfl) dL_total_14
    exact VX_none
theorem C_L_total (x0 : Option Nat) (x1 : Int32) (x2 : Option Nat) (h : MH) : CtrX yL_total (WSw yL_total cL_total 4 (some .int) [(0, 9, 12, 21)]) 8 [vR x0, vI x1, vR x2] h (M_L_total x0 x1 x2 h) :=
  CtrW_of (by decide) (Nat.le_of_ble_eq_true rfl) (fun K F hm hi => vM_L_total F hm x0 x1 x2 h)
def M_L_ofFloat (x0 : Option Nat) (x1 : Int32) (x2 : Int32) (x3 : Option Nat) (h : MH) : Res := chk h x0 8 <| calG (M_X8_ofFloat x0 x1 x2 h) (toI fun z1 h2 => bnd (Int32.toInt64 z1) fun z5 => wrQ h2 x3 (0 : Int32) z5 fun h6 => rtI (0 : Int32) h6) (fun e7 h8 => if e7 = 1 then (rtI (1 : Int32) h8) else if e7 = 2 then (rtI (2 : Int32) h8) else none)
theorem vM_L_ofFloat {K : CT} (F : Fr K cL_ofFloat RL (some .int) [(0, 10, 13, 13), (0, 10, 17, 21)] 8 1) (hm : mxL K = 5) (x0 : Option Nat) (x1 : Int32) (x2 : Int32) (x3 : Option Nat) (h : MH) : V K 0 [(0, vR x0), (1, vI x1), (2, vI x2), (3, vR x3)] [] h (M_L_ofFloat x0 x1 x2 x3 h) := by
  unfold M_L_ofFloat
  refine V_aload_n (pc := 0) F dL_ofFloat_0 3 rfl ?_
  refine V_iconst (pc := 1) F (x := (0 : Int32)) dL_ofFloat_1 (by decide) ?_
  refine V_aload_n (pc := 2) F dL_ofFloat_2 0 rfl ?_
  refine V_iload_n (pc := 3) F dL_ofFloat_3 1 rfl ?_
  refine V_iload_n (pc := 4) F dL_ofFloat_4 2 rfl ?_
  refine V_cV (pc := 5) F 8 (by decide) (as := [vI x1, vI x2]) (C_X8_ofFloat x0 x1 x2 h) w_X8_ofFloat g_in_X8_ofFloat g_se_X8_ofFloat g_ml_RL_64 (by decide) (rest := [vI (0 : Int32), vR x3]) rfl rfl (Nat.le_of_ble_eq_true rfl) dL_ofFloat_5 (k_I fun z1 h2 => ?_) ?_
  · refine V_i2l (pc := 8) F dL_ofFloat_8 ?_
    intro z5
    refine V_last (pc := 9) F dL_ofFloat_9 ?_
    intro h6
    refine V_goto (pc := 10) F 21 dL_ofFloat_10 (by decide) ?_
    refine V_iconst (pc := 21) F (x := (0 : Int32)) dL_ofFloat_21 (by decide) ?_
    exact V_iret (pc := 22) F (Or.inr rfl) dL_ofFloat_22
  · intro e7 h8
    refine VX_if ?_ ?_
    · refine VX_catch (pc := 5) F [] ⟨0, 10, 13, 13⟩ [⟨0, 10, 17, 21⟩] rfl (fun _ hw => nomatch hw) rfl (by decide) g_cl_RL_13 (i := 4) (nx := 15) (lt_mx hm (by decide)) (Or.inr ⟨dL_ofFloat_13, rfl⟩) (L' := [(0, vR x0), (1, vI x1), (2, vI x2), (3, vR x3)]) rfl ?_
      refine V_iconst (pc := 15) F (x := (1 : Int32)) dL_ofFloat_15 (by decide) ?_
      exact V_iret (pc := 16) F (Or.inr rfl) dL_ofFloat_16
    refine VX_if ?_ ?_
    · refine VX_catch (pc := 5) F [⟨0, 10, 13, 13⟩] ⟨0, 10, 17, 21⟩ [] rfl (List.forall_mem_cons.mpr ⟨Or.inr ⟨by decide, exN 1, g_cl_RL_13, by decide⟩, fun _ hw => nomatch hw⟩) rfl (by decide) g_cl_RL_21 (i := 4) (nx := 19) (lt_mx hm (by decide)) (Or.inr ⟨dL_ofFloat_17, rfl⟩) (L' := [(0, vR x0), (1, vI x1), (2, vI x2), (3, vR x3)]) rfl ?_
      refine V_iconst (pc := 19) F (x := (2 : Int32)) dL_ofFloat_19 (by decide) ?_
      exact V_iret (pc := 20) F (Or.inr rfl) dL_ofFloat_20
    exact VX_none
theorem C_L_ofFloat (x0 : Option Nat) (x1 : Int32) (x2 : Int32) (x3 : Option Nat) (h : MH) : CtrX yL_ofFloat (WSw yL_ofFloat cL_ofFloat 5 (some .int) [(0, 10, 13, 13), (0, 10, 17, 21)]) 8 [vR x0, vI x1, vI x2, vR x3] h (M_L_ofFloat x0 x1 x2 x3 h) :=
  CtrW_of (by decide) (Nat.le_of_ble_eq_true rfl) (fun K F hm hi => vM_L_ofFloat F hm x0 x1 x2 x3 h)
def M_L_ofReading (x0 : Option Nat) (x1 : Int32) (x2 : Int32) (x3 : Option Nat) (h : MH) : Res := chk h x0 8 <| calG (M_X8_ofReading x0 x1 x2 h) (toI fun z1 h2 => bnd (Int32.toInt64 z1) fun z5 => wrQ h2 x3 (0 : Int32) z5 fun h6 => rtI (0 : Int32) h6) (fun e7 h8 => if e7 = 1 then (rtI (1 : Int32) h8) else if e7 = 2 then (rtI (2 : Int32) h8) else none)
theorem vM_L_ofReading {K : CT} (F : Fr K cL_ofReading RL (some .int) [(0, 10, 13, 13), (0, 10, 17, 21)] 8 1) (hm : mxL K = 5) (x0 : Option Nat) (x1 : Int32) (x2 : Int32) (x3 : Option Nat) (h : MH) : V K 0 [(0, vR x0), (1, vI x1), (2, vI x2), (3, vR x3)] [] h (M_L_ofReading x0 x1 x2 x3 h) := by
  unfold M_L_ofReading
  refine V_aload_n (pc := 0) F dL_ofReading_0 3 rfl ?_
  refine V_iconst (pc := 1) F (x := (0 : Int32)) dL_ofReading_1 (by decide) ?_
  refine V_aload_n (pc := 2) F dL_ofReading_2 0 rfl ?_
  refine V_iload_n (pc := 3) F dL_ofReading_3 1 rfl ?_
  refine V_iload_n (pc := 4) F dL_ofReading_4 2 rfl ?_
  refine V_cV (pc := 5) F 8 (by decide) (as := [vI x1, vI x2]) (C_X8_ofReading x0 x1 x2 h) w_X8_ofReading g_in_X8_ofReading g_se_X8_ofReading g_ml_RL_67 (by decide) (rest := [vI (0 : Int32), vR x3]) rfl rfl (Nat.le_of_ble_eq_true rfl) dL_ofReading_5 (k_I fun z1 h2 => ?_) ?_
  · refine V_i2l (pc := 8) F dL_ofReading_8 ?_
    intro z5
    refine V_last (pc := 9) F dL_ofReading_9 ?_
    intro h6
    refine V_goto (pc := 10) F 21 dL_ofReading_10 (by decide) ?_
    refine V_iconst (pc := 21) F (x := (0 : Int32)) dL_ofReading_21 (by decide) ?_
    exact V_iret (pc := 22) F (Or.inr rfl) dL_ofReading_22
  · intro e7 h8
    refine VX_if ?_ ?_
    · refine VX_catch (pc := 5) F [] ⟨0, 10, 13, 13⟩ [⟨0, 10, 17, 21⟩] rfl (fun _ hw => nomatch hw) rfl (by decide) g_cl_RL_13 (i := 4) (nx := 15) (lt_mx hm (by decide)) (Or.inr ⟨dL_ofReading_13, rfl⟩) (L' := [(0, vR x0), (1, vI x1), (2, vI x2), (3, vR x3)]) rfl ?_
      refine V_iconst (pc := 15) F (x := (1 : Int32)) dL_ofReading_15 (by decide) ?_
      exact V_iret (pc := 16) F (Or.inr rfl) dL_ofReading_16
    refine VX_if ?_ ?_
    · refine VX_catch (pc := 5) F [⟨0, 10, 13, 13⟩] ⟨0, 10, 17, 21⟩ [] rfl (List.forall_mem_cons.mpr ⟨Or.inr ⟨by decide, exN 1, g_cl_RL_13, by decide⟩, fun _ hw => nomatch hw⟩) rfl (by decide) g_cl_RL_21 (i := 4) (nx := 19) (lt_mx hm (by decide)) (Or.inr ⟨dL_ofReading_17, rfl⟩) (L' := [(0, vR x0), (1, vI x1), (2, vI x2), (3, vR x3)]) rfl ?_
      refine V_iconst (pc := 19) F (x := (2 : Int32)) dL_ofReading_19 (by decide) ?_
      exact V_iret (pc := 20) F (Or.inr rfl) dL_ofReading_20
    exact VX_none
theorem C_L_ofReading (x0 : Option Nat) (x1 : Int32) (x2 : Int32) (x3 : Option Nat) (h : MH) : CtrX yL_ofReading (WSw yL_ofReading cL_ofReading 5 (some .int) [(0, 10, 13, 13), (0, 10, 17, 21)]) 8 [vR x0, vI x1, vI x2, vR x3] h (M_L_ofReading x0 x1 x2 x3 h) :=
  CtrW_of (by decide) (Nat.le_of_ble_eq_true rfl) (fun K F hm hi => vM_L_ofReading F hm x0 x1 x2 x3 h)
def M_L_mean (x0 : Option Nat) (x1 : Int32) (x2 : Int32) (x3 : Int32) (x4 : Option Nat) (h : MH) : Res := chk h x0 8 <| calG (M_X8_mean x0 x1 x2 x3 h) (toI fun z1 h2 => bnd (Int32.toInt64 z1) fun z6 => wrQ h2 x4 (0 : Int32) z6 fun h7 => rtI (0 : Int32) h7) (fun e8 h9 => if e8 = 1 then (rtI (1 : Int32) h9) else if e8 = 2 then (rtI (2 : Int32) h9) else if e8 = 3 then (rtI (3 : Int32) h9) else none)
theorem vM_L_mean {K : CT} (F : Fr K cL_mean RL (some .int) [(0, 12, 15, 13), (0, 12, 19, 21), (0, 12, 23, 15)] 9 1) (hm : mxL K = 6) (x0 : Option Nat) (x1 : Int32) (x2 : Int32) (x3 : Int32) (x4 : Option Nat) (h : MH) : V K 0 [(0, vR x0), (1, vI x1), (2, vI x2), (3, vI x3), (4, vR x4)] [] h (M_L_mean x0 x1 x2 x3 x4 h) := by
  unfold M_L_mean
  refine V_aload (pc := 0) F dL_mean_0 4 rfl ?_
  refine V_iconst (pc := 2) F (x := (0 : Int32)) dL_mean_2 (by decide) ?_
  refine V_aload_n (pc := 3) F dL_mean_3 0 rfl ?_
  refine V_iload_n (pc := 4) F dL_mean_4 1 rfl ?_
  refine V_iload_n (pc := 5) F dL_mean_5 2 rfl ?_
  refine V_iload_n (pc := 6) F dL_mean_6 3 rfl ?_
  refine V_cV (pc := 7) F 8 (by decide) (as := [vI x1, vI x2, vI x3]) (C_X8_mean x0 x1 x2 x3 h) w_X8_mean g_in_X8_mean g_se_X8_mean g_ml_RL_70 (by decide) (rest := [vI (0 : Int32), vR x4]) rfl rfl (Nat.le_of_ble_eq_true rfl) dL_mean_7 (k_I fun z1 h2 => ?_) ?_
  · refine V_i2l (pc := 10) F dL_mean_10 ?_
    intro z6
    refine V_last (pc := 11) F dL_mean_11 ?_
    intro h7
    refine V_goto (pc := 12) F 27 dL_mean_12 (by decide) ?_
    refine V_iconst (pc := 27) F (x := (0 : Int32)) dL_mean_27 (by decide) ?_
    exact V_iret (pc := 28) F (Or.inr rfl) dL_mean_28
  · intro e8 h9
    refine VX_if ?_ ?_
    · refine VX_catch (pc := 7) F [] ⟨0, 12, 15, 13⟩ [⟨0, 12, 19, 21⟩, ⟨0, 12, 23, 15⟩] rfl (fun _ hw => nomatch hw) rfl (by decide) g_cl_RL_13 (i := 5) (nx := 17) (lt_mx hm (by decide)) (Or.inr ⟨dL_mean_15, rfl⟩) (L' := [(0, vR x0), (1, vI x1), (2, vI x2), (3, vI x3), (4, vR x4)]) rfl ?_
      refine V_iconst (pc := 17) F (x := (1 : Int32)) dL_mean_17 (by decide) ?_
      exact V_iret (pc := 18) F (Or.inr rfl) dL_mean_18
    refine VX_if ?_ ?_
    · refine VX_catch (pc := 7) F [⟨0, 12, 15, 13⟩] ⟨0, 12, 19, 21⟩ [⟨0, 12, 23, 15⟩] rfl (List.forall_mem_cons.mpr ⟨Or.inr ⟨by decide, exN 1, g_cl_RL_13, by decide⟩, fun _ hw => nomatch hw⟩) rfl (by decide) g_cl_RL_21 (i := 5) (nx := 21) (lt_mx hm (by decide)) (Or.inr ⟨dL_mean_19, rfl⟩) (L' := [(0, vR x0), (1, vI x1), (2, vI x2), (3, vI x3), (4, vR x4)]) rfl ?_
      refine V_iconst (pc := 21) F (x := (2 : Int32)) dL_mean_21 (by decide) ?_
      exact V_iret (pc := 22) F (Or.inr rfl) dL_mean_22
    refine VX_if ?_ ?_
    · refine VX_catch (pc := 7) F [⟨0, 12, 15, 13⟩, ⟨0, 12, 19, 21⟩] ⟨0, 12, 23, 15⟩ [] rfl (List.forall_mem_cons.mpr ⟨Or.inr ⟨by decide, exN 1, g_cl_RL_13, by decide⟩, List.forall_mem_cons.mpr ⟨Or.inr ⟨by decide, exN 2, g_cl_RL_21, by decide⟩, fun _ hw => nomatch hw⟩⟩) rfl (by decide) g_cl_RL_15 (i := 5) (nx := 25) (lt_mx hm (by decide)) (Or.inr ⟨dL_mean_23, rfl⟩) (L' := [(0, vR x0), (1, vI x1), (2, vI x2), (3, vI x3), (4, vR x4)]) rfl ?_
      refine V_iconst (pc := 25) F (x := (3 : Int32)) dL_mean_25 (by decide) ?_
      exact V_iret (pc := 26) F (Or.inr rfl) dL_mean_26
    exact VX_none
theorem C_L_mean (x0 : Option Nat) (x1 : Int32) (x2 : Int32) (x3 : Int32) (x4 : Option Nat) (h : MH) : CtrX yL_mean (WSw yL_mean cL_mean 6 (some .int) [(0, 12, 15, 13), (0, 12, 19, 21), (0, 12, 23, 15)]) 9 [vR x0, vI x1, vI x2, vI x3, vR x4] h (M_L_mean x0 x1 x2 x3 x4 h) :=
  CtrW_of (by decide) (Nat.le_of_ble_eq_true rfl) (fun K F hm hi => vM_L_mean F hm x0 x1 x2 x3 x4 h)
def M_L_error (x0 : Option Nat) (x1 : Int32) (x2 : Int32) (x3 : Int32) (x4 : Option Nat) (h : MH) : Res := chk h x0 8 <| calG (M_X8_error x0 x1 x2 x3 h) (toI fun z1 h2 => bnd (Int32.toInt64 z1) fun z6 => wrQ h2 x4 (0 : Int32) z6 fun h7 => rtI (0 : Int32) h7) (fun e8 h9 => if e8 = 1 then (rtI (1 : Int32) h9) else if e8 = 2 then (rtI (2 : Int32) h9) else if e8 = 3 then (rtI (3 : Int32) h9) else none)
theorem vM_L_error {K : CT} (F : Fr K cL_error RL (some .int) [(0, 12, 15, 13), (0, 12, 19, 21), (0, 12, 23, 15)] 9 1) (hm : mxL K = 6) (x0 : Option Nat) (x1 : Int32) (x2 : Int32) (x3 : Int32) (x4 : Option Nat) (h : MH) : V K 0 [(0, vR x0), (1, vI x1), (2, vI x2), (3, vI x3), (4, vR x4)] [] h (M_L_error x0 x1 x2 x3 x4 h) := by
  unfold M_L_error
  refine V_aload (pc := 0) F dL_error_0 4 rfl ?_
  refine V_iconst (pc := 2) F (x := (0 : Int32)) dL_error_2 (by decide) ?_
  refine V_aload_n (pc := 3) F dL_error_3 0 rfl ?_
  refine V_iload_n (pc := 4) F dL_error_4 1 rfl ?_
  refine V_iload_n (pc := 5) F dL_error_5 2 rfl ?_
  refine V_iload_n (pc := 6) F dL_error_6 3 rfl ?_
  refine V_cV (pc := 7) F 8 (by decide) (as := [vI x1, vI x2, vI x3]) (C_X8_error x0 x1 x2 x3 h) w_X8_error g_in_X8_error g_se_X8_error g_ml_RL_73 (by decide) (rest := [vI (0 : Int32), vR x4]) rfl rfl (Nat.le_of_ble_eq_true rfl) dL_error_7 (k_I fun z1 h2 => ?_) ?_
  · refine V_i2l (pc := 10) F dL_error_10 ?_
    intro z6
    refine V_last (pc := 11) F dL_error_11 ?_
    intro h7
    refine V_goto (pc := 12) F 27 dL_error_12 (by decide) ?_
    refine V_iconst (pc := 27) F (x := (0 : Int32)) dL_error_27 (by decide) ?_
    exact V_iret (pc := 28) F (Or.inr rfl) dL_error_28
  · intro e8 h9
    refine VX_if ?_ ?_
    · refine VX_catch (pc := 7) F [] ⟨0, 12, 15, 13⟩ [⟨0, 12, 19, 21⟩, ⟨0, 12, 23, 15⟩] rfl (fun _ hw => nomatch hw) rfl (by decide) g_cl_RL_13 (i := 5) (nx := 17) (lt_mx hm (by decide)) (Or.inr ⟨dL_error_15, rfl⟩) (L' := [(0, vR x0), (1, vI x1), (2, vI x2), (3, vI x3), (4, vR x4)]) rfl ?_
      refine V_iconst (pc := 17) F (x := (1 : Int32)) dL_error_17 (by decide) ?_
      exact V_iret (pc := 18) F (Or.inr rfl) dL_error_18
    refine VX_if ?_ ?_
    · refine VX_catch (pc := 7) F [⟨0, 12, 15, 13⟩] ⟨0, 12, 19, 21⟩ [⟨0, 12, 23, 15⟩] rfl (List.forall_mem_cons.mpr ⟨Or.inr ⟨by decide, exN 1, g_cl_RL_13, by decide⟩, fun _ hw => nomatch hw⟩) rfl (by decide) g_cl_RL_21 (i := 5) (nx := 21) (lt_mx hm (by decide)) (Or.inr ⟨dL_error_19, rfl⟩) (L' := [(0, vR x0), (1, vI x1), (2, vI x2), (3, vI x3), (4, vR x4)]) rfl ?_
      refine V_iconst (pc := 21) F (x := (2 : Int32)) dL_error_21 (by decide) ?_
      exact V_iret (pc := 22) F (Or.inr rfl) dL_error_22
    refine VX_if ?_ ?_
    · refine VX_catch (pc := 7) F [⟨0, 12, 15, 13⟩, ⟨0, 12, 19, 21⟩] ⟨0, 12, 23, 15⟩ [] rfl (List.forall_mem_cons.mpr ⟨Or.inr ⟨by decide, exN 1, g_cl_RL_13, by decide⟩, List.forall_mem_cons.mpr ⟨Or.inr ⟨by decide, exN 2, g_cl_RL_21, by decide⟩, fun _ hw => nomatch hw⟩⟩) rfl (by decide) g_cl_RL_15 (i := 5) (nx := 25) (lt_mx hm (by decide)) (Or.inr ⟨dL_error_23, rfl⟩) (L' := [(0, vR x0), (1, vI x1), (2, vI x2), (3, vI x3), (4, vR x4)]) rfl ?_
      refine V_iconst (pc := 25) F (x := (3 : Int32)) dL_error_25 (by decide) ?_
      exact V_iret (pc := 26) F (Or.inr rfl) dL_error_26
    exact VX_none
theorem C_L_error (x0 : Option Nat) (x1 : Int32) (x2 : Int32) (x3 : Int32) (x4 : Option Nat) (h : MH) : CtrX yL_error (WSw yL_error cL_error 6 (some .int) [(0, 12, 15, 13), (0, 12, 19, 21), (0, 12, 23, 15)]) 9 [vR x0, vI x1, vI x2, vI x3, vR x4] h (M_L_error x0 x1 x2 x3 x4 h) :=
  CtrW_of (by decide) (Nat.le_of_ble_eq_true rfl) (fun K F hm hi => vM_L_error F hm x0 x1 x2 x3 x4 h)
def M_L_residual (x0 : Option Nat) (x1 : Int32) (x2 : Int32) (x3 : Option Nat) (h : MH) : Res := chk h x0 8 <| calG (M_X8_residual x0 x1 x2 h) (toI fun z1 h2 => bnd (Int32.toInt64 z1) fun z6 => wrQ h2 x3 (0 : Int32) z6 fun h7 => rtI (0 : Int32) h7) (fun e8 h9 => if e8 = 1 then (rtI (1 : Int32) h9) else if e8 = 2 then (rtI (2 : Int32) h9) else if e8 = 3 then (rtI (3 : Int32) h9) else none)
theorem vM_L_residual {K : CT} (F : Fr K cL_residual RL (some .int) [(0, 10, 13, 13), (0, 10, 17, 21), (0, 10, 21, 15)] 8 1) (hm : mxL K = 5) (x0 : Option Nat) (x1 : Int32) (x2 : Int32) (x3 : Option Nat) (h : MH) : V K 0 [(0, vR x0), (1, vI x1), (2, vI x2), (3, vR x3)] [] h (M_L_residual x0 x1 x2 x3 h) := by
  unfold M_L_residual
  refine V_aload_n (pc := 0) F dL_residual_0 3 rfl ?_
  refine V_iconst (pc := 1) F (x := (0 : Int32)) dL_residual_1 (by decide) ?_
  refine V_aload_n (pc := 2) F dL_residual_2 0 rfl ?_
  refine V_iload_n (pc := 3) F dL_residual_3 1 rfl ?_
  refine V_iload_n (pc := 4) F dL_residual_4 2 rfl ?_
  refine V_cV (pc := 5) F 8 (by decide) (as := [vI x1, vI x2]) (C_X8_residual x0 x1 x2 h) w_X8_residual g_in_X8_residual g_se_X8_residual g_ml_RL_76 (by decide) (rest := [vI (0 : Int32), vR x3]) rfl rfl (Nat.le_of_ble_eq_true rfl) dL_residual_5 (k_I fun z1 h2 => ?_) ?_
  · refine V_i2l (pc := 8) F dL_residual_8 ?_
    intro z6
    refine V_last (pc := 9) F dL_residual_9 ?_
    intro h7
    refine V_goto (pc := 10) F 25 dL_residual_10 (by decide) ?_
    refine V_iconst (pc := 25) F (x := (0 : Int32)) dL_residual_25 (by decide) ?_
    exact V_iret (pc := 26) F (Or.inr rfl) dL_residual_26
  · intro e8 h9
    refine VX_if ?_ ?_
    · refine VX_catch (pc := 5) F [] ⟨0, 10, 13, 13⟩ [⟨0, 10, 17, 21⟩, ⟨0, 10, 21, 15⟩] rfl (fun _ hw => nomatch hw) rfl (by decide) g_cl_RL_13 (i := 4) (nx := 15) (lt_mx hm (by decide)) (Or.inr ⟨dL_residual_13, rfl⟩) (L' := [(0, vR x0), (1, vI x1), (2, vI x2), (3, vR x3)]) rfl ?_
      refine V_iconst (pc := 15) F (x := (1 : Int32)) dL_residual_15 (by decide) ?_
      exact V_iret (pc := 16) F (Or.inr rfl) dL_residual_16
    refine VX_if ?_ ?_
    · refine VX_catch (pc := 5) F [⟨0, 10, 13, 13⟩] ⟨0, 10, 17, 21⟩ [⟨0, 10, 21, 15⟩] rfl (List.forall_mem_cons.mpr ⟨Or.inr ⟨by decide, exN 1, g_cl_RL_13, by decide⟩, fun _ hw => nomatch hw⟩) rfl (by decide) g_cl_RL_21 (i := 4) (nx := 19) (lt_mx hm (by decide)) (Or.inr ⟨dL_residual_17, rfl⟩) (L' := [(0, vR x0), (1, vI x1), (2, vI x2), (3, vR x3)]) rfl ?_
      refine V_iconst (pc := 19) F (x := (2 : Int32)) dL_residual_19 (by decide) ?_
      exact V_iret (pc := 20) F (Or.inr rfl) dL_residual_20
    refine VX_if ?_ ?_
    · refine VX_catch (pc := 5) F [⟨0, 10, 13, 13⟩, ⟨0, 10, 17, 21⟩] ⟨0, 10, 21, 15⟩ [] rfl (List.forall_mem_cons.mpr ⟨Or.inr ⟨by decide, exN 1, g_cl_RL_13, by decide⟩, List.forall_mem_cons.mpr ⟨Or.inr ⟨by decide, exN 2, g_cl_RL_21, by decide⟩, fun _ hw => nomatch hw⟩⟩) rfl (by decide) g_cl_RL_15 (i := 4) (nx := 23) (lt_mx hm (by decide)) (Or.inr ⟨dL_residual_21, rfl⟩) (L' := [(0, vR x0), (1, vI x1), (2, vI x2), (3, vR x3)]) rfl ?_
      refine V_iconst (pc := 23) F (x := (3 : Int32)) dL_residual_23 (by decide) ?_
      exact V_iret (pc := 24) F (Or.inr rfl) dL_residual_24
    exact VX_none
theorem C_L_residual (x0 : Option Nat) (x1 : Int32) (x2 : Int32) (x3 : Option Nat) (h : MH) : CtrX yL_residual (WSw yL_residual cL_residual 5 (some .int) [(0, 10, 13, 13), (0, 10, 17, 21), (0, 10, 21, 15)]) 8 [vR x0, vI x1, vI x2, vR x3] h (M_L_residual x0 x1 x2 x3 h) :=
  CtrW_of (by decide) (Nat.le_of_ble_eq_true rfl) (fun K F hm hi => vM_L_residual F hm x0 x1 x2 x3 h)
def M_L_chance (x0 : Option Nat) (x1 : Int32) (x2 : Int32) (x3 : Option Nat) (h : MH) : Res := chk h x0 8 <| calG (M_X8_chance x0 x1 x2 h) (toI fun z1 h2 => bnd (Int32.toInt64 z1) fun z4 => wrQ h2 x3 (0 : Int32) z4 fun h5 => rtI (0 : Int32) h5) (fun e6 h7 => if e6 = 1 then (rtI (1 : Int32) h7) else none)
theorem vM_L_chance {K : CT} (F : Fr K cL_chance RL (some .int) [(0, 10, 13, 13)] 8 1) (hm : mxL K = 5) (x0 : Option Nat) (x1 : Int32) (x2 : Int32) (x3 : Option Nat) (h : MH) : V K 0 [(0, vR x0), (1, vI x1), (2, vI x2), (3, vR x3)] [] h (M_L_chance x0 x1 x2 x3 h) := by
  unfold M_L_chance
  refine V_aload_n (pc := 0) F dL_chance_0 3 rfl ?_
  refine V_iconst (pc := 1) F (x := (0 : Int32)) dL_chance_1 (by decide) ?_
  refine V_aload_n (pc := 2) F dL_chance_2 0 rfl ?_
  refine V_iload_n (pc := 3) F dL_chance_3 1 rfl ?_
  refine V_iload_n (pc := 4) F dL_chance_4 2 rfl ?_
  refine V_cV (pc := 5) F 8 (by decide) (as := [vI x1, vI x2]) (C_X8_chance x0 x1 x2 h) w_X8_chance g_in_X8_chance g_se_X8_chance g_ml_RL_79 (by decide) (rest := [vI (0 : Int32), vR x3]) rfl rfl (Nat.le_of_ble_eq_true rfl) dL_chance_5 (k_I fun z1 h2 => ?_) ?_
  · refine V_i2l (pc := 8) F dL_chance_8 ?_
    intro z4
    refine V_last (pc := 9) F dL_chance_9 ?_
    intro h5
    refine V_goto (pc := 10) F 17 dL_chance_10 (by decide) ?_
    refine V_iconst (pc := 17) F (x := (0 : Int32)) dL_chance_17 (by decide) ?_
    exact V_iret (pc := 18) F (Or.inr rfl) dL_chance_18
  · intro e6 h7
    refine VX_if ?_ ?_
    · refine VX_catch (pc := 5) F [] ⟨0, 10, 13, 13⟩ [] rfl (fun _ hw => nomatch hw) rfl (by decide) g_cl_RL_13 (i := 4) (nx := 15) (lt_mx hm (by decide)) (Or.inr ⟨dL_chance_13, rfl⟩) (L' := [(0, vR x0), (1, vI x1), (2, vI x2), (3, vR x3)]) rfl ?_
      refine V_iconst (pc := 15) F (x := (1 : Int32)) dL_chance_15 (by decide) ?_
      exact V_iret (pc := 16) F (Or.inr rfl) dL_chance_16
    exact VX_none
theorem C_L_chance (x0 : Option Nat) (x1 : Int32) (x2 : Int32) (x3 : Option Nat) (h : MH) : CtrX yL_chance (WSw yL_chance cL_chance 5 (some .int) [(0, 10, 13, 13)]) 8 [vR x0, vI x1, vI x2, vR x3] h (M_L_chance x0 x1 x2 x3 h) :=
  CtrW_of (by decide) (Nat.le_of_ble_eq_true rfl) (fun K F hm hi => vM_L_chance F hm x0 x1 x2 x3 h)
def M_L_best (x0 : Option Nat) (x1 : Int32) (x2 : Option Nat) (h : MH) : Res := chk h x0 8 <| calG (M_X8_best x0 x1 h) (toI fun z1 h2 => bnd (Int32.toInt64 z1) fun z4 => wrQ h2 x2 (0 : Int32) z4 fun h5 => rtI (0 : Int32) h5) (fun e6 h7 => if e6 = 1 then (rtI (1 : Int32) h7) else none)
theorem vM_L_best {K : CT} (F : Fr K cL_best RL (some .int) [(0, 9, 12, 13)] 8 1) (hm : mxL K = 4) (x0 : Option Nat) (x1 : Int32) (x2 : Option Nat) (h : MH) : V K 0 [(0, vR x0), (1, vI x1), (2, vR x2)] [] h (M_L_best x0 x1 x2 h) := by
  unfold M_L_best
  refine V_aload_n (pc := 0) F dL_best_0 2 rfl ?_
  refine V_iconst (pc := 1) F (x := (0 : Int32)) dL_best_1 (by decide) ?_
  refine V_aload_n (pc := 2) F dL_best_2 0 rfl ?_
  refine V_iload_n (pc := 3) F dL_best_3 1 rfl ?_
  refine V_cV (pc := 4) F 8 (by decide) (as := [vI x1]) (C_X8_best x0 x1 h) w_X8_best g_in_X8_best g_se_X8_best g_ml_RL_82 (by decide) (rest := [vI (0 : Int32), vR x2]) rfl rfl (Nat.le_of_ble_eq_true rfl) dL_best_4 (k_I fun z1 h2 => ?_) ?_
  · refine V_i2l (pc := 7) F dL_best_7 ?_
    intro z4
    refine V_last (pc := 8) F dL_best_8 ?_
    intro h5
    refine V_goto (pc := 9) F 15 dL_best_9 (by decide) ?_
    refine V_iconst (pc := 15) F (x := (0 : Int32)) dL_best_15 (by decide) ?_
    exact V_iret (pc := 16) F (Or.inr rfl) dL_best_16
  · intro e6 h7
    refine VX_if ?_ ?_
    · refine VX_catch (pc := 4) F [] ⟨0, 9, 12, 13⟩ [] rfl (fun _ hw => nomatch hw) rfl (by decide) g_cl_RL_13 (i := 3) (nx := 13) (lt_mx hm (by decide)) (Or.inl ⟨3, rfl, dL_best_12, rfl⟩) (L' := [(0, vR x0), (1, vI x1), (2, vR x2)]) rfl ?_
      refine V_iconst (pc := 13) F (x := (1 : Int32)) dL_best_13 (by decide) ?_
      exact V_iret (pc := 14) F (Or.inr rfl) dL_best_14
    exact VX_none
theorem C_L_best (x0 : Option Nat) (x1 : Int32) (x2 : Option Nat) (h : MH) : CtrX yL_best (WSw yL_best cL_best 4 (some .int) [(0, 9, 12, 13)]) 8 [vR x0, vI x1, vR x2] h (M_L_best x0 x1 x2 h) :=
  CtrW_of (by decide) (Nat.le_of_ble_eq_true rfl) (fun K F hm hi => vM_L_best F hm x0 x1 x2 h)
def M_L_plan (x0 : Option Nat) (x1 : Int32) (x2 : Int32) (x3 : Int32) (x4 : Option Nat) (h : MH) : Res := chk h x0 8 <| calG (M_X8_plan x0 x1 x2 x3 h) (toI fun z1 h2 => bnd (Int32.toInt64 z1) fun z5 => wrQ h2 x4 (0 : Int32) z5 fun h6 => rtI (0 : Int32) h6) (fun e7 h8 => if e7 = 1 then (rtI (1 : Int32) h8) else if e7 = 2 then (rtI (2 : Int32) h8) else none)
theorem vM_L_plan {K : CT} (F : Fr K cL_plan RL (some .int) [(0, 12, 15, 13), (0, 12, 19, 21)] 8 1) (hm : mxL K = 6) (x0 : Option Nat) (x1 : Int32) (x2 : Int32) (x3 : Int32) (x4 : Option Nat) (h : MH) : V K 0 [(0, vR x0), (1, vI x1), (2, vI x2), (3, vI x3), (4, vR x4)] [] h (M_L_plan x0 x1 x2 x3 x4 h) := by
  unfold M_L_plan
  refine V_aload (pc := 0) F dL_plan_0 4 rfl ?_
  refine V_iconst (pc := 2) F (x := (0 : Int32)) dL_plan_2 (by decide) ?_
  refine V_aload_n (pc := 3) F dL_plan_3 0 rfl ?_
  refine V_iload_n (pc := 4) F dL_plan_4 1 rfl ?_
  refine V_iload_n (pc := 5) F dL_plan_5 2 rfl ?_
  refine V_iload_n (pc := 6) F dL_plan_6 3 rfl ?_
  refine V_cV (pc := 7) F 8 (by decide) (as := [vI x1, vI x2, vI x3]) (C_X8_plan x0 x1 x2 x3 h) w_X8_plan g_in_X8_plan g_se_X8_plan g_ml_RL_85 (by decide) (rest := [vI (0 : Int32), vR x4]) rfl rfl (Nat.le_of_ble_eq_true rfl) dL_plan_7 (k_I fun z1 h2 => ?_) ?_
  · refine V_i2l (pc := 10) F dL_plan_10 ?_
    intro z5
    refine V_last (pc := 11) F dL_plan_11 ?_
    intro h6
    refine V_goto (pc := 12) F 23 dL_plan_12 (by decide) ?_
    refine V_iconst (pc := 23) F (x := (0 : Int32)) dL_plan_23 (by decide) ?_
    exact V_iret (pc := 24) F (Or.inr rfl) dL_plan_24
  · intro e7 h8
    refine VX_if ?_ ?_
    · refine VX_catch (pc := 7) F [] ⟨0, 12, 15, 13⟩ [⟨0, 12, 19, 21⟩] rfl (fun _ hw => nomatch hw) rfl (by decide) g_cl_RL_13 (i := 5) (nx := 17) (lt_mx hm (by decide)) (Or.inr ⟨dL_plan_15, rfl⟩) (L' := [(0, vR x0), (1, vI x1), (2, vI x2), (3, vI x3), (4, vR x4)]) rfl ?_
      refine V_iconst (pc := 17) F (x := (1 : Int32)) dL_plan_17 (by decide) ?_
      exact V_iret (pc := 18) F (Or.inr rfl) dL_plan_18
    refine VX_if ?_ ?_
    · refine VX_catch (pc := 7) F [⟨0, 12, 15, 13⟩] ⟨0, 12, 19, 21⟩ [] rfl (List.forall_mem_cons.mpr ⟨Or.inr ⟨by decide, exN 1, g_cl_RL_13, by decide⟩, fun _ hw => nomatch hw⟩) rfl (by decide) g_cl_RL_21 (i := 5) (nx := 21) (lt_mx hm (by decide)) (Or.inr ⟨dL_plan_19, rfl⟩) (L' := [(0, vR x0), (1, vI x1), (2, vI x2), (3, vI x3), (4, vR x4)]) rfl ?_
      refine V_iconst (pc := 21) F (x := (2 : Int32)) dL_plan_21 (by decide) ?_
      exact V_iret (pc := 22) F (Or.inr rfl) dL_plan_22
    exact VX_none
theorem C_L_plan (x0 : Option Nat) (x1 : Int32) (x2 : Int32) (x3 : Int32) (x4 : Option Nat) (h : MH) : CtrX yL_plan (WSw yL_plan cL_plan 6 (some .int) [(0, 12, 15, 13), (0, 12, 19, 21)]) 8 [vR x0, vI x1, vI x2, vI x3, vR x4] h (M_L_plan x0 x1 x2 x3 x4 h) :=
  CtrW_of (by decide) (Nat.le_of_ble_eq_true rfl) (fun K F hm hi => vM_L_plan F hm x0 x1 x2 x3 x4 h)
def M_L_tide (x0 : Option Nat) (x1 : Int32) (x2 : Option Nat) (h : MH) : Res := chk h x0 8 <| calG (M_X8_tide x0 x1 h) (toI fun z1 h2 => bnd (Int32.toInt64 z1) fun z4 => wrQ h2 x2 (0 : Int32) z4 fun h5 => rtI (0 : Int32) h5) (fun e6 h7 => if e6 = 2 then (rtI (1 : Int32) h7) else none)
theorem vM_L_tide {K : CT} (F : Fr K cL_tide RL (some .int) [(0, 9, 12, 21)] 8 1) (hm : mxL K = 4) (x0 : Option Nat) (x1 : Int32) (x2 : Option Nat) (h : MH) : V K 0 [(0, vR x0), (1, vI x1), (2, vR x2)] [] h (M_L_tide x0 x1 x2 h) := by
  unfold M_L_tide
  refine V_aload_n (pc := 0) F dL_tide_0 2 rfl ?_
  refine V_iconst (pc := 1) F (x := (0 : Int32)) dL_tide_1 (by decide) ?_
  refine V_aload_n (pc := 2) F dL_tide_2 0 rfl ?_
  refine V_iload_n (pc := 3) F dL_tide_3 1 rfl ?_
  refine V_cV (pc := 4) F 8 (by decide) (as := [vI x1]) (C_X8_tide x0 x1 h) w_X8_tide g_in_X8_tide g_se_X8_tide g_ml_RL_88 (by decide) (rest := [vI (0 : Int32), vR x2]) rfl rfl (Nat.le_of_ble_eq_true rfl) dL_tide_4 (k_I fun z1 h2 => ?_) ?_
  · refine V_i2l (pc := 7) F dL_tide_7 ?_
    intro z4
    refine V_last (pc := 8) F dL_tide_8 ?_
    intro h5
    refine V_goto (pc := 9) F 15 dL_tide_9 (by decide) ?_
    refine V_iconst (pc := 15) F (x := (0 : Int32)) dL_tide_15 (by decide) ?_
    exact V_iret (pc := 16) F (Or.inr rfl) dL_tide_16
  · intro e6 h7
    refine VX_if ?_ ?_
    · refine VX_catch (pc := 4) F [] ⟨0, 9, 12, 21⟩ [] rfl (fun _ hw => nomatch hw) rfl (by decide) g_cl_RL_21 (i := 3) (nx := 13) (lt_mx hm (by decide)) (Or.inl ⟨3, rfl, dL_tide_12, rfl⟩) (L' := [(0, vR x0), (1, vI x1), (2, vR x2)]) rfl ?_
      refine V_iconst (pc := 13) F (x := (1 : Int32)) dL_tide_13 (by decide) ?_
      exact V_iret (pc := 14) F (Or.inr rfl) dL_tide_14
    exact VX_none
theorem C_L_tide (x0 : Option Nat) (x1 : Int32) (x2 : Option Nat) (h : MH) : CtrX yL_tide (WSw yL_tide cL_tide 4 (some .int) [(0, 9, 12, 21)]) 8 [vR x0, vI x1, vR x2] h (M_L_tide x0 x1 x2 h) :=
  CtrW_of (by decide) (Nat.le_of_ble_eq_true rfl) (fun K F hm hi => vM_L_tide F hm x0 x1 x2 h)
def M_L_highest (x0 : Option Nat) (x1 : Int32) (x2 : Int32) (x3 : Option Nat) (h : MH) : Res := chk h x0 8 <| calG (M_X8_highest x0 x1 x2 h) (toI fun z1 h2 => bnd (Int32.toInt64 z1) fun z4 => wrQ h2 x3 (0 : Int32) z4 fun h5 => rtI (0 : Int32) h5) (fun e6 h7 => if e6 = 2 then (rtI (1 : Int32) h7) else none)
theorem vM_L_highest {K : CT} (F : Fr K cL_highest RL (some .int) [(0, 10, 13, 21)] 8 1) (hm : mxL K = 5) (x0 : Option Nat) (x1 : Int32) (x2 : Int32) (x3 : Option Nat) (h : MH) : V K 0 [(0, vR x0), (1, vI x1), (2, vI x2), (3, vR x3)] [] h (M_L_highest x0 x1 x2 x3 h) := by
  unfold M_L_highest
  refine V_aload_n (pc := 0) F dL_highest_0 3 rfl ?_
  refine V_iconst (pc := 1) F (x := (0 : Int32)) dL_highest_1 (by decide) ?_
  refine V_aload_n (pc := 2) F dL_highest_2 0 rfl ?_
  refine V_iload_n (pc := 3) F dL_highest_3 1 rfl ?_
  refine V_iload_n (pc := 4) F dL_highest_4 2 rfl ?_
  refine V_cV (pc := 5) F 8 (by decide) (as := [vI x1, vI x2]) (C_X8_highest x0 x1 x2 h) w_X8_highest g_in_X8_highest g_se_X8_highest g_ml_RL_91 (by decide) (rest := [vI (0 : Int32), vR x3]) rfl rfl (Nat.le_of_ble_eq_true rfl) dL_highest_5 (k_I fun z1 h2 => ?_) ?_
  · refine V_i2l (pc := 8) F dL_highest_8 ?_
    intro z4
    refine V_last (pc := 9) F dL_highest_9 ?_
    intro h5
    refine V_goto (pc := 10) F 17 dL_highest_10 (by decide) ?_
    refine V_iconst (pc := 17) F (x := (0 : Int32)) dL_highest_17 (by decide) ?_
    exact V_iret (pc := 18) F (Or.inr rfl) dL_highest_18
  · intro e6 h7
    refine VX_if ?_ ?_
    · refine VX_catch (pc := 5) F [] ⟨0, 10, 13, 21⟩ [] rfl (fun _ hw => nomatch hw) rfl (by decide) g_cl_RL_21 (i := 4) (nx := 15) (lt_mx hm (by decide)) (Or.inr ⟨dL_highest_13, rfl⟩) (L' := [(0, vR x0), (1, vI x1), (2, vI x2), (3, vR x3)]) rfl ?_
      refine V_iconst (pc := 15) F (x := (1 : Int32)) dL_highest_15 (by decide) ?_
      exact V_iret (pc := 16) F (Or.inr rfl) dL_highest_16
    exact VX_none
theorem C_L_highest (x0 : Option Nat) (x1 : Int32) (x2 : Int32) (x3 : Option Nat) (h : MH) : CtrX yL_highest (WSw yL_highest cL_highest 5 (some .int) [(0, 10, 13, 21)]) 8 [vR x0, vI x1, vI x2, vR x3] h (M_L_highest x0 x1 x2 x3 h) :=
  CtrW_of (by decide) (Nat.le_of_ble_eq_true rfl) (fun K F hm hi => vM_L_highest F hm x0 x1 x2 x3 h)
