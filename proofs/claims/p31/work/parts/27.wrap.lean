def M_L_cell (Ls : Nat) (xs : Nat → Int32) (x1 : Int32) (h : MH) : Res := bnd (Int32.ofNat Ls) fun z1 => if z1 ≤ x1 then (bnd (x1 + (139 : Int32)) fun z2 => bnd ((51343 : Int32) * z2) fun z3 => bnd (z3 + (3087197 : Int32)) fun z4 => rtI z4 h) else (sld Ls xs x1 fun z5 => rtI z5 h)
theorem vM_L_cell {K : CT} (F : Fr K cL_cell RL (some .int) [] 0 0) (hm : mxL K = 2) {Ls : Nat} {xs : Nat → Int32} (XF : XS K Ls xs) (x1 : Int32) (h : MH) : V K 0 [(0, vR (some 0)), (1, vI x1)] [] h (M_L_cell Ls xs x1 h) := by
  unfold M_L_cell
  refine V_iload_n (pc := 0) F dL_cell_0 1 rfl ?_
  refine V_aload_n (pc := 1) F dL_cell_1 0 rfl ?_
  refine V_slen (pc := 2) F XF dL_cell_2 ?_
  intro z1
  refine V_icmp_ge (pc := 3) F 12 dL_cell_3 (by decide) ?_ ?_
  · refine V_ldc (pc := 12) F (x := (51343 : Int32)) g_co_RL_7 dL_cell_12 ?_
    refine V_iload_n (pc := 14) F dL_cell_14 1 rfl ?_
    refine V_sipush (pc := 15) F (x := (139 : Int32)) dL_cell_15 (by decide) ?_
    refine V_iadd (pc := 18) F dL_cell_18 ?_
    intro z2
    refine V_imul (pc := 19) F dL_cell_19 ?_
    intro z3
    refine V_ldc (pc := 20) F (x := (3087197 : Int32)) g_co_RL_8 dL_cell_20 ?_
    refine V_iadd (pc := 22) F dL_cell_22 ?_
    intro z4
    exact V_iret (pc := 23) F (Or.inl rfl) dL_cell_23
  · refine V_aload_n (pc := 6) F dL_cell_6 0 rfl ?_
    refine V_iload_n (pc := 7) F dL_cell_7 1 rfl ?_
    refine V_sld (pc := 8) F XF dL_cell_8 ?_
    intro z5
    refine V_goto (pc := 9) F 23 dL_cell_9 (by decide) ?_
    exact V_iret (pc := 23) F (Or.inl rfl) dL_cell_23
theorem C_L_cell (Ls : Nat) (xs : Nat → Int32) (x1 : Int32) (h : MH) : CtrS yL_cell (WSm yL_cell cL_cell 2 (some .int)) 0 [vR (some 0), vI x1] h Ls xs (M_L_cell Ls xs x1 h) :=
  CtrS_of (by decide) (Nat.le_of_ble_eq_true rfl) (fun K F hm hi XF => vM_L_cell F hm XF x1 h)
def M_L_low (x0 : Int32) (x1 : Int32) (h : MH) : Res := bnd (x0 &&& (2147483647 : Int32)) fun z1 => rmI z1 x1 fun z2 => rtI z2 h
theorem vM_L_low {K : CT} (F : Fr K cL_low RL (some .int) [] 0 0) (hm : mxL K = 2) (x0 : Int32) (x1 : Int32) (h : MH) : V K 0 [(0, vI x0), (1, vI x1)] [] h (M_L_low x0 x1 h) := by
  unfold M_L_low
  refine V_iload_n (pc := 0) F dL_low_0 0 rfl ?_
  refine V_ldc (pc := 1) F (x := (2147483647 : Int32)) g_co_RL_9 dL_low_1 ?_
  refine V_iand (pc := 3) F dL_low_3 ?_
  intro z1
  refine V_iload_n (pc := 4) F dL_low_4 1 rfl ?_
  refine V_irem (pc := 5) F dL_low_5 ?_
  intro z2
  exact V_iret (pc := 6) F (Or.inl rfl) dL_low_6
theorem C_L_low (x0 : Int32) (x1 : Int32) (h : MH) : CtrM yL_low (WSm yL_low cL_low 2 (some .int)) 0 [vI x0, vI x1] h (M_L_low x0 x1 h) :=
  CtrM_of (by decide) (Nat.le_of_ble_eq_true rfl) (fun K F hm hi => vM_L_low F hm x0 x1 h)
def M_L_calls (x0 : Option Nat) (x1 : Int32) (x2 : Int32) (x3 : Int32) (x4 : Int32) (h : MH) : Res := if x1 ≠ 0 then (if x1 ≠ (1 : Int32) then (if x1 ≠ (2 : Int32) then (if x1 ≠ (3 : Int32) then (if x1 ≠ (4 : Int32) then (if x1 ≠ (5 : Int32) then (if x1 ≠ (6 : Int32) then (if x1 ≠ (7 : Int32) then (chk h x0 8 <| calG (M_X8_residual x0 x2 x3 h) (toI fun z1 h2 => rtI z1 h2) (fun e4 h5 => if e4 = 3 then (rtI (-2000000003 : Int32) h5) else none)) else (chk h x0 8 <| calG (M_X8_error x0 x2 x3 x4 h) (toI fun z6 h7 => rtI z6 h7) (fun e9 h10 => if e9 = 3 then (rtI (-2000000003 : Int32) h10) else none))) else (chk h x0 8 <| calG (M_X8_mean x0 x2 x3 x4 h) (toI fun z11 h12 => rtI z11 h12) (fun e14 h15 => if e14 = 3 then (rtI (-2000000003 : Int32) h15) else none))) else (bnd (x2 * (7 : Int32)) fun z16 => bnd (x3 * (3 : Int32)) fun z17 => bnd (z16 + z17) fun z18 => bnd (z18 + x4) fun z19 => calI (M_L_low z19 (101 : Int32) h) fun z20 h21 => bnd (z20 - (50 : Int32)) fun z22 => chk h21 x0 8 <| calG (M_X8_lay x0 x2 x3 x4 z22 h21) (toI fun z23 h24 => rtI z23 h24) (fun e26 h27 => if e26 = 3 then (rtI (-2000000003 : Int32) h27) else none))) else (chk h x0 8 <| calG (M_X8_search x0 x2 h) (toI fun z28 h29 => rtI z28 h29) (fun e31 h32 => if e31 = 3 then (rtI (-2000000003 : Int32) h32) else none))) else (chk h x0 8 <| calG (M_X8_calibrate x0 x2 h) (toI fun z33 h34 => rtI z33 h34) (fun e36 h37 => if e36 = 3 then (rtI (-2000000003 : Int32) h37) else none))) else (chk h x0 8 <| calG (M_X8_storm x0 x2 x3 h) (toI fun z38 h39 => rtI z38 h39) (fun e41 h42 => if e41 = 3 then (rtI (-2000000003 : Int32) h42) else none))) else (chk h x0 8 <| calG (M_X8_station x0 x2 x3 h) (toI fun z43 h44 => rtI z43 h44) (fun e46 h47 => if e46 = 3 then (rtI (-2000000003 : Int32) h47) else none))) else (chk h x0 8 <| calG (M_X8_land x0 x2 h) (toI fun z48 h49 => rtI z48 h49) (fun e51 h52 => if e51 = 3 then (rtI (-2000000003 : Int32) h52) else none))
theorem vM_L_calls {K : CT} (F : Fr K cL_calls RL (some .int) [(0, 141, 142, 48)] 9 1) (hm : mxL K = 6) (x0 : Option Nat) (x1 : Int32) (x2 : Int32) (x3 : Int32) (x4 : Int32) (h : MH) : V K 0 [(0, vR x0), (1, vI x1), (2, vI x2), (3, vI x3), (4, vI x4)] [] h (M_L_calls x0 x1 x2 x3 x4 h) := by
  unfold M_L_calls
  refine V_iload_n (pc := 0) F dL_calls_0 1 rfl ?_
  refine V_if_ne (pc := 1) F 12 dL_calls_1 (by decide) ?_ ?_
  · refine V_iload_n (pc := 12) F dL_calls_12 1 rfl ?_
    refine V_iconst (pc := 13) F (x := (1 : Int32)) dL_calls_13 (by decide) ?_
    refine V_icmp_ne (pc := 14) F 26 dL_calls_14 (by decide) ?_ ?_
    · refine V_iload_n (pc := 26) F dL_calls_26 1 rfl ?_
      refine V_iconst (pc := 27) F (x := (2 : Int32)) dL_calls_27 (by decide) ?_
      refine V_icmp_ne (pc := 28) F 40 dL_calls_28 (by decide) ?_ ?_
      · refine V_iload_n (pc := 40) F dL_calls_40 1 rfl ?_
        refine V_iconst (pc := 41) F (x := (3 : Int32)) dL_calls_41 (by decide) ?_
        refine V_icmp_ne (pc := 42) F 53 dL_calls_42 (by decide) ?_ ?_
        · refine V_iload_n (pc := 53) F dL_calls_53 1 rfl ?_
          refine V_iconst (pc := 54) F (x := (4 : Int32)) dL_calls_54 (by decide) ?_
          refine V_icmp_ne (pc := 55) F 66 dL_calls_55 (by decide) ?_ ?_
          · refine V_iload_n (pc := 66) F dL_calls_66 1 rfl ?_
            refine V_iconst (pc := 67) F (x := (5 : Int32)) dL_calls_67 (by decide) ?_
            refine V_icmp_ne (pc := 68) F 101 dL_calls_68 (by decide) ?_ ?_
            · refine V_iload_n (pc := 101) F dL_calls_101 1 rfl ?_
              refine V_bipush (pc := 102) F (x := (6 : Int32)) dL_calls_102 (by decide) ?_
              refine V_icmp_ne (pc := 104) F 118 dL_calls_104 (by decide) ?_ ?_
              · refine V_iload_n (pc := 118) F dL_calls_118 1 rfl ?_
                refine V_bipush (pc := 119) F (x := (7 : Int32)) dL_calls_119 (by decide) ?_
                refine V_icmp_ne (pc := 121) F 135 dL_calls_121 (by decide) ?_ ?_
                · refine V_aload_n (pc := 135) F dL_calls_135 0 rfl ?_
                  refine V_iload_n (pc := 136) F dL_calls_136 2 rfl ?_
                  refine V_iload_n (pc := 137) F dL_calls_137 3 rfl ?_
                  refine V_cV (pc := 138) F 8 (by decide) (as := [vI x2, vI x3]) (C_X8_residual x0 x2 x3 h) w_X8_residual g_in_X8_residual g_se_X8_residual g_ml_RL_45 (by decide) (rest := []) rfl rfl (Nat.le_of_ble_eq_true rfl) dL_calls_138 (k_I fun z1 h2 => ?_) ?_
                  · exact V_iret (pc := 141) F (Or.inr rfl) dL_calls_141
                  · intro e4 h5
                    refine VX_if ?_ ?_
                    · refine VX_catch (pc := 138) F [] ⟨0, 141, 142, 48⟩ [] rfl (fun _ hw => nomatch hw) rfl (by decide) g_cl_RL_48 (i := 5) (nx := 144) (lt_mx hm (by decide)) (Or.inr ⟨dL_calls_142, rfl⟩) (L' := [(0, vR x0), (1, vI x1), (2, vI x2), (3, vI x3), (4, vI x4)]) rfl ?_
                      refine V_ldc (pc := 144) F (x := (-2000000003 : Int32)) g_co_RL_50 dL_calls_144 ?_
                      exact V_iret (pc := 146) F (Or.inr rfl) dL_calls_146
                    exact VX_none
                · refine V_aload_n (pc := 124) F dL_calls_124 0 rfl ?_
                  refine V_iload_n (pc := 125) F dL_calls_125 2 rfl ?_
                  refine V_iload_n (pc := 126) F dL_calls_126 3 rfl ?_
                  refine V_iload (pc := 127) F dL_calls_127 4 rfl ?_
                  refine V_cV (pc := 129) F 8 (by decide) (as := [vI x2, vI x3, vI x4]) (C_X8_error x0 x2 x3 x4 h) w_X8_error g_in_X8_error g_se_X8_error g_ml_RL_42 (by decide) (rest := []) rfl rfl (Nat.le_of_ble_eq_true rfl) dL_calls_129 (k_I fun z6 h7 => ?_) ?_
                  · refine V_goto (pc := 132) F 141 dL_calls_132 (by decide) ?_
                    exact V_iret (pc := 141) F (Or.inr rfl) dL_calls_141
                  · intro e9 h10
                    refine VX_if ?_ ?_
                    · refine VX_catch (pc := 129) F [] ⟨0, 141, 142, 48⟩ [] rfl (fun _ hw => nomatch hw) rfl (by decide) g_cl_RL_48 (i := 5) (nx := 144) (lt_mx hm (by decide)) (Or.inr ⟨dL_calls_142, rfl⟩) (L' := [(0, vR x0), (1, vI x1), (2, vI x2), (3, vI x3), (4, vI x4)]) rfl ?_
                      refine V_ldc (pc := 144) F (x := (-2000000003 : Int32)) g_co_RL_50 dL_calls_144 ?_
                      exact V_iret (pc := 146) F (Or.inr rfl) dL_calls_146
                    exact VX_none
              · refine V_aload_n (pc := 107) F dL_calls_107 0 rfl ?_
                refine V_iload_n (pc := 108) F dL_calls_108 2 rfl ?_
                refine V_iload_n (pc := 109) F dL_calls_109 3 rfl ?_
                refine V_iload (pc := 110) F dL_calls_110 4 rfl ?_
                refine V_cV (pc := 112) F 8 (by decide) (as := [vI x2, vI x3, vI x4]) (C_X8_mean x0 x2 x3 x4 h) w_X8_mean g_in_X8_mean g_se_X8_mean g_ml_RL_38 (by decide) (rest := []) rfl rfl (Nat.le_of_ble_eq_true rfl) dL_calls_112 (k_I fun z11 h12 => ?_) ?_
                · refine V_goto (pc := 115) F 141 dL_calls_115 (by decide) ?_
                  exact V_iret (pc := 141) F (Or.inr rfl) dL_calls_141
                · intro e14 h15
                  refine VX_if ?_ ?_
                  · refine VX_catch (pc := 112) F [] ⟨0, 141, 142, 48⟩ [] rfl (fun _ hw => nomatch hw) rfl (by decide) g_cl_RL_48 (i := 5) (nx := 144) (lt_mx hm (by decide)) (Or.inr ⟨dL_calls_142, rfl⟩) (L' := [(0, vR x0), (1, vI x1), (2, vI x2), (3, vI x3), (4, vI x4)]) rfl ?_
                    refine V_ldc (pc := 144) F (x := (-2000000003 : Int32)) g_co_RL_50 dL_calls_144 ?_
                    exact V_iret (pc := 146) F (Or.inr rfl) dL_calls_146
                  exact VX_none
            · refine V_aload_n (pc := 71) F dL_calls_71 0 rfl ?_
              refine V_iload_n (pc := 72) F dL_calls_72 2 rfl ?_
              refine V_iload_n (pc := 73) F dL_calls_73 3 rfl ?_
              refine V_iload (pc := 74) F dL_calls_74 4 rfl ?_
              refine V_iload_n (pc := 76) F dL_calls_76 2 rfl ?_
              refine V_bipush (pc := 77) F (x := (7 : Int32)) dL_calls_77 (by decide) ?_
              refine V_imul (pc := 79) F dL_calls_79 ?_
              intro z16
              refine V_iload_n (pc := 80) F dL_calls_80 3 rfl ?_
              refine V_iconst (pc := 81) F (x := (3 : Int32)) dL_calls_81 (by decide) ?_
              refine V_imul (pc := 82) F dL_calls_82 ?_
              intro z17
              refine V_iadd (pc := 83) F dL_calls_83 ?_
              intro z18
              refine V_iload (pc := 84) F dL_calls_84 4 rfl ?_
              refine V_iadd (pc := 86) F dL_calls_86 ?_
              intro z19
              refine V_bipush (pc := 87) F (x := (101 : Int32)) dL_calls_87 (by decide) ?_
              refine V_cSM (pc := 89) F (as := [vI z19, vI (101 : Int32)]) (C_L_low z19 (101 : Int32) h) w_L_low g_st_L_low g_ml_RL_29 (by decide) (rest := [vI x4, vI x3, vI x2, vR x0]) rfl rfl (Nat.le_of_ble_eq_true rfl) dL_calls_89 (k_I fun z20 h21 => ?_)
              refine V_bipush (pc := 92) F (x := (50 : Int32)) dL_calls_92 (by decide) ?_
              refine V_isub (pc := 94) F dL_calls_94 ?_
              intro z22
              refine V_cV (pc := 95) F 8 (by decide) (as := [vI x2, vI x3, vI x4, vI z22]) (C_X8_lay x0 x2 x3 x4 z22 h21) w_X8_lay g_in_X8_lay g_se_X8_lay g_ml_RL_34 (by decide) (rest := []) rfl rfl (Nat.le_of_ble_eq_true rfl) dL_calls_95 (k_I fun z23 h24 => ?_) ?_
              · refine V_goto (pc := 98) F 141 dL_calls_98 (by decide) ?_
                exact V_iret (pc := 141) F (Or.inr rfl) dL_calls_141
              · intro e26 h27
                refine VX_if ?_ ?_
                · refine VX_catch (pc := 95) F [] ⟨0, 141, 142, 48⟩ [] rfl (fun _ hw => nomatch hw) rfl (by decide) g_cl_RL_48 (i := 5) (nx := 144) (lt_mx hm (by decide)) (Or.inr ⟨dL_calls_142, rfl⟩) (L' := [(0, vR x0), (1, vI x1), (2, vI x2), (3, vI x3), (4, vI x4)]) rfl ?_
                  refine V_ldc (pc := 144) F (x := (-2000000003 : Int32)) g_co_RL_50 dL_calls_144 ?_
                  exact V_iret (pc := 146) F (Or.inr rfl) dL_calls_146
                exact VX_none
          · refine V_aload_n (pc := 58) F dL_calls_58 0 rfl ?_
            refine V_iload_n (pc := 59) F dL_calls_59 2 rfl ?_
            refine V_cV (pc := 60) F 8 (by decide) (as := [vI x2]) (C_X8_search x0 x2 h) w_X8_search g_in_X8_search g_se_X8_search g_ml_RL_26 (by decide) (rest := []) rfl rfl (Nat.le_of_ble_eq_true rfl) dL_calls_60 (k_I fun z28 h29 => ?_) ?_
            · refine V_goto (pc := 63) F 141 dL_calls_63 (by decide) ?_
              exact V_iret (pc := 141) F (Or.inr rfl) dL_calls_141
            · intro e31 h32
              refine VX_if ?_ ?_
              · refine VX_catch (pc := 60) F [] ⟨0, 141, 142, 48⟩ [] rfl (fun _ hw => nomatch hw) rfl (by decide) g_cl_RL_48 (i := 5) (nx := 144) (lt_mx hm (by decide)) (Or.inr ⟨dL_calls_142, rfl⟩) (L' := [(0, vR x0), (1, vI x1), (2, vI x2), (3, vI x3), (4, vI x4)]) rfl ?_
                refine V_ldc (pc := 144) F (x := (-2000000003 : Int32)) g_co_RL_50 dL_calls_144 ?_
                exact V_iret (pc := 146) F (Or.inr rfl) dL_calls_146
              exact VX_none
        · refine V_aload_n (pc := 45) F dL_calls_45 0 rfl ?_
          refine V_iload_n (pc := 46) F dL_calls_46 2 rfl ?_
          refine V_cV (pc := 47) F 8 (by decide) (as := [vI x2]) (C_X8_calibrate x0 x2 h) w_X8_calibrate g_in_X8_calibrate g_se_X8_calibrate g_ml_RL_23 (by decide) (rest := []) rfl rfl (Nat.le_of_ble_eq_true rfl) dL_calls_47 (k_I fun z33 h34 => ?_) ?_
          · refine V_goto (pc := 50) F 141 dL_calls_50 (by decide) ?_
            exact V_iret (pc := 141) F (Or.inr rfl) dL_calls_141
          · intro e36 h37
            refine VX_if ?_ ?_
            · refine VX_catch (pc := 47) F [] ⟨0, 141, 142, 48⟩ [] rfl (fun _ hw => nomatch hw) rfl (by decide) g_cl_RL_48 (i := 5) (nx := 144) (lt_mx hm (by decide)) (Or.inr ⟨dL_calls_142, rfl⟩) (L' := [(0, vR x0), (1, vI x1), (2, vI x2), (3, vI x3), (4, vI x4)]) rfl ?_
              refine V_ldc (pc := 144) F (x := (-2000000003 : Int32)) g_co_RL_50 dL_calls_144 ?_
              exact V_iret (pc := 146) F (Or.inr rfl) dL_calls_146
            exact VX_none
      · refine V_aload_n (pc := 31) F dL_calls_31 0 rfl ?_
        refine V_iload_n (pc := 32) F dL_calls_32 2 rfl ?_
        refine V_iload_n (pc := 33) F dL_calls_33 3 rfl ?_
        refine V_cV (pc := 34) F 8 (by decide) (as := [vI x2, vI x3]) (C_X8_storm x0 x2 x3 h) w_X8_storm g_in_X8_storm g_se_X8_storm g_ml_RL_20 (by decide) (rest := []) rfl rfl (Nat.le_of_ble_eq_true rfl) dL_calls_34 (k_I fun z38 h39 => ?_) ?_
        · refine V_goto (pc := 37) F 141 dL_calls_37 (by decide) ?_
          exact V_iret (pc := 141) F (Or.inr rfl) dL_calls_141
        · intro e41 h42
          refine VX_if ?_ ?_
          · refine VX_catch (pc := 34) F [] ⟨0, 141, 142, 48⟩ [] rfl (fun _ hw => nomatch hw) rfl (by decide) g_cl_RL_48 (i := 5) (nx := 144) (lt_mx hm (by decide)) (Or.inr ⟨dL_calls_142, rfl⟩) (L' := [(0, vR x0), (1, vI x1), (2, vI x2), (3, vI x3), (4, vI x4)]) rfl ?_
            refine V_ldc (pc := 144) F (x := (-2000000003 : Int32)) g_co_RL_50 dL_calls_144 ?_
            exact V_iret (pc := 146) F (Or.inr rfl) dL_calls_146
          exact VX_none
    · refine V_aload_n (pc := 17) F dL_calls_17 0 rfl ?_
      refine V_iload_n (pc := 18) F dL_calls_18 2 rfl ?_
      refine V_iload_n (pc := 19) F dL_calls_19 3 rfl ?_
      refine V_cV (pc := 20) F 8 (by decide) (as := [vI x2, vI x3]) (C_X8_station x0 x2 x3 h) w_X8_station g_in_X8_station g_se_X8_station g_ml_RL_16 (by decide) (rest := []) rfl rfl (Nat.le_of_ble_eq_true rfl) dL_calls_20 (k_I fun z43 h44 => ?_) ?_
      · refine V_goto (pc := 23) F 141 dL_calls_23 (by decide) ?_
        exact V_iret (pc := 141) F (Or.inr rfl) dL_calls_141
      · intro e46 h47
        refine VX_if ?_ ?_
        · refine VX_catch (pc := 20) F [] ⟨0, 141, 142, 48⟩ [] rfl (fun _ hw => nomatch hw) rfl (by decide) g_cl_RL_48 (i := 5) (nx := 144) (lt_mx hm (by decide)) (Or.inr ⟨dL_calls_142, rfl⟩) (L' := [(0, vR x0), (1, vI x1), (2, vI x2), (3, vI x3), (4, vI x4)]) rfl ?_
          refine V_ldc (pc := 144) F (x := (-2000000003 : Int32)) g_co_RL_50 dL_calls_144 ?_
          exact V_iret (pc := 146) F (Or.inr rfl) dL_calls_146
        exact VX_none
  · refine V_aload_n (pc := 4) F dL_calls_4 0 rfl ?_
    refine V_iload_n (pc := 5) F dL_calls_5 2 rfl ?_
    refine V_cV (pc := 6) F 8 (by decide) (as := [vI x2]) (C_X8_land x0 x2 h) w_X8_land g_in_X8_land g_se_X8_land g_ml_RL_10 (by decide) (rest := []) rfl rfl (Nat.le_of_ble_eq_true rfl) dL_calls_6 (k_I fun z48 h49 => ?_) ?_
    · refine V_goto (pc := 9) F 141 dL_calls_9 (by decide) ?_
      exact V_iret (pc := 141) F (Or.inr rfl) dL_calls_141
    · intro e51 h52
      refine VX_if ?_ ?_
      · refine VX_catch (pc := 6) F [] ⟨0, 141, 142, 48⟩ [] rfl (fun _ hw => nomatch hw) rfl (by decide) g_cl_RL_48 (i := 5) (nx := 144) (lt_mx hm (by decide)) (Or.inr ⟨dL_calls_142, rfl⟩) (L' := [(0, vR x0), (1, vI x1), (2, vI x2), (3, vI x3), (4, vI x4)]) rfl ?_
        refine V_ldc (pc := 144) F (x := (-2000000003 : Int32)) g_co_RL_50 dL_calls_144 ?_
        exact V_iret (pc := 146) F (Or.inr rfl) dL_calls_146
      exact VX_none
theorem C_L_calls (x0 : Option Nat) (x1 : Int32) (x2 : Int32) (x3 : Int32) (x4 : Int32) (h : MH) : CtrX yL_calls (WSw yL_calls cL_calls 6 (some .int) [(0, 141, 142, 48)]) 9 [vR x0, vI x1, vI x2, vI x3, vI x4] h (M_L_calls x0 x1 x2 x3 x4 h) :=
  CtrW_of (by decide) (Nat.le_of_ble_eq_true rfl) (fun K F hm hi => vM_L_calls F hm x0 x1 x2 x3 x4 h)
def B_L_isStorm_44 (rc5 : Int32 → Option Nat → Option Nat → Int32 → Int32 → MH → Res) (x0 : Int32) (x1 : Option Nat) (x2 : Option Nat) (x4 : Int32) (s0 : Int32) (h : MH) : Res := bnd (x4 + (1)) fun z7 => rc5 x0 x1 x2 s0 z7 h
def B_L_isStorm_39 (rc5 : Int32 → Option Nat → Option Nat → Int32 → Int32 → MH → Res) (x0 : Int32) (x1 : Option Nat) (x2 : Option Nat) (x4 : Int32) (h : MH) : Res := B_L_isStorm_44 rc5 x0 x1 x2 x4 (1 : Int32) h
def B_L_isStorm_43 (rc5 : Int32 → Option Nat → Option Nat → Int32 → Int32 → MH → Res) (x0 : Int32) (x1 : Option Nat) (x2 : Option Nat) (x4 : Int32) (h : MH) : Res := B_L_isStorm_44 rc5 x0 x1 x2 x4 (0 : Int32) h
def B_L_isStorm_5 (rc5 : Int32 → Option Nat → Option Nat → Int32 → Int32 → MH → Res) (x0 : Int32) (x1 : Option Nat) (x2 : Option Nat) (x3 : Int32) (x4 : Int32) (h : MH) : Res := rdI h x2 20 (4 : Int32) fun z1 => if z1 ≤ x4 then (rtZ x3 h) else (if x3 ≠ 0 then (B_L_isStorm_39 rc5 x0 x1 x2 x4 h) else (bnd ((2 : Int32) * x4) fun z2 => rdI h x1 20 z2 fun z3 => if x0 < z3 then (B_L_isStorm_43 rc5 x0 x1 x2 x4 h) else (bnd ((2 : Int32) * x4) fun z4 => bnd (z4 + (1 : Int32)) fun z5 => rdI h x1 20 z5 fun z6 => if z6 < x0 then (B_L_isStorm_43 rc5 x0 x1 x2 x4 h) else (B_L_isStorm_39 rc5 x0 x1 x2 x4 h))))
def L_L_isStorm_5 : Nat → Int32 → Option Nat → Option Nat → Int32 → Int32 → MH → Res
  | 0 => fun _ _ _ _ _ _ => none
  | n + 1 => B_L_isStorm_5 (L_L_isStorm_5 n)
def M_L_isStorm (x0 : Int32) (x1 : Option Nat) (x2 : Option Nat) (h : MH) : Res := L_L_isStorm_5 fuel x0 x1 x2 (0 : Int32) (0 : Int32) h
theorem vB_L_isStorm_44 {K : CT} (F : Fr K cL_isStorm RL (some .boolean) [] 0 0) (hm : mxL K = 5) (rc5 : Int32 → Option Nat → Option Nat → Int32 → Int32 → MH → Res) (hrc5 : ∀ x0 x1 x2 x3 x4 h, V K 5 [(0, vI x0), (1, vR x1), (2, vR x2), (3, vI x3), (4, vI x4)] [] h (rc5 x0 x1 x2 x3 x4 h)) (x0 : Int32) (x1 : Option Nat) (x2 : Option Nat) (x4 : Int32) (s0 : Int32) (h : MH) : V K 44 [(0, vI x0), (1, vR x1), (2, vR x2), (4, vI x4)] [vI s0] h (B_L_isStorm_44 rc5 x0 x1 x2 x4 s0 h) := by
  unfold B_L_isStorm_44
  refine V_istore_n (pc := 44) F [(3, vI s0), (0, vI x0), (1, vR x1), (2, vR x2), (4, vI x4)] dL_isStorm_44 (lt_mx hm (by decide)) rfl ?_
  refine V_iinc (pc := 45) F (fun z7 => [(4, vI z7), (3, vI s0), (0, vI x0), (1, vR x1), (2, vR x2)]) dL_isStorm_45 (lt_mx hm (by decide)) 4 rfl (dx := (1 : Int32)) (by decide) (fun _ => rfl) ?_
  intro z7
  refine V_goto (pc := 48) F 5 dL_isStorm_48 (by decide) ?_
  refine V_sub [2, 3, 4, 1, 0] (L' := [(0, vI x0), (1, vR x1), (2, vR x2), (3, vI s0), (4, vI z7)]) rfl ?_
  exact hrc5 x0 x1 x2 s0 z7 h
theorem vB_L_isStorm_39 {K : CT} (F : Fr K cL_isStorm RL (some .boolean) [] 0 0) (hm : mxL K = 5) (rc5 : Int32 → Option Nat → Option Nat → Int32 → Int32 → MH → Res) (hrc5 : ∀ x0 x1 x2 x3 x4 h, V K 5 [(0, vI x0), (1, vR x1), (2, vR x2), (3, vI x3), (4, vI x4)] [] h (rc5 x0 x1 x2 x3 x4 h)) (x0 : Int32) (x1 : Option Nat) (x2 : Option Nat) (x4 : Int32) (h : MH) : V K 39 [(0, vI x0), (1, vR x1), (2, vR x2), (4, vI x4)] [] h (B_L_isStorm_39 rc5 x0 x1 x2 x4 h) := by
  unfold B_L_isStorm_39
  refine V_iconst (pc := 39) F (x := (1 : Int32)) dL_isStorm_39 (by decide) ?_
  refine V_goto (pc := 40) F 44 dL_isStorm_40 (by decide) ?_
  exact vB_L_isStorm_44 F hm rc5 hrc5 x0 x1 x2 x4 (1 : Int32) h
theorem vB_L_isStorm_43 {K : CT} (F : Fr K cL_isStorm RL (some .boolean) [] 0 0) (hm : mxL K = 5) (rc5 : Int32 → Option Nat → Option Nat → Int32 → Int32 → MH → Res) (hrc5 : ∀ x0 x1 x2 x3 x4 h, V K 5 [(0, vI x0), (1, vR x1), (2, vR x2), (3, vI x3), (4, vI x4)] [] h (rc5 x0 x1 x2 x3 x4 h)) (x0 : Int32) (x1 : Option Nat) (x2 : Option Nat) (x4 : Int32) (h : MH) : V K 43 [(0, vI x0), (1, vR x1), (2, vR x2), (4, vI x4)] [] h (B_L_isStorm_43 rc5 x0 x1 x2 x4 h) := by
  unfold B_L_isStorm_43
  refine V_iconst (pc := 43) F (x := (0 : Int32)) dL_isStorm_43 (by decide) ?_
  exact vB_L_isStorm_44 F hm rc5 hrc5 x0 x1 x2 x4 (0 : Int32) h
theorem vB_L_isStorm_5 {K : CT} (F : Fr K cL_isStorm RL (some .boolean) [] 0 0) (hm : mxL K = 5) (rc5 : Int32 → Option Nat → Option Nat → Int32 → Int32 → MH → Res) (hrc5 : ∀ x0 x1 x2 x3 x4 h, V K 5 [(0, vI x0), (1, vR x1), (2, vR x2), (3, vI x3), (4, vI x4)] [] h (rc5 x0 x1 x2 x3 x4 h)) (x0 : Int32) (x1 : Option Nat) (x2 : Option Nat) (x3 : Int32) (x4 : Int32) (h : MH) : V K 5 [(0, vI x0), (1, vR x1), (2, vR x2), (3, vI x3), (4, vI x4)] [] h (B_L_isStorm_5 rc5 x0 x1 x2 x3 x4 h) := by
  unfold B_L_isStorm_5
  refine V_iload (pc := 5) F dL_isStorm_5 4 rfl ?_
  refine V_aload_n (pc := 7) F dL_isStorm_7 2 rfl ?_
  refine V_iconst (pc := 8) F (x := (4 : Int32)) dL_isStorm_8 (by decide) ?_
  refine V_iald (pc := 9) F dL_isStorm_9 ?_
  intro z1
  refine V_icmp_ge (pc := 10) F 51 dL_isStorm_10 (by decide) ?_ ?_
  · refine V_iload_n (pc := 51) F dL_isStorm_51 3 rfl ?_
    exact V_zret (pc := 52) F (Or.inl rfl) dL_isStorm_52
  · refine V_iload_n (pc := 13) F dL_isStorm_13 3 rfl ?_
    refine V_if_ne (pc := 14) F 39 dL_isStorm_14 (by decide) ?_ ?_
    · refine V_sub [0, 1, 2, 4] (L' := [(0, vI x0), (1, vR x1), (2, vR x2), (4, vI x4)]) rfl ?_
      exact vB_L_isStorm_39 F hm rc5 hrc5 x0 x1 x2 x4 h
    · refine V_aload_n (pc := 17) F dL_isStorm_17 1 rfl ?_
      refine V_iconst (pc := 18) F (x := (2 : Int32)) dL_isStorm_18 (by decide) ?_
      refine V_iload (pc := 19) F dL_isStorm_19 4 rfl ?_
      refine V_imul (pc := 21) F dL_isStorm_21 ?_
      intro z2
      refine V_iald (pc := 22) F dL_isStorm_22 ?_
      intro z3
      refine V_iload_n (pc := 23) F dL_isStorm_23 0 rfl ?_
      refine V_icmp_gt (pc := 24) F 43 dL_isStorm_24 (by decide) ?_ ?_
      · refine V_sub [0, 1, 2, 4] (L' := [(0, vI x0), (1, vR x1), (2, vR x2), (4, vI x4)]) rfl ?_
        exact vB_L_isStorm_43 F hm rc5 hrc5 x0 x1 x2 x4 h
      · refine V_iload_n (pc := 27) F dL_isStorm_27 0 rfl ?_
        refine V_aload_n (pc := 28) F dL_isStorm_28 1 rfl ?_
        refine V_iconst (pc := 29) F (x := (2 : Int32)) dL_isStorm_29 (by decide) ?_
        refine V_iload (pc := 30) F dL_isStorm_30 4 rfl ?_
        refine V_imul (pc := 32) F dL_isStorm_32 ?_
        intro z4
        refine V_iconst (pc := 33) F (x := (1 : Int32)) dL_isStorm_33 (by decide) ?_
        refine V_iadd (pc := 34) F dL_isStorm_34 ?_
        intro z5
        refine V_iald (pc := 35) F dL_isStorm_35 ?_
        intro z6
        refine V_icmp_gt (pc := 36) F 43 dL_isStorm_36 (by decide) ?_ ?_
        · refine V_sub [0, 1, 2, 4] (L' := [(0, vI x0), (1, vR x1), (2, vR x2), (4, vI x4)]) rfl ?_
          exact vB_L_isStorm_43 F hm rc5 hrc5 x0 x1 x2 x4 h
        · refine V_sub [0, 1, 2, 4] (L' := [(0, vI x0), (1, vR x1), (2, vR x2), (4, vI x4)]) rfl ?_
          exact vB_L_isStorm_39 F hm rc5 hrc5 x0 x1 x2 x4 h
theorem vL_L_isStorm_5 {K : CT} (F : Fr K cL_isStorm RL (some .boolean) [] 0 0) (hm : mxL K = 5) (n : Nat) : ∀ x0 x1 x2 x3 x4 h, V K 5 [(0, vI x0), (1, vR x1), (2, vR x2), (3, vI x3), (4, vI x4)] [] h (L_L_isStorm_5 n x0 x1 x2 x3 x4 h) := by
  induction n with
  | zero => intros; exact V_none
  | succ n ih => intro x0 x1 x2 x3 x4 h; exact vB_L_isStorm_5 F hm _ ih x0 x1 x2 x3 x4 h
theorem vM_L_isStorm {K : CT} (F : Fr K cL_isStorm RL (some .boolean) [] 0 0) (hm : mxL K = 5) (x0 : Int32) (x1 : Option Nat) (x2 : Option Nat) (h : MH) : V K 0 [(0, vI x0), (1, vR x1), (2, vR x2)] [] h (M_L_isStorm x0 x1 x2 h) := by
  unfold M_L_isStorm
  refine V_iconst (pc := 0) F (x := (0 : Int32)) dL_isStorm_0 (by decide) ?_
  refine V_istore_n (pc := 1) F [(3, vI (0 : Int32)), (0, vI x0), (1, vR x1), (2, vR x2)] dL_isStorm_1 (lt_mx hm (by decide)) rfl ?_
  refine V_iconst (pc := 2) F (x := (0 : Int32)) dL_isStorm_2 (by decide) ?_
  refine V_istore (pc := 3) F [(4, vI (0 : Int32)), (3, vI (0 : Int32)), (0, vI x0), (1, vR x1), (2, vR x2)] dL_isStorm_3 (lt_mx hm (by decide)) rfl ?_
  refine V_sub [2, 3, 4, 1, 0] (L' := [(0, vI x0), (1, vR x1), (2, vR x2), (3, vI (0 : Int32)), (4, vI (0 : Int32))]) rfl ?_
  exact vL_L_isStorm_5 F hm fuel x0 x1 x2 (0 : Int32) (0 : Int32) h
theorem C_L_isStorm (x0 : Int32) (x1 : Option Nat) (x2 : Option Nat) (h : MH) : CtrM yL_isStorm (WSm yL_isStorm cL_isStorm 5 (some .boolean)) 0 [vI x0, vR x1, vR x2] h (M_L_isStorm x0 x1 x2 h) :=
  CtrM_of (by decide) (Nat.le_of_ble_eq_true rfl) (fun K F hm hi => vM_L_isStorm F hm x0 x1 x2 h)
def B_L_best_24 (rc4 : Option Nat → Int32 → Int32 → MH → Res) (x0 : Option Nat) (x2 : Int32) (s0 : Int32) (h : MH) : Res := bnd (x2 + (1)) fun z3 => rc4 x0 s0 z3 h
def B_L_best_33 (rc33 : Option Nat → Int32 → Int32 → MH → Res) (x0 : Option Nat) (x1 : Int32) (x2 : Int32) (h : MH) : Res := rdI h x0 20 x2 fun z4 => if x1 ≤ z4 then (rtI x2 h) else (bnd (x2 + (1)) fun z5 => rc33 x0 x1 z5 h)
def L_L_best_33 : Nat → Option Nat → Int32 → Int32 → MH → Res
  | 0 => fun _ _ _ _ => none
  | n + 1 => B_L_best_33 (L_L_best_33 n)
def B_L_best_4 (rc4 : Option Nat → Int32 → Int32 → MH → Res) (x0 : Option Nat) (x1 : Int32) (x2 : Int32) (h : MH) : Res := if (60 : Int32) ≤ x2 then (L_L_best_33 fuel x0 x1 (0 : Int32) h) else (rdI h x0 20 x2 fun z1 => if z1 ≤ x1 then (B_L_best_24 rc4 x0 x2 x1 h) else (rdI h x0 20 x2 fun z2 => B_L_best_24 rc4 x0 x2 z2 h))
def L_L_best_4 : Nat → Option Nat → Int32 → Int32 → MH → Res
  | 0 => fun _ _ _ _ => none
  | n + 1 => B_L_best_4 (L_L_best_4 n)
def M_L_best (x0 : Option Nat) (h : MH) : Res := L_L_best_4 fuel x0 (0 : Int32) (0 : Int32) h
theorem vB_L_best_24 {K : CT} (F : Fr K cL_best RL (some .int) [] 0 0) (hm : mxL K = 3) (rc4 : Option Nat → Int32 → Int32 → MH → Res) (hrc4 : ∀ x0 x1 x2 h, V K 4 [(0, vR x0), (1, vI x1), (2, vI x2)] [] h (rc4 x0 x1 x2 h)) (x0 : Option Nat) (x2 : Int32) (s0 : Int32) (h : MH) : V K 24 [(0, vR x0), (2, vI x2)] [vI s0] h (B_L_best_24 rc4 x0 x2 s0 h) := by
  unfold B_L_best_24
  refine V_istore_n (pc := 24) F [(1, vI s0), (0, vR x0), (2, vI x2)] dL_best_24 (lt_mx hm (by decide)) rfl ?_
  refine V_iinc (pc := 25) F (fun z3 => [(2, vI z3), (1, vI s0), (0, vR x0)]) dL_best_25 (lt_mx hm (by decide)) 2 rfl (dx := (1 : Int32)) (by decide) (fun _ => rfl) ?_
  intro z3
  refine V_goto (pc := 28) F 4 dL_best_28 (by decide) ?_
  refine V_sub [2, 1, 0] (L' := [(0, vR x0), (1, vI s0), (2, vI z3)]) rfl ?_
  exact hrc4 x0 s0 z3 h
theorem vB_L_best_33 {K : CT} (F : Fr K cL_best RL (some .int) [] 0 0) (hm : mxL K = 3) (rc33 : Option Nat → Int32 → Int32 → MH → Res) (hrc33 : ∀ x0 x1 x2 h, V K 33 [(0, vR x0), (1, vI x1), (2, vI x2)] [] h (rc33 x0 x1 x2 h)) (x0 : Option Nat) (x1 : Int32) (x2 : Int32) (h : MH) : V K 33 [(0, vR x0), (1, vI x1), (2, vI x2)] [] h (B_L_best_33 rc33 x0 x1 x2 h) := by
  unfold B_L_best_33
  refine V_aload_n (pc := 33) F dL_best_33 0 rfl ?_
  refine V_iload_n (pc := 34) F dL_best_34 2 rfl ?_
  refine V_iald (pc := 35) F dL_best_35 ?_
  intro z4
  refine V_iload_n (pc := 36) F dL_best_36 1 rfl ?_
  refine V_icmp_ge (pc := 37) F 46 dL_best_37 (by decide) ?_ ?_
  · refine V_iload_n (pc := 46) F dL_best_46 2 rfl ?_
    exact V_iret (pc := 47) F (Or.inl rfl) dL_best_47
  · refine V_iinc (pc := 40) F (fun z5 => [(2, vI z5), (0, vR x0), (1, vI x1)]) dL_best_40 (lt_mx hm (by decide)) 2 rfl (dx := (1 : Int32)) (by decide) (fun _ => rfl) ?_
    intro z5
    refine V_goto (pc := 43) F 33 dL_best_43 (by decide) ?_
    refine V_sub [1, 2, 0] (L' := [(0, vR x0), (1, vI x1), (2, vI z5)]) rfl ?_
    exact hrc33 x0 x1 z5 h
theorem vL_L_best_33 {K : CT} (F : Fr K cL_best RL (some .int) [] 0 0) (hm : mxL K = 3) (n : Nat) : ∀ x0 x1 x2 h, V K 33 [(0, vR x0), (1, vI x1), (2, vI x2)] [] h (L_L_best_33 n x0 x1 x2 h) := by
  induction n with
  | zero => intros; exact V_none
  | succ n ih => intro x0 x1 x2 h; exact vB_L_best_33 F hm _ ih x0 x1 x2 h
theorem vB_L_best_4 {K : CT} (F : Fr K cL_best RL (some .int) [] 0 0) (hm : mxL K = 3) (rc4 : Option Nat → Int32 → Int32 → MH → Res) (hrc4 : ∀ x0 x1 x2 h, V K 4 [(0, vR x0), (1, vI x1), (2, vI x2)] [] h (rc4 x0 x1 x2 h)) (x0 : Option Nat) (x1 : Int32) (x2 : Int32) (h : MH) : V K 4 [(0, vR x0), (1, vI x1), (2, vI x2)] [] h (B_L_best_4 rc4 x0 x1 x2 h) := by
  unfold B_L_best_4
  refine V_iload_n (pc := 4) F dL_best_4 2 rfl ?_
  refine V_bipush (pc := 5) F (x := (60 : Int32)) dL_best_5 (by decide) ?_
  refine V_icmp_ge (pc := 7) F 31 dL_best_7 (by decide) ?_ ?_
  · refine V_iconst (pc := 31) F (x := (0 : Int32)) dL_best_31 (by decide) ?_
    refine V_istore_n (pc := 32) F [(2, vI (0 : Int32)), (0, vR x0), (1, vI x1)] dL_best_32 (lt_mx hm (by decide)) rfl ?_
    refine V_sub [1, 2, 0] (L' := [(0, vR x0), (1, vI x1), (2, vI (0 : Int32))]) rfl ?_
    exact vL_L_best_33 F hm fuel x0 x1 (0 : Int32) h
  · refine V_aload_n (pc := 10) F dL_best_10 0 rfl ?_
    refine V_iload_n (pc := 11) F dL_best_11 2 rfl ?_
    refine V_iald (pc := 12) F dL_best_12 ?_
    intro z1
    refine V_iload_n (pc := 13) F dL_best_13 1 rfl ?_
    refine V_icmp_le (pc := 14) F 23 dL_best_14 (by decide) ?_ ?_
    · refine V_iload_n (pc := 23) F dL_best_23 1 rfl ?_
      refine V_sub [0, 2] (L' := [(0, vR x0), (2, vI x2)]) rfl ?_
      exact vB_L_best_24 F hm rc4 hrc4 x0 x2 x1 h
    · refine V_aload_n (pc := 17) F dL_best_17 0 rfl ?_
      refine V_iload_n (pc := 18) F dL_best_18 2 rfl ?_
      refine V_iald (pc := 19) F dL_best_19 ?_
      intro z2
      refine V_goto (pc := 20) F 24 dL_best_20 (by decide) ?_
      refine V_sub [0, 2] (L' := [(0, vR x0), (2, vI x2)]) rfl ?_
      exact vB_L_best_24 F hm rc4 hrc4 x0 x2 z2 h
theorem vL_L_best_4 {K : CT} (F : Fr K cL_best RL (some .int) [] 0 0) (hm : mxL K = 3) (n : Nat) : ∀ x0 x1 x2 h, V K 4 [(0, vR x0), (1, vI x1), (2, vI x2)] [] h (L_L_best_4 n x0 x1 x2 h) := by
  induction n with
  | zero => intros; exact V_none
  | succ n ih => intro x0 x1 x2 h; exact vB_L_best_4 F hm _ ih x0 x1 x2 h
theorem vM_L_best {K : CT} (F : Fr K cL_best RL (some .int) [] 0 0) (hm : mxL K = 3) (x0 : Option Nat) (h : MH) : V K 0 [(0, vR x0)] [] h (M_L_best x0 h) := by
  unfold M_L_best
  refine V_iconst (pc := 0) F (x := (0 : Int32)) dL_best_0 (by decide) ?_
  refine V_istore_n (pc := 1) F [(1, vI (0 : Int32)), (0, vR x0)] dL_best_1 (lt_mx hm (by decide)) rfl ?_
  refine V_iconst (pc := 2) F (x := (0 : Int32)) dL_best_2 (by decide) ?_
  refine V_istore_n (pc := 3) F [(2, vI (0 : Int32)), (1, vI (0 : Int32)), (0, vR x0)] dL_best_3 (lt_mx hm (by decide)) rfl ?_
  refine V_sub [2, 1, 0] (L' := [(0, vR x0), (1, vI (0 : Int32)), (2, vI (0 : Int32))]) rfl ?_
  exact vL_L_best_4 F hm fuel x0 (0 : Int32) (0 : Int32) h
theorem C_L_best (x0 : Option Nat) (h : MH) : CtrM yL_best (WSm yL_best cL_best 3 (some .int)) 0 [vR x0] h (M_L_best x0 h) :=
  CtrM_of (by decide) (Nat.le_of_ble_eq_true rfl) (fun K F hm hi => vM_L_best F hm x0 h)
def M_L_apart (x0 : Int32) (x1 : Int32) (h : MH) : Res := if x0 ≤ x1 then (bnd (x1 - x0) fun z1 => rtI z1 h) else (bnd (x0 - x1) fun z2 => rtI z2 h)
theorem vM_L_apart {K : CT} (F : Fr K cL_apart RL (some .int) [] 0 0) (hm : mxL K = 2) (x0 : Int32) (x1 : Int32) (h : MH) : V K 0 [(0, vI x0), (1, vI x1)] [] h (M_L_apart x0 x1 h) := by
  unfold M_L_apart
  refine V_iload_n (pc := 0) F dL_apart_0 0 rfl ?_
  refine V_iload_n (pc := 1) F dL_apart_1 1 rfl ?_
  refine V_icmp_le (pc := 2) F 11 dL_apart_2 (by decide) ?_ ?_
  · refine V_iload_n (pc := 11) F dL_apart_11 1 rfl ?_
    refine V_iload_n (pc := 12) F dL_apart_12 0 rfl ?_
    refine V_isub (pc := 13) F dL_apart_13 ?_
    intro z1
    exact V_iret (pc := 14) F (Or.inl rfl) dL_apart_14
  · refine V_iload_n (pc := 5) F dL_apart_5 0 rfl ?_
    refine V_iload_n (pc := 6) F dL_apart_6 1 rfl ?_
    refine V_isub (pc := 7) F dL_apart_7 ?_
    intro z2
    refine V_goto (pc := 8) F 14 dL_apart_8 (by decide) ?_
    exact V_iret (pc := 14) F (Or.inl rfl) dL_apart_14
theorem C_L_apart (x0 : Int32) (x1 : Int32) (h : MH) : CtrM yL_apart (WSm yL_apart cL_apart 2 (some .int)) 0 [vI x0, vI x1] h (M_L_apart x0 x1 h) :=
  CtrM_of (by decide) (Nat.le_of_ble_eq_true rfl) (fun K F hm hi => vM_L_apart F hm x0 x1 h)
def B_L_calibrated_106 (rc8 : Int32 → Option Nat → Option Nat → Option Nat → Option Nat → Int32 → MH → Res) (rc16 : Int32 → Option Nat → Option Nat → Option Nat → Option Nat → Int32 → Int32 → MH → Res) (rc38 : Int32 → Option Nat → Option Nat → Option Nat → Option Nat → Int32 → Int32 → Int32 → MH → Res) (x0 : Int32) (x1 : Option Nat) (x2 : Option Nat) (x3 : Option Nat) (x4 : Option Nat) (x5 : Int32) (x6 : Int32) (x7 : Int32) (h : MH) : Res := bnd (x7 + (1)) fun z23 => rc38 x0 x1 x2 x3 x4 x5 x6 z23 h
def B_L_calibrated_38 (rc8 : Int32 → Option Nat → Option Nat → Option Nat → Option Nat → Int32 → MH → Res) (rc16 : Int32 → Option Nat → Option Nat → Option Nat → Option Nat → Int32 → Int32 → MH → Res) (rc38 : Int32 → Option Nat → Option Nat → Option Nat → Option Nat → Int32 → Int32 → Int32 → MH → Res) (x0 : Int32) (x1 : Option Nat) (x2 : Option Nat) (x3 : Option Nat) (x4 : Option Nat) (x5 : Int32) (x6 : Int32) (x7 : Int32) (h : MH) : Res := rdI h x4 20 (5 : Int32) fun z6 => if z6 ≤ x7 then (bnd (x6 + (1)) fun z7 => rc16 x0 x1 x2 x3 x4 x5 z7 h) else (rdI h x3 20 x7 fun z8 => rmI z8 (16 : Int32) fun z9 => if z9 ≠ 0 then (B_L_calibrated_106 rc8 rc16 rc38 x0 x1 x2 x3 x4 x5 x6 x7 h) else (rdI h x1 20 x7 fun z10 => rmI z10 (64 : Int32) fun z11 => rdI h x1 20 x5 fun z12 => rmI z12 (64 : Int32) fun z13 => if z11 ≠ z13 then (B_L_calibrated_106 rc8 rc16 rc38 x0 x1 x2 x3 x4 x5 x6 x7 h) else (rdI h x1 20 x7 fun z14 => dvI z14 (64 : Int32) fun z15 => rdI h x1 20 x5 fun z16 => dvI z16 (64 : Int32) fun z17 => calI (M_L_apart z15 z17 h) fun z18 h19 => if z18 ≠ x6 then (B_L_calibrated_106 rc8 rc16 rc38 x0 x1 x2 x3 x4 x5 x6 x7 h19) else (rdI h19 x2 20 x5 fun z20 => rdI h19 x2 20 x7 fun z21 => bnd (z20 - z21) fun z22 => rtI z22 h19))))
def L_L_calibrated_38 (rc8 : Int32 → Option Nat → Option Nat → Option Nat → Option Nat → Int32 → MH → Res) (rc16 : Int32 → Option Nat → Option Nat → Option Nat → Option Nat → Int32 → Int32 → MH → Res) : Nat → Int32 → Option Nat → Option Nat → Option Nat → Option Nat → Int32 → Int32 → Int32 → MH → Res
  | 0 => fun _ _ _ _ _ _ _ _ _ => none
  | n + 1 => B_L_calibrated_38 rc8 rc16 (L_L_calibrated_38 rc8 rc16 n)
def B_L_calibrated_118 (rc8 : Int32 → Option Nat → Option Nat → Option Nat → Option Nat → Int32 → MH → Res) (x0 : Int32) (x1 : Option Nat) (x2 : Option Nat) (x3 : Option Nat) (x4 : Option Nat) (x5 : Int32) (h : MH) : Res := bnd (x5 + (-1)) fun z24 => rc8 x0 x1 x2 x3 x4 z24 h
def B_L_calibrated_16 (rc8 : Int32 → Option Nat → Option Nat → Option Nat → Option Nat → Int32 → MH → Res) (rc16 : Int32 → Option Nat → Option Nat → Option Nat → Option Nat → Int32 → Int32 → MH → Res) (x0 : Int32) (x1 : Option Nat) (x2 : Option Nat) (x3 : Option Nat) (x4 : Option Nat) (x5 : Int32) (x6 : Int32) (h : MH) : Res := if (3 : Int32) ≤ x6 then (B_L_calibrated_118 rc8 x0 x1 x2 x3 x4 x5 h) else (rdI h x3 20 x5 fun z3 => rmI z3 (16 : Int32) fun z4 => bnd (x0 + (1 : Int32)) fun z5 => if z4 ≠ z5 then (B_L_calibrated_118 rc8 x0 x1 x2 x3 x4 x5 h) else (L_L_calibrated_38 rc8 rc16 fuel x0 x1 x2 x3 x4 x5 x6 (0 : Int32) h))
def L_L_calibrated_16 (rc8 : Int32 → Option Nat → Option Nat → Option Nat → Option Nat → Int32 → MH → Res) : Nat → Int32 → Option Nat → Option Nat → Option Nat → Option Nat → Int32 → Int32 → MH → Res
  | 0 => fun _ _ _ _ _ _ _ _ => none
  | n + 1 => B_L_calibrated_16 rc8 (L_L_calibrated_16 rc8 n)
def B_L_calibrated_8 (rc8 : Int32 → Option Nat → Option Nat → Option Nat → Option Nat → Int32 → MH → Res) (x0 : Int32) (x1 : Option Nat) (x2 : Option Nat) (x3 : Option Nat) (x4 : Option Nat) (x5 : Int32) (h : MH) : Res := if x5 < 0 then (rtI (-2000000003 : Int32) h) else (L_L_calibrated_16 rc8 fuel x0 x1 x2 x3 x4 x5 (0 : Int32) h)
def L_L_calibrated_8 : Nat → Int32 → Option Nat → Option Nat → Option Nat → Option Nat → Int32 → MH → Res
  | 0 => fun _ _ _ _ _ _ _ => none
  | n + 1 => B_L_calibrated_8 (L_L_calibrated_8 n)
def M_L_calibrated (x0 : Int32) (x1 : Option Nat) (x2 : Option Nat) (x3 : Option Nat) (x4 : Option Nat) (h : MH) : Res := rdI h x4 20 (5 : Int32) fun z1 => bnd (z1 - (1 : Int32)) fun z2 => L_L_calibrated_8 fuel x0 x1 x2 x3 x4 z2 h
theorem vB_L_calibrated_106 {K : CT} (F : Fr K cL_calibrated RL (some .int) [] 1 0) (hm : mxL K = 8) (rc8 : Int32 → Option Nat → Option Nat → Option Nat → Option Nat → Int32 → MH → Res) (hrc8 : ∀ x0 x1 x2 x3 x4 x5 h, V K 8 [(0, vI x0), (1, vR x1), (2, vR x2), (3, vR x3), (4, vR x4), (5, vI x5)] [] h (rc8 x0 x1 x2 x3 x4 x5 h)) (rc16 : Int32 → Option Nat → Option Nat → Option Nat → Option Nat → Int32 → Int32 → MH → Res) (hrc16 : ∀ x0 x1 x2 x3 x4 x5 x6 h, V K 16 [(0, vI x0), (1, vR x1), (2, vR x2), (3, vR x3), (4, vR x4), (5, vI x5), (6, vI x6)] [] h (rc16 x0 x1 x2 x3 x4 x5 x6 h)) (rc38 : Int32 → Option Nat → Option Nat → Option Nat → Option Nat → Int32 → Int32 → Int32 → MH → Res) (hrc38 : ∀ x0 x1 x2 x3 x4 x5 x6 x7 h, V K 38 [(0, vI x0), (1, vR x1), (2, vR x2), (3, vR x3), (4, vR x4), (5, vI x5), (6, vI x6), (7, vI x7)] [] h (rc38 x0 x1 x2 x3 x4 x5 x6 x7 h)) (x0 : Int32) (x1 : Option Nat) (x2 : Option Nat) (x3 : Option Nat) (x4 : Option Nat) (x5 : Int32) (x6 : Int32) (x7 : Int32) (h : MH) : V K 106 [(0, vI x0), (1, vR x1), (2, vR x2), (3, vR x3), (4, vR x4), (5, vI x5), (6, vI x6), (7, vI x7)] [] h (B_L_calibrated_106 rc8 rc16 rc38 x0 x1 x2 x3 x4 x5 x6 x7 h) := by
  unfold B_L_calibrated_106
  refine V_iinc (pc := 106) F (fun z23 => [(7, vI z23), (0, vI x0), (1, vR x1), (2, vR x2), (3, vR x3), (4, vR x4), (5, vI x5), (6, vI x6)]) dL_calibrated_106 (lt_mx hm (by decide)) 7 rfl (dx := (1 : Int32)) (by decide) (fun _ => rfl) ?_
  intro z23
  refine V_goto (pc := 109) F 38 dL_calibrated_109 (by decide) ?_
  refine V_sub [1, 2, 3, 4, 5, 6, 7, 0] (L' := [(0, vI x0), (1, vR x1), (2, vR x2), (3, vR x3), (4, vR x4), (5, vI x5), (6, vI x6), (7, vI z23)]) rfl ?_
  exact hrc38 x0 x1 x2 x3 x4 x5 x6 z23 h
theorem vB_L_calibrated_38 {K : CT} (F : Fr K cL_calibrated RL (some .int) [] 1 0) (hm : mxL K = 8) (rc8 : Int32 → Option Nat → Option Nat → Option Nat → Option Nat → Int32 → MH → Res) (hrc8 : ∀ x0 x1 x2 x3 x4 x5 h, V K 8 [(0, vI x0), (1, vR x1), (2, vR x2), (3, vR x3), (4, vR x4), (5, vI x5)] [] h (rc8 x0 x1 x2 x3 x4 x5 h)) (rc16 : Int32 → Option Nat → Option Nat → Option Nat → Option Nat → Int32 → Int32 → MH → Res) (hrc16 : ∀ x0 x1 x2 x3 x4 x5 x6 h, V K 16 [(0, vI x0), (1, vR x1), (2, vR x2), (3, vR x3), (4, vR x4), (5, vI x5), (6, vI x6)] [] h (rc16 x0 x1 x2 x3 x4 x5 x6 h)) (rc38 : Int32 → Option Nat → Option Nat → Option Nat → Option Nat → Int32 → Int32 → Int32 → MH → Res) (hrc38 : ∀ x0 x1 x2 x3 x4 x5 x6 x7 h, V K 38 [(0, vI x0), (1, vR x1), (2, vR x2), (3, vR x3), (4, vR x4), (5, vI x5), (6, vI x6), (7, vI x7)] [] h (rc38 x0 x1 x2 x3 x4 x5 x6 x7 h)) (x0 : Int32) (x1 : Option Nat) (x2 : Option Nat) (x3 : Option Nat) (x4 : Option Nat) (x5 : Int32) (x6 : Int32) (x7 : Int32) (h : MH) : V K 38 [(0, vI x0), (1, vR x1), (2, vR x2), (3, vR x3), (4, vR x4), (5, vI x5), (6, vI x6), (7, vI x7)] [] h (B_L_calibrated_38 rc8 rc16 rc38 x0 x1 x2 x3 x4 x5 x6 x7 h) := by
  unfold B_L_calibrated_38
  refine V_iload (pc := 38) F dL_calibrated_38 7 rfl ?_
  refine V_aload (pc := 40) F dL_calibrated_40 4 rfl ?_
  refine V_iconst (pc := 42) F (x := (5 : Int32)) dL_calibrated_42 (by decide) ?_
  refine V_iald (pc := 43) F dL_calibrated_43 ?_
  intro z6
  refine V_icmp_ge (pc := 44) F 112 dL_calibrated_44 (by decide) ?_ ?_
  · refine V_iinc (pc := 112) F (fun z7 => [(6, vI z7), (0, vI x0), (1, vR x1), (2, vR x2), (3, vR x3), (4, vR x4), (5, vI x5), (7, vI x7)]) dL_calibrated_112 (lt_mx hm (by decide)) 6 rfl (dx := (1 : Int32)) (by decide) (fun _ => rfl) ?_
    intro z7
    refine V_goto (pc := 115) F 16 dL_calibrated_115 (by decide) ?_
    refine V_sub [1, 2, 3, 4, 5, 6, 0] (L' := [(0, vI x0), (1, vR x1), (2, vR x2), (3, vR x3), (4, vR x4), (5, vI x5), (6, vI z7)]) rfl ?_
    exact hrc16 x0 x1 x2 x3 x4 x5 z7 h
  · refine V_aload_n (pc := 47) F dL_calibrated_47 3 rfl ?_
    refine V_iload (pc := 48) F dL_calibrated_48 7 rfl ?_
    refine V_iald (pc := 50) F dL_calibrated_50 ?_
    intro z8
    refine V_bipush (pc := 51) F (x := (16 : Int32)) dL_calibrated_51 (by decide) ?_
    refine V_irem (pc := 53) F dL_calibrated_53 ?_
    intro z9
    refine V_if_ne (pc := 54) F 106 dL_calibrated_54 (by decide) ?_ ?_
    · exact vB_L_calibrated_106 F hm rc8 hrc8 rc16 hrc16 rc38 hrc38 x0 x1 x2 x3 x4 x5 x6 x7 h
    · refine V_aload_n (pc := 57) F dL_calibrated_57 1 rfl ?_
      refine V_iload (pc := 58) F dL_calibrated_58 7 rfl ?_
      refine V_iald (pc := 60) F dL_calibrated_60 ?_
      intro z10
      refine V_bipush (pc := 61) F (x := (64 : Int32)) dL_calibrated_61 (by decide) ?_
      refine V_irem (pc := 63) F dL_calibrated_63 ?_
      intro z11
      refine V_aload_n (pc := 64) F dL_calibrated_64 1 rfl ?_
      refine V_iload (pc := 65) F dL_calibrated_65 5 rfl ?_
      refine V_iald (pc := 67) F dL_calibrated_67 ?_
      intro z12
      refine V_bipush (pc := 68) F (x := (64 : Int32)) dL_calibrated_68 (by decide) ?_
      refine V_irem (pc := 70) F dL_calibrated_70 ?_
      intro z13
      refine V_icmp_ne (pc := 71) F 106 dL_calibrated_71 (by decide) ?_ ?_
      · exact vB_L_calibrated_106 F hm rc8 hrc8 rc16 hrc16 rc38 hrc38 x0 x1 x2 x3 x4 x5 x6 x7 h
      · refine V_aload_n (pc := 74) F dL_calibrated_74 1 rfl ?_
        refine V_iload (pc := 75) F dL_calibrated_75 7 rfl ?_
        refine V_iald (pc := 77) F dL_calibrated_77 ?_
        intro z14
        refine V_bipush (pc := 78) F (x := (64 : Int32)) dL_calibrated_78 (by decide) ?_
        refine V_idiv (pc := 80) F dL_calibrated_80 ?_
        intro z15
        refine V_aload_n (pc := 81) F dL_calibrated_81 1 rfl ?_
        refine V_iload (pc := 82) F dL_calibrated_82 5 rfl ?_
        refine V_iald (pc := 84) F dL_calibrated_84 ?_
        intro z16
        refine V_bipush (pc := 85) F (x := (64 : Int32)) dL_calibrated_85 (by decide) ?_
        refine V_idiv (pc := 87) F dL_calibrated_87 ?_
        intro z17
        refine V_cSM (pc := 88) F (as := [vI z15, vI z17]) (C_L_apart z15 z17 h) w_L_apart g_st_L_apart g_ml_RL_78 (by decide) (rest := []) rfl rfl (Nat.le_of_ble_eq_true rfl) dL_calibrated_88 (k_I fun z18 h19 => ?_)
        refine V_iload (pc := 91) F dL_calibrated_91 6 rfl ?_
        refine V_icmp_ne (pc := 93) F 106 dL_calibrated_93 (by decide) ?_ ?_
        · exact vB_L_calibrated_106 F hm rc8 hrc8 rc16 hrc16 rc38 hrc38 x0 x1 x2 x3 x4 x5 x6 x7 h19
        · refine V_aload_n (pc := 96) F dL_calibrated_96 2 rfl ?_
          refine V_iload (pc := 97) F dL_calibrated_97 5 rfl ?_
          refine V_iald (pc := 99) F dL_calibrated_99 ?_
          intro z20
          refine V_aload_n (pc := 100) F dL_calibrated_100 2 rfl ?_
          refine V_iload (pc := 101) F dL_calibrated_101 7 rfl ?_
          refine V_iald (pc := 103) F dL_calibrated_103 ?_
          intro z21
          refine V_isub (pc := 104) F dL_calibrated_104 ?_
          intro z22
          exact V_iret (pc := 105) F (Or.inl rfl) dL_calibrated_105
theorem vL_L_calibrated_38 {K : CT} (F : Fr K cL_calibrated RL (some .int) [] 1 0) (hm : mxL K = 8) (rc8 : Int32 → Option Nat → Option Nat → Option Nat → Option Nat → Int32 → MH → Res) (hrc8 : ∀ x0 x1 x2 x3 x4 x5 h, V K 8 [(0, vI x0), (1, vR x1), (2, vR x2), (3, vR x3), (4, vR x4), (5, vI x5)] [] h (rc8 x0 x1 x2 x3 x4 x5 h)) (rc16 : Int32 → Option Nat → Option Nat → Option Nat → Option Nat → Int32 → Int32 → MH → Res) (hrc16 : ∀ x0 x1 x2 x3 x4 x5 x6 h, V K 16 [(0, vI x0), (1, vR x1), (2, vR x2), (3, vR x3), (4, vR x4), (5, vI x5), (6, vI x6)] [] h (rc16 x0 x1 x2 x3 x4 x5 x6 h)) (n : Nat) : ∀ x0 x1 x2 x3 x4 x5 x6 x7 h, V K 38 [(0, vI x0), (1, vR x1), (2, vR x2), (3, vR x3), (4, vR x4), (5, vI x5), (6, vI x6), (7, vI x7)] [] h (L_L_calibrated_38 rc8 rc16 n x0 x1 x2 x3 x4 x5 x6 x7 h) := by
  induction n with
  | zero => intros; exact V_none
  | succ n ih => intro x0 x1 x2 x3 x4 x5 x6 x7 h; exact vB_L_calibrated_38 F hm rc8 hrc8 rc16 hrc16 _ ih x0 x1 x2 x3 x4 x5 x6 x7 h
theorem vB_L_calibrated_118 {K : CT} (F : Fr K cL_calibrated RL (some .int) [] 1 0) (hm : mxL K = 8) (rc8 : Int32 → Option Nat → Option Nat → Option Nat → Option Nat → Int32 → MH → Res) (hrc8 : ∀ x0 x1 x2 x3 x4 x5 h, V K 8 [(0, vI x0), (1, vR x1), (2, vR x2), (3, vR x3), (4, vR x4), (5, vI x5)] [] h (rc8 x0 x1 x2 x3 x4 x5 h)) (x0 : Int32) (x1 : Option Nat) (x2 : Option Nat) (x3 : Option Nat) (x4 : Option Nat) (x5 : Int32) (h : MH) : V K 118 [(0, vI x0), (1, vR x1), (2, vR x2), (3, vR x3), (4, vR x4), (5, vI x5)] [] h (B_L_calibrated_118 rc8 x0 x1 x2 x3 x4 x5 h) := by
  unfold B_L_calibrated_118
  refine V_iinc (pc := 118) F (fun z24 => [(5, vI z24), (0, vI x0), (1, vR x1), (2, vR x2), (3, vR x3), (4, vR x4)]) dL_calibrated_118 (lt_mx hm (by decide)) 5 rfl (dx := (-1 : Int32)) (by decide) (fun _ => rfl) ?_
  intro z24
  refine V_goto (pc := 121) F 8 dL_calibrated_121 (by decide) ?_
  refine V_sub [1, 2, 3, 4, 5, 0] (L' := [(0, vI x0), (1, vR x1), (2, vR x2), (3, vR x3), (4, vR x4), (5, vI z24)]) rfl ?_
  exact hrc8 x0 x1 x2 x3 x4 z24 h
theorem vB_L_calibrated_16 {K : CT} (F : Fr K cL_calibrated RL (some .int) [] 1 0) (hm : mxL K = 8) (rc8 : Int32 → Option Nat → Option Nat → Option Nat → Option Nat → Int32 → MH → Res) (hrc8 : ∀ x0 x1 x2 x3 x4 x5 h, V K 8 [(0, vI x0), (1, vR x1), (2, vR x2), (3, vR x3), (4, vR x4), (5, vI x5)] [] h (rc8 x0 x1 x2 x3 x4 x5 h)) (rc16 : Int32 → Option Nat → Option Nat → Option Nat → Option Nat → Int32 → Int32 → MH → Res) (hrc16 : ∀ x0 x1 x2 x3 x4 x5 x6 h, V K 16 [(0, vI x0), (1, vR x1), (2, vR x2), (3, vR x3), (4, vR x4), (5, vI x5), (6, vI x6)] [] h (rc16 x0 x1 x2 x3 x4 x5 x6 h)) (x0 : Int32) (x1 : Option Nat) (x2 : Option Nat) (x3 : Option Nat) (x4 : Option Nat) (x5 : Int32) (x6 : Int32) (h : MH) : V K 16 [(0, vI x0), (1, vR x1), (2, vR x2), (3, vR x3), (4, vR x4), (5, vI x5), (6, vI x6)] [] h (B_L_calibrated_16 rc8 rc16 x0 x1 x2 x3 x4 x5 x6 h) := by
  unfold B_L_calibrated_16
  refine V_iload (pc := 16) F dL_calibrated_16 6 rfl ?_
  refine V_iconst (pc := 18) F (x := (3 : Int32)) dL_calibrated_18 (by decide) ?_
  refine V_icmp_ge (pc := 19) F 118 dL_calibrated_19 (by decide) ?_ ?_
  · refine V_sub [0, 1, 2, 3, 4, 5] (L' := [(0, vI x0), (1, vR x1), (2, vR x2), (3, vR x3), (4, vR x4), (5, vI x5)]) rfl ?_
    exact vB_L_calibrated_118 F hm rc8 hrc8 x0 x1 x2 x3 x4 x5 h
  · refine V_aload_n (pc := 22) F dL_calibrated_22 3 rfl ?_
    refine V_iload (pc := 23) F dL_calibrated_23 5 rfl ?_
    refine V_iald (pc := 25) F dL_calibrated_25 ?_
    intro z3
    refine V_bipush (pc := 26) F (x := (16 : Int32)) dL_calibrated_26 (by decide) ?_
    refine V_irem (pc := 28) F dL_calibrated_28 ?_
    intro z4
    refine V_iload_n (pc := 29) F dL_calibrated_29 0 rfl ?_
    refine V_iconst (pc := 30) F (x := (1 : Int32)) dL_calibrated_30 (by decide) ?_
    refine V_iadd (pc := 31) F dL_calibrated_31 ?_
    intro z5
    refine V_icmp_ne (pc := 32) F 118 dL_calibrated_32 (by decide) ?_ ?_
    · refine V_sub [0, 1, 2, 3, 4, 5] (L' := [(0, vI x0), (1, vR x1), (2, vR x2), (3, vR x3), (4, vR x4), (5, vI x5)]) rfl ?_
      exact vB_L_calibrated_118 F hm rc8 hrc8 x0 x1 x2 x3 x4 x5 h
    · refine V_iconst (pc := 35) F (x := (0 : Int32)) dL_calibrated_35 (by decide) ?_
      refine V_istore (pc := 36) F [(7, vI (0 : Int32)), (0, vI x0), (1, vR x1), (2, vR x2), (3, vR x3), (4, vR x4), (5, vI x5), (6, vI x6)] dL_calibrated_36 (lt_mx hm (by decide)) rfl ?_
      refine V_sub [1, 2, 3, 4, 5, 6, 7, 0] (L' := [(0, vI x0), (1, vR x1), (2, vR x2), (3, vR x3), (4, vR x4), (5, vI x5), (6, vI x6), (7, vI (0 : Int32))]) rfl ?_
      exact vL_L_calibrated_38 F hm rc8 hrc8 rc16 hrc16 fuel x0 x1 x2 x3 x4 x5 x6 (0 : Int32) h
theorem vL_L_calibrated_16 {K : CT} (F : Fr K cL_calibrated RL (some .int) [] 1 0) (hm : mxL K = 8) (rc8 : Int32 → Option Nat → Option Nat → Option Nat → Option Nat → Int32 → MH → Res) (hrc8 : ∀ x0 x1 x2 x3 x4 x5 h, V K 8 [(0, vI x0), (1, vR x1), (2, vR x2), (3, vR x3), (4, vR x4), (5, vI x5)] [] h (rc8 x0 x1 x2 x3 x4 x5 h)) (n : Nat) : ∀ x0 x1 x2 x3 x4 x5 x6 h, V K 16 [(0, vI x0), (1, vR x1), (2, vR x2), (3, vR x3), (4, vR x4), (5, vI x5), (6, vI x6)] [] h (L_L_calibrated_16 rc8 n x0 x1 x2 x3 x4 x5 x6 h) := by
  induction n with
  | zero => intros; exact V_none
  | succ n ih => intro x0 x1 x2 x3 x4 x5 x6 h; exact vB_L_calibrated_16 F hm rc8 hrc8 _ ih x0 x1 x2 x3 x4 x5 x6 h
theorem vB_L_calibrated_8 {K : CT} (F : Fr K cL_calibrated RL (some .int) [] 1 0) (hm : mxL K = 8) (rc8 : Int32 → Option Nat → Option Nat → Option Nat → Option Nat → Int32 → MH → Res) (hrc8 : ∀ x0 x1 x2 x3 x4 x5 h, V K 8 [(0, vI x0), (1, vR x1), (2, vR x2), (3, vR x3), (4, vR x4), (5, vI x5)] [] h (rc8 x0 x1 x2 x3 x4 x5 h)) (x0 : Int32) (x1 : Option Nat) (x2 : Option Nat) (x3 : Option Nat) (x4 : Option Nat) (x5 : Int32) (h : MH) : V K 8 [(0, vI x0), (1, vR x1), (2, vR x2), (3, vR x3), (4, vR x4), (5, vI x5)] [] h (B_L_calibrated_8 rc8 x0 x1 x2 x3 x4 x5 h) := by
  unfold B_L_calibrated_8
  refine V_iload (pc := 8) F dL_calibrated_8 5 rfl ?_
  refine V_if_lt (pc := 10) F 124 dL_calibrated_10 (by decide) ?_ ?_
  · refine V_ldc (pc := 124) F (x := (-2000000003 : Int32)) g_co_RL_50 dL_calibrated_124 ?_
    exact V_iret (pc := 126) F (Or.inl rfl) dL_calibrated_126
  · refine V_iconst (pc := 13) F (x := (0 : Int32)) dL_calibrated_13 (by decide) ?_
    refine V_istore (pc := 14) F [(6, vI (0 : Int32)), (0, vI x0), (1, vR x1), (2, vR x2), (3, vR x3), (4, vR x4), (5, vI x5)] dL_calibrated_14 (lt_mx hm (by decide)) rfl ?_
    refine V_sub [1, 2, 3, 4, 5, 6, 0] (L' := [(0, vI x0), (1, vR x1), (2, vR x2), (3, vR x3), (4, vR x4), (5, vI x5), (6, vI (0 : Int32))]) rfl ?_
    exact vL_L_calibrated_16 F hm rc8 hrc8 fuel x0 x1 x2 x3 x4 x5 (0 : Int32) h
theorem vL_L_calibrated_8 {K : CT} (F : Fr K cL_calibrated RL (some .int) [] 1 0) (hm : mxL K = 8) (n : Nat) : ∀ x0 x1 x2 x3 x4 x5 h, V K 8 [(0, vI x0), (1, vR x1), (2, vR x2), (3, vR x3), (4, vR x4), (5, vI x5)] [] h (L_L_calibrated_8 n x0 x1 x2 x3 x4 x5 h) := by
  induction n with
  | zero => intros; exact V_none
  | succ n ih => intro x0 x1 x2 x3 x4 x5 h; exact vB_L_calibrated_8 F hm _ ih x0 x1 x2 x3 x4 x5 h
theorem vM_L_calibrated {K : CT} (F : Fr K cL_calibrated RL (some .int) [] 1 0) (hm : mxL K = 8) (x0 : Int32) (x1 : Option Nat) (x2 : Option Nat) (x3 : Option Nat) (x4 : Option Nat) (h : MH) : V K 0 [(0, vI x0), (1, vR x1), (2, vR x2), (3, vR x3), (4, vR x4)] [] h (M_L_calibrated x0 x1 x2 x3 x4 h) := by
  unfold M_L_calibrated
  refine V_aload (pc := 0) F dL_calibrated_0 4 rfl ?_
  refine V_iconst (pc := 2) F (x := (5 : Int32)) dL_calibrated_2 (by decide) ?_
  refine V_iald (pc := 3) F dL_calibrated_3 ?_
  intro z1
  refine V_iconst (pc := 4) F (x := (1 : Int32)) dL_calibrated_4 (by decide) ?_
  refine V_isub (pc := 5) F dL_calibrated_5 ?_
  intro z2
  refine V_istore (pc := 6) F [(5, vI z2), (0, vI x0), (1, vR x1), (2, vR x2), (3, vR x3), (4, vR x4)] dL_calibrated_6 (lt_mx hm (by decide)) rfl ?_
  refine V_sub [1, 2, 3, 4, 5, 0] (L' := [(0, vI x0), (1, vR x1), (2, vR x2), (3, vR x3), (4, vR x4), (5, vI z2)]) rfl ?_
  exact vL_L_calibrated_8 F hm fuel x0 x1 x2 x3 x4 z2 h
theorem C_L_calibrated (x0 : Int32) (x1 : Option Nat) (x2 : Option Nat) (x3 : Option Nat) (x4 : Option Nat) (h : MH) : CtrM yL_calibrated (WSm yL_calibrated cL_calibrated 8 (some .int)) 1 [vI x0, vR x1, vR x2, vR x3, vR x4] h (M_L_calibrated x0 x1 x2 x3 x4 h) :=
  CtrM_of (by decide) (Nat.le_of_ble_eq_true rfl) (fun K F hm hi => vM_L_calibrated F hm x0 x1 x2 x3 x4 h)
def B_L_flag_18 (x0 : Int32) (x2 : Option Nat) (h : MH) : Res := rdI h x2 20 x0 fun z7 => dvI z7 (16 : Int32) fun z8 => if z8 ≤ 0 then (rtI (0 : Int32) h) else (rdI h x2 20 x0 fun z9 => dvI z9 (16 : Int32) fun z10 => bnd (z10 - (1 : Int32)) fun z11 => rtI z11 h)
def B_L_flag_196 (h : MH) : Res := rtI (1 : Int32) h
def B_L_flag_168 (x0 : Int32) (x1 : Option Nat) (x3 : Option Nat) (x6 : Int32) (s0 : Int32) (h : MH) : Res := rdI h x1 20 x0 fun z32 => bnd (z32 - x6) fun z33 => rdI h x3 20 (7 : Int32) fun z34 => if z34 < z33 then (B_L_flag_196 h) else (rdI h x1 20 x0 fun z35 => bnd (s0 - z35) fun z36 => rdI h x3 20 (7 : Int32) fun z37 => if z36 ≤ z37 then (rtI (0 : Int32) h) else (B_L_flag_196 h))
def B_L_flag_144 (x0 : Int32) (x1 : Option Nat) (x3 : Option Nat) (x4 : Int32) (x5 : Int32) (s0 : Int32) (h : MH) : Res := rdI h x1 20 x4 fun z28 => rdI h x1 20 x5 fun z29 => if z29 ≤ z28 then (rdI h x1 20 x5 fun z30 => B_L_flag_168 x0 x1 x3 s0 z30 h) else (rdI h x1 20 x4 fun z31 => B_L_flag_168 x0 x1 x3 s0 z31 h)
def B_L_flag_107 (x0 : Int32) (x1 : Option Nat) (x3 : Option Nat) (x4 : Int32) (x5 : Int32) (h : MH) : Res := if x4 < 0 then (rtI (0 : Int32) h) else (rdI h x3 20 (5 : Int32) fun z23 => if x5 ≠ z23 then (rdI h x1 20 x4 fun z24 => rdI h x1 20 x5 fun z25 => if z24 ≤ z25 then (rdI h x1 20 x5 fun z26 => B_L_flag_144 x0 x1 x3 x4 x5 z26 h) else (rdI h x1 20 x4 fun z27 => B_L_flag_144 x0 x1 x3 x4 x5 z27 h)) else (rtI (0 : Int32) h))
def B_L_flag_77 (rc77 : Int32 → Option Nat → Option Nat → Option Nat → Int32 → Int32 → MH → Res) (x0 : Int32) (x1 : Option Nat) (x2 : Option Nat) (x3 : Option Nat) (x4 : Int32) (x5 : Int32) (h : MH) : Res := rdI h x3 20 (5 : Int32) fun z17 => if z17 ≤ x5 then (B_L_flag_107 x0 x1 x3 x4 x5 h) else (rdI h x2 20 x5 fun z18 => rmI z18 (16 : Int32) fun z19 => rdI h x2 20 x0 fun z20 => rmI z20 (16 : Int32) fun z21 => if z19 = z21 then (B_L_flag_107 x0 x1 x3 x4 x5 h) else (bnd (x5 + (1)) fun z22 => rc77 x0 x1 x2 x3 x4 z22 h))
def L_L_flag_77 : Nat → Int32 → Option Nat → Option Nat → Option Nat → Int32 → Int32 → MH → Res
  | 0 => fun _ _ _ _ _ _ _ => none
  | n + 1 => B_L_flag_77 (L_L_flag_77 n)
def B_L_flag_50 (rc50 : Int32 → Option Nat → Option Nat → Option Nat → Int32 → Int32 → MH → Res) (x0 : Int32) (x1 : Option Nat) (x2 : Option Nat) (x3 : Option Nat) (x4 : Int32) (x5 : Int32) (h : MH) : Res := if x4 < 0 then (L_L_flag_77 fuel x0 x1 x2 x3 x4 x5 h) else (rdI h x2 20 x4 fun z12 => rmI z12 (16 : Int32) fun z13 => rdI h x2 20 x0 fun z14 => rmI z14 (16 : Int32) fun z15 => if z13 = z15 then (L_L_flag_77 fuel x0 x1 x2 x3 x4 x5 h) else (bnd (x4 + (-1)) fun z16 => rc50 x0 x1 x2 x3 z16 x5 h))
def L_L_flag_50 : Nat → Int32 → Option Nat → Option Nat → Option Nat → Int32 → Int32 → MH → Res
  | 0 => fun _ _ _ _ _ _ _ => none
  | n + 1 => B_L_flag_50 (L_L_flag_50 n)
def M_L_flag (x0 : Int32) (x1 : Option Nat) (x2 : Option Nat) (x3 : Option Nat) (h : MH) : Res := rdI h x2 20 x0 fun z1 => dvI z1 (16 : Int32) fun z2 => if 0 < z2 then (B_L_flag_18 x0 x2 h) else (rdI h x2 20 x0 fun z3 => rmI z3 (16 : Int32) fun z4 => if z4 ≠ 0 then (bnd (x0 - (1 : Int32)) fun z5 => bnd (x0 + (1 : Int32)) fun z6 => L_L_flag_50 fuel x0 x1 x2 x3 z5 z6 h) else (B_L_flag_18 x0 x2 h))
theorem vB_L_flag_18 {K : CT} (F : Fr K cL_flag RL (some .int) [] 0 0) (hm : mxL K = 8) (x0 : Int32) (x2 : Option Nat) (h : MH) : V K 18 [(0, vI x0), (2, vR x2)] [] h (B_L_flag_18 x0 x2 h) := by
  unfold B_L_flag_18
  refine V_aload_n (pc := 18) F dL_flag_18 1 rfl ?_
  refine V_iload_n (pc := 19) F dL_flag_19 0 rfl ?_
  refine V_iald (pc := 20) F dL_flag_20 ?_
  intro z7
  refine V_bipush (pc := 21) F (x := (16 : Int32)) dL_flag_21 (by decide) ?_
  refine V_idiv (pc := 23) F dL_flag_23 ?_
  intro z8
  refine V_if_le (pc := 24) F 38 dL_flag_24 (by decide) ?_ ?_
  · refine V_iconst (pc := 38) F (x := (0 : Int32)) dL_flag_38 (by decide) ?_
    exact V_iret (pc := 39) F (Or.inl rfl) dL_flag_39
  · refine V_aload_n (pc := 27) F dL_flag_27 1 rfl ?_
    refine V_iload_n (pc := 28) F dL_flag_28 0 rfl ?_
    refine V_iald (pc := 29) F dL_flag_29 ?_
    intro z9
    refine V_bipush (pc := 30) F (x := (16 : Int32)) dL_flag_30 (by decide) ?_
    refine V_idiv (pc := 32) F dL_flag_32 ?_
    intro z10
    refine V_iconst (pc := 33) F (x := (1 : Int32)) dL_flag_33 (by decide) ?_
    refine V_isub (pc := 34) F dL_flag_34 ?_
    intro z11
    refine V_goto (pc := 35) F 39 dL_flag_35 (by decide) ?_
    exact V_iret (pc := 39) F (Or.inl rfl) dL_flag_39
theorem vB_L_flag_196 {K : CT} (F : Fr K cL_flag RL (some .int) [] 0 0) (hm : mxL K = 8) (h : MH) : V K 196 [] [] h (B_L_flag_196 h) := by
  unfold B_L_flag_196
  refine V_iconst (pc := 196) F (x := (1 : Int32)) dL_flag_196 (by decide) ?_
  refine V_goto (pc := 197) F 201 dL_flag_197 (by decide) ?_
  exact V_iret (pc := 201) F (Or.inl rfl) dL_flag_201
theorem vB_L_flag_168 {K : CT} (F : Fr K cL_flag RL (some .int) [] 0 0) (hm : mxL K = 8) (x0 : Int32) (x1 : Option Nat) (x3 : Option Nat) (x6 : Int32) (s0 : Int32) (h : MH) : V K 168 [(0, vI x0), (1, vR x1), (3, vR x3), (6, vI x6)] [vI s0] h (B_L_flag_168 x0 x1 x3 x6 s0 h) := by
  unfold B_L_flag_168
  refine V_istore (pc := 168) F [(7, vI s0), (0, vI x0), (1, vR x1), (3, vR x3), (6, vI x6)] dL_flag_168 (lt_mx hm (by decide)) rfl ?_
  refine V_aload_n (pc := 170) F dL_flag_170 2 rfl ?_
  refine V_iload_n (pc := 171) F dL_flag_171 1 rfl ?_
  refine V_iald (pc := 172) F dL_flag_172 ?_
  intro z32
  refine V_iload (pc := 173) F dL_flag_173 4 rfl ?_
  refine V_isub (pc := 175) F dL_flag_175 ?_
  intro z33
  refine V_aload_n (pc := 176) F dL_flag_176 3 rfl ?_
  refine V_bipush (pc := 177) F (x := (7 : Int32)) dL_flag_177 (by decide) ?_
  refine V_iald (pc := 179) F dL_flag_179 ?_
  intro z34
  refine V_icmp_gt (pc := 180) F 196 dL_flag_180 (by decide) ?_ ?_
  · refine V_sub [] (L' := []) rfl ?_
    exact vB_L_flag_196 F hm h
  · refine V_iload (pc := 183) F dL_flag_183 0 rfl ?_
    refine V_aload_n (pc := 185) F dL_flag_185 2 rfl ?_
    refine V_iload_n (pc := 186) F dL_flag_186 1 rfl ?_
    refine V_iald (pc := 187) F dL_flag_187 ?_
    intro z35
    refine V_isub (pc := 188) F dL_flag_188 ?_
    intro z36
    refine V_aload_n (pc := 189) F dL_flag_189 3 rfl ?_
    refine V_bipush (pc := 190) F (x := (7 : Int32)) dL_flag_190 (by decide) ?_
    refine V_iald (pc := 192) F dL_flag_192 ?_
    intro z37
    refine V_icmp_le (pc := 193) F 200 dL_flag_193 (by decide) ?_ ?_
    · refine V_iconst (pc := 200) F (x := (0 : Int32)) dL_flag_200 (by decide) ?_
      exact V_iret (pc := 201) F (Or.inl rfl) dL_flag_201
    · refine V_sub [] (L' := []) rfl ?_
      exact vB_L_flag_196 F hm h
theorem vB_L_flag_144 {K : CT} (F : Fr K cL_flag RL (some .int) [] 0 0) (hm : mxL K = 8) (x0 : Int32) (x1 : Option Nat) (x3 : Option Nat) (x4 : Int32) (x5 : Int32) (s0 : Int32) (h : MH) : V K 144 [(0, vI x0), (1, vR x1), (3, vR x3), (4, vI x4), (5, vI x5)] [vI s0] h (B_L_flag_144 x0 x1 x3 x4 x5 s0 h) := by
  unfold B_L_flag_144
  refine V_istore (pc := 144) F [(6, vI s0), (0, vI x0), (1, vR x1), (3, vR x3), (4, vI x4), (5, vI x5)] dL_flag_144 (lt_mx hm (by decide)) rfl ?_
  refine V_aload_n (pc := 146) F dL_flag_146 2 rfl ?_
  refine V_iload (pc := 147) F dL_flag_147 4 rfl ?_
  refine V_iald (pc := 149) F dL_flag_149 ?_
  intro z28
  refine V_aload_n (pc := 150) F dL_flag_150 2 rfl ?_
  refine V_iload (pc := 151) F dL_flag_151 5 rfl ?_
  refine V_iald (pc := 153) F dL_flag_153 ?_
  intro z29
  refine V_icmp_ge (pc := 154) F 164 dL_flag_154 (by decide) ?_ ?_
  · refine V_aload_n (pc := 164) F dL_flag_164 2 rfl ?_
    refine V_iload (pc := 165) F dL_flag_165 5 rfl ?_
    refine V_iald (pc := 167) F dL_flag_167 ?_
    intro z30
    refine V_sub [1, 2, 3, 0] (L' := [(0, vI x0), (1, vR x1), (3, vR x3), (6, vI s0)]) rfl ?_
    exact vB_L_flag_168 F hm x0 x1 x3 s0 z30 h
  · refine V_aload_n (pc := 157) F dL_flag_157 2 rfl ?_
    refine V_iload (pc := 158) F dL_flag_158 4 rfl ?_
    refine V_iald (pc := 160) F dL_flag_160 ?_
    intro z31
    refine V_goto (pc := 161) F 168 dL_flag_161 (by decide) ?_
    refine V_sub [1, 2, 3, 0] (L' := [(0, vI x0), (1, vR x1), (3, vR x3), (6, vI s0)]) rfl ?_
    exact vB_L_flag_168 F hm x0 x1 x3 s0 z31 h
theorem vB_L_flag_107 {K : CT} (F : Fr K cL_flag RL (some .int) [] 0 0) (hm : mxL K = 8) (x0 : Int32) (x1 : Option Nat) (x3 : Option Nat) (x4 : Int32) (x5 : Int32) (h : MH) : V K 107 [(0, vI x0), (1, vR x1), (3, vR x3), (4, vI x4), (5, vI x5)] [] h (B_L_flag_107 x0 x1 x3 x4 x5 h) := by
  unfold B_L_flag_107
  refine V_iload (pc := 107) F dL_flag_107 3 rfl ?_
  refine V_if_lt (pc := 109) F 120 dL_flag_109 (by decide) ?_ ?_
  · refine V_iconst (pc := 120) F (x := (0 : Int32)) dL_flag_120 (by decide) ?_
    exact V_iret (pc := 121) F (Or.inl rfl) dL_flag_121
  · refine V_iload (pc := 112) F dL_flag_112 4 rfl ?_
    refine V_aload_n (pc := 114) F dL_flag_114 2 rfl ?_
    refine V_iconst (pc := 115) F (x := (5 : Int32)) dL_flag_115 (by decide) ?_
    refine V_iald (pc := 116) F dL_flag_116 ?_
    intro z23
    refine V_icmp_ne (pc := 117) F 122 dL_flag_117 (by decide) ?_ ?_
    · refine V_aload_n (pc := 122) F dL_flag_122 1 rfl ?_
      refine V_iload (pc := 123) F dL_flag_123 3 rfl ?_
      refine V_iald (pc := 125) F dL_flag_125 ?_
      intro z24
      refine V_aload_n (pc := 126) F dL_flag_126 1 rfl ?_
      refine V_iload (pc := 127) F dL_flag_127 4 rfl ?_
      refine V_iald (pc := 129) F dL_flag_129 ?_
      intro z25
      refine V_icmp_le (pc := 130) F 140 dL_flag_130 (by decide) ?_ ?_
      · refine V_aload_n (pc := 140) F dL_flag_140 1 rfl ?_
        refine V_iload (pc := 141) F dL_flag_141 4 rfl ?_
        refine V_iald (pc := 143) F dL_flag_143 ?_
        intro z26
        exact vB_L_flag_144 F hm x0 x1 x3 x4 x5 z26 h
      · refine V_aload_n (pc := 133) F dL_flag_133 1 rfl ?_
        refine V_iload (pc := 134) F dL_flag_134 3 rfl ?_
        refine V_iald (pc := 136) F dL_flag_136 ?_
        intro z27
        refine V_goto (pc := 137) F 144 dL_flag_137 (by decide) ?_
        exact vB_L_flag_144 F hm x0 x1 x3 x4 x5 z27 h
    · refine V_iconst (pc := 120) F (x := (0 : Int32)) dL_flag_120 (by decide) ?_
      exact V_iret (pc := 121) F (Or.inl rfl) dL_flag_121
theorem vB_L_flag_77 {K : CT} (F : Fr K cL_flag RL (some .int) [] 0 0) (hm : mxL K = 8) (rc77 : Int32 → Option Nat → Option Nat → Option Nat → Int32 → Int32 → MH → Res) (hrc77 : ∀ x0 x1 x2 x3 x4 x5 h, V K 77 [(0, vI x0), (1, vR x1), (2, vR x2), (3, vR x3), (4, vI x4), (5, vI x5)] [] h (rc77 x0 x1 x2 x3 x4 x5 h)) (x0 : Int32) (x1 : Option Nat) (x2 : Option Nat) (x3 : Option Nat) (x4 : Int32) (x5 : Int32) (h : MH) : V K 77 [(0, vI x0), (1, vR x1), (2, vR x2), (3, vR x3), (4, vI x4), (5, vI x5)] [] h (B_L_flag_77 rc77 x0 x1 x2 x3 x4 x5 h) := by
  unfold B_L_flag_77
  refine V_iload (pc := 77) F dL_flag_77 5 rfl ?_
  refine V_aload_n (pc := 79) F dL_flag_79 3 rfl ?_
  refine V_iconst (pc := 80) F (x := (5 : Int32)) dL_flag_80 (by decide) ?_
  refine V_iald (pc := 81) F dL_flag_81 ?_
  intro z17
  refine V_icmp_ge (pc := 82) F 107 dL_flag_82 (by decide) ?_ ?_
  · refine V_sub [0, 1, 3, 4, 5] (L' := [(0, vI x0), (1, vR x1), (3, vR x3), (4, vI x4), (5, vI x5)]) rfl ?_
    exact vB_L_flag_107 F hm x0 x1 x3 x4 x5 h
  · refine V_aload_n (pc := 85) F dL_flag_85 2 rfl ?_
    refine V_iload (pc := 86) F dL_flag_86 5 rfl ?_
    refine V_iald (pc := 88) F dL_flag_88 ?_
    intro z18
    refine V_bipush (pc := 89) F (x := (16 : Int32)) dL_flag_89 (by decide) ?_
    refine V_irem (pc := 91) F dL_flag_91 ?_
    intro z19
    refine V_aload_n (pc := 92) F dL_flag_92 2 rfl ?_
    refine V_iload_n (pc := 93) F dL_flag_93 0 rfl ?_
    refine V_iald (pc := 94) F dL_flag_94 ?_
    intro z20
    refine V_bipush (pc := 95) F (x := (16 : Int32)) dL_flag_95 (by decide) ?_
    refine V_irem (pc := 97) F dL_flag_97 ?_
    intro z21
    refine V_icmp_eq (pc := 98) F 107 dL_flag_98 (by decide) ?_ ?_
    · refine V_sub [0, 1, 3, 4, 5] (L' := [(0, vI x0), (1, vR x1), (3, vR x3), (4, vI x4), (5, vI x5)]) rfl ?_
      exact vB_L_flag_107 F hm x0 x1 x3 x4 x5 h
    · refine V_iinc (pc := 101) F (fun z22 => [(5, vI z22), (0, vI x0), (1, vR x1), (2, vR x2), (3, vR x3), (4, vI x4)]) dL_flag_101 (lt_mx hm (by decide)) 5 rfl (dx := (1 : Int32)) (by decide) (fun _ => rfl) ?_
      intro z22
      refine V_goto (pc := 104) F 77 dL_flag_104 (by decide) ?_
      refine V_sub [1, 2, 3, 4, 5, 0] (L' := [(0, vI x0), (1, vR x1), (2, vR x2), (3, vR x3), (4, vI x4), (5, vI z22)]) rfl ?_
      exact hrc77 x0 x1 x2 x3 x4 z22 h
theorem vL_L_flag_77 {K : CT} (F : Fr K cL_flag RL (some .int) [] 0 0) (hm : mxL K = 8) (n : Nat) : ∀ x0 x1 x2 x3 x4 x5 h, V K 77 [(0, vI x0), (1, vR x1), (2, vR x2), (3, vR x3), (4, vI x4), (5, vI x5)] [] h (L_L_flag_77 n x0 x1 x2 x3 x4 x5 h) := by
  induction n with
  | zero => intros; exact V_none
  | succ n ih => intro x0 x1 x2 x3 x4 x5 h; exact vB_L_flag_77 F hm _ ih x0 x1 x2 x3 x4 x5 h
theorem vB_L_flag_50 {K : CT} (F : Fr K cL_flag RL (some .int) [] 0 0) (hm : mxL K = 8) (rc50 : Int32 → Option Nat → Option Nat → Option Nat → Int32 → Int32 → MH → Res) (hrc50 : ∀ x0 x1 x2 x3 x4 x5 h, V K 50 [(0, vI x0), (1, vR x1), (2, vR x2), (3, vR x3), (4, vI x4), (5, vI x5)] [] h (rc50 x0 x1 x2 x3 x4 x5 h)) (x0 : Int32) (x1 : Option Nat) (x2 : Option Nat) (x3 : Option Nat) (x4 : Int32) (x5 : Int32) (h : MH) : V K 50 [(0, vI x0), (1, vR x1), (2, vR x2), (3, vR x3), (4, vI x4), (5, vI x5)] [] h (B_L_flag_50 rc50 x0 x1 x2 x3 x4 x5 h) := by
  unfold B_L_flag_50
  refine V_iload (pc := 50) F dL_flag_50 4 rfl ?_
  refine V_if_lt (pc := 52) F 77 dL_flag_52 (by decide) ?_ ?_
  · exact vL_L_flag_77 F hm fuel x0 x1 x2 x3 x4 x5 h
  · refine V_aload_n (pc := 55) F dL_flag_55 2 rfl ?_
    refine V_iload (pc := 56) F dL_flag_56 4 rfl ?_
    refine V_iald (pc := 58) F dL_flag_58 ?_
    intro z12
    refine V_bipush (pc := 59) F (x := (16 : Int32)) dL_flag_59 (by decide) ?_
    refine V_irem (pc := 61) F dL_flag_61 ?_
    intro z13
    refine V_aload_n (pc := 62) F dL_flag_62 2 rfl ?_
    refine V_iload_n (pc := 63) F dL_flag_63 0 rfl ?_
    refine V_iald (pc := 64) F dL_flag_64 ?_
    intro z14
    refine V_bipush (pc := 65) F (x := (16 : Int32)) dL_flag_65 (by decide) ?_
    refine V_irem (pc := 67) F dL_flag_67 ?_
    intro z15
    refine V_icmp_eq (pc := 68) F 77 dL_flag_68 (by decide) ?_ ?_
    · exact vL_L_flag_77 F hm fuel x0 x1 x2 x3 x4 x5 h
    · refine V_iinc (pc := 71) F (fun z16 => [(4, vI z16), (0, vI x0), (1, vR x1), (2, vR x2), (3, vR x3), (5, vI x5)]) dL_flag_71 (lt_mx hm (by decide)) 4 rfl (dx := (-1 : Int32)) (by decide) (fun _ => rfl) ?_
      intro z16
      refine V_goto (pc := 74) F 50 dL_flag_74 (by decide) ?_
      refine V_sub [1, 2, 3, 4, 0, 5] (L' := [(0, vI x0), (1, vR x1), (2, vR x2), (3, vR x3), (4, vI z16), (5, vI x5)]) rfl ?_
      exact hrc50 x0 x1 x2 x3 z16 x5 h
theorem vL_L_flag_50 {K : CT} (F : Fr K cL_flag RL (some .int) [] 0 0) (hm : mxL K = 8) (n : Nat) : ∀ x0 x1 x2 x3 x4 x5 h, V K 50 [(0, vI x0), (1, vR x1), (2, vR x2), (3, vR x3), (4, vI x4), (5, vI x5)] [] h (L_L_flag_50 n x0 x1 x2 x3 x4 x5 h) := by
  induction n with
  | zero => intros; exact V_none
  | succ n ih => intro x0 x1 x2 x3 x4 x5 h; exact vB_L_flag_50 F hm _ ih x0 x1 x2 x3 x4 x5 h
theorem vM_L_flag {K : CT} (F : Fr K cL_flag RL (some .int) [] 0 0) (hm : mxL K = 8) (x0 : Int32) (x1 : Option Nat) (x2 : Option Nat) (x3 : Option Nat) (h : MH) : V K 0 [(0, vI x0), (1, vR x1), (2, vR x2), (3, vR x3)] [] h (M_L_flag x0 x1 x2 x3 h) := by
  unfold M_L_flag
  refine V_aload_n (pc := 0) F dL_flag_0 2 rfl ?_
  refine V_iload_n (pc := 1) F dL_flag_1 0 rfl ?_
  refine V_iald (pc := 2) F dL_flag_2 ?_
  intro z1
  refine V_bipush (pc := 3) F (x := (16 : Int32)) dL_flag_3 (by decide) ?_
  refine V_idiv (pc := 5) F dL_flag_5 ?_
  intro z2
  refine V_if_gt (pc := 6) F 18 dL_flag_6 (by decide) ?_ ?_
  · refine V_sub [0, 2] (L' := [(0, vI x0), (2, vR x2)]) rfl ?_
    exact vB_L_flag_18 F hm x0 x2 h
  · refine V_aload_n (pc := 9) F dL_flag_9 2 rfl ?_
    refine V_iload_n (pc := 10) F dL_flag_10 0 rfl ?_
    refine V_iald (pc := 11) F dL_flag_11 ?_
    intro z3
    refine V_bipush (pc := 12) F (x := (16 : Int32)) dL_flag_12 (by decide) ?_
    refine V_irem (pc := 14) F dL_flag_14 ?_
    intro z4
    refine V_if_ne (pc := 15) F 40 dL_flag_15 (by decide) ?_ ?_
    · refine V_iload_n (pc := 40) F dL_flag_40 0 rfl ?_
      refine V_iconst (pc := 41) F (x := (1 : Int32)) dL_flag_41 (by decide) ?_
      refine V_isub (pc := 42) F dL_flag_42 ?_
      intro z5
      refine V_istore (pc := 43) F [(4, vI z5), (0, vI x0), (1, vR x1), (2, vR x2), (3, vR x3)] dL_flag_43 (lt_mx hm (by decide)) rfl ?_
      refine V_iload_n (pc := 45) F dL_flag_45 1 rfl ?_
      refine V_iconst (pc := 46) F (x := (1 : Int32)) dL_flag_46 (by decide) ?_
      refine V_iadd (pc := 47) F dL_flag_47 ?_
      intro z6
      refine V_istore (pc := 48) F [(5, vI z6), (4, vI z5), (0, vI x0), (1, vR x1), (2, vR x2), (3, vR x3)] dL_flag_48 (lt_mx hm (by decide)) rfl ?_
      refine V_sub [2, 3, 4, 5, 1, 0] (L' := [(0, vI x0), (1, vR x1), (2, vR x2), (3, vR x3), (4, vI z5), (5, vI z6)]) rfl ?_
      exact vL_L_flag_50 F hm fuel x0 x1 x2 x3 z5 z6 h
    · refine V_sub [0, 2] (L' := [(0, vI x0), (2, vR x2)]) rfl ?_
      exact vB_L_flag_18 F hm x0 x2 h
theorem C_L_flag (x0 : Int32) (x1 : Option Nat) (x2 : Option Nat) (x3 : Option Nat) (h : MH) : CtrM yL_flag (WSm yL_flag cL_flag 8 (some .int)) 0 [vI x0, vR x1, vR x2, vR x3] h (M_L_flag x0 x1 x2 x3 h) :=
  CtrM_of (by decide) (Nat.le_of_ble_eq_true rfl) (fun K F hm hi => vM_L_flag F hm x0 x1 x2 x3 h)
def B_L_way_130 (x2 : Option Nat) (s0 : Int32) (h : MH) : Res := if s0 < 0 then (rtI s0 h) else (rdI h x2 20 s0 fun z7 => if z7 < (8 : Int32) then (rtI s0 h) else (rtI (-1 : Int32) h))
def B_L_way_81 (x0 : Int32) (x1 : Int32) (x2 : Option Nat) (s0 : Int32) (h : MH) : Res := if s0 ≠ 0 then (if x1 ≠ (1 : Int32) then (if x1 ≠ (2 : Int32) then (if x1 ≠ (3 : Int32) then (bnd (x0 - (10 : Int32)) fun z3 => B_L_way_130 x2 z3 h) else (bnd (x0 + (10 : Int32)) fun z4 => B_L_way_130 x2 z4 h)) else (bnd (x0 - (1 : Int32)) fun z5 => B_L_way_130 x2 z5 h)) else (bnd (x0 + (1 : Int32)) fun z6 => B_L_way_130 x2 z6 h)) else (B_L_way_130 x2 (-1 : Int32) h)
def B_L_way_80 (x0 : Int32) (x1 : Int32) (x2 : Option Nat) (h : MH) : Res := B_L_way_81 x0 x1 x2 (0 : Int32) h
def M_L_way (x0 : Int32) (x1 : Int32) (x2 : Option Nat) (h : MH) : Res := rmI x0 (10 : Int32) fun z1 => dvI x0 (10 : Int32) fun z2 => if x1 ≠ (1 : Int32) then (if x1 ≠ (2 : Int32) then (if x1 ≠ (3 : Int32) then (if x1 ≠ (4 : Int32) then (B_L_way_80 x0 x1 x2 h) else (if z2 ≤ 0 then (B_L_way_80 x0 x1 x2 h) else (B_L_way_81 x0 x1 x2 (1 : Int32) h))) else (if (5 : Int32) ≤ z2 then (B_L_way_81 x0 x1 x2 (0 : Int32) h) else (B_L_way_81 x0 x1 x2 (1 : Int32) h))) else (if z1 ≤ 0 then (B_L_way_81 x0 x1 x2 (0 : Int32) h) else (B_L_way_81 x0 x1 x2 (1 : Int32) h))) else (if (9 : Int32) ≤ z1 then (B_L_way_81 x0 x1 x2 (0 : Int32) h) else (B_L_way_81 x0 x1 x2 (1 : Int32) h))
theorem vB_L_way_130 {K : CT} (F : Fr K cL_way RL (some .int) [] 0 0) (hm : mxL K = 7) (x2 : Option Nat) (s0 : Int32) (h : MH) : V K 130 [(2, vR x2)] [vI s0] h (B_L_way_130 x2 s0 h) := by
  unfold B_L_way_130
  refine V_istore (pc := 130) F [(6, vI s0), (2, vR x2)] dL_way_130 (lt_mx hm (by decide)) rfl ?_
  refine V_iload (pc := 132) F dL_way_132 0 rfl ?_
  refine V_if_lt (pc := 134) F 150 dL_way_134 (by decide) ?_ ?_
  · refine V_iload (pc := 150) F dL_way_150 0 rfl ?_
    exact V_iret (pc := 152) F (Or.inl rfl) dL_way_152
  · refine V_aload_n (pc := 137) F dL_way_137 1 rfl ?_
    refine V_iload (pc := 138) F dL_way_138 0 rfl ?_
    refine V_iald (pc := 140) F dL_way_140 ?_
    intro z7
    refine V_bipush (pc := 141) F (x := (8 : Int32)) dL_way_141 (by decide) ?_
    refine V_icmp_lt (pc := 143) F 150 dL_way_143 (by decide) ?_ ?_
    · refine V_iload (pc := 150) F dL_way_150 0 rfl ?_
      exact V_iret (pc := 152) F (Or.inl rfl) dL_way_152
    · refine V_iconst (pc := 146) F (x := (-1 : Int32)) dL_way_146 (by decide) ?_
      refine V_goto (pc := 147) F 152 dL_way_147 (by decide) ?_
      exact V_iret (pc := 152) F (Or.inl rfl) dL_way_152
theorem vB_L_way_81 {K : CT} (F : Fr K cL_way RL (some .int) [] 0 0) (hm : mxL K = 7) (x0 : Int32) (x1 : Int32) (x2 : Option Nat) (s0 : Int32) (h : MH) : V K 81 [(0, vI x0), (1, vI x1), (2, vR x2)] [vI s0] h (B_L_way_81 x0 x1 x2 s0 h) := by
  unfold B_L_way_81
  refine V_istore (pc := 81) F [(5, vI s0), (0, vI x0), (1, vI x1), (2, vR x2)] dL_way_81 (lt_mx hm (by decide)) rfl ?_
  refine V_iload (pc := 83) F dL_way_83 0 rfl ?_
  refine V_if_ne (pc := 85) F 92 dL_way_85 (by decide) ?_ ?_
  · refine V_iload_n (pc := 92) F dL_way_92 2 rfl ?_
    refine V_iconst (pc := 93) F (x := (1 : Int32)) dL_way_93 (by decide) ?_
    refine V_icmp_ne (pc := 94) F 103 dL_way_94 (by decide) ?_ ?_
    · refine V_iload_n (pc := 103) F dL_way_103 2 rfl ?_
      refine V_iconst (pc := 104) F (x := (2 : Int32)) dL_way_104 (by decide) ?_
      refine V_icmp_ne (pc := 105) F 114 dL_way_105 (by decide) ?_ ?_
      · refine V_iload_n (pc := 114) F dL_way_114 2 rfl ?_
        refine V_iconst (pc := 115) F (x := (3 : Int32)) dL_way_115 (by decide) ?_
        refine V_icmp_ne (pc := 116) F 126 dL_way_116 (by decide) ?_ ?_
        · refine V_iload_n (pc := 126) F dL_way_126 1 rfl ?_
          refine V_bipush (pc := 127) F (x := (10 : Int32)) dL_way_127 (by decide) ?_
          refine V_isub (pc := 129) F dL_way_129 ?_
          intro z3
          refine V_sub [3] (L' := [(2, vR x2)]) rfl ?_
          exact vB_L_way_130 F hm x2 z3 h
        · refine V_iload_n (pc := 119) F dL_way_119 1 rfl ?_
          refine V_bipush (pc := 120) F (x := (10 : Int32)) dL_way_120 (by decide) ?_
          refine V_iadd (pc := 122) F dL_way_122 ?_
          intro z4
          refine V_goto (pc := 123) F 130 dL_way_123 (by decide) ?_
          refine V_sub [3] (L' := [(2, vR x2)]) rfl ?_
          exact vB_L_way_130 F hm x2 z4 h
      · refine V_iload_n (pc := 108) F dL_way_108 1 rfl ?_
        refine V_iconst (pc := 109) F (x := (1 : Int32)) dL_way_109 (by decide) ?_
        refine V_isub (pc := 110) F dL_way_110 ?_
        intro z5
        refine V_goto (pc := 111) F 130 dL_way_111 (by decide) ?_
        refine V_sub [3] (L' := [(2, vR x2)]) rfl ?_
        exact vB_L_way_130 F hm x2 z5 h
    · refine V_iload_n (pc := 97) F dL_way_97 1 rfl ?_
      refine V_iconst (pc := 98) F (x := (1 : Int32)) dL_way_98 (by decide) ?_
      refine V_iadd (pc := 99) F dL_way_99 ?_
      intro z6
      refine V_goto (pc := 100) F 130 dL_way_100 (by decide) ?_
      refine V_sub [3] (L' := [(2, vR x2)]) rfl ?_
      exact vB_L_way_130 F hm x2 z6 h
  · refine V_iconst (pc := 88) F (x := (-1 : Int32)) dL_way_88 (by decide) ?_
    refine V_goto (pc := 89) F 130 dL_way_89 (by decide) ?_
    refine V_sub [3] (L' := [(2, vR x2)]) rfl ?_
    exact vB_L_way_130 F hm x2 (-1 : Int32) h
theorem vB_L_way_80 {K : CT} (F : Fr K cL_way RL (some .int) [] 0 0) (hm : mxL K = 7) (x0 : Int32) (x1 : Int32) (x2 : Option Nat) (h : MH) : V K 80 [(0, vI x0), (1, vI x1), (2, vR x2)] [] h (B_L_way_80 x0 x1 x2 h) := by
  unfold B_L_way_80
  refine V_iconst (pc := 80) F (x := (0 : Int32)) dL_way_80 (by decide) ?_
  exact vB_L_way_81 F hm x0 x1 x2 (0 : Int32) h
theorem vM_L_way {K : CT} (F : Fr K cL_way RL (some .int) [] 0 0) (hm : mxL K = 7) (x0 : Int32) (x1 : Int32) (x2 : Option Nat) (h : MH) : V K 0 [(0, vI x0), (1, vI x1), (2, vR x2)] [] h (M_L_way x0 x1 x2 h) := by
  unfold M_L_way
  refine V_iload_n (pc := 0) F dL_way_0 0 rfl ?_
  refine V_bipush (pc := 1) F (x := (10 : Int32)) dL_way_1 (by decide) ?_
  refine V_irem (pc := 3) F dL_way_3 ?_
  intro z1
  refine V_istore_n (pc := 4) F [(3, vI z1), (0, vI x0), (1, vI x1), (2, vR x2)] dL_way_4 (lt_mx hm (by decide)) rfl ?_
  refine V_iload_n (pc := 5) F dL_way_5 1 rfl ?_
  refine V_bipush (pc := 6) F (x := (10 : Int32)) dL_way_6 (by decide) ?_
  refine V_idiv (pc := 8) F dL_way_8 ?_
  intro z2
  refine V_istore (pc := 9) F [(4, vI z2), (3, vI z1), (0, vI x0), (1, vI x1), (2, vR x2)] dL_way_9 (lt_mx hm (by decide)) rfl ?_
  refine V_iload_n (pc := 11) F dL_way_11 3 rfl ?_
  refine V_iconst (pc := 12) F (x := (1 : Int32)) dL_way_12 (by decide) ?_
  refine V_icmp_ne (pc := 13) F 30 dL_way_13 (by decide) ?_ ?_
  · refine V_iload_n (pc := 30) F dL_way_30 3 rfl ?_
    refine V_iconst (pc := 31) F (x := (2 : Int32)) dL_way_31 (by decide) ?_
    refine V_icmp_ne (pc := 32) F 47 dL_way_32 (by decide) ?_ ?_
    · refine V_iload_n (pc := 47) F dL_way_47 3 rfl ?_
      refine V_iconst (pc := 48) F (x := (3 : Int32)) dL_way_48 (by decide) ?_
      refine V_icmp_ne (pc := 49) F 66 dL_way_49 (by decide) ?_ ?_
      · refine V_iload_n (pc := 66) F dL_way_66 3 rfl ?_
        refine V_iconst (pc := 67) F (x := (4 : Int32)) dL_way_67 (by decide) ?_
        refine V_icmp_ne (pc := 68) F 80 dL_way_68 (by decide) ?_ ?_
        · refine V_sub [2, 3, 4] (L' := [(0, vI x0), (1, vI x1), (2, vR x2)]) rfl ?_
          exact vB_L_way_80 F hm x0 x1 x2 h
        · refine V_iload (pc := 71) F dL_way_71 0 rfl ?_
          refine V_if_le (pc := 73) F 80 dL_way_73 (by decide) ?_ ?_
          · refine V_sub [2, 3, 4] (L' := [(0, vI x0), (1, vI x1), (2, vR x2)]) rfl ?_
            exact vB_L_way_80 F hm x0 x1 x2 h
          · refine V_iconst (pc := 76) F (x := (1 : Int32)) dL_way_76 (by decide) ?_
            refine V_goto (pc := 77) F 81 dL_way_77 (by decide) ?_
            refine V_sub [2, 3, 4] (L' := [(0, vI x0), (1, vI x1), (2, vR x2)]) rfl ?_
            exact vB_L_way_81 F hm x0 x1 x2 (1 : Int32) h
      · refine V_iload (pc := 52) F dL_way_52 0 rfl ?_
        refine V_iconst (pc := 54) F (x := (5 : Int32)) dL_way_54 (by decide) ?_
        refine V_icmp_ge (pc := 55) F 62 dL_way_55 (by decide) ?_ ?_
        · refine V_iconst (pc := 62) F (x := (0 : Int32)) dL_way_62 (by decide) ?_
          refine V_goto (pc := 63) F 81 dL_way_63 (by decide) ?_
          refine V_sub [2, 3, 4] (L' := [(0, vI x0), (1, vI x1), (2, vR x2)]) rfl ?_
          exact vB_L_way_81 F hm x0 x1 x2 (0 : Int32) h
        · refine V_iconst (pc := 58) F (x := (1 : Int32)) dL_way_58 (by decide) ?_
          refine V_goto (pc := 59) F 81 dL_way_59 (by decide) ?_
          refine V_sub [2, 3, 4] (L' := [(0, vI x0), (1, vI x1), (2, vR x2)]) rfl ?_
          exact vB_L_way_81 F hm x0 x1 x2 (1 : Int32) h
    · refine V_iload_n (pc := 35) F dL_way_35 1 rfl ?_
      refine V_if_le (pc := 36) F 43 dL_way_36 (by decide) ?_ ?_
      · refine V_iconst (pc := 43) F (x := (0 : Int32)) dL_way_43 (by decide) ?_
        refine V_goto (pc := 44) F 81 dL_way_44 (by decide) ?_
        refine V_sub [2, 3, 4] (L' := [(0, vI x0), (1, vI x1), (2, vR x2)]) rfl ?_
        exact vB_L_way_81 F hm x0 x1 x2 (0 : Int32) h
      · refine V_iconst (pc := 39) F (x := (1 : Int32)) dL_way_39 (by decide) ?_
        refine V_goto (pc := 40) F 81 dL_way_40 (by decide) ?_
        refine V_sub [2, 3, 4] (L' := [(0, vI x0), (1, vI x1), (2, vR x2)]) rfl ?_
        exact vB_L_way_81 F hm x0 x1 x2 (1 : Int32) h
  · refine V_iload_n (pc := 16) F dL_way_16 1 rfl ?_
    refine V_bipush (pc := 17) F (x := (9 : Int32)) dL_way_17 (by decide) ?_
    refine V_icmp_ge (pc := 19) F 26 dL_way_19 (by decide) ?_ ?_
    · refine V_iconst (pc := 26) F (x := (0 : Int32)) dL_way_26 (by decide) ?_
      refine V_goto (pc := 27) F 81 dL_way_27 (by decide) ?_
      refine V_sub [2, 3, 4] (L' := [(0, vI x0), (1, vI x1), (2, vR x2)]) rfl ?_
      exact vB_L_way_81 F hm x0 x1 x2 (0 : Int32) h
    · refine V_iconst (pc := 22) F (x := (1 : Int32)) dL_way_22 (by decide) ?_
      refine V_goto (pc := 23) F 81 dL_way_23 (by decide) ?_
      refine V_sub [2, 3, 4] (L' := [(0, vI x0), (1, vI x1), (2, vR x2)]) rfl ?_
      exact vB_L_way_81 F hm x0 x1 x2 (1 : Int32) h
theorem C_L_way (x0 : Int32) (x1 : Int32) (x2 : Option Nat) (h : MH) : CtrM yL_way (WSm yL_way cL_way 7 (some .int)) 0 [vI x0, vI x1, vR x2] h (M_L_way x0 x1 x2 h) :=
  CtrM_of (by decide) (Nat.le_of_ble_eq_true rfl) (fun K F hm hi => vM_L_way F hm x0 x1 x2 h)
def M_L_leads (x0 : Int32) (x1 : Option Nat) (h : MH) : Res := rdI h x1 20 x0 fun z1 => rmI z1 (8 : Int32) fun z2 => calI (M_L_way x0 z2 x1 h) fun z3 h4 => rtI z3 h4
theorem vM_L_leads {K : CT} (F : Fr K cL_leads RL (some .int) [] 1 0) (hm : mxL K = 2) (x0 : Int32) (x1 : Option Nat) (h : MH) : V K 0 [(0, vI x0), (1, vR x1)] [] h (M_L_leads x0 x1 h) := by
  unfold M_L_leads
  refine V_iload_n (pc := 0) F dL_leads_0 0 rfl ?_
  refine V_aload_n (pc := 1) F dL_leads_1 1 rfl ?_
  refine V_iload_n (pc := 2) F dL_leads_2 0 rfl ?_
  refine V_iald (pc := 3) F dL_leads_3 ?_
  intro z1
  refine V_bipush (pc := 4) F (x := (8 : Int32)) dL_leads_4 (by decide) ?_
  refine V_irem (pc := 6) F dL_leads_6 ?_
  intro z2
  refine V_aload_n (pc := 7) F dL_leads_7 1 rfl ?_
  refine V_cSM (pc := 8) F (as := [vI x0, vI z2, vR x1]) (C_L_way x0 z2 x1 h) w_L_way g_st_L_way g_ml_RL_51 (by decide) (rest := []) rfl rfl (Nat.le_of_ble_eq_true rfl) dL_leads_8 (k_I fun z3 h4 => ?_)
  exact V_iret (pc := 11) F (Or.inl rfl) dL_leads_11
theorem C_L_leads (x0 : Int32) (x1 : Option Nat) (h : MH) : CtrM yL_leads (WSm yL_leads cL_leads 2 (some .int)) 1 [vI x0, vR x1] h (M_L_leads x0 x1 h) :=
  CtrM_of (by decide) (Nat.le_of_ble_eq_true rfl) (fun K F hm hi => vM_L_leads F hm x0 x1 h)
def B_L_flowed_68 (rc26 : Int32 → Option Nat → Option Nat → Int32 → Int32 → MH → Res) (x0 : Int32) (x1 : Option Nat) (x2 : Option Nat) (x4 : Int32) (s0 : Int32) (s1 : Int32) (h : MH) : Res := bnd (s0 + s1) fun z13 => bnd (x4 + (1)) fun z14 => rc26 x0 x1 x2 z13 z14 h
def B_L_flowed_67 (rc26 : Int32 → Option Nat → Option Nat → Int32 → Int32 → MH → Res) (x0 : Int32) (x1 : Option Nat) (x2 : Option Nat) (x4 : Int32) (s0 : Int32) (h : MH) : Res := B_L_flowed_68 rc26 x0 x1 x2 x4 s0 (0 : Int32) h
def B_L_flowed_26 (rc26 : Int32 → Option Nat → Option Nat → Int32 → Int32 → MH → Res) (x0 : Int32) (x1 : Option Nat) (x2 : Option Nat) (x3 : Int32) (x4 : Int32) (h : MH) : Res := if (5 : Int32) ≤ x4 then (rtI x3 h) else (calI (M_L_way x0 x4 x1 h) fun z7 h8 => if z7 < 0 then (B_L_flowed_67 rc26 x0 x1 x2 x4 x3 h8) else (calI (M_L_leads z7 x1 h8) fun z9 h10 => if z9 ≠ x0 then (B_L_flowed_67 rc26 x0 x1 x2 x4 x3 h10) else (rdI h10 x2 20 z7 fun z11 => dvI z11 (10 : Int32) fun z12 => B_L_flowed_68 rc26 x0 x1 x2 x4 x3 z12 h10)))
def L_L_flowed_26 : Nat → Int32 → Option Nat → Option Nat → Int32 → Int32 → MH → Res
  | 0 => fun _ _ _ _ _ _ => none
  | n + 1 => B_L_flowed_26 (L_L_flowed_26 n)
def B_L_flowed_21 (x0 : Int32) (x1 : Option Nat) (x2 : Option Nat) (s0 : Int32) (s1 : Int32) (h : MH) : Res := bnd (s0 - s1) fun z6 => L_L_flowed_26 fuel x0 x1 x2 z6 (1 : Int32) h
def M_L_flowed (x0 : Int32) (x1 : Option Nat) (x2 : Option Nat) (h : MH) : Res := rdI h x2 20 x0 fun z1 => calI (M_L_leads x0 x1 h) fun z2 h3 => if z2 < 0 then (B_L_flowed_21 x0 x1 x2 z1 (0 : Int32) h3) else (rdI h3 x2 20 x0 fun z4 => dvI z4 (10 : Int32) fun z5 => B_L_flowed_21 x0 x1 x2 z1 z5 h3)
theorem vB_L_flowed_68 {K : CT} (F : Fr K cL_flowed RL (some .int) [] 2 0) (hm : mxL K = 6) (rc26 : Int32 → Option Nat → Option Nat → Int32 → Int32 → MH → Res) (hrc26 : ∀ x0 x1 x2 x3 x4 h, V K 26 [(0, vI x0), (1, vR x1), (2, vR x2), (3, vI x3), (4, vI x4)] [] h (rc26 x0 x1 x2 x3 x4 h)) (x0 : Int32) (x1 : Option Nat) (x2 : Option Nat) (x4 : Int32) (s0 : Int32) (s1 : Int32) (h : MH) : V K 68 [(0, vI x0), (1, vR x1), (2, vR x2), (4, vI x4)] [vI s1, vI s0] h (B_L_flowed_68 rc26 x0 x1 x2 x4 s0 s1 h) := by
  unfold B_L_flowed_68
  refine V_iadd (pc := 68) F dL_flowed_68 ?_
  intro z13
  refine V_istore_n (pc := 69) F [(3, vI z13), (0, vI x0), (1, vR x1), (2, vR x2), (4, vI x4)] dL_flowed_69 (lt_mx hm (by decide)) rfl ?_
  refine V_iinc (pc := 70) F (fun z14 => [(4, vI z14), (3, vI z13), (0, vI x0), (1, vR x1), (2, vR x2)]) dL_flowed_70 (lt_mx hm (by decide)) 4 rfl (dx := (1 : Int32)) (by decide) (fun _ => rfl) ?_
  intro z14
  refine V_goto (pc := 73) F 26 dL_flowed_73 (by decide) ?_
  refine V_sub [2, 3, 4, 1, 0] (L' := [(0, vI x0), (1, vR x1), (2, vR x2), (3, vI z13), (4, vI z14)]) rfl ?_
  exact hrc26 x0 x1 x2 z13 z14 h
theorem vB_L_flowed_67 {K : CT} (F : Fr K cL_flowed RL (some .int) [] 2 0) (hm : mxL K = 6) (rc26 : Int32 → Option Nat → Option Nat → Int32 → Int32 → MH → Res) (hrc26 : ∀ x0 x1 x2 x3 x4 h, V K 26 [(0, vI x0), (1, vR x1), (2, vR x2), (3, vI x3), (4, vI x4)] [] h (rc26 x0 x1 x2 x3 x4 h)) (x0 : Int32) (x1 : Option Nat) (x2 : Option Nat) (x4 : Int32) (s0 : Int32) (h : MH) : V K 67 [(0, vI x0), (1, vR x1), (2, vR x2), (4, vI x4)] [vI s0] h (B_L_flowed_67 rc26 x0 x1 x2 x4 s0 h) := by
  unfold B_L_flowed_67
  refine V_iconst (pc := 67) F (x := (0 : Int32)) dL_flowed_67 (by decide) ?_
  exact vB_L_flowed_68 F hm rc26 hrc26 x0 x1 x2 x4 s0 (0 : Int32) h
theorem vB_L_flowed_26 {K : CT} (F : Fr K cL_flowed RL (some .int) [] 2 0) (hm : mxL K = 6) (rc26 : Int32 → Option Nat → Option Nat → Int32 → Int32 → MH → Res) (hrc26 : ∀ x0 x1 x2 x3 x4 h, V K 26 [(0, vI x0), (1, vR x1), (2, vR x2), (3, vI x3), (4, vI x4)] [] h (rc26 x0 x1 x2 x3 x4 h)) (x0 : Int32) (x1 : Option Nat) (x2 : Option Nat) (x3 : Int32) (x4 : Int32) (h : MH) : V K 26 [(0, vI x0), (1, vR x1), (2, vR x2), (3, vI x3), (4, vI x4)] [] h (B_L_flowed_26 rc26 x0 x1 x2 x3 x4 h) := by
  unfold B_L_flowed_26
  refine V_iload (pc := 26) F dL_flowed_26 4 rfl ?_
  refine V_iconst (pc := 28) F (x := (5 : Int32)) dL_flowed_28 (by decide) ?_
  refine V_icmp_ge (pc := 29) F 76 dL_flowed_29 (by decide) ?_ ?_
  · refine V_iload_n (pc := 76) F dL_flowed_76 3 rfl ?_
    exact V_iret (pc := 77) F (Or.inl rfl) dL_flowed_77
  · refine V_iload_n (pc := 32) F dL_flowed_32 0 rfl ?_
    refine V_iload (pc := 33) F dL_flowed_33 4 rfl ?_
    refine V_aload_n (pc := 35) F dL_flowed_35 1 rfl ?_
    refine V_cSM (pc := 36) F (as := [vI x0, vI x4, vR x1]) (C_L_way x0 x4 x1 h) w_L_way g_st_L_way g_ml_RL_51 (by decide) (rest := []) rfl rfl (Nat.le_of_ble_eq_true rfl) dL_flowed_36 (k_I fun z7 h8 => ?_)
    refine V_istore (pc := 39) F [(5, vI z7), (0, vI x0), (1, vR x1), (2, vR x2), (3, vI x3), (4, vI x4)] dL_flowed_39 (lt_mx hm (by decide)) rfl ?_
    refine V_iload_n (pc := 41) F dL_flowed_41 4 rfl ?_
    refine V_iload (pc := 42) F dL_flowed_42 0 rfl ?_
    refine V_if_lt (pc := 44) F 67 dL_flowed_44 (by decide) ?_ ?_
    · refine V_sub [1, 2, 3, 5] (L' := [(0, vI x0), (1, vR x1), (2, vR x2), (4, vI x4)]) rfl ?_
      exact vB_L_flowed_67 F hm rc26 hrc26 x0 x1 x2 x4 x3 h8
    · refine V_iload (pc := 47) F dL_flowed_47 0 rfl ?_
      refine V_aload_n (pc := 49) F dL_flowed_49 2 rfl ?_
      refine V_cSM (pc := 50) F (as := [vI z7, vR x1]) (C_L_leads z7 x1 h8) w_L_leads g_st_L_leads g_ml_RL_55 (by decide) (rest := [vI x3]) rfl rfl (Nat.le_of_ble_eq_true rfl) dL_flowed_50 (k_I fun z9 h10 => ?_)
      refine V_iload_n (pc := 53) F dL_flowed_53 1 rfl ?_
      refine V_icmp_ne (pc := 54) F 67 dL_flowed_54 (by decide) ?_ ?_
      · refine V_sub [1, 2, 3, 5] (L' := [(0, vI x0), (1, vR x1), (2, vR x2), (4, vI x4)]) rfl ?_
        exact vB_L_flowed_67 F hm rc26 hrc26 x0 x1 x2 x4 x3 h10
      · refine V_aload_n (pc := 57) F dL_flowed_57 3 rfl ?_
        refine V_iload (pc := 58) F dL_flowed_58 0 rfl ?_
        refine V_iald (pc := 60) F dL_flowed_60 ?_
        intro z11
        refine V_bipush (pc := 61) F (x := (10 : Int32)) dL_flowed_61 (by decide) ?_
        refine V_idiv (pc := 63) F dL_flowed_63 ?_
        intro z12
        refine V_goto (pc := 64) F 68 dL_flowed_64 (by decide) ?_
        refine V_sub [1, 2, 3, 5] (L' := [(0, vI x0), (1, vR x1), (2, vR x2), (4, vI x4)]) rfl ?_
        exact vB_L_flowed_68 F hm rc26 hrc26 x0 x1 x2 x4 x3 z12 h10
theorem vL_L_flowed_26 {K : CT} (F : Fr K cL_flowed RL (some .int) [] 2 0) (hm : mxL K = 6) (n : Nat) : ∀ x0 x1 x2 x3 x4 h, V K 26 [(0, vI x0), (1, vR x1), (2, vR x2), (3, vI x3), (4, vI x4)] [] h (L_L_flowed_26 n x0 x1 x2 x3 x4 h) := by
  induction n with
  | zero => intros; exact V_none
  | succ n ih => intro x0 x1 x2 x3 x4 h; exact vB_L_flowed_26 F hm _ ih x0 x1 x2 x3 x4 h
theorem vB_L_flowed_21 {K : CT} (F : Fr K cL_flowed RL (some .int) [] 2 0) (hm : mxL K = 6) (x0 : Int32) (x1 : Option Nat) (x2 : Option Nat) (s0 : Int32) (s1 : Int32) (h : MH) : V K 21 [(0, vI x0), (1, vR x1), (2, vR x2)] [vI s1, vI s0] h (B_L_flowed_21 x0 x1 x2 s0 s1 h) := by
  unfold B_L_flowed_21
  refine V_isub (pc := 21) F dL_flowed_21 ?_
  intro z6
  refine V_istore_n (pc := 22) F [(3, vI z6), (0, vI x0), (1, vR x1), (2, vR x2)] dL_flowed_22 (lt_mx hm (by decide)) rfl ?_
  refine V_iconst (pc := 23) F (x := (1 : Int32)) dL_flowed_23 (by decide) ?_
  refine V_istore (pc := 24) F [(4, vI (1 : Int32)), (3, vI z6), (0, vI x0), (1, vR x1), (2, vR x2)] dL_flowed_24 (lt_mx hm (by decide)) rfl ?_
  refine V_sub [2, 3, 4, 1, 0] (L' := [(0, vI x0), (1, vR x1), (2, vR x2), (3, vI z6), (4, vI (1 : Int32))]) rfl ?_
  exact vL_L_flowed_26 F hm fuel x0 x1 x2 z6 (1 : Int32) h
theorem vM_L_flowed {K : CT} (F : Fr K cL_flowed RL (some .int) [] 2 0) (hm : mxL K = 6) (x0 : Int32) (x1 : Option Nat) (x2 : Option Nat) (h : MH) : V K 0 [(0, vI x0), (1, vR x1), (2, vR x2)] [] h (M_L_flowed x0 x1 x2 h) := by
  unfold M_L_flowed
  refine V_aload_n (pc := 0) F dL_flowed_0 2 rfl ?_
  refine V_iload_n (pc := 1) F dL_flowed_1 0 rfl ?_
  refine V_iald (pc := 2) F dL_flowed_2 ?_
  intro z1
  refine V_iload_n (pc := 3) F dL_flowed_3 0 rfl ?_
  refine V_aload_n (pc := 4) F dL_flowed_4 1 rfl ?_
  refine V_cSM (pc := 5) F (as := [vI x0, vR x1]) (C_L_leads x0 x1 h) w_L_leads g_st_L_leads g_ml_RL_55 (by decide) (rest := [vI z1]) rfl rfl (Nat.le_of_ble_eq_true rfl) dL_flowed_5 (k_I fun z2 h3 => ?_)
  refine V_if_lt (pc := 8) F 20 dL_flowed_8 (by decide) ?_ ?_
  · refine V_iconst (pc := 20) F (x := (0 : Int32)) dL_flowed_20 (by decide) ?_
    exact vB_L_flowed_21 F hm x0 x1 x2 z1 (0 : Int32) h3
  · refine V_aload_n (pc := 11) F dL_flowed_11 2 rfl ?_
    refine V_iload_n (pc := 12) F dL_flowed_12 0 rfl ?_
    refine V_iald (pc := 13) F dL_flowed_13 ?_
    intro z4
    refine V_bipush (pc := 14) F (x := (10 : Int32)) dL_flowed_14 (by decide) ?_
    refine V_idiv (pc := 16) F dL_flowed_16 ?_
    intro z5
    refine V_goto (pc := 17) F 21 dL_flowed_17 (by decide) ?_
    exact vB_L_flowed_21 F hm x0 x1 x2 z1 z5 h3
theorem C_L_flowed (x0 : Int32) (x1 : Option Nat) (x2 : Option Nat) (h : MH) : CtrM yL_flowed (WSm yL_flowed cL_flowed 6 (some .int)) 2 [vI x0, vR x1, vR x2] h (M_L_flowed x0 x1 x2 h) :=
  CtrM_of (by decide) (Nat.le_of_ble_eq_true rfl) (fun K F hm hi => vM_L_flowed F hm x0 x1 x2 h)
def B_L_copies_2 (rc2 : Option Nat → Option Nat → Int32 → MH → Res) (x0 : Option Nat) (x1 : Option Nat) (x2 : Int32) (h : MH) : Res := if (60 : Int32) ≤ x2 then (rtV h) else (rdI h x0 20 x2 fun z1 => wrI h x1 20 x2 z1 fun h2 => bnd (x2 + (1)) fun z3 => rc2 x0 x1 z3 h2)
def L_L_copies_2 : Nat → Option Nat → Option Nat → Int32 → MH → Res
  | 0 => fun _ _ _ _ => none
  | n + 1 => B_L_copies_2 (L_L_copies_2 n)
def M_L_copies (x0 : Option Nat) (x1 : Option Nat) (h : MH) : Res := L_L_copies_2 fuel x0 x1 (0 : Int32) h
theorem vB_L_copies_2 {K : CT} (F : Fr K cL_copies RL none [] 0 0) (hm : mxL K = 3) (rc2 : Option Nat → Option Nat → Int32 → MH → Res) (hrc2 : ∀ x0 x1 x2 h, V K 2 [(0, vR x0), (1, vR x1), (2, vI x2)] [] h (rc2 x0 x1 x2 h)) (x0 : Option Nat) (x1 : Option Nat) (x2 : Int32) (h : MH) : V K 2 [(0, vR x0), (1, vR x1), (2, vI x2)] [] h (B_L_copies_2 rc2 x0 x1 x2 h) := by
  unfold B_L_copies_2
  refine V_iload_n (pc := 2) F dL_copies_2 2 rfl ?_
  refine V_bipush (pc := 3) F (x := (60 : Int32)) dL_copies_3 (by decide) ?_
  refine V_icmp_ge (pc := 5) F 20 dL_copies_5 (by decide) ?_ ?_
  · exact V_vret (pc := 20) F (Or.inl rfl) dL_copies_20
  · refine V_aload_n (pc := 8) F dL_copies_8 1 rfl ?_
    refine V_iload_n (pc := 9) F dL_copies_9 2 rfl ?_
    refine V_aload_n (pc := 10) F dL_copies_10 0 rfl ?_
    refine V_iload_n (pc := 11) F dL_copies_11 2 rfl ?_
    refine V_iald (pc := 12) F dL_copies_12 ?_
    intro z1
    refine V_iast (pc := 13) F dL_copies_13 ?_
    intro h2
    refine V_iinc (pc := 14) F (fun z3 => [(2, vI z3), (0, vR x0), (1, vR x1)]) dL_copies_14 (lt_mx hm (by decide)) 2 rfl (dx := (1 : Int32)) (by decide) (fun _ => rfl) ?_
    intro z3
    refine V_goto (pc := 17) F 2 dL_copies_17 (by decide) ?_
    refine V_sub [1, 2, 0] (L' := [(0, vR x0), (1, vR x1), (2, vI z3)]) rfl ?_
    exact hrc2 x0 x1 z3 h2
theorem vL_L_copies_2 {K : CT} (F : Fr K cL_copies RL none [] 0 0) (hm : mxL K = 3) (n : Nat) : ∀ x0 x1 x2 h, V K 2 [(0, vR x0), (1, vR x1), (2, vI x2)] [] h (L_L_copies_2 n x0 x1 x2 h) := by
  induction n with
  | zero => intros; exact V_none
  | succ n ih => intro x0 x1 x2 h; exact vB_L_copies_2 F hm _ ih x0 x1 x2 h
theorem vM_L_copies {K : CT} (F : Fr K cL_copies RL none [] 0 0) (hm : mxL K = 3) (x0 : Option Nat) (x1 : Option Nat) (h : MH) : V K 0 [(0, vR x0), (1, vR x1)] [] h (M_L_copies x0 x1 h) := by
  unfold M_L_copies
  refine V_iconst (pc := 0) F (x := (0 : Int32)) dL_copies_0 (by decide) ?_
  refine V_istore_n (pc := 1) F [(2, vI (0 : Int32)), (0, vR x0), (1, vR x1)] dL_copies_1 (lt_mx hm (by decide)) rfl ?_
  refine V_sub [1, 2, 0] (L' := [(0, vR x0), (1, vR x1), (2, vI (0 : Int32))]) rfl ?_
  exact vL_L_copies_2 F hm fuel x0 x1 (0 : Int32) h
theorem C_L_copies (x0 : Option Nat) (x1 : Option Nat) (h : MH) : CtrM yL_copies (WSm yL_copies cL_copies 3 none) 0 [vR x0, vR x1] h (M_L_copies x0 x1 h) :=
  CtrM_of (by decide) (Nat.le_of_ble_eq_true rfl) (fun K F hm hi => vM_L_copies F hm x0 x1 h)
def M_L_reads (x0 : Int32) (x1 : Int32) (x2 : Int32) (x3 : Option Nat) (x4 : Option Nat) (x5 : Option Nat) (x6 : Option Nat) (h : MH) : Res := rdI h x6 20 (5 : Int32) fun z1 => rdI h x6 20 (0 : Int32) fun z2 => bnd ((64 : Int32) * z2) fun z3 => bnd (z3 + x0) fun z4 => wrI h x3 20 z1 z4 fun h5 => rdI h5 x6 20 (5 : Int32) fun z6 => wrI h5 x4 20 z6 x2 fun h7 => rdI h7 x6 20 (5 : Int32) fun z8 => wrI h7 x5 20 z8 x1 fun h9 => rdI h9 x6 20 (5 : Int32) fun z10 => bnd (z10 + (1 : Int32)) fun z11 => wrI h9 x6 20 (5 : Int32) z11 fun h12 => rtV h12
theorem vM_L_reads {K : CT} (F : Fr K cL_reads RL none [] 0 0) (hm : mxL K = 7) (x0 : Int32) (x1 : Int32) (x2 : Int32) (x3 : Option Nat) (x4 : Option Nat) (x5 : Option Nat) (x6 : Option Nat) (h : MH) : V K 0 [(0, vI x0), (1, vI x1), (2, vI x2), (3, vR x3), (4, vR x4), (5, vR x5), (6, vR x6)] [] h (M_L_reads x0 x1 x2 x3 x4 x5 x6 h) := by
  unfold M_L_reads
  refine V_aload_n (pc := 0) F dL_reads_0 3 rfl ?_
  refine V_aload (pc := 1) F dL_reads_1 6 rfl ?_
  refine V_iconst (pc := 3) F (x := (5 : Int32)) dL_reads_3 (by decide) ?_
  refine V_iald (pc := 4) F dL_reads_4 ?_
  intro z1
  refine V_bipush (pc := 5) F (x := (64 : Int32)) dL_reads_5 (by decide) ?_
  refine V_aload (pc := 7) F dL_reads_7 6 rfl ?_
  refine V_iconst (pc := 9) F (x := (0 : Int32)) dL_reads_9 (by decide) ?_
  refine V_iald (pc := 10) F dL_reads_10 ?_
  intro z2
  refine V_imul (pc := 11) F dL_reads_11 ?_
  intro z3
  refine V_iload_n (pc := 12) F dL_reads_12 0 rfl ?_
  refine V_iadd (pc := 13) F dL_reads_13 ?_
  intro z4
  refine V_iast (pc := 14) F dL_reads_14 ?_
  intro h5
  refine V_aload (pc := 15) F dL_reads_15 4 rfl ?_
  refine V_aload (pc := 17) F dL_reads_17 6 rfl ?_
  refine V_iconst (pc := 19) F (x := (5 : Int32)) dL_reads_19 (by decide) ?_
  refine V_iald (pc := 20) F dL_reads_20 ?_
  intro z6
  refine V_iload_n (pc := 21) F dL_reads_21 2 rfl ?_
  refine V_iast (pc := 22) F dL_reads_22 ?_
  intro h7
  refine V_aload (pc := 23) F dL_reads_23 5 rfl ?_
  refine V_aload (pc := 25) F dL_reads_25 6 rfl ?_
  refine V_iconst (pc := 27) F (x := (5 : Int32)) dL_reads_27 (by decide) ?_
  refine V_iald (pc := 28) F dL_reads_28 ?_
  intro z8
  refine V_iload_n (pc := 29) F dL_reads_29 1 rfl ?_
  refine V_iast (pc := 30) F dL_reads_30 ?_
  intro h9
  refine V_aload (pc := 31) F dL_reads_31 6 rfl ?_
  refine V_iconst (pc := 33) F (x := (5 : Int32)) dL_reads_33 (by decide) ?_
  refine V_dup2 (pc := 34) F dL_reads_34 rfl rfl ?_
  refine V_iald (pc := 35) F dL_reads_35 ?_
  intro z10
  refine V_iconst (pc := 36) F (x := (1 : Int32)) dL_reads_36 (by decide) ?_
  refine V_iadd (pc := 37) F dL_reads_37 ?_
  intro z11
  refine V_iast (pc := 38) F dL_reads_38 ?_
  intro h12
  exact V_vret (pc := 39) F (Or.inl rfl) dL_reads_39
theorem C_L_reads (x0 : Int32) (x1 : Int32) (x2 : Int32) (x3 : Option Nat) (x4 : Option Nat) (x5 : Option Nat) (x6 : Option Nat) (h : MH) : CtrM yL_reads (WSm yL_reads cL_reads 7 none) 0 [vI x0, vI x1, vI x2, vR x3, vR x4, vR x5, vR x6] h (M_L_reads x0 x1 x2 x3 x4 x5 x6 h) :=
  CtrM_of (by decide) (Nat.le_of_ble_eq_true rfl) (fun K F hm hi => vM_L_reads F hm x0 x1 x2 x3 x4 x5 x6 h)
def B_L_drifted_91 (rc28 : Int32 → Option Nat → Option Nat → Int32 → Int32 → MH → Res) (x0 : Int32) (x1 : Option Nat) (x2 : Option Nat) (x4 : Int32) (s0 : Int32) (s1 : Int32) (h : MH) : Res := bnd (s0 + s1) fun z21 => bnd (x4 + (1)) fun z22 => rc28 x0 x1 x2 z21 z22 h
def B_L_drifted_90 (rc28 : Int32 → Option Nat → Option Nat → Int32 → Int32 → MH → Res) (x0 : Int32) (x1 : Option Nat) (x2 : Option Nat) (x4 : Int32) (s0 : Int32) (s1 : Int32) (s2 : Int32) (h : MH) : Res := bnd (s1 + s2) fun z20 => B_L_drifted_91 rc28 x0 x1 x2 x4 s0 z20 h
def B_L_drifted_28 (rc28 : Int32 → Option Nat → Option Nat → Int32 → Int32 → MH → Res) (x0 : Int32) (x1 : Option Nat) (x2 : Option Nat) (x3 : Int32) (x4 : Int32) (h : MH) : Res := if (5 : Int32) ≤ x4 then (rtI x3 h) else (calI (M_L_way x0 x4 x1 h) fun z8 h9 => if 0 ≤ z8 then (rdI h9 x2 20 z8 fun z10 => dvI z10 (10 : Int32) fun z11 => rdI h9 x2 20 x0 fun z12 => dvI z12 (10 : Int32) fun z13 => bnd (z11 - z13) fun z14 => calI (M_L_leads z8 x1 h9) fun z15 h16 => if z15 ≠ x0 then (B_L_drifted_90 rc28 x0 x1 x2 x4 x3 z14 (0 : Int32) h16) else (rdI h16 x2 20 z8 fun z17 => bnd ((4 : Int32) * z17) fun z18 => dvI z18 (10 : Int32) fun z19 => B_L_drifted_90 rc28 x0 x1 x2 x4 x3 z14 z19 h16)) else (B_L_drifted_91 rc28 x0 x1 x2 x4 x3 (0 : Int32) h9))
def L_L_drifted_28 : Nat → Int32 → Option Nat → Option Nat → Int32 → Int32 → MH → Res
  | 0 => fun _ _ _ _ _ _ => none
  | n + 1 => B_L_drifted_28 (L_L_drifted_28 n)
def B_L_drifted_23 (x0 : Int32) (x1 : Option Nat) (x2 : Option Nat) (s0 : Int32) (s1 : Int32) (h : MH) : Res := bnd (s0 - s1) fun z7 => L_L_drifted_28 fuel x0 x1 x2 z7 (1 : Int32) h
def M_L_drifted (x0 : Int32) (x1 : Option Nat) (x2 : Option Nat) (h : MH) : Res := rdI h x2 20 x0 fun z1 => calI (M_L_leads x0 x1 h) fun z2 h3 => if z2 < 0 then (B_L_drifted_23 x0 x1 x2 z1 (0 : Int32) h3) else (rdI h3 x2 20 x0 fun z4 => bnd ((4 : Int32) * z4) fun z5 => dvI z5 (10 : Int32) fun z6 => B_L_drifted_23 x0 x1 x2 z1 z6 h3)
theorem vB_L_drifted_91 {K : CT} (F : Fr K cL_drifted RL (some .int) [] 2 0) (hm : mxL K = 6) (rc28 : Int32 → Option Nat → Option Nat → Int32 → Int32 → MH → Res) (hrc28 : ∀ x0 x1 x2 x3 x4 h, V K 28 [(0, vI x0), (1, vR x1), (2, vR x2), (3, vI x3), (4, vI x4)] [] h (rc28 x0 x1 x2 x3 x4 h)) (x0 : Int32) (x1 : Option Nat) (x2 : Option Nat) (x4 : Int32) (s0 : Int32) (s1 : Int32) (h : MH) : V K 91 [(0, vI x0), (1, vR x1), (2, vR x2), (4, vI x4)] [vI s1, vI s0] h (B_L_drifted_91 rc28 x0 x1 x2 x4 s0 s1 h) := by
  unfold B_L_drifted_91
  refine V_iadd (pc := 91) F dL_drifted_91 ?_
  intro z21
  refine V_istore_n (pc := 92) F [(3, vI z21), (0, vI x0), (1, vR x1), (2, vR x2), (4, vI x4)] dL_drifted_92 (lt_mx hm (by decide)) rfl ?_
  refine V_iinc (pc := 93) F (fun z22 => [(4, vI z22), (3, vI z21), (0, vI x0), (1, vR x1), (2, vR x2)]) dL_drifted_93 (lt_mx hm (by decide)) 4 rfl (dx := (1 : Int32)) (by decide) (fun _ => rfl) ?_
  intro z22
  refine V_goto (pc := 96) F 28 dL_drifted_96 (by decide) ?_
  refine V_sub [2, 3, 4, 1, 0] (L' := [(0, vI x0), (1, vR x1), (2, vR x2), (3, vI z21), (4, vI z22)]) rfl ?_
  exact hrc28 x0 x1 x2 z21 z22 h
theorem vB_L_drifted_90 {K : CT} (F : Fr K cL_drifted RL (some .int) [] 2 0) (hm : mxL K = 6) (rc28 : Int32 → Option Nat → Option Nat → Int32 → Int32 → MH → Res) (hrc28 : ∀ x0 x1 x2 x3 x4 h, V K 28 [(0, vI x0), (1, vR x1), (2, vR x2), (3, vI x3), (4, vI x4)] [] h (rc28 x0 x1 x2 x3 x4 h)) (x0 : Int32) (x1 : Option Nat) (x2 : Option Nat) (x4 : Int32) (s0 : Int32) (s1 : Int32) (s2 : Int32) (h : MH) : V K 90 [(0, vI x0), (1, vR x1), (2, vR x2), (4, vI x4)] [vI s2, vI s1, vI s0] h (B_L_drifted_90 rc28 x0 x1 x2 x4 s0 s1 s2 h) := by
  unfold B_L_drifted_90
  refine V_iadd (pc := 90) F dL_drifted_90 ?_
  intro z20
  exact vB_L_drifted_91 F hm rc28 hrc28 x0 x1 x2 x4 s0 z20 h
theorem vB_L_drifted_28 {K : CT} (F : Fr K cL_drifted RL (some .int) [] 2 0) (hm : mxL K = 6) (rc28 : Int32 → Option Nat → Option Nat → Int32 → Int32 → MH → Res) (hrc28 : ∀ x0 x1 x2 x3 x4 h, V K 28 [(0, vI x0), (1, vR x1), (2, vR x2), (3, vI x3), (4, vI x4)] [] h (rc28 x0 x1 x2 x3 x4 h)) (x0 : Int32) (x1 : Option Nat) (x2 : Option Nat) (x3 : Int32) (x4 : Int32) (h : MH) : V K 28 [(0, vI x0), (1, vR x1), (2, vR x2), (3, vI x3), (4, vI x4)] [] h (B_L_drifted_28 rc28 x0 x1 x2 x3 x4 h) := by
  unfold B_L_drifted_28
  refine V_iload (pc := 28) F dL_drifted_28 4 rfl ?_
  refine V_iconst (pc := 30) F (x := (5 : Int32)) dL_drifted_30 (by decide) ?_
  refine V_icmp_ge (pc := 31) F 99 dL_drifted_31 (by decide) ?_ ?_
  · refine V_iload_n (pc := 99) F dL_drifted_99 3 rfl ?_
    exact V_iret (pc := 100) F (Or.inl rfl) dL_drifted_100
  · refine V_iload_n (pc := 34) F dL_drifted_34 0 rfl ?_
    refine V_iload (pc := 35) F dL_drifted_35 4 rfl ?_
    refine V_aload_n (pc := 37) F dL_drifted_37 1 rfl ?_
    refine V_cSM (pc := 38) F (as := [vI x0, vI x4, vR x1]) (C_L_way x0 x4 x1 h) w_L_way g_st_L_way g_ml_RL_51 (by decide) (rest := []) rfl rfl (Nat.le_of_ble_eq_true rfl) dL_drifted_38 (k_I fun z8 h9 => ?_)
    refine V_istore (pc := 41) F [(5, vI z8), (0, vI x0), (1, vR x1), (2, vR x2), (3, vI x3), (4, vI x4)] dL_drifted_41 (lt_mx hm (by decide)) rfl ?_
    refine V_iload_n (pc := 43) F dL_drifted_43 4 rfl ?_
    refine V_iload (pc := 44) F dL_drifted_44 0 rfl ?_
    refine V_if_ge (pc := 46) F 53 dL_drifted_46 (by decide) ?_ ?_
    · refine V_aload_n (pc := 53) F dL_drifted_53 3 rfl ?_
      refine V_iload (pc := 54) F dL_drifted_54 0 rfl ?_
      refine V_iald (pc := 56) F dL_drifted_56 ?_
      intro z10
      refine V_bipush (pc := 57) F (x := (10 : Int32)) dL_drifted_57 (by decide) ?_
      refine V_idiv (pc := 59) F dL_drifted_59 ?_
      intro z11
      refine V_aload_n (pc := 60) F dL_drifted_60 3 rfl ?_
      refine V_iload_n (pc := 61) F dL_drifted_61 1 rfl ?_
      refine V_iald (pc := 62) F dL_drifted_62 ?_
      intro z12
      refine V_bipush (pc := 63) F (x := (10 : Int32)) dL_drifted_63 (by decide) ?_
      refine V_idiv (pc := 65) F dL_drifted_65 ?_
      intro z13
      refine V_isub (pc := 66) F dL_drifted_66 ?_
      intro z14
      refine V_iload (pc := 67) F dL_drifted_67 0 rfl ?_
      refine V_aload_n (pc := 69) F dL_drifted_69 2 rfl ?_
      refine V_cSM (pc := 70) F (as := [vI z8, vR x1]) (C_L_leads z8 x1 h9) w_L_leads g_st_L_leads g_ml_RL_55 (by decide) (rest := [vI z14, vI x3]) rfl rfl (Nat.le_of_ble_eq_true rfl) dL_drifted_70 (k_I fun z15 h16 => ?_)
      refine V_iload_n (pc := 73) F dL_drifted_73 1 rfl ?_
      refine V_icmp_ne (pc := 74) F 89 dL_drifted_74 (by decide) ?_ ?_
      · refine V_iconst (pc := 89) F (x := (0 : Int32)) dL_drifted_89 (by decide) ?_
        refine V_sub [1, 2, 3, 5] (L' := [(0, vI x0), (1, vR x1), (2, vR x2), (4, vI x4)]) rfl ?_
        exact vB_L_drifted_90 F hm rc28 hrc28 x0 x1 x2 x4 x3 z14 (0 : Int32) h16
      · refine V_iconst (pc := 77) F (x := (4 : Int32)) dL_drifted_77 (by decide) ?_
        refine V_aload_n (pc := 78) F dL_drifted_78 3 rfl ?_
        refine V_iload (pc := 79) F dL_drifted_79 0 rfl ?_
        refine V_iald (pc := 81) F dL_drifted_81 ?_
        intro z17
        refine V_imul (pc := 82) F dL_drifted_82 ?_
        intro z18
        refine V_bipush (pc := 83) F (x := (10 : Int32)) dL_drifted_83 (by decide) ?_
        refine V_idiv (pc := 85) F dL_drifted_85 ?_
        intro z19
        refine V_goto (pc := 86) F 90 dL_drifted_86 (by decide) ?_
        refine V_sub [1, 2, 3, 5] (L' := [(0, vI x0), (1, vR x1), (2, vR x2), (4, vI x4)]) rfl ?_
        exact vB_L_drifted_90 F hm rc28 hrc28 x0 x1 x2 x4 x3 z14 z19 h16
    · refine V_iconst (pc := 49) F (x := (0 : Int32)) dL_drifted_49 (by decide) ?_
      refine V_goto (pc := 50) F 91 dL_drifted_50 (by decide) ?_
      refine V_sub [1, 2, 3, 5] (L' := [(0, vI x0), (1, vR x1), (2, vR x2), (4, vI x4)]) rfl ?_
      exact vB_L_drifted_91 F hm rc28 hrc28 x0 x1 x2 x4 x3 (0 : Int32) h9
theorem vL_L_drifted_28 {K : CT} (F : Fr K cL_drifted RL (some .int) [] 2 0) (hm : mxL K = 6) (n : Nat) : ∀ x0 x1 x2 x3 x4 h, V K 28 [(0, vI x0), (1, vR x1), (2, vR x2), (3, vI x3), (4, vI x4)] [] h (L_L_drifted_28 n x0 x1 x2 x3 x4 h) := by
  induction n with
  | zero => intros; exact V_none
  | succ n ih => intro x0 x1 x2 x3 x4 h; exact vB_L_drifted_28 F hm _ ih x0 x1 x2 x3 x4 h
theorem vB_L_drifted_23 {K : CT} (F : Fr K cL_drifted RL (some .int) [] 2 0) (hm : mxL K = 6) (x0 : Int32) (x1 : Option Nat) (x2 : Option Nat) (s0 : Int32) (s1 : Int32) (h : MH) : V K 23 [(0, vI x0), (1, vR x1), (2, vR x2)] [vI s1, vI s0] h (B_L_drifted_23 x0 x1 x2 s0 s1 h) := by
  unfold B_L_drifted_23
  refine V_isub (pc := 23) F dL_drifted_23 ?_
  intro z7
  refine V_istore_n (pc := 24) F [(3, vI z7), (0, vI x0), (1, vR x1), (2, vR x2)] dL_drifted_24 (lt_mx hm (by decide)) rfl ?_
  refine V_iconst (pc := 25) F (x := (1 : Int32)) dL_drifted_25 (by decide) ?_
  refine V_istore (pc := 26) F [(4, vI (1 : Int32)), (3, vI z7), (0, vI x0), (1, vR x1), (2, vR x2)] dL_drifted_26 (lt_mx hm (by decide)) rfl ?_
  refine V_sub [2, 3, 4, 1, 0] (L' := [(0, vI x0), (1, vR x1), (2, vR x2), (3, vI z7), (4, vI (1 : Int32))]) rfl ?_
  exact vL_L_drifted_28 F hm fuel x0 x1 x2 z7 (1 : Int32) h
theorem vM_L_drifted {K : CT} (F : Fr K cL_drifted RL (some .int) [] 2 0) (hm : mxL K = 6) (x0 : Int32) (x1 : Option Nat) (x2 : Option Nat) (h : MH) : V K 0 [(0, vI x0), (1, vR x1), (2, vR x2)] [] h (M_L_drifted x0 x1 x2 h) := by
  unfold M_L_drifted
  refine V_aload_n (pc := 0) F dL_drifted_0 2 rfl ?_
  refine V_iload_n (pc := 1) F dL_drifted_1 0 rfl ?_
  refine V_iald (pc := 2) F dL_drifted_2 ?_
  intro z1
  refine V_iload_n (pc := 3) F dL_drifted_3 0 rfl ?_
  refine V_aload_n (pc := 4) F dL_drifted_4 1 rfl ?_
  refine V_cSM (pc := 5) F (as := [vI x0, vR x1]) (C_L_leads x0 x1 h) w_L_leads g_st_L_leads g_ml_RL_55 (by decide) (rest := [vI z1]) rfl rfl (Nat.le_of_ble_eq_true rfl) dL_drifted_5 (k_I fun z2 h3 => ?_)
  refine V_if_lt (pc := 8) F 22 dL_drifted_8 (by decide) ?_ ?_
  · refine V_iconst (pc := 22) F (x := (0 : Int32)) dL_drifted_22 (by decide) ?_
    exact vB_L_drifted_23 F hm x0 x1 x2 z1 (0 : Int32) h3
  · refine V_iconst (pc := 11) F (x := (4 : Int32)) dL_drifted_11 (by decide) ?_
    refine V_aload_n (pc := 12) F dL_drifted_12 2 rfl ?_
    refine V_iload_n (pc := 13) F dL_drifted_13 0 rfl ?_
    refine V_iald (pc := 14) F dL_drifted_14 ?_
    intro z4
    refine V_imul (pc := 15) F dL_drifted_15 ?_
    intro z5
    refine V_bipush (pc := 16) F (x := (10 : Int32)) dL_drifted_16 (by decide) ?_
    refine V_idiv (pc := 18) F dL_drifted_18 ?_
    intro z6
    refine V_goto (pc := 19) F 23 dL_drifted_19 (by decide) ?_
    exact vB_L_drifted_23 F hm x0 x1 x2 z1 z6 h3
theorem C_L_drifted (x0 : Int32) (x1 : Option Nat) (x2 : Option Nat) (h : MH) : CtrM yL_drifted (WSm yL_drifted cL_drifted 6 (some .int)) 2 [vI x0, vR x1, vR x2] h (M_L_drifted x0 x1 x2 h) :=
  CtrM_of (by decide) (Nat.le_of_ble_eq_true rfl) (fun K F hm hi => vM_L_drifted F hm x0 x1 x2 h)
def M_L_corrected (x0 : Int32) (x1 : Option Nat) (x2 : Option Nat) (x3 : Option Nat) (h : MH) : Res := rdI h x1 20 x0 fun z1 => rdI h x2 20 x0 fun z2 => rmI z2 (16 : Int32) fun z3 => if z3 ≤ 0 then (bnd (z1 - (0 : Int32)) fun z4 => rtI z4 h) else (rdI h x2 20 x0 fun z5 => rmI z5 (16 : Int32) fun z6 => bnd (z6 - (1 : Int32)) fun z7 => bnd ((8 : Int32) * z7) fun z8 => bnd (z8 + (5 : Int32)) fun z9 => rdI h x3 20 z9 fun z10 => bnd (z1 - z10) fun z11 => rtI z11 h)
theorem vM_L_corrected {K : CT} (F : Fr K cL_corrected RL (some .int) [] 0 0) (hm : mxL K = 4) (x0 : Int32) (x1 : Option Nat) (x2 : Option Nat) (x3 : Option Nat) (h : MH) : V K 0 [(0, vI x0), (1, vR x1), (2, vR x2), (3, vR x3)] [] h (M_L_corrected x0 x1 x2 x3 h) := by
  unfold M_L_corrected
  refine V_aload_n (pc := 0) F dL_corrected_0 1 rfl ?_
  refine V_iload_n (pc := 1) F dL_corrected_1 0 rfl ?_
  refine V_iald (pc := 2) F dL_corrected_2 ?_
  intro z1
  refine V_aload_n (pc := 3) F dL_corrected_3 2 rfl ?_
  refine V_iload_n (pc := 4) F dL_corrected_4 0 rfl ?_
  refine V_iald (pc := 5) F dL_corrected_5 ?_
  intro z2
  refine V_bipush (pc := 6) F (x := (16 : Int32)) dL_corrected_6 (by decide) ?_
  refine V_irem (pc := 8) F dL_corrected_8 ?_
  intro z3
  refine V_if_le (pc := 9) F 30 dL_corrected_9 (by decide) ?_ ?_
  · refine V_iconst (pc := 30) F (x := (0 : Int32)) dL_corrected_30 (by decide) ?_
    refine V_isub (pc := 31) F dL_corrected_31 ?_
    intro z4
    exact V_iret (pc := 32) F (Or.inl rfl) dL_corrected_32
  · refine V_aload_n (pc := 12) F dL_corrected_12 3 rfl ?_
    refine V_bipush (pc := 13) F (x := (8 : Int32)) dL_corrected_13 (by decide) ?_
    refine V_aload_n (pc := 15) F dL_corrected_15 2 rfl ?_
    refine V_iload_n (pc := 16) F dL_corrected_16 0 rfl ?_
    refine V_iald (pc := 17) F dL_corrected_17 ?_
    intro z5
    refine V_bipush (pc := 18) F (x := (16 : Int32)) dL_corrected_18 (by decide) ?_
    refine V_irem (pc := 20) F dL_corrected_20 ?_
    intro z6
    refine V_iconst (pc := 21) F (x := (1 : Int32)) dL_corrected_21 (by decide) ?_
    refine V_isub (pc := 22) F dL_corrected_22 ?_
    intro z7
    refine V_imul (pc := 23) F dL_corrected_23 ?_
    intro z8
    refine V_iconst (pc := 24) F (x := (5 : Int32)) dL_corrected_24 (by decide) ?_
    refine V_iadd (pc := 25) F dL_corrected_25 ?_
    intro z9
    refine V_iald (pc := 26) F dL_corrected_26 ?_
    intro z10
    refine V_goto (pc := 27) F 31 dL_corrected_27 (by decide) ?_
    refine V_isub (pc := 31) F dL_corrected_31 ?_
    intro z11
    exact V_iret (pc := 32) F (Or.inl rfl) dL_corrected_32
theorem C_L_corrected (x0 : Int32) (x1 : Option Nat) (x2 : Option Nat) (x3 : Option Nat) (h : MH) : CtrM yL_corrected (WSm yL_corrected cL_corrected 4 (some .int)) 0 [vI x0, vR x1, vR x2, vR x3] h (M_L_corrected x0 x1 x2 x3 h) :=
  CtrM_of (by decide) (Nat.le_of_ble_eq_true rfl) (fun K F hm hi => vM_L_corrected F hm x0 x1 x2 x3 h)
def B_L_map_135 (rc13 : Int32 → Int32 → Int32 → Int32 → Option Nat → Option Nat → Option Nat → Option Nat → Option Nat → Option Nat → Int32 → MH → Res) (x0 : Int32) (x1 : Int32) (x2 : Int32) (x3 : Int32) (x4 : Option Nat) (x5 : Option Nat) (x6 : Option Nat) (x7 : Option Nat) (x8 : Option Nat) (x9 : Option Nat) (x10 : Int32) (h : MH) : Res := bnd (x10 + (1)) fun z33 => rc13 x0 x1 x2 x3 x4 x5 x6 x7 x8 x9 z33 h
def B_L_map_13 (rc13 : Int32 → Int32 → Int32 → Int32 → Option Nat → Option Nat → Option Nat → Option Nat → Option Nat → Option Nat → Int32 → MH → Res) (x0 : Int32) (x1 : Int32) (x2 : Int32) (x3 : Int32) (x4 : Option Nat) (x5 : Option Nat) (x6 : Option Nat) (x7 : Option Nat) (x8 : Option Nat) (x9 : Option Nat) (x10 : Int32) (h : MH) : Res := rdI h x9 20 (5 : Int32) fun z3 => if z3 ≤ x10 then (rtV h) else (rdI h x4 20 x10 fun z4 => rmI z4 (64 : Int32) fun z5 => rmI z5 (10 : Int32) fun z6 => rmI x0 (10 : Int32) fun z7 => calI (M_L_apart z6 z7 h) fun z8 h9 => bnd ((8 : Int32) - z8) fun z10 => rdI h9 x4 20 x10 fun z11 => rmI z11 (64 : Int32) fun z12 => dvI z12 (10 : Int32) fun z13 => dvI x0 (10 : Int32) fun z14 => calI (M_L_apart z13 z14 h9) fun z15 h16 => bnd (z10 - z15) fun z17 => if x10 = x3 then (B_L_map_135 rc13 x0 x1 x2 x3 x4 x5 x6 x7 x8 x9 x10 h16) else (if z17 ≤ 0 then (B_L_map_135 rc13 x0 x1 x2 x3 x4 x5 x6 x7 x8 x9 x10 h16) else (rdI h16 x4 20 x10 fun z18 => dvI z18 (64 : Int32) fun z19 => calI (M_L_apart z19 x1 h16) fun z20 h21 => if x2 < z20 then (B_L_map_135 rc13 x0 x1 x2 x3 x4 x5 x6 x7 x8 x9 x10 h21) else (calI (M_L_flag x10 x5 x6 x9 h21) fun z22 h23 => if z22 ≠ 0 then (B_L_map_135 rc13 x0 x1 x2 x3 x4 x5 x6 x7 x8 x9 x10 h23) else (rdI h23 x8 20 (0 : Int32) fun z24 => calI (M_L_corrected x10 x5 x6 x7 h23) fun z25 h26 => bnd (z17 * z25) fun z27 => bnd (z24 + z27) fun z28 => wrI h26 x8 20 (0 : Int32) z28 fun h29 => rdI h29 x8 20 (1 : Int32) fun z30 => bnd (z30 + z17) fun z31 => wrI h29 x8 20 (1 : Int32) z31 fun h32 => B_L_map_135 rc13 x0 x1 x2 x3 x4 x5 x6 x7 x8 x9 x10 h32)))))
def L_L_map_13 : Nat → Int32 → Int32 → Int32 → Int32 → Option Nat → Option Nat → Option Nat → Option Nat → Option Nat → Option Nat → Int32 → MH → Res
  | 0 => fun _ _ _ _ _ _ _ _ _ _ _ _ => none
  | n + 1 => B_L_map_13 (L_L_map_13 n)
def M_L_map (x0 : Int32) (x1 : Int32) (x2 : Int32) (x3 : Int32) (x4 : Option Nat) (x5 : Option Nat) (x6 : Option Nat) (x7 : Option Nat) (x8 : Option Nat) (x9 : Option Nat) (h : MH) : Res := wrI h x8 20 (0 : Int32) (0 : Int32) fun h1 => wrI h1 x8 20 (1 : Int32) (0 : Int32) fun h2 => L_L_map_13 fuel x0 x1 x2 x3 x4 x5 x6 x7 x8 x9 (0 : Int32) h2
theorem vB_L_map_135 {K : CT} (F : Fr K cL_map RL none [] 1 0) (hm : mxL K = 12) (rc13 : Int32 → Int32 → Int32 → Int32 → Option Nat → Option Nat → Option Nat → Option Nat → Option Nat → Option Nat → Int32 → MH → Res) (hrc13 : ∀ x0 x1 x2 x3 x4 x5 x6 x7 x8 x9 x10 h, V K 13 [(0, vI x0), (1, vI x1), (2, vI x2), (3, vI x3), (4, vR x4), (5, vR x5), (6, vR x6), (7, vR x7), (8, vR x8), (9, vR x9), (10, vI x10)] [] h (rc13 x0 x1 x2 x3 x4 x5 x6 x7 x8 x9 x10 h)) (x0 : Int32) (x1 : Int32) (x2 : Int32) (x3 : Int32) (x4 : Option Nat) (x5 : Option Nat) (x6 : Option Nat) (x7 : Option Nat) (x8 : Option Nat) (x9 : Option Nat) (x10 : Int32) (h : MH) : V K 135 [(0, vI x0), (1, vI x1), (2, vI x2), (3, vI x3), (4, vR x4), (5, vR x5), (6, vR x6), (7, vR x7), (8, vR x8), (9, vR x9), (10, vI x10)] [] h (B_L_map_135 rc13 x0 x1 x2 x3 x4 x5 x6 x7 x8 x9 x10 h) := by
  unfold B_L_map_135
  refine V_iinc (pc := 135) F (fun z33 => [(10, vI z33), (0, vI x0), (1, vI x1), (2, vI x2), (3, vI x3), (4, vR x4), (5, vR x5), (6, vR x6), (7, vR x7), (8, vR x8), (9, vR x9)]) dL_map_135 (lt_mx hm (by decide)) 10 rfl (dx := (1 : Int32)) (by decide) (fun _ => rfl) ?_
  intro z33
  refine V_goto (pc := 138) F 13 dL_map_138 (by decide) ?_
  refine V_sub [1, 2, 3, 4, 5, 6, 7, 8, 9, 10, 0] (L' := [(0, vI x0), (1, vI x1), (2, vI x2), (3, vI x3), (4, vR x4), (5, vR x5), (6, vR x6), (7, vR x7), (8, vR x8), (9, vR x9), (10, vI z33)]) rfl ?_
  exact hrc13 x0 x1 x2 x3 x4 x5 x6 x7 x8 x9 z33 h
theorem vB_L_map_13 {K : CT} (F : Fr K cL_map RL none [] 1 0) (hm : mxL K = 12) (rc13 : Int32 → Int32 → Int32 → Int32 → Option Nat → Option Nat → Option Nat → Option Nat → Option Nat → Option Nat → Int32 → MH → Res) (hrc13 : ∀ x0 x1 x2 x3 x4 x5 x6 x7 x8 x9 x10 h, V K 13 [(0, vI x0), (1, vI x1), (2, vI x2), (3, vI x3), (4, vR x4), (5, vR x5), (6, vR x6), (7, vR x7), (8, vR x8), (9, vR x9), (10, vI x10)] [] h (rc13 x0 x1 x2 x3 x4 x5 x6 x7 x8 x9 x10 h)) (x0 : Int32) (x1 : Int32) (x2 : Int32) (x3 : Int32) (x4 : Option Nat) (x5 : Option Nat) (x6 : Option Nat) (x7 : Option Nat) (x8 : Option Nat) (x9 : Option Nat) (x10 : Int32) (h : MH) : V K 13 [(0, vI x0), (1, vI x1), (2, vI x2), (3, vI x3), (4, vR x4), (5, vR x5), (6, vR x6), (7, vR x7), (8, vR x8), (9, vR x9), (10, vI x10)] [] h (B_L_map_13 rc13 x0 x1 x2 x3 x4 x5 x6 x7 x8 x9 x10 h) := by
  unfold B_L_map_13
  refine V_iload (pc := 13) F dL_map_13 10 rfl ?_
  refine V_aload (pc := 15) F dL_map_15 9 rfl ?_
  refine V_iconst (pc := 17) F (x := (5 : Int32)) dL_map_17 (by decide) ?_
  refine V_iald (pc := 18) F dL_map_18 ?_
  intro z3
  refine V_icmp_ge (pc := 19) F 141 dL_map_19 (by decide) ?_ ?_
  · exact V_vret (pc := 141) F (Or.inl rfl) dL_map_141
  · refine V_bipush (pc := 22) F (x := (8 : Int32)) dL_map_22 (by decide) ?_
    refine V_aload (pc := 24) F dL_map_24 4 rfl ?_
    refine V_iload (pc := 26) F dL_map_26 10 rfl ?_
    refine V_iald (pc := 28) F dL_map_28 ?_
    intro z4
    refine V_bipush (pc := 29) F (x := (64 : Int32)) dL_map_29 (by decide) ?_
    refine V_irem (pc := 31) F dL_map_31 ?_
    intro z5
    refine V_bipush (pc := 32) F (x := (10 : Int32)) dL_map_32 (by decide) ?_
    refine V_irem (pc := 34) F dL_map_34 ?_
    intro z6
    refine V_iload_n (pc := 35) F dL_map_35 0 rfl ?_
    refine V_bipush (pc := 36) F (x := (10 : Int32)) dL_map_36 (by decide) ?_
    refine V_irem (pc := 38) F dL_map_38 ?_
    intro z7
    refine V_cSM (pc := 39) F (as := [vI z6, vI z7]) (C_L_apart z6 z7 h) w_L_apart g_st_L_apart g_ml_RL_78 (by decide) (rest := [vI (8 : Int32)]) rfl rfl (Nat.le_of_ble_eq_true rfl) dL_map_39 (k_I fun z8 h9 => ?_)
    refine V_isub (pc := 42) F dL_map_42 ?_
    intro z10
    refine V_aload (pc := 43) F dL_map_43 4 rfl ?_
    refine V_iload (pc := 45) F dL_map_45 10 rfl ?_
    refine V_iald (pc := 47) F dL_map_47 ?_
    intro z11
    refine V_bipush (pc := 48) F (x := (64 : Int32)) dL_map_48 (by decide) ?_
    refine V_irem (pc := 50) F dL_map_50 ?_
    intro z12
    refine V_bipush (pc := 51) F (x := (10 : Int32)) dL_map_51 (by decide) ?_
    refine V_idiv (pc := 53) F dL_map_53 ?_
    intro z13
    refine V_iload_n (pc := 54) F dL_map_54 0 rfl ?_
    refine V_bipush (pc := 55) F (x := (10 : Int32)) dL_map_55 (by decide) ?_
    refine V_idiv (pc := 57) F dL_map_57 ?_
    intro z14
    refine V_cSM (pc := 58) F (as := [vI z13, vI z14]) (C_L_apart z13 z14 h9) w_L_apart g_st_L_apart g_ml_RL_78 (by decide) (rest := [vI z10]) rfl rfl (Nat.le_of_ble_eq_true rfl) dL_map_58 (k_I fun z15 h16 => ?_)
    refine V_isub (pc := 61) F dL_map_61 ?_
    intro z17
    refine V_istore (pc := 62) F [(11, vI z17), (0, vI x0), (1, vI x1), (2, vI x2), (3, vI x3), (4, vR x4), (5, vR x5), (6, vR x6), (7, vR x7), (8, vR x8), (9, vR x9), (10, vI x10)] dL_map_62 (lt_mx hm (by decide)) rfl ?_
    refine V_iload (pc := 64) F dL_map_64 11 rfl ?_
    refine V_iload_n (pc := 66) F dL_map_66 4 rfl ?_
    refine V_icmp_eq (pc := 67) F 135 dL_map_67 (by decide) ?_ ?_
    · refine V_sub [1, 2, 3, 4, 5, 6, 7, 8, 9, 10, 11] (L' := [(0, vI x0), (1, vI x1), (2, vI x2), (3, vI x3), (4, vR x4), (5, vR x5), (6, vR x6), (7, vR x7), (8, vR x8), (9, vR x9), (10, vI x10)]) rfl ?_
      exact vB_L_map_135 F hm rc13 hrc13 x0 x1 x2 x3 x4 x5 x6 x7 x8 x9 x10 h16
    · refine V_iload (pc := 70) F dL_map_70 0 rfl ?_
      refine V_if_le (pc := 72) F 135 dL_map_72 (by decide) ?_ ?_
      · refine V_sub [1, 2, 3, 4, 5, 6, 7, 8, 9, 10, 11] (L' := [(0, vI x0), (1, vI x1), (2, vI x2), (3, vI x3), (4, vR x4), (5, vR x5), (6, vR x6), (7, vR x7), (8, vR x8), (9, vR x9), (10, vI x10)]) rfl ?_
        exact vB_L_map_135 F hm rc13 hrc13 x0 x1 x2 x3 x4 x5 x6 x7 x8 x9 x10 h16
      · refine V_aload (pc := 75) F dL_map_75 5 rfl ?_
        refine V_iload (pc := 77) F dL_map_77 11 rfl ?_
        refine V_iald (pc := 79) F dL_map_79 ?_
        intro z18
        refine V_bipush (pc := 80) F (x := (64 : Int32)) dL_map_80 (by decide) ?_
        refine V_idiv (pc := 82) F dL_map_82 ?_
        intro z19
        refine V_iload_n (pc := 83) F dL_map_83 2 rfl ?_
        refine V_cSM (pc := 84) F (as := [vI z19, vI x1]) (C_L_apart z19 x1 h16) w_L_apart g_st_L_apart g_ml_RL_78 (by decide) (rest := []) rfl rfl (Nat.le_of_ble_eq_true rfl) dL_map_84 (k_I fun z20 h21 => ?_)
        refine V_iload_n (pc := 87) F dL_map_87 3 rfl ?_
        refine V_icmp_gt (pc := 88) F 135 dL_map_88 (by decide) ?_ ?_
        · refine V_sub [1, 2, 3, 4, 5, 6, 7, 8, 9, 10, 11] (L' := [(0, vI x0), (1, vI x1), (2, vI x2), (3, vI x3), (4, vR x4), (5, vR x5), (6, vR x6), (7, vR x7), (8, vR x8), (9, vR x9), (10, vI x10)]) rfl ?_
          exact vB_L_map_135 F hm rc13 hrc13 x0 x1 x2 x3 x4 x5 x6 x7 x8 x9 x10 h21
        · refine V_iload (pc := 91) F dL_map_91 11 rfl ?_
          refine V_aload (pc := 93) F dL_map_93 6 rfl ?_
          refine V_aload (pc := 95) F dL_map_95 7 rfl ?_
          refine V_aload (pc := 97) F dL_map_97 10 rfl ?_
          refine V_cSM (pc := 99) F (as := [vI x10, vR x5, vR x6, vR x9]) (C_L_flag x10 x5 x6 x9 h21) w_L_flag g_st_L_flag g_ml_RL_81 (by decide) (rest := []) rfl rfl (Nat.le_of_ble_eq_true rfl) dL_map_99 (k_I fun z22 h23 => ?_)
          refine V_if_ne (pc := 102) F 135 dL_map_102 (by decide) ?_ ?_
          · refine V_sub [1, 2, 3, 4, 5, 6, 7, 8, 9, 10, 11] (L' := [(0, vI x0), (1, vI x1), (2, vI x2), (3, vI x3), (4, vR x4), (5, vR x5), (6, vR x6), (7, vR x7), (8, vR x8), (9, vR x9), (10, vI x10)]) rfl ?_
            exact vB_L_map_135 F hm rc13 hrc13 x0 x1 x2 x3 x4 x5 x6 x7 x8 x9 x10 h23
          · refine V_aload (pc := 105) F dL_map_105 9 rfl ?_
            refine V_iconst (pc := 107) F (x := (0 : Int32)) dL_map_107 (by decide) ?_
            refine V_dup2 (pc := 108) F dL_map_108 rfl rfl ?_
            refine V_iald (pc := 109) F dL_map_109 ?_
            intro z24
            refine V_iload (pc := 110) F dL_map_110 0 rfl ?_
            refine V_iload (pc := 112) F dL_map_112 11 rfl ?_
            refine V_aload (pc := 114) F dL_map_114 6 rfl ?_
            refine V_aload (pc := 116) F dL_map_116 7 rfl ?_
            refine V_aload (pc := 118) F dL_map_118 8 rfl ?_
            refine V_cSM (pc := 120) F (as := [vI x10, vR x5, vR x6, vR x7]) (C_L_corrected x10 x5 x6 x7 h23) w_L_corrected g_st_L_corrected g_ml_RL_85 (by decide) (rest := [vI z17, vI z24, vI (0 : Int32), vR x8]) rfl rfl (Nat.le_of_ble_eq_true rfl) dL_map_120 (k_I fun z25 h26 => ?_)
            refine V_imul (pc := 123) F dL_map_123 ?_
            intro z27
            refine V_iadd (pc := 124) F dL_map_124 ?_
            intro z28
            refine V_iast (pc := 125) F dL_map_125 ?_
            intro h29
            refine V_aload (pc := 126) F dL_map_126 9 rfl ?_
            refine V_iconst (pc := 128) F (x := (1 : Int32)) dL_map_128 (by decide) ?_
            refine V_dup2 (pc := 129) F dL_map_129 rfl rfl ?_
            refine V_iald (pc := 130) F dL_map_130 ?_
            intro z30
            refine V_iload (pc := 131) F dL_map_131 0 rfl ?_
            refine V_iadd (pc := 133) F dL_map_133 ?_
            intro z31
            refine V_iast (pc := 134) F dL_map_134 ?_
            intro h32
            refine V_sub [1, 2, 3, 4, 5, 6, 7, 8, 9, 10, 11] (L' := [(0, vI x0), (1, vI x1), (2, vI x2), (3, vI x3), (4, vR x4), (5, vR x5), (6, vR x6), (7, vR x7), (8, vR x8), (9, vR x9), (10, vI x10)]) rfl ?_
            exact vB_L_map_135 F hm rc13 hrc13 x0 x1 x2 x3 x4 x5 x6 x7 x8 x9 x10 h32
theorem vL_L_map_13 {K : CT} (F : Fr K cL_map RL none [] 1 0) (hm : mxL K = 12) (n : Nat) : ∀ x0 x1 x2 x3 x4 x5 x6 x7 x8 x9 x10 h, V K 13 [(0, vI x0), (1, vI x1), (2, vI x2), (3, vI x3), (4, vR x4), (5, vR x5), (6, vR x6), (7, vR x7), (8, vR x8), (9, vR x9), (10, vI x10)] [] h (L_L_map_13 n x0 x1 x2 x3 x4 x5 x6 x7 x8 x9 x10 h) := by
  induction n with
  | zero => intros; exact V_none
  | succ n ih => intro x0 x1 x2 x3 x4 x5 x6 x7 x8 x9 x10 h; exact vB_L_map_13 F hm _ ih x0 x1 x2 x3 x4 x5 x6 x7 x8 x9 x10 h
theorem vM_L_map {K : CT} (F : Fr K cL_map RL none [] 1 0) (hm : mxL K = 12) (x0 : Int32) (x1 : Int32) (x2 : Int32) (x3 : Int32) (x4 : Option Nat) (x5 : Option Nat) (x6 : Option Nat) (x7 : Option Nat) (x8 : Option Nat) (x9 : Option Nat) (h : MH) : V K 0 [(0, vI x0), (1, vI x1), (2, vI x2), (3, vI x3), (4, vR x4), (5, vR x5), (6, vR x6), (7, vR x7), (8, vR x8), (9, vR x9)] [] h (M_L_map x0 x1 x2 x3 x4 x5 x6 x7 x8 x9 h) := by
  unfold M_L_map
  refine V_aload (pc := 0) F dL_map_0 8 rfl ?_
  refine V_iconst (pc := 2) F (x := (0 : Int32)) dL_map_2 (by decide) ?_
  refine V_iconst (pc := 3) F (x := (0 : Int32)) dL_map_3 (by decide) ?_
  refine V_iast (pc := 4) F dL_map_4 ?_
  intro h1
  refine V_aload (pc := 5) F dL_map_5 8 rfl ?_
  refine V_iconst (pc := 7) F (x := (1 : Int32)) dL_map_7 (by decide) ?_
  refine V_iconst (pc := 8) F (x := (0 : Int32)) dL_map_8 (by decide) ?_
  refine V_iast (pc := 9) F dL_map_9 ?_
  intro h2
  refine V_iconst (pc := 10) F (x := (0 : Int32)) dL_map_10 (by decide) ?_
  refine V_istore (pc := 11) F [(10, vI (0 : Int32)), (0, vI x0), (1, vI x1), (2, vI x2), (3, vI x3), (4, vR x4), (5, vR x5), (6, vR x6), (7, vR x7), (8, vR x8), (9, vR x9)] dL_map_11 (lt_mx hm (by decide)) rfl ?_
  refine V_sub [1, 2, 3, 4, 5, 6, 7, 8, 9, 10, 0] (L' := [(0, vI x0), (1, vI x1), (2, vI x2), (3, vI x3), (4, vR x4), (5, vR x5), (6, vR x6), (7, vR x7), (8, vR x8), (9, vR x9), (10, vI (0 : Int32))]) rfl ?_
  exact vL_L_map_13 F hm fuel x0 x1 x2 x3 x4 x5 x6 x7 x8 x9 (0 : Int32) h2
theorem C_L_map (x0 : Int32) (x1 : Int32) (x2 : Int32) (x3 : Int32) (x4 : Option Nat) (x5 : Option Nat) (x6 : Option Nat) (x7 : Option Nat) (x8 : Option Nat) (x9 : Option Nat) (h : MH) : CtrM yL_map (WSm yL_map cL_map 12 none) 1 [vI x0, vI x1, vI x2, vI x3, vR x4, vR x5, vR x6, vR x7, vR x8, vR x9] h (M_L_map x0 x1 x2 x3 x4 x5 x6 x7 x8 x9 h) :=
  CtrM_of (by decide) (Nat.le_of_ble_eq_true rfl) (fun K F hm hi => vM_L_map F hm x0 x1 x2 x3 x4 x5 x6 x7 x8 x9 h)
