def B_X9_init_228 (rc228 : Option Nat → Int32 → MH → Res) (x0 : Option Nat) (x1 : Int32) (h : MH) : Res := if (60 : Int32) ≤ x1 then (rtV h) else (gfR h x0 9 6 fun r83 => wrI h r83 20 x1 (1000 : Int32) fun h84 => gfR h84 x0 9 6 fun r85 => bnd ((60 : Int32) + x1) fun z86 => wrI h84 r85 20 z86 (400 : Int32) fun h87 => gfR h87 x0 9 7 fun r88 => wrI h87 r88 20 x1 (350 : Int32) fun h89 => gfR h89 x0 9 7 fun r90 => bnd ((60 : Int32) + x1) fun z91 => wrI h89 r90 20 z91 (360 : Int32) fun h92 => bnd (x1 + (1)) fun z93 => rc228 x0 z93 h92)
def L_X9_init_228 : Nat → Option Nat → Int32 → MH → Res
  | 0 => fun _ _ _ => none
  | n + 1 => B_X9_init_228 (L_X9_init_228 n)
def M_X9_init (x0 : Option Nat) (h : MH) : Res := nnl x0 <| nwA h 21 (60 : Int32) fun r1 h2 => pfR h2 x0 9 3 r1 fun h3 => nwA h3 20 (60 : Int32) fun r4 h5 => pfR h5 x0 9 4 r4 fun h6 => nwA h6 20 (6 : Int32) fun r7 h8 => pfR h8 x0 9 5 r7 fun h9 => nwA h9 20 (120 : Int32) fun r10 h11 => pfR h11 x0 9 6 r10 fun h12 => nwA h12 20 (120 : Int32) fun r13 h14 => pfR h14 x0 9 7 r13 fun h15 => nwA h15 20 (60 : Int32) fun r16 h17 => pfR h17 x0 9 8 r16 fun h18 => nwA h18 20 (60 : Int32) fun r19 h20 => pfR h20 x0 9 9 r19 fun h21 => nwA h21 20 (8 : Int32) fun r22 h23 => pfR h23 x0 9 11 r22 fun h24 => nwA h24 20 (8 : Int32) fun r25 h26 => pfR h26 x0 9 12 r25 fun h27 => nwA h27 20 (8 : Int32) fun r28 h29 => pfR h29 x0 9 13 r28 fun h30 => nwA h30 20 (8 : Int32) fun r31 h32 => pfR h32 x0 9 14 r31 fun h33 => nwA h33 20 (8 : Int32) fun r34 h35 => pfR h35 x0 9 15 r34 fun h36 => nwA h36 20 (8 : Int32) fun r37 h38 => pfR h38 x0 9 16 r37 fun h39 => nwA h39 20 (31 : Int32) fun r40 h41 => pfR h41 x0 9 18 r40 fun h42 => nwA h42 20 (31 : Int32) fun r43 h44 => pfR h44 x0 9 19 r43 fun h45 => nwA h45 20 (20 : Int32) fun r46 h47 => pfR h47 x0 9 21 r46 fun h48 => nwA h48 20 (20 : Int32) fun r49 h50 => pfR h50 x0 9 22 r49 fun h51 => nwA h51 20 (100 : Int32) fun r52 h53 => pfR h53 x0 9 24 r52 fun h54 => nwA h54 20 (100 : Int32) fun r55 h56 => pfR h56 x0 9 25 r55 fun h57 => nwA h57 20 (100 : Int32) fun r58 h59 => pfR h59 x0 9 26 r58 fun h60 => nwA h60 20 (100 : Int32) fun r61 h62 => pfR h62 x0 9 27 r61 fun h63 => nwA h63 20 (100 : Int32) fun r64 h65 => pfR h65 x0 9 28 r64 fun h66 => pfI h66 x0 9 29 (100 : Int32) fun h67 => nwA h67 20 (4 : Int32) fun r68 h69 => pfR h69 x0 9 31 r68 fun h70 => nwA h70 20 (300 : Int32) fun r71 h72 => pfR h72 x0 9 32 r71 fun h73 => nwA h73 20 (6 : Int32) fun r74 h75 => pfR h75 x0 9 34 r74 fun h76 => nwA h76 20 (6 : Int32) fun r77 h78 => pfR h78 x0 9 35 r77 fun h79 => nwA h79 20 (6 : Int32) fun r80 h81 => pfR h81 x0 9 36 r80 fun h82 => L_X9_init_228 fuel x0 (0 : Int32) h82
theorem vB_X9_init_228 {K : CT} (F : Fr K cX9_init RX9 none [] 1 0) (hm : mxL K = 2) (hi : nmK K "<init>") (rc228 : Option Nat → Int32 → MH → Res) (hrc228 : ∀ x0 x1 h, V K 228 [(0, vR x0), (1, vI x1)] [] h (rc228 x0 x1 h)) (x0 : Option Nat) (x1 : Int32) (h : MH) : V K 228 [(0, vR x0), (1, vI x1)] [] h (B_X9_init_228 rc228 x0 x1 h) := by
  unfold B_X9_init_228
  refine V_iload_n (pc := 228) F dX9_init_228 1 rfl ?_
  refine V_bipush (pc := 229) F (x := (60 : Int32)) dX9_init_229 (by decide) ?_
  refine V_icmp_ge (pc := 231) F 282 dX9_init_231 (by decide) ?_ ?_
  · exact V_vret (pc := 282) F (Or.inl rfl) dX9_init_282
  · refine V_aload_n (pc := 234) F dX9_init_234 0 rfl ?_
    refine V_getR (pc := 235) F 9 6 (by decide) (by decide) rfl g_fl_RX9_20 dX9_init_235 ?_
    intro r83
    refine V_iload_n (pc := 238) F dX9_init_238 1 rfl ?_
    refine V_sipush (pc := 239) F (x := (1000 : Int32)) dX9_init_239 (by decide) ?_
    refine V_iast (pc := 242) F dX9_init_242 ?_
    intro h84
    refine V_aload_n (pc := 243) F dX9_init_243 0 rfl ?_
    refine V_getR (pc := 244) F 9 6 (by decide) (by decide) rfl g_fl_RX9_20 dX9_init_244 ?_
    intro r85
    refine V_bipush (pc := 247) F (x := (60 : Int32)) dX9_init_247 (by decide) ?_
    refine V_iload_n (pc := 249) F dX9_init_249 1 rfl ?_
    refine V_iadd (pc := 250) F dX9_init_250 ?_
    intro z86
    refine V_sipush (pc := 251) F (x := (400 : Int32)) dX9_init_251 (by decide) ?_
    refine V_iast (pc := 254) F dX9_init_254 ?_
    intro h87
    refine V_aload_n (pc := 255) F dX9_init_255 0 rfl ?_
    refine V_getR (pc := 256) F 9 7 (by decide) (by decide) rfl g_fl_RX9_23 dX9_init_256 ?_
    intro r88
    refine V_iload_n (pc := 259) F dX9_init_259 1 rfl ?_
    refine V_sipush (pc := 260) F (x := (350 : Int32)) dX9_init_260 (by decide) ?_
    refine V_iast (pc := 263) F dX9_init_263 ?_
    intro h89
    refine V_aload_n (pc := 264) F dX9_init_264 0 rfl ?_
    refine V_getR (pc := 265) F 9 7 (by decide) (by decide) rfl g_fl_RX9_23 dX9_init_265 ?_
    intro r90
    refine V_bipush (pc := 268) F (x := (60 : Int32)) dX9_init_268 (by decide) ?_
    refine V_iload_n (pc := 270) F dX9_init_270 1 rfl ?_
    refine V_iadd (pc := 271) F dX9_init_271 ?_
    intro z91
    refine V_sipush (pc := 272) F (x := (360 : Int32)) dX9_init_272 (by decide) ?_
    refine V_iast (pc := 275) F dX9_init_275 ?_
    intro h92
    refine V_iinc (pc := 276) F (fun z93 => [(1, vI z93), (0, vR x0)]) dX9_init_276 (lt_mx hm (by decide)) 1 rfl (dx := (1 : Int32)) (by decide) (fun _ => rfl) ?_
    intro z93
    refine V_goto (pc := 279) F 228 dX9_init_279 (by decide) ?_
    refine V_sub [1, 0] (L' := [(0, vR x0), (1, vI z93)]) rfl ?_
    exact hrc228 x0 z93 h92
theorem vL_X9_init_228 {K : CT} (F : Fr K cX9_init RX9 none [] 1 0) (hm : mxL K = 2) (hi : nmK K "<init>") (n : Nat) : ∀ x0 x1 h, V K 228 [(0, vR x0), (1, vI x1)] [] h (L_X9_init_228 n x0 x1 h) := by
  induction n with
  | zero => intros; exact V_none
  | succ n ih => intro x0 x1 h; exact vB_X9_init_228 F hm hi _ ih x0 x1 h
theorem vM_X9_init {K : CT} (F : Fr K cX9_init RX9 none [] 1 0) (hm : mxL K = 2) (hi : nmK K "<init>") (x0 : Option Nat) (h : MH) : V K 0 [(0, vR x0)] [] h (M_X9_init x0 h) := by
  unfold M_X9_init
  refine V_aload_n (pc := 0) F dX9_init_0 0 rfl ?_
  refine V_obj (pc := 1) F (by decide) g_ml_RX9_1 g_in_obj g_cw_obj (Nat.le_of_ble_eq_true rfl) dX9_init_1 ?_
  refine V_aload_n (pc := 4) F dX9_init_4 0 rfl ?_
  refine V_bipush (pc := 5) F (x := (60 : Int32)) dX9_init_5 (by decide) ?_
  refine V_newa (pc := 7) F 21 (by decide) g_arr_21 dX9_init_7 ?_
  intro r1 h2
  refine V_putRF (pc := 9) F hi 9 3 (by decide) (by decide) rfl rfl rfl g_fl_RX9_7 dX9_init_9 ?_
  intro h3
  refine V_aload_n (pc := 12) F dX9_init_12 0 rfl ?_
  refine V_bipush (pc := 13) F (x := (60 : Int32)) dX9_init_13 (by decide) ?_
  refine V_newa (pc := 15) F 20 (by decide) g_arr_20 dX9_init_15 ?_
  intro r4 h5
  refine V_putRF (pc := 17) F hi 9 4 (by decide) (by decide) rfl rfl rfl g_fl_RX9_13 dX9_init_17 ?_
  intro h6
  refine V_aload_n (pc := 20) F dX9_init_20 0 rfl ?_
  refine V_bipush (pc := 21) F (x := (6 : Int32)) dX9_init_21 (by decide) ?_
  refine V_newa (pc := 23) F 20 (by decide) g_arr_20 dX9_init_23 ?_
  intro r7 h8
  refine V_putRF (pc := 25) F hi 9 5 (by decide) (by decide) rfl rfl rfl g_fl_RX9_17 dX9_init_25 ?_
  intro h9
  refine V_aload_n (pc := 28) F dX9_init_28 0 rfl ?_
  refine V_bipush (pc := 29) F (x := (120 : Int32)) dX9_init_29 (by decide) ?_
  refine V_newa (pc := 31) F 20 (by decide) g_arr_20 dX9_init_31 ?_
  intro r10 h11
  refine V_putRF (pc := 33) F hi 9 6 (by decide) (by decide) rfl rfl rfl g_fl_RX9_20 dX9_init_33 ?_
  intro h12
  refine V_aload_n (pc := 36) F dX9_init_36 0 rfl ?_
  refine V_bipush (pc := 37) F (x := (120 : Int32)) dX9_init_37 (by decide) ?_
  refine V_newa (pc := 39) F 20 (by decide) g_arr_20 dX9_init_39 ?_
  intro r13 h14
  refine V_putRF (pc := 41) F hi 9 7 (by decide) (by decide) rfl rfl rfl g_fl_RX9_23 dX9_init_41 ?_
  intro h15
  refine V_aload_n (pc := 44) F dX9_init_44 0 rfl ?_
  refine V_bipush (pc := 45) F (x := (60 : Int32)) dX9_init_45 (by decide) ?_
  refine V_newa (pc := 47) F 20 (by decide) g_arr_20 dX9_init_47 ?_
  intro r16 h17
  refine V_putRF (pc := 49) F hi 9 8 (by decide) (by decide) rfl rfl rfl g_fl_RX9_26 dX9_init_49 ?_
  intro h18
  refine V_aload_n (pc := 52) F dX9_init_52 0 rfl ?_
  refine V_bipush (pc := 53) F (x := (60 : Int32)) dX9_init_53 (by decide) ?_
  refine V_newa (pc := 55) F 20 (by decide) g_arr_20 dX9_init_55 ?_
  intro r19 h20
  refine V_putRF (pc := 57) F hi 9 9 (by decide) (by decide) rfl rfl rfl g_fl_RX9_29 dX9_init_57 ?_
  intro h21
  refine V_aload_n (pc := 60) F dX9_init_60 0 rfl ?_
  refine V_bipush (pc := 61) F (x := (8 : Int32)) dX9_init_61 (by decide) ?_
  refine V_newa (pc := 63) F 20 (by decide) g_arr_20 dX9_init_63 ?_
  intro r22 h23
  refine V_putRF (pc := 65) F hi 9 11 (by decide) (by decide) rfl rfl rfl g_fl_RX9_32 dX9_init_65 ?_
  intro h24
  refine V_aload_n (pc := 68) F dX9_init_68 0 rfl ?_
  refine V_bipush (pc := 69) F (x := (8 : Int32)) dX9_init_69 (by decide) ?_
  refine V_newa (pc := 71) F 20 (by decide) g_arr_20 dX9_init_71 ?_
  intro r25 h26
  refine V_putRF (pc := 73) F hi 9 12 (by decide) (by decide) rfl rfl rfl g_fl_RX9_35 dX9_init_73 ?_
  intro h27
  refine V_aload_n (pc := 76) F dX9_init_76 0 rfl ?_
  refine V_bipush (pc := 77) F (x := (8 : Int32)) dX9_init_77 (by decide) ?_
  refine V_newa (pc := 79) F 20 (by decide) g_arr_20 dX9_init_79 ?_
  intro r28 h29
  refine V_putRF (pc := 81) F hi 9 13 (by decide) (by decide) rfl rfl rfl g_fl_RX9_38 dX9_init_81 ?_
  intro h30
  refine V_aload_n (pc := 84) F dX9_init_84 0 rfl ?_
  refine V_bipush (pc := 85) F (x := (8 : Int32)) dX9_init_85 (by decide) ?_
  refine V_newa (pc := 87) F 20 (by decide) g_arr_20 dX9_init_87 ?_
  intro r31 h32
  refine V_putRF (pc := 89) F hi 9 14 (by decide) (by decide) rfl rfl rfl g_fl_RX9_41 dX9_init_89 ?_
  intro h33
  refine V_aload_n (pc := 92) F dX9_init_92 0 rfl ?_
  refine V_bipush (pc := 93) F (x := (8 : Int32)) dX9_init_93 (by decide) ?_
  refine V_newa (pc := 95) F 20 (by decide) g_arr_20 dX9_init_95 ?_
  intro r34 h35
  refine V_putRF (pc := 97) F hi 9 15 (by decide) (by decide) rfl rfl rfl g_fl_RX9_44 dX9_init_97 ?_
  intro h36
  refine V_aload_n (pc := 100) F dX9_init_100 0 rfl ?_
  refine V_bipush (pc := 101) F (x := (8 : Int32)) dX9_init_101 (by decide) ?_
  refine V_newa (pc := 103) F 20 (by decide) g_arr_20 dX9_init_103 ?_
  intro r37 h38
  refine V_putRF (pc := 105) F hi 9 16 (by decide) (by decide) rfl rfl rfl g_fl_RX9_47 dX9_init_105 ?_
  intro h39
  refine V_aload_n (pc := 108) F dX9_init_108 0 rfl ?_
  refine V_bipush (pc := 109) F (x := (31 : Int32)) dX9_init_109 (by decide) ?_
  refine V_newa (pc := 111) F 20 (by decide) g_arr_20 dX9_init_111 ?_
  intro r40 h41
  refine V_putRF (pc := 113) F hi 9 18 (by decide) (by decide) rfl rfl rfl g_fl_RX9_50 dX9_init_113 ?_
  intro h42
  refine V_aload_n (pc := 116) F dX9_init_116 0 rfl ?_
  refine V_bipush (pc := 117) F (x := (31 : Int32)) dX9_init_117 (by decide) ?_
  refine V_newa (pc := 119) F 20 (by decide) g_arr_20 dX9_init_119 ?_
  intro r43 h44
  refine V_putRF (pc := 121) F hi 9 19 (by decide) (by decide) rfl rfl rfl g_fl_RX9_53 dX9_init_121 ?_
  intro h45
  refine V_aload_n (pc := 124) F dX9_init_124 0 rfl ?_
  refine V_bipush (pc := 125) F (x := (20 : Int32)) dX9_init_125 (by decide) ?_
  refine V_newa (pc := 127) F 20 (by decide) g_arr_20 dX9_init_127 ?_
  intro r46 h47
  refine V_putRF (pc := 129) F hi 9 21 (by decide) (by decide) rfl rfl rfl g_fl_RX9_56 dX9_init_129 ?_
  intro h48
  refine V_aload_n (pc := 132) F dX9_init_132 0 rfl ?_
  refine V_bipush (pc := 133) F (x := (20 : Int32)) dX9_init_133 (by decide) ?_
  refine V_newa (pc := 135) F 20 (by decide) g_arr_20 dX9_init_135 ?_
  intro r49 h50
  refine V_putRF (pc := 137) F hi 9 22 (by decide) (by decide) rfl rfl rfl g_fl_RX9_59 dX9_init_137 ?_
  intro h51
  refine V_aload_n (pc := 140) F dX9_init_140 0 rfl ?_
  refine V_bipush (pc := 141) F (x := (100 : Int32)) dX9_init_141 (by decide) ?_
  refine V_newa (pc := 143) F 20 (by decide) g_arr_20 dX9_init_143 ?_
  intro r52 h53
  refine V_putRF (pc := 145) F hi 9 24 (by decide) (by decide) rfl rfl rfl g_fl_RX9_62 dX9_init_145 ?_
  intro h54
  refine V_aload_n (pc := 148) F dX9_init_148 0 rfl ?_
  refine V_bipush (pc := 149) F (x := (100 : Int32)) dX9_init_149 (by decide) ?_
  refine V_newa (pc := 151) F 20 (by decide) g_arr_20 dX9_init_151 ?_
  intro r55 h56
  refine V_putRF (pc := 153) F hi 9 25 (by decide) (by decide) rfl rfl rfl g_fl_RX9_65 dX9_init_153 ?_
  intro h57
  refine V_aload_n (pc := 156) F dX9_init_156 0 rfl ?_
  refine V_bipush (pc := 157) F (x := (100 : Int32)) dX9_init_157 (by decide) ?_
  refine V_newa (pc := 159) F 20 (by decide) g_arr_20 dX9_init_159 ?_
  intro r58 h59
  refine V_putRF (pc := 161) F hi 9 26 (by decide) (by decide) rfl rfl rfl g_fl_RX9_68 dX9_init_161 ?_
  intro h60
  refine V_aload_n (pc := 164) F dX9_init_164 0 rfl ?_
  refine V_bipush (pc := 165) F (x := (100 : Int32)) dX9_init_165 (by decide) ?_
  refine V_newa (pc := 167) F 20 (by decide) g_arr_20 dX9_init_167 ?_
  intro r61 h62
  refine V_putRF (pc := 169) F hi 9 27 (by decide) (by decide) rfl rfl rfl g_fl_RX9_71 dX9_init_169 ?_
  intro h63
  refine V_aload_n (pc := 172) F dX9_init_172 0 rfl ?_
  refine V_bipush (pc := 173) F (x := (100 : Int32)) dX9_init_173 (by decide) ?_
  refine V_newa (pc := 175) F 20 (by decide) g_arr_20 dX9_init_175 ?_
  intro r64 h65
  refine V_putRF (pc := 177) F hi 9 28 (by decide) (by decide) rfl rfl rfl g_fl_RX9_74 dX9_init_177 ?_
  intro h66
  refine V_aload_n (pc := 180) F dX9_init_180 0 rfl ?_
  refine V_bipush (pc := 181) F (x := (100 : Int32)) dX9_init_181 (by decide) ?_
  refine V_putI (pc := 183) F 9 29 (by decide) (by decide) rfl rfl g_fl_RX9_77 dX9_init_183 ?_
  intro h67
  refine V_aload_n (pc := 186) F dX9_init_186 0 rfl ?_
  refine V_iconst (pc := 187) F (x := (4 : Int32)) dX9_init_187 (by decide) ?_
  refine V_newa (pc := 188) F 20 (by decide) g_arr_20 dX9_init_188 ?_
  intro r68 h69
  refine V_putRF (pc := 190) F hi 9 31 (by decide) (by decide) rfl rfl rfl g_fl_RX9_81 dX9_init_190 ?_
  intro h70
  refine V_aload_n (pc := 193) F dX9_init_193 0 rfl ?_
  refine V_sipush (pc := 194) F (x := (300 : Int32)) dX9_init_194 (by decide) ?_
  refine V_newa (pc := 197) F 20 (by decide) g_arr_20 dX9_init_197 ?_
  intro r71 h72
  refine V_putRF (pc := 199) F hi 9 32 (by decide) (by decide) rfl rfl rfl g_fl_RX9_84 dX9_init_199 ?_
  intro h73
  refine V_aload_n (pc := 202) F dX9_init_202 0 rfl ?_
  refine V_bipush (pc := 203) F (x := (6 : Int32)) dX9_init_203 (by decide) ?_
  refine V_newa (pc := 205) F 20 (by decide) g_arr_20 dX9_init_205 ?_
  intro r74 h75
  refine V_putRF (pc := 207) F hi 9 34 (by decide) (by decide) rfl rfl rfl g_fl_RX9_87 dX9_init_207 ?_
  intro h76
  refine V_aload_n (pc := 210) F dX9_init_210 0 rfl ?_
  refine V_bipush (pc := 211) F (x := (6 : Int32)) dX9_init_211 (by decide) ?_
  refine V_newa (pc := 213) F 20 (by decide) g_arr_20 dX9_init_213 ?_
  intro r77 h78
  refine V_putRF (pc := 215) F hi 9 35 (by decide) (by decide) rfl rfl rfl g_fl_RX9_90 dX9_init_215 ?_
  intro h79
  refine V_aload_n (pc := 218) F dX9_init_218 0 rfl ?_
  refine V_bipush (pc := 219) F (x := (6 : Int32)) dX9_init_219 (by decide) ?_
  refine V_newa (pc := 221) F 20 (by decide) g_arr_20 dX9_init_221 ?_
  intro r80 h81
  refine V_putRF (pc := 223) F hi 9 36 (by decide) (by decide) rfl rfl rfl g_fl_RX9_93 dX9_init_223 ?_
  intro h82
  refine V_iconst (pc := 226) F (x := (0 : Int32)) dX9_init_226 (by decide) ?_
  refine V_istore_n (pc := 227) F [(1, vI (0 : Int32)), (0, vR x0)] dX9_init_227 (lt_mx hm (by decide)) rfl ?_
  refine V_sub [1, 0] (L' := [(0, vR x0), (1, vI (0 : Int32))]) rfl ?_
  exact vL_X9_init_228 F hm hi fuel x0 (0 : Int32) h82
theorem C_X9_init (x0 : Option Nat) (h : MH) : CtrM yX9_init (WSm yX9_init cX9_init 2 none) 1 [vR x0] h (M_X9_init x0 h) :=
  CtrM_of (by decide) (Nat.le_of_ble_eq_true rfl) (fun K F hm hi => vM_X9_init F hm hi x0 h)
def M_X9_in (x0 : Int32) (x1 : Int32) (x2 : Int32) (h : MH) : Res := if x0 < x1 then (rtZ (0 : Int32) h) else (if x2 < x0 then (rtZ (0 : Int32) h) else (rtZ (1 : Int32) h))
theorem vM_X9_in {K : CT} (F : Fr K cX9_in RX9 (some .boolean) [] 0 0) (hm : mxL K = 3) (x0 : Int32) (x1 : Int32) (x2 : Int32) (h : MH) : V K 0 [(0, vI x0), (1, vI x1), (2, vI x2)] [] h (M_X9_in x0 x1 x2 h) := by
  unfold M_X9_in
  refine V_iload_n (pc := 0) F dX9_in_0 0 rfl ?_
  refine V_iload_n (pc := 1) F dX9_in_1 1 rfl ?_
  refine V_icmp_lt (pc := 2) F 14 dX9_in_2 (by decide) ?_ ?_
  · refine V_iconst (pc := 14) F (x := (0 : Int32)) dX9_in_14 (by decide) ?_
    exact V_zret (pc := 15) F (Or.inl rfl) dX9_in_15
  · refine V_iload_n (pc := 5) F dX9_in_5 0 rfl ?_
    refine V_iload_n (pc := 6) F dX9_in_6 2 rfl ?_
    refine V_icmp_gt (pc := 7) F 14 dX9_in_7 (by decide) ?_ ?_
    · refine V_iconst (pc := 14) F (x := (0 : Int32)) dX9_in_14 (by decide) ?_
      exact V_zret (pc := 15) F (Or.inl rfl) dX9_in_15
    · refine V_iconst (pc := 10) F (x := (1 : Int32)) dX9_in_10 (by decide) ?_
      refine V_goto (pc := 11) F 15 dX9_in_11 (by decide) ?_
      exact V_zret (pc := 15) F (Or.inl rfl) dX9_in_15
theorem C_X9_in (x0 : Int32) (x1 : Int32) (x2 : Int32) (h : MH) : CtrM yX9_in (WSm yX9_in cX9_in 3 (some .boolean)) 0 [vI x0, vI x1, vI x2] h (M_X9_in x0 x1 x2 h) :=
  CtrM_of (by decide) (Nat.le_of_ble_eq_true rfl) (fun K F hm hi => vM_X9_in F hm x0 x1 x2 h)
def M_X9_isCell (x0 : Int32) (h : MH) : Res := calI (M_X9_in x0 (0 : Int32) (59 : Int32) h) fun z1 h2 => rtZ z1 h2
theorem vM_X9_isCell {K : CT} (F : Fr K cX9_isCell RX9 (some .boolean) [] 1 0) (hm : mxL K = 1) (x0 : Int32) (h : MH) : V K 0 [(0, vI x0)] [] h (M_X9_isCell x0 h) := by
  unfold M_X9_isCell
  refine V_iload_n (pc := 0) F dX9_isCell_0 0 rfl ?_
  refine V_iconst (pc := 1) F (x := (0 : Int32)) dX9_isCell_1 (by decide) ?_
  refine V_bipush (pc := 2) F (x := (59 : Int32)) dX9_isCell_2 (by decide) ?_
  refine V_cSM (pc := 4) F (as := [vI x0, vI (0 : Int32), vI (59 : Int32)]) (C_X9_in x0 (0 : Int32) (59 : Int32) h) w_X9_in g_st_X9_in g_ml_RX9_99 (by decide) (rest := []) rfl rfl (Nat.le_of_ble_eq_true rfl) dX9_isCell_4 (k_I fun z1 h2 => ?_)
  exact V_zret (pc := 7) F (Or.inl rfl) dX9_isCell_7
theorem C_X9_isCell (x0 : Int32) (h : MH) : CtrM yX9_isCell (WSm yX9_isCell cX9_isCell 1 (some .boolean)) 1 [vI x0] h (M_X9_isCell x0 h) :=
  CtrM_of (by decide) (Nat.le_of_ble_eq_true rfl) (fun K F hm hi => vM_X9_isCell F hm x0 h)
def B_X9_land_65 (rc38 : Option Nat → Int32 → Int32 → Int32 → MH → Res) (x0 : Option Nat) (x1 : Int32) (x3 : Int32) (s0 : Int32) (h : MH) : Res := bnd (x3 + (1)) fun z10 => rc38 x0 x1 s0 z10 h
def B_X9_land_64 (rc38 : Option Nat → Int32 → Int32 → Int32 → MH → Res) (x0 : Option Nat) (x1 : Int32) (x3 : Int32) (h : MH) : Res := B_X9_land_65 rc38 x0 x1 x3 (0 : Int32) h
def B_X9_land_101 (rc74 : Option Nat → Int32 → Int32 → Int32 → MH → Res) (x0 : Option Nat) (x1 : Int32) (x3 : Int32) (s0 : Int32) (h : MH) : Res := bnd (x3 + (1)) fun z14 => rc74 x0 x1 s0 z14 h
def B_X9_land_100 (rc74 : Option Nat → Int32 → Int32 → Int32 → MH → Res) (x0 : Option Nat) (x1 : Int32) (x3 : Int32) (h : MH) : Res := B_X9_land_101 rc74 x0 x1 x3 (0 : Int32) h
def B_X9_land_137 (rc110 : Option Nat → Int32 → Int32 → Int32 → MH → Res) (x0 : Option Nat) (x1 : Int32) (x3 : Int32) (s0 : Int32) (h : MH) : Res := bnd (x3 + (1)) fun z18 => rc110 x0 x1 s0 z18 h
def B_X9_land_136 (rc110 : Option Nat → Int32 → Int32 → Int32 → MH → Res) (x0 : Option Nat) (x1 : Int32) (x3 : Int32) (h : MH) : Res := B_X9_land_137 rc110 x0 x1 x3 (0 : Int32) h
def B_X9_land_235 (rc212 : Option Nat → Int32 → Int32 → MH → Res) (x0 : Option Nat) (x4 : Int32) (s0 : Int32) (s1 : Int32) (h : MH) : Res := bnd (s0 + s1) fun z35 => bnd (x4 + (1)) fun z36 => rc212 x0 z35 z36 h
def B_X9_land_212 (rc212 : Option Nat → Int32 → Int32 → MH → Res) (x0 : Option Nat) (x3 : Int32) (x4 : Int32) (h : MH) : Res := if (60 : Int32) ≤ x4 then (rtI x3 h) else (gfR h x0 9 3 fun r33 => rdI h r33 21 x4 fun z34 => if z34 = 0 then (B_X9_land_235 rc212 x0 x4 x3 (0 : Int32) h) else (B_X9_land_235 rc212 x0 x4 x3 (1 : Int32) h))
def L_X9_land_212 : Nat → Option Nat → Int32 → Int32 → MH → Res
  | 0 => fun _ _ _ _ => none
  | n + 1 => B_X9_land_212 (L_X9_land_212 n)
def B_X9_land_154 (x0 : Option Nat) (x1 : Int32) (s0 : Option Nat) (s1 : Int32) (h : MH) : Res := pfI h s0 9 0 s1 fun h19 => gfI h19 x0 9 0 fun z20 => if z20 ≤ 0 then (gfR h19 x0 9 3 fun r21 => wrI h19 r21 21 x1 (1 : Int32) fun h22 => gfR h22 x0 9 6 fun r23 => wrI h22 r23 20 x1 (0 : Int32) fun h24 => gfR h24 x0 9 6 fun r25 => bnd ((60 : Int32) + x1) fun z26 => wrI h24 r25 20 z26 (0 : Int32) fun h27 => gfR h27 x0 9 7 fun r28 => wrI h27 r28 20 x1 (0 : Int32) fun h29 => gfR h29 x0 9 7 fun r30 => bnd ((60 : Int32) + x1) fun z31 => wrI h29 r30 20 z31 (0 : Int32) fun h32 => L_X9_land_212 fuel x0 (0 : Int32) (0 : Int32) h32) else (rtI (0 : Int32) h19)
def B_X9_land_110 (rc110 : Option Nat → Int32 → Int32 → Int32 → MH → Res) (x0 : Option Nat) (x1 : Int32) (x2 : Int32) (x3 : Int32) (h : MH) : Res := gfI h x0 9 30 fun z15 => if z15 ≤ x3 then (if x2 = 0 then (B_X9_land_154 x0 x1 x0 (2 : Int32) h) else (B_X9_land_154 x0 x1 x0 (0 : Int32) h)) else (if x2 = 0 then (B_X9_land_136 rc110 x0 x1 x3 h) else (gfR h x0 9 31 fun r16 => rdI h r16 20 x3 fun z17 => if z17 = x1 then (B_X9_land_136 rc110 x0 x1 x3 h) else (B_X9_land_137 rc110 x0 x1 x3 (1 : Int32) h)))
def L_X9_land_110 : Nat → Option Nat → Int32 → Int32 → Int32 → MH → Res
  | 0 => fun _ _ _ _ _ => none
  | n + 1 => B_X9_land_110 (L_X9_land_110 n)
def B_X9_land_74 (rc74 : Option Nat → Int32 → Int32 → Int32 → MH → Res) (x0 : Option Nat) (x1 : Int32) (x2 : Int32) (x3 : Int32) (h : MH) : Res := gfI h x0 9 17 fun z11 => if z11 ≤ x3 then (L_X9_land_110 fuel x0 x1 x2 (0 : Int32) h) else (if x2 = 0 then (B_X9_land_100 rc74 x0 x1 x3 h) else (gfR h x0 9 19 fun r12 => rdI h r12 20 x3 fun z13 => if z13 = x1 then (B_X9_land_100 rc74 x0 x1 x3 h) else (B_X9_land_101 rc74 x0 x1 x3 (1 : Int32) h)))
def L_X9_land_74 : Nat → Option Nat → Int32 → Int32 → Int32 → MH → Res
  | 0 => fun _ _ _ _ _ => none
  | n + 1 => B_X9_land_74 (L_X9_land_74 n)
def B_X9_land_38 (rc38 : Option Nat → Int32 → Int32 → Int32 → MH → Res) (x0 : Option Nat) (x1 : Int32) (x2 : Int32) (x3 : Int32) (h : MH) : Res := gfI h x0 9 10 fun z7 => if z7 ≤ x3 then (L_X9_land_74 fuel x0 x1 x2 (0 : Int32) h) else (if x2 = 0 then (B_X9_land_64 rc38 x0 x1 x3 h) else (gfR h x0 9 11 fun r8 => rdI h r8 20 x3 fun z9 => if z9 = x1 then (B_X9_land_64 rc38 x0 x1 x3 h) else (B_X9_land_65 rc38 x0 x1 x3 (1 : Int32) h)))
def L_X9_land_38 : Nat → Option Nat → Int32 → Int32 → Int32 → MH → Res
  | 0 => fun _ _ _ _ _ => none
  | n + 1 => B_X9_land_38 (L_X9_land_38 n)
def B_X9_land_35 (x0 : Option Nat) (x1 : Int32) (s0 : Int32) (h : MH) : Res := L_X9_land_38 fuel x0 x1 s0 (0 : Int32) h
def B_X9_land_34 (x0 : Option Nat) (x1 : Int32) (h : MH) : Res := B_X9_land_35 x0 x1 (0 : Int32) h
def M_X9_land (x0 : Option Nat) (x1 : Int32) (h : MH) : Res := calI (M_X9_isCell x1 h) fun z1 h2 => if z1 ≠ 0 then (gfR h2 x0 9 3 fun r3 => rdI h2 r3 21 x1 fun z4 => if z4 ≠ 0 then (B_X9_land_34 x0 x1 h2) else (gfI h2 x0 9 1 fun z5 => if z5 ≠ 0 then (B_X9_land_34 x0 x1 h2) else (B_X9_land_35 x0 x1 (1 : Int32) h2))) else (pfI h2 x0 9 0 (1 : Int32) fun h6 => rtI (0 : Int32) h6)
theorem vB_X9_land_65 {K : CT} (F : Fr K cX9_land RX9 (some .int) [] 2 0) (hm : mxL K = 5) (rc38 : Option Nat → Int32 → Int32 → Int32 → MH → Res) (hrc38 : ∀ x0 x1 x2 x3 h, V K 38 [(0, vR x0), (1, vI x1), (2, vI x2), (3, vI x3)] [] h (rc38 x0 x1 x2 x3 h)) (x0 : Option Nat) (x1 : Int32) (x3 : Int32) (s0 : Int32) (h : MH) : V K 65 [(0, vR x0), (1, vI x1), (3, vI x3)] [vI s0] h (B_X9_land_65 rc38 x0 x1 x3 s0 h) := by
  unfold B_X9_land_65
  refine V_istore_n (pc := 65) F [(2, vI s0), (0, vR x0), (1, vI x1), (3, vI x3)] dX9_land_65 (lt_mx hm (by decide)) rfl ?_
  refine V_iinc (pc := 66) F (fun z10 => [(3, vI z10), (2, vI s0), (0, vR x0), (1, vI x1)]) dX9_land_66 (lt_mx hm (by decide)) 3 rfl (dx := (1 : Int32)) (by decide) (fun _ => rfl) ?_
  intro z10
  refine V_goto (pc := 69) F 38 dX9_land_69 (by decide) ?_
  refine V_sub [2, 3, 1, 0] (L' := [(0, vR x0), (1, vI x1), (2, vI s0), (3, vI z10)]) rfl ?_
  exact hrc38 x0 x1 s0 z10 h
theorem vB_X9_land_64 {K : CT} (F : Fr K cX9_land RX9 (some .int) [] 2 0) (hm : mxL K = 5) (rc38 : Option Nat → Int32 → Int32 → Int32 → MH → Res) (hrc38 : ∀ x0 x1 x2 x3 h, V K 38 [(0, vR x0), (1, vI x1), (2, vI x2), (3, vI x3)] [] h (rc38 x0 x1 x2 x3 h)) (x0 : Option Nat) (x1 : Int32) (x3 : Int32) (h : MH) : V K 64 [(0, vR x0), (1, vI x1), (3, vI x3)] [] h (B_X9_land_64 rc38 x0 x1 x3 h) := by
  unfold B_X9_land_64
  refine V_iconst (pc := 64) F (x := (0 : Int32)) dX9_land_64 (by decide) ?_
  exact vB_X9_land_65 F hm rc38 hrc38 x0 x1 x3 (0 : Int32) h
theorem vB_X9_land_101 {K : CT} (F : Fr K cX9_land RX9 (some .int) [] 2 0) (hm : mxL K = 5) (rc74 : Option Nat → Int32 → Int32 → Int32 → MH → Res) (hrc74 : ∀ x0 x1 x2 x3 h, V K 74 [(0, vR x0), (1, vI x1), (2, vI x2), (3, vI x3)] [] h (rc74 x0 x1 x2 x3 h)) (x0 : Option Nat) (x1 : Int32) (x3 : Int32) (s0 : Int32) (h : MH) : V K 101 [(0, vR x0), (1, vI x1), (3, vI x3)] [vI s0] h (B_X9_land_101 rc74 x0 x1 x3 s0 h) := by
  unfold B_X9_land_101
  refine V_istore_n (pc := 101) F [(2, vI s0), (0, vR x0), (1, vI x1), (3, vI x3)] dX9_land_101 (lt_mx hm (by decide)) rfl ?_
  refine V_iinc (pc := 102) F (fun z14 => [(3, vI z14), (2, vI s0), (0, vR x0), (1, vI x1)]) dX9_land_102 (lt_mx hm (by decide)) 3 rfl (dx := (1 : Int32)) (by decide) (fun _ => rfl) ?_
  intro z14
  refine V_goto (pc := 105) F 74 dX9_land_105 (by decide) ?_
  refine V_sub [2, 3, 1, 0] (L' := [(0, vR x0), (1, vI x1), (2, vI s0), (3, vI z14)]) rfl ?_
  exact hrc74 x0 x1 s0 z14 h
theorem vB_X9_land_100 {K : CT} (F : Fr K cX9_land RX9 (some .int) [] 2 0) (hm : mxL K = 5) (rc74 : Option Nat → Int32 → Int32 → Int32 → MH → Res) (hrc74 : ∀ x0 x1 x2 x3 h, V K 74 [(0, vR x0), (1, vI x1), (2, vI x2), (3, vI x3)] [] h (rc74 x0 x1 x2 x3 h)) (x0 : Option Nat) (x1 : Int32) (x3 : Int32) (h : MH) : V K 100 [(0, vR x0), (1, vI x1), (3, vI x3)] [] h (B_X9_land_100 rc74 x0 x1 x3 h) := by
  unfold B_X9_land_100
  refine V_iconst (pc := 100) F (x := (0 : Int32)) dX9_land_100 (by decide) ?_
  exact vB_X9_land_101 F hm rc74 hrc74 x0 x1 x3 (0 : Int32) h
theorem vB_X9_land_137 {K : CT} (F : Fr K cX9_land RX9 (some .int) [] 2 0) (hm : mxL K = 5) (rc110 : Option Nat → Int32 → Int32 → Int32 → MH → Res) (hrc110 : ∀ x0 x1 x2 x3 h, V K 110 [(0, vR x0), (1, vI x1), (2, vI x2), (3, vI x3)] [] h (rc110 x0 x1 x2 x3 h)) (x0 : Option Nat) (x1 : Int32) (x3 : Int32) (s0 : Int32) (h : MH) : V K 137 [(0, vR x0), (1, vI x1), (3, vI x3)] [vI s0] h (B_X9_land_137 rc110 x0 x1 x3 s0 h) := by
  unfold B_X9_land_137
  refine V_istore_n (pc := 137) F [(2, vI s0), (0, vR x0), (1, vI x1), (3, vI x3)] dX9_land_137 (lt_mx hm (by decide)) rfl ?_
  refine V_iinc (pc := 138) F (fun z18 => [(3, vI z18), (2, vI s0), (0, vR x0), (1, vI x1)]) dX9_land_138 (lt_mx hm (by decide)) 3 rfl (dx := (1 : Int32)) (by decide) (fun _ => rfl) ?_
  intro z18
  refine V_goto (pc := 141) F 110 dX9_land_141 (by decide) ?_
  refine V_sub [2, 3, 1, 0] (L' := [(0, vR x0), (1, vI x1), (2, vI s0), (3, vI z18)]) rfl ?_
  exact hrc110 x0 x1 s0 z18 h
theorem vB_X9_land_136 {K : CT} (F : Fr K cX9_land RX9 (some .int) [] 2 0) (hm : mxL K = 5) (rc110 : Option Nat → Int32 → Int32 → Int32 → MH → Res) (hrc110 : ∀ x0 x1 x2 x3 h, V K 110 [(0, vR x0), (1, vI x1), (2, vI x2), (3, vI x3)] [] h (rc110 x0 x1 x2 x3 h)) (x0 : Option Nat) (x1 : Int32) (x3 : Int32) (h : MH) : V K 136 [(0, vR x0), (1, vI x1), (3, vI x3)] [] h (B_X9_land_136 rc110 x0 x1 x3 h) := by
  unfold B_X9_land_136
  refine V_iconst (pc := 136) F (x := (0 : Int32)) dX9_land_136 (by decide) ?_
  exact vB_X9_land_137 F hm rc110 hrc110 x0 x1 x3 (0 : Int32) h
theorem vB_X9_land_235 {K : CT} (F : Fr K cX9_land RX9 (some .int) [] 2 0) (hm : mxL K = 5) (rc212 : Option Nat → Int32 → Int32 → MH → Res) (hrc212 : ∀ x0 x3 x4 h, V K 212 [(0, vR x0), (3, vI x3), (4, vI x4)] [] h (rc212 x0 x3 x4 h)) (x0 : Option Nat) (x4 : Int32) (s0 : Int32) (s1 : Int32) (h : MH) : V K 235 [(0, vR x0), (4, vI x4)] [vI s1, vI s0] h (B_X9_land_235 rc212 x0 x4 s0 s1 h) := by
  unfold B_X9_land_235
  refine V_iadd (pc := 235) F dX9_land_235 ?_
  intro z35
  refine V_istore_n (pc := 236) F [(3, vI z35), (0, vR x0), (4, vI x4)] dX9_land_236 (lt_mx hm (by decide)) rfl ?_
  refine V_iinc (pc := 237) F (fun z36 => [(4, vI z36), (3, vI z35), (0, vR x0)]) dX9_land_237 (lt_mx hm (by decide)) 2 rfl (dx := (1 : Int32)) (by decide) (fun _ => rfl) ?_
  intro z36
  refine V_goto (pc := 240) F 212 dX9_land_240 (by decide) ?_
  refine V_sub [2, 1, 0] (L' := [(0, vR x0), (3, vI z35), (4, vI z36)]) rfl ?_
  exact hrc212 x0 z35 z36 h
theorem vB_X9_land_212 {K : CT} (F : Fr K cX9_land RX9 (some .int) [] 2 0) (hm : mxL K = 5) (rc212 : Option Nat → Int32 → Int32 → MH → Res) (hrc212 : ∀ x0 x3 x4 h, V K 212 [(0, vR x0), (3, vI x3), (4, vI x4)] [] h (rc212 x0 x3 x4 h)) (x0 : Option Nat) (x3 : Int32) (x4 : Int32) (h : MH) : V K 212 [(0, vR x0), (3, vI x3), (4, vI x4)] [] h (B_X9_land_212 rc212 x0 x3 x4 h) := by
  unfold B_X9_land_212
  refine V_iload (pc := 212) F dX9_land_212 2 rfl ?_
  refine V_bipush (pc := 214) F (x := (60 : Int32)) dX9_land_214 (by decide) ?_
  refine V_icmp_ge (pc := 216) F 243 dX9_land_216 (by decide) ?_ ?_
  · refine V_iload_n (pc := 243) F dX9_land_243 1 rfl ?_
    exact V_iret (pc := 244) F (Or.inl rfl) dX9_land_244
  · refine V_iload_n (pc := 219) F dX9_land_219 1 rfl ?_
    refine V_aload_n (pc := 220) F dX9_land_220 0 rfl ?_
    refine V_getR (pc := 221) F 9 3 (by decide) (by decide) rfl g_fl_RX9_7 dX9_land_221 ?_
    intro r33
    refine V_iload (pc := 224) F dX9_land_224 2 rfl ?_
    refine V_zald (pc := 226) F dX9_land_226 ?_
    intro z34
    refine V_if_eq (pc := 227) F 234 dX9_land_227 (by decide) ?_ ?_
    · refine V_iconst (pc := 234) F (x := (0 : Int32)) dX9_land_234 (by decide) ?_
      refine V_sub [0, 2] (L' := [(0, vR x0), (4, vI x4)]) rfl ?_
      exact vB_X9_land_235 F hm rc212 hrc212 x0 x4 x3 (0 : Int32) h
    · refine V_iconst (pc := 230) F (x := (1 : Int32)) dX9_land_230 (by decide) ?_
      refine V_goto (pc := 231) F 235 dX9_land_231 (by decide) ?_
      refine V_sub [0, 2] (L' := [(0, vR x0), (4, vI x4)]) rfl ?_
      exact vB_X9_land_235 F hm rc212 hrc212 x0 x4 x3 (1 : Int32) h
theorem vL_X9_land_212 {K : CT} (F : Fr K cX9_land RX9 (some .int) [] 2 0) (hm : mxL K = 5) (n : Nat) : ∀ x0 x3 x4 h, V K 212 [(0, vR x0), (3, vI x3), (4, vI x4)] [] h (L_X9_land_212 n x0 x3 x4 h) := by
  induction n with
  | zero => intros; exact V_none
  | succ n ih => intro x0 x3 x4 h; exact vB_X9_land_212 F hm _ ih x0 x3 x4 h
theorem vB_X9_land_154 {K : CT} (F : Fr K cX9_land RX9 (some .int) [] 2 0) (hm : mxL K = 5) (x0 : Option Nat) (x1 : Int32) (s0 : Option Nat) (s1 : Int32) (h : MH) : V K 154 [(0, vR x0), (1, vI x1)] [vI s1, vR s0] h (B_X9_land_154 x0 x1 s0 s1 h) := by
  unfold B_X9_land_154
  refine V_putI (pc := 154) F 9 0 (by decide) (by decide) rfl rfl g_fl_RX9_96 dX9_land_154 ?_
  intro h19
  refine V_aload_n (pc := 157) F dX9_land_157 0 rfl ?_
  refine V_getI (pc := 158) F 9 0 (by decide) (by decide) rfl g_fl_RX9_96 dX9_land_158 ?_
  intro z20
  refine V_if_le (pc := 161) F 166 dX9_land_161 (by decide) ?_ ?_
  · refine V_aload_n (pc := 166) F dX9_land_166 0 rfl ?_
    refine V_getR (pc := 167) F 9 3 (by decide) (by decide) rfl g_fl_RX9_7 dX9_land_167 ?_
    intro r21
    refine V_iload_n (pc := 170) F dX9_land_170 1 rfl ?_
    refine V_iconst (pc := 171) F (x := (1 : Int32)) dX9_land_171 (by decide) ?_
    refine V_zast (pc := 172) F dX9_land_172 ?_
    intro h22
    refine V_aload_n (pc := 173) F dX9_land_173 0 rfl ?_
    refine V_getR (pc := 174) F 9 6 (by decide) (by decide) rfl g_fl_RX9_20 dX9_land_174 ?_
    intro r23
    refine V_iload_n (pc := 177) F dX9_land_177 1 rfl ?_
    refine V_iconst (pc := 178) F (x := (0 : Int32)) dX9_land_178 (by decide) ?_
    refine V_iast (pc := 179) F dX9_land_179 ?_
    intro h24
    refine V_aload_n (pc := 180) F dX9_land_180 0 rfl ?_
    refine V_getR (pc := 181) F 9 6 (by decide) (by decide) rfl g_fl_RX9_20 dX9_land_181 ?_
    intro r25
    refine V_bipush (pc := 184) F (x := (60 : Int32)) dX9_land_184 (by decide) ?_
    refine V_iload_n (pc := 186) F dX9_land_186 1 rfl ?_
    refine V_iadd (pc := 187) F dX9_land_187 ?_
    intro z26
    refine V_iconst (pc := 188) F (x := (0 : Int32)) dX9_land_188 (by decide) ?_
    refine V_iast (pc := 189) F dX9_land_189 ?_
    intro h27
    refine V_aload_n (pc := 190) F dX9_land_190 0 rfl ?_
    refine V_getR (pc := 191) F 9 7 (by decide) (by decide) rfl g_fl_RX9_23 dX9_land_191 ?_
    intro r28
    refine V_iload_n (pc := 194) F dX9_land_194 1 rfl ?_
    refine V_iconst (pc := 195) F (x := (0 : Int32)) dX9_land_195 (by decide) ?_
    refine V_iast (pc := 196) F dX9_land_196 ?_
    intro h29
    refine V_aload_n (pc := 197) F dX9_land_197 0 rfl ?_
    refine V_getR (pc := 198) F 9 7 (by decide) (by decide) rfl g_fl_RX9_23 dX9_land_198 ?_
    intro r30
    refine V_bipush (pc := 201) F (x := (60 : Int32)) dX9_land_201 (by decide) ?_
    refine V_iload_n (pc := 203) F dX9_land_203 1 rfl ?_
    refine V_iadd (pc := 204) F dX9_land_204 ?_
    intro z31
    refine V_iconst (pc := 205) F (x := (0 : Int32)) dX9_land_205 (by decide) ?_
    refine V_iast (pc := 206) F dX9_land_206 ?_
    intro h32
    refine V_iconst (pc := 207) F (x := (0 : Int32)) dX9_land_207 (by decide) ?_
    refine V_istore_n (pc := 208) F [(3, vI (0 : Int32)), (0, vR x0), (1, vI x1)] dX9_land_208 (lt_mx hm (by decide)) rfl ?_
    refine V_iconst (pc := 209) F (x := (0 : Int32)) dX9_land_209 (by decide) ?_
    refine V_istore (pc := 210) F [(4, vI (0 : Int32)), (3, vI (0 : Int32)), (0, vR x0), (1, vI x1)] dX9_land_210 (lt_mx hm (by decide)) rfl ?_
    refine V_sub [2, 1, 0] (L' := [(0, vR x0), (3, vI (0 : Int32)), (4, vI (0 : Int32))]) rfl ?_
    exact vL_X9_land_212 F hm fuel x0 (0 : Int32) (0 : Int32) h32
  · refine V_iconst (pc := 164) F (x := (0 : Int32)) dX9_land_164 (by decide) ?_
    exact V_iret (pc := 165) F (Or.inl rfl) dX9_land_165
theorem vB_X9_land_110 {K : CT} (F : Fr K cX9_land RX9 (some .int) [] 2 0) (hm : mxL K = 5) (rc110 : Option Nat → Int32 → Int32 → Int32 → MH → Res) (hrc110 : ∀ x0 x1 x2 x3 h, V K 110 [(0, vR x0), (1, vI x1), (2, vI x2), (3, vI x3)] [] h (rc110 x0 x1 x2 x3 h)) (x0 : Option Nat) (x1 : Int32) (x2 : Int32) (x3 : Int32) (h : MH) : V K 110 [(0, vR x0), (1, vI x1), (2, vI x2), (3, vI x3)] [] h (B_X9_land_110 rc110 x0 x1 x2 x3 h) := by
  unfold B_X9_land_110
  refine V_iload_n (pc := 110) F dX9_land_110 3 rfl ?_
  refine V_aload_n (pc := 111) F dX9_land_111 0 rfl ?_
  refine V_getI (pc := 112) F 9 30 (by decide) (by decide) rfl g_fl_RX9_109 dX9_land_112 ?_
  intro z15
  refine V_icmp_ge (pc := 115) F 144 dX9_land_115 (by decide) ?_ ?_
  · refine V_aload_n (pc := 144) F dX9_land_144 0 rfl ?_
    refine V_iload_n (pc := 145) F dX9_land_145 2 rfl ?_
    refine V_if_eq (pc := 146) F 153 dX9_land_146 (by decide) ?_ ?_
    · refine V_iconst (pc := 153) F (x := (2 : Int32)) dX9_land_153 (by decide) ?_
      refine V_sub [0, 1] (L' := [(0, vR x0), (1, vI x1)]) rfl ?_
      exact vB_X9_land_154 F hm x0 x1 x0 (2 : Int32) h
    · refine V_iconst (pc := 149) F (x := (0 : Int32)) dX9_land_149 (by decide) ?_
      refine V_goto (pc := 150) F 154 dX9_land_150 (by decide) ?_
      refine V_sub [0, 1] (L' := [(0, vR x0), (1, vI x1)]) rfl ?_
      exact vB_X9_land_154 F hm x0 x1 x0 (0 : Int32) h
  · refine V_iload_n (pc := 118) F dX9_land_118 2 rfl ?_
    refine V_if_eq (pc := 119) F 136 dX9_land_119 (by decide) ?_ ?_
    · refine V_sub [0, 1, 3] (L' := [(0, vR x0), (1, vI x1), (3, vI x3)]) rfl ?_
      exact vB_X9_land_136 F hm rc110 hrc110 x0 x1 x3 h
    · refine V_aload_n (pc := 122) F dX9_land_122 0 rfl ?_
      refine V_getR (pc := 123) F 9 31 (by decide) (by decide) rfl g_fl_RX9_81 dX9_land_123 ?_
      intro r16
      refine V_iload_n (pc := 126) F dX9_land_126 3 rfl ?_
      refine V_iald (pc := 127) F dX9_land_127 ?_
      intro z17
      refine V_iload_n (pc := 128) F dX9_land_128 1 rfl ?_
      refine V_icmp_eq (pc := 129) F 136 dX9_land_129 (by decide) ?_ ?_
      · refine V_sub [0, 1, 3] (L' := [(0, vR x0), (1, vI x1), (3, vI x3)]) rfl ?_
        exact vB_X9_land_136 F hm rc110 hrc110 x0 x1 x3 h
      · refine V_iconst (pc := 132) F (x := (1 : Int32)) dX9_land_132 (by decide) ?_
        refine V_goto (pc := 133) F 137 dX9_land_133 (by decide) ?_
        refine V_sub [0, 1, 3] (L' := [(0, vR x0), (1, vI x1), (3, vI x3)]) rfl ?_
        exact vB_X9_land_137 F hm rc110 hrc110 x0 x1 x3 (1 : Int32) h
theorem vL_X9_land_110 {K : CT} (F : Fr K cX9_land RX9 (some .int) [] 2 0) (hm : mxL K = 5) (n : Nat) : ∀ x0 x1 x2 x3 h, V K 110 [(0, vR x0), (1, vI x1), (2, vI x2), (3, vI x3)] [] h (L_X9_land_110 n x0 x1 x2 x3 h) := by
  induction n with
  | zero => intros; exact V_none
  | succ n ih => intro x0 x1 x2 x3 h; exact vB_X9_land_110 F hm _ ih x0 x1 x2 x3 h
theorem vB_X9_land_74 {K : CT} (F : Fr K cX9_land RX9 (some .int) [] 2 0) (hm : mxL K = 5) (rc74 : Option Nat → Int32 → Int32 → Int32 → MH → Res) (hrc74 : ∀ x0 x1 x2 x3 h, V K 74 [(0, vR x0), (1, vI x1), (2, vI x2), (3, vI x3)] [] h (rc74 x0 x1 x2 x3 h)) (x0 : Option Nat) (x1 : Int32) (x2 : Int32) (x3 : Int32) (h : MH) : V K 74 [(0, vR x0), (1, vI x1), (2, vI x2), (3, vI x3)] [] h (B_X9_land_74 rc74 x0 x1 x2 x3 h) := by
  unfold B_X9_land_74
  refine V_iload_n (pc := 74) F dX9_land_74 3 rfl ?_
  refine V_aload_n (pc := 75) F dX9_land_75 0 rfl ?_
  refine V_getI (pc := 76) F 9 17 (by decide) (by decide) rfl g_fl_RX9_123 dX9_land_76 ?_
  intro z11
  refine V_icmp_ge (pc := 79) F 108 dX9_land_79 (by decide) ?_ ?_
  · refine V_iconst (pc := 108) F (x := (0 : Int32)) dX9_land_108 (by decide) ?_
    refine V_istore_n (pc := 109) F [(3, vI (0 : Int32)), (0, vR x0), (1, vI x1), (2, vI x2)] dX9_land_109 (lt_mx hm (by decide)) rfl ?_
    refine V_sub [1, 2, 3, 0] (L' := [(0, vR x0), (1, vI x1), (2, vI x2), (3, vI (0 : Int32))]) rfl ?_
    exact vL_X9_land_110 F hm fuel x0 x1 x2 (0 : Int32) h
  · refine V_iload_n (pc := 82) F dX9_land_82 2 rfl ?_
    refine V_if_eq (pc := 83) F 100 dX9_land_83 (by decide) ?_ ?_
    · refine V_sub [0, 1, 3] (L' := [(0, vR x0), (1, vI x1), (3, vI x3)]) rfl ?_
      exact vB_X9_land_100 F hm rc74 hrc74 x0 x1 x3 h
    · refine V_aload_n (pc := 86) F dX9_land_86 0 rfl ?_
      refine V_getR (pc := 87) F 9 19 (by decide) (by decide) rfl g_fl_RX9_53 dX9_land_87 ?_
      intro r12
      refine V_iload_n (pc := 90) F dX9_land_90 3 rfl ?_
      refine V_iald (pc := 91) F dX9_land_91 ?_
      intro z13
      refine V_iload_n (pc := 92) F dX9_land_92 1 rfl ?_
      refine V_icmp_eq (pc := 93) F 100 dX9_land_93 (by decide) ?_ ?_
      · refine V_sub [0, 1, 3] (L' := [(0, vR x0), (1, vI x1), (3, vI x3)]) rfl ?_
        exact vB_X9_land_100 F hm rc74 hrc74 x0 x1 x3 h
      · refine V_iconst (pc := 96) F (x := (1 : Int32)) dX9_land_96 (by decide) ?_
        refine V_goto (pc := 97) F 101 dX9_land_97 (by decide) ?_
        refine V_sub [0, 1, 3] (L' := [(0, vR x0), (1, vI x1), (3, vI x3)]) rfl ?_
        exact vB_X9_land_101 F hm rc74 hrc74 x0 x1 x3 (1 : Int32) h
theorem vL_X9_land_74 {K : CT} (F : Fr K cX9_land RX9 (some .int) [] 2 0) (hm : mxL K = 5) (n : Nat) : ∀ x0 x1 x2 x3 h, V K 74 [(0, vR x0), (1, vI x1), (2, vI x2), (3, vI x3)] [] h (L_X9_land_74 n x0 x1 x2 x3 h) := by
  induction n with
  | zero => intros; exact V_none
  | succ n ih => intro x0 x1 x2 x3 h; exact vB_X9_land_74 F hm _ ih x0 x1 x2 x3 h
theorem vB_X9_land_38 {K : CT} (F : Fr K cX9_land RX9 (some .int) [] 2 0) (hm : mxL K = 5) (rc38 : Option Nat → Int32 → Int32 → Int32 → MH → Res) (hrc38 : ∀ x0 x1 x2 x3 h, V K 38 [(0, vR x0), (1, vI x1), (2, vI x2), (3, vI x3)] [] h (rc38 x0 x1 x2 x3 h)) (x0 : Option Nat) (x1 : Int32) (x2 : Int32) (x3 : Int32) (h : MH) : V K 38 [(0, vR x0), (1, vI x1), (2, vI x2), (3, vI x3)] [] h (B_X9_land_38 rc38 x0 x1 x2 x3 h) := by
  unfold B_X9_land_38
  refine V_iload_n (pc := 38) F dX9_land_38 3 rfl ?_
  refine V_aload_n (pc := 39) F dX9_land_39 0 rfl ?_
  refine V_getI (pc := 40) F 9 10 (by decide) (by decide) rfl g_fl_RX9_103 dX9_land_40 ?_
  intro z7
  refine V_icmp_ge (pc := 43) F 72 dX9_land_43 (by decide) ?_ ?_
  · refine V_iconst (pc := 72) F (x := (0 : Int32)) dX9_land_72 (by decide) ?_
    refine V_istore_n (pc := 73) F [(3, vI (0 : Int32)), (0, vR x0), (1, vI x1), (2, vI x2)] dX9_land_73 (lt_mx hm (by decide)) rfl ?_
    refine V_sub [1, 2, 3, 0] (L' := [(0, vR x0), (1, vI x1), (2, vI x2), (3, vI (0 : Int32))]) rfl ?_
    exact vL_X9_land_74 F hm fuel x0 x1 x2 (0 : Int32) h
  · refine V_iload_n (pc := 46) F dX9_land_46 2 rfl ?_
    refine V_if_eq (pc := 47) F 64 dX9_land_47 (by decide) ?_ ?_
    · refine V_sub [0, 1, 3] (L' := [(0, vR x0), (1, vI x1), (3, vI x3)]) rfl ?_
      exact vB_X9_land_64 F hm rc38 hrc38 x0 x1 x3 h
    · refine V_aload_n (pc := 50) F dX9_land_50 0 rfl ?_
      refine V_getR (pc := 51) F 9 11 (by decide) (by decide) rfl g_fl_RX9_32 dX9_land_51 ?_
      intro r8
      refine V_iload_n (pc := 54) F dX9_land_54 3 rfl ?_
      refine V_iald (pc := 55) F dX9_land_55 ?_
      intro z9
      refine V_iload_n (pc := 56) F dX9_land_56 1 rfl ?_
      refine V_icmp_eq (pc := 57) F 64 dX9_land_57 (by decide) ?_ ?_
      · refine V_sub [0, 1, 3] (L' := [(0, vR x0), (1, vI x1), (3, vI x3)]) rfl ?_
        exact vB_X9_land_64 F hm rc38 hrc38 x0 x1 x3 h
      · refine V_iconst (pc := 60) F (x := (1 : Int32)) dX9_land_60 (by decide) ?_
        refine V_goto (pc := 61) F 65 dX9_land_61 (by decide) ?_
        refine V_sub [0, 1, 3] (L' := [(0, vR x0), (1, vI x1), (3, vI x3)]) rfl ?_
        exact vB_X9_land_65 F hm rc38 hrc38 x0 x1 x3 (1 : Int32) h
theorem vL_X9_land_38 {K : CT} (F : Fr K cX9_land RX9 (some .int) [] 2 0) (hm : mxL K = 5) (n : Nat) : ∀ x0 x1 x2 x3 h, V K 38 [(0, vR x0), (1, vI x1), (2, vI x2), (3, vI x3)] [] h (L_X9_land_38 n x0 x1 x2 x3 h) := by
  induction n with
  | zero => intros; exact V_none
  | succ n ih => intro x0 x1 x2 x3 h; exact vB_X9_land_38 F hm _ ih x0 x1 x2 x3 h
theorem vB_X9_land_35 {K : CT} (F : Fr K cX9_land RX9 (some .int) [] 2 0) (hm : mxL K = 5) (x0 : Option Nat) (x1 : Int32) (s0 : Int32) (h : MH) : V K 35 [(0, vR x0), (1, vI x1)] [vI s0] h (B_X9_land_35 x0 x1 s0 h) := by
  unfold B_X9_land_35
  refine V_istore_n (pc := 35) F [(2, vI s0), (0, vR x0), (1, vI x1)] dX9_land_35 (lt_mx hm (by decide)) rfl ?_
  refine V_iconst (pc := 36) F (x := (0 : Int32)) dX9_land_36 (by decide) ?_
  refine V_istore_n (pc := 37) F [(3, vI (0 : Int32)), (2, vI s0), (0, vR x0), (1, vI x1)] dX9_land_37 (lt_mx hm (by decide)) rfl ?_
  refine V_sub [2, 3, 1, 0] (L' := [(0, vR x0), (1, vI x1), (2, vI s0), (3, vI (0 : Int32))]) rfl ?_
  exact vL_X9_land_38 F hm fuel x0 x1 s0 (0 : Int32) h
theorem vB_X9_land_34 {K : CT} (F : Fr K cX9_land RX9 (some .int) [] 2 0) (hm : mxL K = 5) (x0 : Option Nat) (x1 : Int32) (h : MH) : V K 34 [(0, vR x0), (1, vI x1)] [] h (B_X9_land_34 x0 x1 h) := by
  unfold B_X9_land_34
  refine V_iconst (pc := 34) F (x := (0 : Int32)) dX9_land_34 (by decide) ?_
  exact vB_X9_land_35 F hm x0 x1 (0 : Int32) h
theorem vM_X9_land {K : CT} (F : Fr K cX9_land RX9 (some .int) [] 2 0) (hm : mxL K = 5) (x0 : Option Nat) (x1 : Int32) (h : MH) : V K 0 [(0, vR x0), (1, vI x1)] [] h (M_X9_land x0 x1 h) := by
  unfold M_X9_land
  refine V_iload_n (pc := 0) F dX9_land_0 1 rfl ?_
  refine V_cSM (pc := 1) F (as := [vI x1]) (C_X9_isCell x1 h) w_X9_isCell g_st_X9_isCell g_ml_RX9_116 (by decide) (rest := []) rfl rfl (Nat.le_of_ble_eq_true rfl) dX9_land_1 (k_I fun z1 h2 => ?_)
  refine V_if_ne (pc := 4) F 14 dX9_land_4 (by decide) ?_ ?_
  · refine V_aload_n (pc := 14) F dX9_land_14 0 rfl ?_
    refine V_getR (pc := 15) F 9 3 (by decide) (by decide) rfl g_fl_RX9_7 dX9_land_15 ?_
    intro r3
    refine V_iload_n (pc := 18) F dX9_land_18 1 rfl ?_
    refine V_zald (pc := 19) F dX9_land_19 ?_
    intro z4
    refine V_if_ne (pc := 20) F 34 dX9_land_20 (by decide) ?_ ?_
    · exact vB_X9_land_34 F hm x0 x1 h2
    · refine V_aload_n (pc := 23) F dX9_land_23 0 rfl ?_
      refine V_getI (pc := 24) F 9 1 (by decide) (by decide) rfl g_fl_RX9_120 dX9_land_24 ?_
      intro z5
      refine V_if_ne (pc := 27) F 34 dX9_land_27 (by decide) ?_ ?_
      · exact vB_X9_land_34 F hm x0 x1 h2
      · refine V_iconst (pc := 30) F (x := (1 : Int32)) dX9_land_30 (by decide) ?_
        refine V_goto (pc := 31) F 35 dX9_land_31 (by decide) ?_
        exact vB_X9_land_35 F hm x0 x1 (1 : Int32) h2
  · refine V_aload_n (pc := 7) F dX9_land_7 0 rfl ?_
    refine V_iconst (pc := 8) F (x := (1 : Int32)) dX9_land_8 (by decide) ?_
    refine V_putI (pc := 9) F 9 0 (by decide) (by decide) rfl rfl g_fl_RX9_96 dX9_land_9 ?_
    intro h6
    refine V_iconst (pc := 12) F (x := (0 : Int32)) dX9_land_12 (by decide) ?_
    exact V_iret (pc := 13) F (Or.inl rfl) dX9_land_13
theorem C_X9_land (x0 : Option Nat) (x1 : Int32) (h : MH) : CtrM yX9_land (WSm yX9_land cX9_land 5 (some .int)) 2 [vR x0, vI x1] h (M_X9_land x0 x1 h) :=
  CtrM_of (by decide) (Nat.le_of_ble_eq_true rfl) (fun K F hm hi => vM_X9_land F hm x0 x1 h)
def M_X9_thrown (x0 : Option Nat) (h : MH) : Res := gfI h x0 9 0 fun z1 => rtI z1 h
theorem vM_X9_thrown {K : CT} (F : Fr K cX9_thrown RX9 (some .int) [] 0 0) (hm : mxL K = 1) (x0 : Option Nat) (h : MH) : V K 0 [(0, vR x0)] [] h (M_X9_thrown x0 h) := by
  unfold M_X9_thrown
  refine V_aload_n (pc := 0) F dX9_thrown_0 0 rfl ?_
  refine V_getI (pc := 1) F 9 0 (by decide) (by decide) rfl g_fl_RX9_96 dX9_thrown_1 ?_
  intro z1
  exact V_iret (pc := 4) F (Or.inl rfl) dX9_thrown_4
theorem C_X9_thrown (x0 : Option Nat) (h : MH) : CtrM yX9_thrown (WSm yX9_thrown cX9_thrown 1 (some .int)) 0 [vR x0] h (M_X9_thrown x0 h) :=
  CtrM_of (by decide) (Nat.le_of_ble_eq_true rfl) (fun K F hm hi => vM_X9_thrown F hm x0 h)
def B_X9_current_26 (x0 : Option Nat) (x1 : Int32) (x2 : Int32) (s0 : Option Nat) (s1 : Int32) (h : MH) : Res := pfI h s0 9 0 s1 fun h5 => gfI h5 x0 9 0 fun z6 => if z6 ≤ 0 then (gfR h5 x0 9 4 fun r7 => rdI h5 r7 20 x1 fun z8 => gfR h5 x0 9 4 fun r9 => wrI h5 r9 20 x1 x2 fun h10 => rtI z8 h10) else (rtI (0 : Int32) h5)
def M_X9_current (x0 : Option Nat) (x1 : Int32) (x2 : Int32) (h : MH) : Res := calI (M_X9_isCell x1 h) fun z1 h2 => if z1 ≠ 0 then (calI (M_X9_in x2 (0 : Int32) (4 : Int32) h2) fun z3 h4 => if z3 ≠ 0 then (B_X9_current_26 x0 x1 x2 x0 (0 : Int32) h4) else (B_X9_current_26 x0 x1 x2 x0 (2 : Int32) h4)) else (B_X9_current_26 x0 x1 x2 x0 (1 : Int32) h2)
theorem vB_X9_current_26 {K : CT} (F : Fr K cX9_current RX9 (some .int) [] 2 0) (hm : mxL K = 4) (x0 : Option Nat) (x1 : Int32) (x2 : Int32) (s0 : Option Nat) (s1 : Int32) (h : MH) : V K 26 [(0, vR x0), (1, vI x1), (2, vI x2)] [vI s1, vR s0] h (B_X9_current_26 x0 x1 x2 s0 s1 h) := by
  unfold B_X9_current_26
  refine V_putI (pc := 26) F 9 0 (by decide) (by decide) rfl rfl g_fl_RX9_96 dX9_current_26 ?_
  intro h5
  refine V_aload_n (pc := 29) F dX9_current_29 0 rfl ?_
  refine V_getI (pc := 30) F 9 0 (by decide) (by decide) rfl g_fl_RX9_96 dX9_current_30 ?_
  intro z6
  refine V_if_le (pc := 33) F 38 dX9_current_33 (by decide) ?_ ?_
  · refine V_aload_n (pc := 38) F dX9_current_38 0 rfl ?_
    refine V_getR (pc := 39) F 9 4 (by decide) (by decide) rfl g_fl_RX9_13 dX9_current_39 ?_
    intro r7
    refine V_iload_n (pc := 42) F dX9_current_42 1 rfl ?_
    refine V_iald (pc := 43) F dX9_current_43 ?_
    intro z8
    refine V_istore_n (pc := 44) F [(3, vI z8), (0, vR x0), (1, vI x1), (2, vI x2)] dX9_current_44 (lt_mx hm (by decide)) rfl ?_
    refine V_aload_n (pc := 45) F dX9_current_45 1 rfl ?_
    refine V_getR (pc := 46) F 9 4 (by decide) (by decide) rfl g_fl_RX9_13 dX9_current_46 ?_
    intro r9
    refine V_iload_n (pc := 49) F dX9_current_49 2 rfl ?_
    refine V_iload_n (pc := 50) F dX9_current_50 3 rfl ?_
    refine V_iast (pc := 51) F dX9_current_51 ?_
    intro h10
    refine V_iload_n (pc := 52) F dX9_current_52 0 rfl ?_
    exact V_iret (pc := 53) F (Or.inl rfl) dX9_current_53
  · refine V_iconst (pc := 36) F (x := (0 : Int32)) dX9_current_36 (by decide) ?_
    exact V_iret (pc := 37) F (Or.inl rfl) dX9_current_37
theorem vM_X9_current {K : CT} (F : Fr K cX9_current RX9 (some .int) [] 2 0) (hm : mxL K = 4) (x0 : Option Nat) (x1 : Int32) (x2 : Int32) (h : MH) : V K 0 [(0, vR x0), (1, vI x1), (2, vI x2)] [] h (M_X9_current x0 x1 x2 h) := by
  unfold M_X9_current
  refine V_aload_n (pc := 0) F dX9_current_0 0 rfl ?_
  refine V_iload_n (pc := 1) F dX9_current_1 1 rfl ?_
  refine V_cSM (pc := 2) F (as := [vI x1]) (C_X9_isCell x1 h) w_X9_isCell g_st_X9_isCell g_ml_RX9_116 (by decide) (rest := [vR x0]) rfl rfl (Nat.le_of_ble_eq_true rfl) dX9_current_2 (k_I fun z1 h2 => ?_)
  refine V_if_ne (pc := 5) F 12 dX9_current_5 (by decide) ?_ ?_
  · refine V_iload_n (pc := 12) F dX9_current_12 2 rfl ?_
    refine V_iconst (pc := 13) F (x := (0 : Int32)) dX9_current_13 (by decide) ?_
    refine V_iconst (pc := 14) F (x := (4 : Int32)) dX9_current_14 (by decide) ?_
    refine V_cSM (pc := 15) F (as := [vI x2, vI (0 : Int32), vI (4 : Int32)]) (C_X9_in x2 (0 : Int32) (4 : Int32) h2) w_X9_in g_st_X9_in g_ml_RX9_99 (by decide) (rest := [vR x0]) rfl rfl (Nat.le_of_ble_eq_true rfl) dX9_current_15 (k_I fun z3 h4 => ?_)
    refine V_if_ne (pc := 18) F 25 dX9_current_18 (by decide) ?_ ?_
    · refine V_iconst (pc := 25) F (x := (0 : Int32)) dX9_current_25 (by decide) ?_
      exact vB_X9_current_26 F hm x0 x1 x2 x0 (0 : Int32) h4
    · refine V_iconst (pc := 21) F (x := (2 : Int32)) dX9_current_21 (by decide) ?_
      refine V_goto (pc := 22) F 26 dX9_current_22 (by decide) ?_
      exact vB_X9_current_26 F hm x0 x1 x2 x0 (2 : Int32) h4
  · refine V_iconst (pc := 8) F (x := (1 : Int32)) dX9_current_8 (by decide) ?_
    refine V_goto (pc := 9) F 26 dX9_current_9 (by decide) ?_
    exact vB_X9_current_26 F hm x0 x1 x2 x0 (1 : Int32) h2
theorem C_X9_current (x0 : Option Nat) (x1 : Int32) (x2 : Int32) (h : MH) : CtrM yX9_current (WSm yX9_current cX9_current 4 (some .int)) 2 [vR x0, vI x1, vI x2] h (M_X9_current x0 x1 x2 h) :=
  CtrM_of (by decide) (Nat.le_of_ble_eq_true rfl) (fun K F hm hi => vM_X9_current F hm x0 x1 x2 h)
def B_X9_sun_26 (x0 : Option Nat) (x1 : Int32) (x2 : Int32) (s0 : Option Nat) (s1 : Int32) (h : MH) : Res := pfI h s0 9 0 s1 fun h5 => gfI h5 x0 9 0 fun z6 => if z6 ≤ 0 then (gfR h5 x0 9 5 fun r7 => rdI h5 r7 20 x1 fun z8 => gfR h5 x0 9 5 fun r9 => wrI h5 r9 20 x1 x2 fun h10 => rtI z8 h10) else (rtI (0 : Int32) h5)
def B_X9_sun_25 (x0 : Option Nat) (x1 : Int32) (x2 : Int32) (s0 : Option Nat) (h : MH) : Res := B_X9_sun_26 x0 x1 x2 s0 (1 : Int32) h
def M_X9_sun (x0 : Option Nat) (x1 : Int32) (x2 : Int32) (h : MH) : Res := calI (M_X9_in x1 (0 : Int32) (5 : Int32) h) fun z1 h2 => if z1 = 0 then (B_X9_sun_25 x0 x1 x2 x0 h2) else (calI (M_X9_in x2 (-50 : Int32) (50 : Int32) h2) fun z3 h4 => if z3 = 0 then (B_X9_sun_25 x0 x1 x2 x0 h4) else (B_X9_sun_26 x0 x1 x2 x0 (0 : Int32) h4))
theorem vB_X9_sun_26 {K : CT} (F : Fr K cX9_sun RX9 (some .int) [] 1 0) (hm : mxL K = 4) (x0 : Option Nat) (x1 : Int32) (x2 : Int32) (s0 : Option Nat) (s1 : Int32) (h : MH) : V K 26 [(0, vR x0), (1, vI x1), (2, vI x2)] [vI s1, vR s0] h (B_X9_sun_26 x0 x1 x2 s0 s1 h) := by
  unfold B_X9_sun_26
  refine V_putI (pc := 26) F 9 0 (by decide) (by decide) rfl rfl g_fl_RX9_96 dX9_sun_26 ?_
  intro h5
  refine V_aload_n (pc := 29) F dX9_sun_29 0 rfl ?_
  refine V_getI (pc := 30) F 9 0 (by decide) (by decide) rfl g_fl_RX9_96 dX9_sun_30 ?_
  intro z6
  refine V_if_le (pc := 33) F 38 dX9_sun_33 (by decide) ?_ ?_
  · refine V_aload_n (pc := 38) F dX9_sun_38 0 rfl ?_
    refine V_getR (pc := 39) F 9 5 (by decide) (by decide) rfl g_fl_RX9_17 dX9_sun_39 ?_
    intro r7
    refine V_iload_n (pc := 42) F dX9_sun_42 1 rfl ?_
    refine V_iald (pc := 43) F dX9_sun_43 ?_
    intro z8
    refine V_istore_n (pc := 44) F [(3, vI z8), (0, vR x0), (1, vI x1), (2, vI x2)] dX9_sun_44 (lt_mx hm (by decide)) rfl ?_
    refine V_aload_n (pc := 45) F dX9_sun_45 1 rfl ?_
    refine V_getR (pc := 46) F 9 5 (by decide) (by decide) rfl g_fl_RX9_17 dX9_sun_46 ?_
    intro r9
    refine V_iload_n (pc := 49) F dX9_sun_49 2 rfl ?_
    refine V_iload_n (pc := 50) F dX9_sun_50 3 rfl ?_
    refine V_iast (pc := 51) F dX9_sun_51 ?_
    intro h10
    refine V_iload_n (pc := 52) F dX9_sun_52 0 rfl ?_
    exact V_iret (pc := 53) F (Or.inl rfl) dX9_sun_53
  · refine V_iconst (pc := 36) F (x := (0 : Int32)) dX9_sun_36 (by decide) ?_
    exact V_iret (pc := 37) F (Or.inl rfl) dX9_sun_37
theorem vB_X9_sun_25 {K : CT} (F : Fr K cX9_sun RX9 (some .int) [] 1 0) (hm : mxL K = 4) (x0 : Option Nat) (x1 : Int32) (x2 : Int32) (s0 : Option Nat) (h : MH) : V K 25 [(0, vR x0), (1, vI x1), (2, vI x2)] [vR s0] h (B_X9_sun_25 x0 x1 x2 s0 h) := by
  unfold B_X9_sun_25
  refine V_iconst (pc := 25) F (x := (1 : Int32)) dX9_sun_25 (by decide) ?_
  exact vB_X9_sun_26 F hm x0 x1 x2 s0 (1 : Int32) h
theorem vM_X9_sun {K : CT} (F : Fr K cX9_sun RX9 (some .int) [] 1 0) (hm : mxL K = 4) (x0 : Option Nat) (x1 : Int32) (x2 : Int32) (h : MH) : V K 0 [(0, vR x0), (1, vI x1), (2, vI x2)] [] h (M_X9_sun x0 x1 x2 h) := by
  unfold M_X9_sun
  refine V_aload_n (pc := 0) F dX9_sun_0 0 rfl ?_
  refine V_iload_n (pc := 1) F dX9_sun_1 1 rfl ?_
  refine V_iconst (pc := 2) F (x := (0 : Int32)) dX9_sun_2 (by decide) ?_
  refine V_iconst (pc := 3) F (x := (5 : Int32)) dX9_sun_3 (by decide) ?_
  refine V_cSM (pc := 4) F (as := [vI x1, vI (0 : Int32), vI (5 : Int32)]) (C_X9_in x1 (0 : Int32) (5 : Int32) h) w_X9_in g_st_X9_in g_ml_RX9_99 (by decide) (rest := [vR x0]) rfl rfl (Nat.le_of_ble_eq_true rfl) dX9_sun_4 (k_I fun z1 h2 => ?_)
  refine V_if_eq (pc := 7) F 25 dX9_sun_7 (by decide) ?_ ?_
  · exact vB_X9_sun_25 F hm x0 x1 x2 x0 h2
  · refine V_iload_n (pc := 10) F dX9_sun_10 2 rfl ?_
    refine V_bipush (pc := 11) F (x := (-50 : Int32)) dX9_sun_11 (by decide) ?_
    refine V_bipush (pc := 13) F (x := (50 : Int32)) dX9_sun_13 (by decide) ?_
    refine V_cSM (pc := 15) F (as := [vI x2, vI (-50 : Int32), vI (50 : Int32)]) (C_X9_in x2 (-50 : Int32) (50 : Int32) h2) w_X9_in g_st_X9_in g_ml_RX9_99 (by decide) (rest := [vR x0]) rfl rfl (Nat.le_of_ble_eq_true rfl) dX9_sun_15 (k_I fun z3 h4 => ?_)
    refine V_if_eq (pc := 18) F 25 dX9_sun_18 (by decide) ?_ ?_
    · exact vB_X9_sun_25 F hm x0 x1 x2 x0 h4
    · refine V_iconst (pc := 21) F (x := (0 : Int32)) dX9_sun_21 (by decide) ?_
      refine V_goto (pc := 22) F 26 dX9_sun_22 (by decide) ?_
      exact vB_X9_sun_26 F hm x0 x1 x2 x0 (0 : Int32) h4
theorem C_X9_sun (x0 : Option Nat) (x1 : Int32) (x2 : Int32) (h : MH) : CtrM yX9_sun (WSm yX9_sun cX9_sun 4 (some .int)) 1 [vR x0, vI x1, vI x2] h (M_X9_sun x0 x1 x2 h) :=
  CtrM_of (by decide) (Nat.le_of_ble_eq_true rfl) (fun K F hm hi => vM_X9_sun F hm x0 x1 x2 h)
def B_X9_beside_86 (h : MH) : Res := rtI (-1 : Int32) h
def B_X9_beside_48 (x0 : Option Nat) (x3 : Int32) (s0 : Int32) (s1 : Int32) (h : MH) : Res := bnd (s0 + s1) fun z4 => calI (M_X9_in x3 (0 : Int32) (9 : Int32) h) fun z5 h6 => if z5 = 0 then (B_X9_beside_86 h6) else (calI (M_X9_in z4 (0 : Int32) (5 : Int32) h6) fun z7 h8 => if z7 = 0 then (B_X9_beside_86 h8) else (gfR h8 x0 9 3 fun r9 => bnd ((10 : Int32) * z4) fun z10 => bnd (z10 + x3) fun z11 => rdI h8 r9 21 z11 fun z12 => if z12 = 0 then (bnd ((10 : Int32) * z4) fun z13 => bnd (z13 + x3) fun z14 => rtI z14 h8) else (B_X9_beside_86 h8)))
def B_X9_beside_23 (x0 : Option Nat) (x1 : Int32) (x2 : Int32) (s0 : Int32) (s1 : Int32) (h : MH) : Res := bnd (s0 + s1) fun z2 => dvI x1 (10 : Int32) fun z3 => if x2 ≠ (3 : Int32) then (if x2 ≠ (4 : Int32) then (B_X9_beside_48 x0 z2 z3 (0 : Int32) h) else (B_X9_beside_48 x0 z2 z3 (-1 : Int32) h)) else (B_X9_beside_48 x0 z2 z3 (1 : Int32) h)
def M_X9_beside (x0 : Option Nat) (x1 : Int32) (x2 : Int32) (h : MH) : Res := rmI x1 (10 : Int32) fun z1 => if x2 ≠ (1 : Int32) then (if x2 ≠ (2 : Int32) then (B_X9_beside_23 x0 x1 x2 z1 (0 : Int32) h) else (B_X9_beside_23 x0 x1 x2 z1 (-1 : Int32) h)) else (B_X9_beside_23 x0 x1 x2 z1 (1 : Int32) h)
theorem vB_X9_beside_86 {K : CT} (F : Fr K cX9_beside RX9 (some .int) [] 1 0) (hm : mxL K = 5) (h : MH) : V K 86 [] [] h (B_X9_beside_86 h) := by
  unfold B_X9_beside_86
  refine V_iconst (pc := 86) F (x := (-1 : Int32)) dX9_beside_86 (by decide) ?_
  refine V_goto (pc := 87) F 97 dX9_beside_87 (by decide) ?_
  exact V_iret (pc := 97) F (Or.inl rfl) dX9_beside_97
theorem vB_X9_beside_48 {K : CT} (F : Fr K cX9_beside RX9 (some .int) [] 1 0) (hm : mxL K = 5) (x0 : Option Nat) (x3 : Int32) (s0 : Int32) (s1 : Int32) (h : MH) : V K 48 [(0, vR x0), (3, vI x3)] [vI s1, vI s0] h (B_X9_beside_48 x0 x3 s0 s1 h) := by
  unfold B_X9_beside_48
  refine V_iadd (pc := 48) F dX9_beside_48 ?_
  intro z4
  refine V_istore (pc := 49) F [(4, vI z4), (0, vR x0), (3, vI x3)] dX9_beside_49 (lt_mx hm (by decide)) rfl ?_
  refine V_iload_n (pc := 51) F dX9_beside_51 2 rfl ?_
  refine V_iconst (pc := 52) F (x := (0 : Int32)) dX9_beside_52 (by decide) ?_
  refine V_bipush (pc := 53) F (x := (9 : Int32)) dX9_beside_53 (by decide) ?_
  refine V_cSM (pc := 55) F (as := [vI x3, vI (0 : Int32), vI (9 : Int32)]) (C_X9_in x3 (0 : Int32) (9 : Int32) h) w_X9_in g_st_X9_in g_ml_RX9_99 (by decide) (rest := []) rfl rfl (Nat.le_of_ble_eq_true rfl) dX9_beside_55 (k_I fun z5 h6 => ?_)
  refine V_if_eq (pc := 58) F 86 dX9_beside_58 (by decide) ?_ ?_
  · refine V_sub [] (L' := []) rfl ?_
    exact vB_X9_beside_86 F hm h6
  · refine V_iload (pc := 61) F dX9_beside_61 0 rfl ?_
    refine V_iconst (pc := 63) F (x := (0 : Int32)) dX9_beside_63 (by decide) ?_
    refine V_iconst (pc := 64) F (x := (5 : Int32)) dX9_beside_64 (by decide) ?_
    refine V_cSM (pc := 65) F (as := [vI z4, vI (0 : Int32), vI (5 : Int32)]) (C_X9_in z4 (0 : Int32) (5 : Int32) h6) w_X9_in g_st_X9_in g_ml_RX9_99 (by decide) (rest := []) rfl rfl (Nat.le_of_ble_eq_true rfl) dX9_beside_65 (k_I fun z7 h8 => ?_)
    refine V_if_eq (pc := 68) F 86 dX9_beside_68 (by decide) ?_ ?_
    · refine V_sub [] (L' := []) rfl ?_
      exact vB_X9_beside_86 F hm h8
    · refine V_aload_n (pc := 71) F dX9_beside_71 1 rfl ?_
      refine V_getR (pc := 72) F 9 3 (by decide) (by decide) rfl g_fl_RX9_7 dX9_beside_72 ?_
      intro r9
      refine V_bipush (pc := 75) F (x := (10 : Int32)) dX9_beside_75 (by decide) ?_
      refine V_iload (pc := 77) F dX9_beside_77 0 rfl ?_
      refine V_imul (pc := 79) F dX9_beside_79 ?_
      intro z10
      refine V_iload_n (pc := 80) F dX9_beside_80 2 rfl ?_
      refine V_iadd (pc := 81) F dX9_beside_81 ?_
      intro z11
      refine V_zald (pc := 82) F dX9_beside_82 ?_
      intro z12
      refine V_if_eq (pc := 83) F 90 dX9_beside_83 (by decide) ?_ ?_
      · refine V_bipush (pc := 90) F (x := (10 : Int32)) dX9_beside_90 (by decide) ?_
        refine V_iload (pc := 92) F dX9_beside_92 0 rfl ?_
        refine V_imul (pc := 94) F dX9_beside_94 ?_
        intro z13
        refine V_iload_n (pc := 95) F dX9_beside_95 2 rfl ?_
        refine V_iadd (pc := 96) F dX9_beside_96 ?_
        intro z14
        exact V_iret (pc := 97) F (Or.inl rfl) dX9_beside_97
      · refine V_sub [] (L' := []) rfl ?_
        exact vB_X9_beside_86 F hm h8
theorem vB_X9_beside_23 {K : CT} (F : Fr K cX9_beside RX9 (some .int) [] 1 0) (hm : mxL K = 5) (x0 : Option Nat) (x1 : Int32) (x2 : Int32) (s0 : Int32) (s1 : Int32) (h : MH) : V K 23 [(0, vR x0), (1, vI x1), (2, vI x2)] [vI s1, vI s0] h (B_X9_beside_23 x0 x1 x2 s0 s1 h) := by
  unfold B_X9_beside_23
  refine V_iadd (pc := 23) F dX9_beside_23 ?_
  intro z2
  refine V_istore_n (pc := 24) F [(3, vI z2), (0, vR x0), (1, vI x1), (2, vI x2)] dX9_beside_24 (lt_mx hm (by decide)) rfl ?_
  refine V_iload_n (pc := 25) F dX9_beside_25 2 rfl ?_
  refine V_bipush (pc := 26) F (x := (10 : Int32)) dX9_beside_26 (by decide) ?_
  refine V_idiv (pc := 28) F dX9_beside_28 ?_
  intro z3
  refine V_iload_n (pc := 29) F dX9_beside_29 3 rfl ?_
  refine V_iconst (pc := 30) F (x := (3 : Int32)) dX9_beside_30 (by decide) ?_
  refine V_icmp_ne (pc := 31) F 38 dX9_beside_31 (by decide) ?_ ?_
  · refine V_iload_n (pc := 38) F dX9_beside_38 3 rfl ?_
    refine V_iconst (pc := 39) F (x := (4 : Int32)) dX9_beside_39 (by decide) ?_
    refine V_icmp_ne (pc := 40) F 47 dX9_beside_40 (by decide) ?_ ?_
    · refine V_iconst (pc := 47) F (x := (0 : Int32)) dX9_beside_47 (by decide) ?_
      refine V_sub [1, 0] (L' := [(0, vR x0), (3, vI z2)]) rfl ?_
      exact vB_X9_beside_48 F hm x0 z2 z3 (0 : Int32) h
    · refine V_iconst (pc := 43) F (x := (-1 : Int32)) dX9_beside_43 (by decide) ?_
      refine V_goto (pc := 44) F 48 dX9_beside_44 (by decide) ?_
      refine V_sub [1, 0] (L' := [(0, vR x0), (3, vI z2)]) rfl ?_
      exact vB_X9_beside_48 F hm x0 z2 z3 (-1 : Int32) h
  · refine V_iconst (pc := 34) F (x := (1 : Int32)) dX9_beside_34 (by decide) ?_
    refine V_goto (pc := 35) F 48 dX9_beside_35 (by decide) ?_
    refine V_sub [1, 0] (L' := [(0, vR x0), (3, vI z2)]) rfl ?_
    exact vB_X9_beside_48 F hm x0 z2 z3 (1 : Int32) h
theorem vM_X9_beside {K : CT} (F : Fr K cX9_beside RX9 (some .int) [] 1 0) (hm : mxL K = 5) (x0 : Option Nat) (x1 : Int32) (x2 : Int32) (h : MH) : V K 0 [(0, vR x0), (1, vI x1), (2, vI x2)] [] h (M_X9_beside x0 x1 x2 h) := by
  unfold M_X9_beside
  refine V_iload_n (pc := 0) F dX9_beside_0 1 rfl ?_
  refine V_bipush (pc := 1) F (x := (10 : Int32)) dX9_beside_1 (by decide) ?_
  refine V_irem (pc := 3) F dX9_beside_3 ?_
  intro z1
  refine V_iload_n (pc := 4) F dX9_beside_4 2 rfl ?_
  refine V_iconst (pc := 5) F (x := (1 : Int32)) dX9_beside_5 (by decide) ?_
  refine V_icmp_ne (pc := 6) F 13 dX9_beside_6 (by decide) ?_ ?_
  · refine V_iload_n (pc := 13) F dX9_beside_13 2 rfl ?_
    refine V_iconst (pc := 14) F (x := (2 : Int32)) dX9_beside_14 (by decide) ?_
    refine V_icmp_ne (pc := 15) F 22 dX9_beside_15 (by decide) ?_ ?_
    · refine V_iconst (pc := 22) F (x := (0 : Int32)) dX9_beside_22 (by decide) ?_
      exact vB_X9_beside_23 F hm x0 x1 x2 z1 (0 : Int32) h
    · refine V_iconst (pc := 18) F (x := (-1 : Int32)) dX9_beside_18 (by decide) ?_
      refine V_goto (pc := 19) F 23 dX9_beside_19 (by decide) ?_
      exact vB_X9_beside_23 F hm x0 x1 x2 z1 (-1 : Int32) h
  · refine V_iconst (pc := 9) F (x := (1 : Int32)) dX9_beside_9 (by decide) ?_
    refine V_goto (pc := 10) F 23 dX9_beside_10 (by decide) ?_
    exact vB_X9_beside_23 F hm x0 x1 x2 z1 (1 : Int32) h
theorem C_X9_beside (x0 : Option Nat) (x1 : Int32) (x2 : Int32) (h : MH) : CtrM yX9_beside (WSm yX9_beside cX9_beside 5 (some .int)) 1 [vR x0, vI x1, vI x2] h (M_X9_beside x0 x1 x2 h) :=
  CtrM_of (by decide) (Nat.le_of_ble_eq_true rfl) (fun K F hm hi => vM_X9_beside F hm x0 x1 x2 h)
def M_X9_leads (x0 : Option Nat) (x1 : Int32) (h : MH) : Res := gfR h x0 9 4 fun r1 => rdI h r1 20 x1 fun z2 => if z2 ≠ 0 then (gfR h x0 9 4 fun r3 => rdI h r3 20 x1 fun z4 => chk h x0 9 <| calI (M_X9_beside x0 x1 z4 h) fun z5 h6 => rtI z5 h6) else (rtI (-1 : Int32) h)
theorem vM_X9_leads {K : CT} (F : Fr K cX9_leads RX9 (some .int) [] 2 0) (hm : mxL K = 2) (x0 : Option Nat) (x1 : Int32) (h : MH) : V K 0 [(0, vR x0), (1, vI x1)] [] h (M_X9_leads x0 x1 h) := by
  unfold M_X9_leads
  refine V_aload_n (pc := 0) F dX9_leads_0 0 rfl ?_
  refine V_getR (pc := 1) F 9 4 (by decide) (by decide) rfl g_fl_RX9_13 dX9_leads_1 ?_
  intro r1
  refine V_iload_n (pc := 4) F dX9_leads_4 1 rfl ?_
  refine V_iald (pc := 5) F dX9_leads_5 ?_
  intro z2
  refine V_if_ne (pc := 6) F 13 dX9_leads_6 (by decide) ?_ ?_
  · refine V_aload_n (pc := 13) F dX9_leads_13 0 rfl ?_
    refine V_iload_n (pc := 14) F dX9_leads_14 1 rfl ?_
    refine V_aload_n (pc := 15) F dX9_leads_15 0 rfl ?_
    refine V_getR (pc := 16) F 9 4 (by decide) (by decide) rfl g_fl_RX9_13 dX9_leads_16 ?_
    intro r3
    refine V_iload_n (pc := 19) F dX9_leads_19 1 rfl ?_
    refine V_iald (pc := 20) F dX9_leads_20 ?_
    intro z4
    refine V_cVM (pc := 21) F 9 (by decide) (as := [vI x1, vI z4]) (C_X9_beside x0 x1 z4 h) w_X9_beside g_in_X9_beside g_se_X9_beside g_ml_RX9_112 (by decide) (rest := []) rfl rfl (Nat.le_of_ble_eq_true rfl) dX9_leads_21 (k_I fun z5 h6 => ?_)
    exact V_iret (pc := 24) F (Or.inl rfl) dX9_leads_24
  · refine V_iconst (pc := 9) F (x := (-1 : Int32)) dX9_leads_9 (by decide) ?_
    refine V_goto (pc := 10) F 24 dX9_leads_10 (by decide) ?_
    exact V_iret (pc := 24) F (Or.inl rfl) dX9_leads_24
theorem C_X9_leads (x0 : Option Nat) (x1 : Int32) (h : MH) : CtrM yX9_leads (WSm yX9_leads cX9_leads 2 (some .int)) 2 [vR x0, vI x1] h (M_X9_leads x0 x1 h) :=
  CtrM_of (by decide) (Nat.le_of_ble_eq_true rfl) (fun K F hm hi => vM_X9_leads F hm x0 x1 h)
def B_X9_flows_132 (rc30 : Option Nat → Int32 → MH → Res) (x0 : Option Nat) (x1 : Int32) (h : MH) : Res := bnd (x1 + (1)) fun z38 => rc30 x0 z38 h
def B_X9_flows_54 (rc30 : Option Nat → Int32 → MH → Res) (x0 : Option Nat) (x1 : Int32) (s0 : Int32) (h : MH) : Res := if s0 = (-1 : Int32) then (B_X9_flows_132 rc30 x0 x1 h) else (gfR h x0 9 8 fun r10 => rdI h r10 20 x1 fun z11 => gfR h x0 9 6 fun r12 => rdI h r12 20 x1 fun z13 => dvI z13 (10 : Int32) fun z14 => bnd (z11 - z14) fun z15 => wrI h r10 20 x1 z15 fun h16 => gfR h16 x0 9 8 fun r17 => rdI h16 r17 20 s0 fun z18 => gfR h16 x0 9 6 fun r19 => rdI h16 r19 20 x1 fun z20 => dvI z20 (10 : Int32) fun z21 => bnd (z18 + z21) fun z22 => wrI h16 r17 20 s0 z22 fun h23 => gfR h23 x0 9 9 fun r24 => rdI h23 r24 20 x1 fun z25 => gfR h23 x0 9 7 fun r26 => rdI h23 r26 20 x1 fun z27 => dvI z27 (10 : Int32) fun z28 => bnd (z25 - z28) fun z29 => wrI h23 r24 20 x1 z29 fun h30 => gfR h30 x0 9 9 fun r31 => rdI h30 r31 20 s0 fun z32 => gfR h30 x0 9 7 fun r33 => rdI h30 r33 20 x1 fun z34 => dvI z34 (10 : Int32) fun z35 => bnd (z32 + z35) fun z36 => wrI h30 r31 20 s0 z36 fun h37 => B_X9_flows_132 rc30 x0 x1 h37)
def B_X9_flows_140 (rc140 : Option Nat → Int32 → MH → Res) (x0 : Option Nat) (x1 : Int32) (h : MH) : Res := if (60 : Int32) ≤ x1 then (rtV h) else (gfR h x0 9 6 fun r39 => rdI h r39 20 x1 fun z40 => gfR h x0 9 8 fun r41 => rdI h r41 20 x1 fun z42 => bnd (z40 + z42) fun z43 => wrI h r39 20 x1 z43 fun h44 => gfR h44 x0 9 7 fun r45 => rdI h44 r45 20 x1 fun z46 => gfR h44 x0 9 9 fun r47 => rdI h44 r47 20 x1 fun z48 => bnd (z46 + z48) fun z49 => wrI h44 r45 20 x1 z49 fun h50 => bnd (x1 + (1)) fun z51 => rc140 x0 z51 h50)
def L_X9_flows_140 : Nat → Option Nat → Int32 → MH → Res
  | 0 => fun _ _ _ => none
  | n + 1 => B_X9_flows_140 (L_X9_flows_140 n)
def B_X9_flows_30 (rc30 : Option Nat → Int32 → MH → Res) (x0 : Option Nat) (x1 : Int32) (h : MH) : Res := if (60 : Int32) ≤ x1 then (L_X9_flows_140 fuel x0 (0 : Int32) h) else (gfR h x0 9 3 fun r6 => rdI h r6 21 x1 fun z7 => if z7 = 0 then (chk h x0 9 <| calI (M_X9_leads x0 x1 h) fun z8 h9 => B_X9_flows_54 rc30 x0 x1 z8 h9) else (B_X9_flows_54 rc30 x0 x1 (-1 : Int32) h))
def L_X9_flows_30 : Nat → Option Nat → Int32 → MH → Res
  | 0 => fun _ _ _ => none
  | n + 1 => B_X9_flows_30 (L_X9_flows_30 n)
def B_X9_flows_2 (rc2 : Option Nat → Int32 → MH → Res) (x0 : Option Nat) (x1 : Int32) (h : MH) : Res := if (60 : Int32) ≤ x1 then (L_X9_flows_30 fuel x0 (0 : Int32) h) else (gfR h x0 9 8 fun r1 => wrI h r1 20 x1 (0 : Int32) fun h2 => gfR h2 x0 9 9 fun r3 => wrI h2 r3 20 x1 (0 : Int32) fun h4 => bnd (x1 + (1)) fun z5 => rc2 x0 z5 h4)
def L_X9_flows_2 : Nat → Option Nat → Int32 → MH → Res
  | 0 => fun _ _ _ => none
  | n + 1 => B_X9_flows_2 (L_X9_flows_2 n)
def M_X9_flows (x0 : Option Nat) (h : MH) : Res := L_X9_flows_2 fuel x0 (0 : Int32) h
theorem vB_X9_flows_132 {K : CT} (F : Fr K cX9_flows RX9 none [] 3 0) (hm : mxL K = 3) (rc30 : Option Nat → Int32 → MH → Res) (hrc30 : ∀ x0 x1 h, V K 30 [(0, vR x0), (1, vI x1)] [] h (rc30 x0 x1 h)) (x0 : Option Nat) (x1 : Int32) (h : MH) : V K 132 [(0, vR x0), (1, vI x1)] [] h (B_X9_flows_132 rc30 x0 x1 h) := by
  unfold B_X9_flows_132
  refine V_iinc (pc := 132) F (fun z38 => [(1, vI z38), (0, vR x0)]) dX9_flows_132 (lt_mx hm (by decide)) 1 rfl (dx := (1 : Int32)) (by decide) (fun _ => rfl) ?_
  intro z38
  refine V_goto (pc := 135) F 30 dX9_flows_135 (by decide) ?_
  refine V_sub [1, 0] (L' := [(0, vR x0), (1, vI z38)]) rfl ?_
  exact hrc30 x0 z38 h
theorem vB_X9_flows_54 {K : CT} (F : Fr K cX9_flows RX9 none [] 3 0) (hm : mxL K = 3) (rc30 : Option Nat → Int32 → MH → Res) (hrc30 : ∀ x0 x1 h, V K 30 [(0, vR x0), (1, vI x1)] [] h (rc30 x0 x1 h)) (x0 : Option Nat) (x1 : Int32) (s0 : Int32) (h : MH) : V K 54 [(0, vR x0), (1, vI x1)] [vI s0] h (B_X9_flows_54 rc30 x0 x1 s0 h) := by
  unfold B_X9_flows_54
  refine V_istore_n (pc := 54) F [(2, vI s0), (0, vR x0), (1, vI x1)] dX9_flows_54 (lt_mx hm (by decide)) rfl ?_
  refine V_iload_n (pc := 55) F dX9_flows_55 0 rfl ?_
  refine V_iconst (pc := 56) F (x := (-1 : Int32)) dX9_flows_56 (by decide) ?_
  refine V_icmp_eq (pc := 57) F 132 dX9_flows_57 (by decide) ?_ ?_
  · refine V_sub [1, 2] (L' := [(0, vR x0), (1, vI x1)]) rfl ?_
    exact vB_X9_flows_132 F hm rc30 hrc30 x0 x1 h
  · refine V_aload_n (pc := 60) F dX9_flows_60 1 rfl ?_
    refine V_getR (pc := 61) F 9 8 (by decide) (by decide) rfl g_fl_RX9_26 dX9_flows_61 ?_
    intro r10
    refine V_iload_n (pc := 64) F dX9_flows_64 2 rfl ?_
    refine V_dup2 (pc := 65) F dX9_flows_65 rfl rfl ?_
    refine V_iald (pc := 66) F dX9_flows_66 ?_
    intro z11
    refine V_aload_n (pc := 67) F dX9_flows_67 1 rfl ?_
    refine V_getR (pc := 68) F 9 6 (by decide) (by decide) rfl g_fl_RX9_20 dX9_flows_68 ?_
    intro r12
    refine V_iload_n (pc := 71) F dX9_flows_71 2 rfl ?_
    refine V_iald (pc := 72) F dX9_flows_72 ?_
    intro z13
    refine V_bipush (pc := 73) F (x := (10 : Int32)) dX9_flows_73 (by decide) ?_
    refine V_idiv (pc := 75) F dX9_flows_75 ?_
    intro z14
    refine V_isub (pc := 76) F dX9_flows_76 ?_
    intro z15
    refine V_iast (pc := 77) F dX9_flows_77 ?_
    intro h16
    refine V_aload_n (pc := 78) F dX9_flows_78 1 rfl ?_
    refine V_getR (pc := 79) F 9 8 (by decide) (by decide) rfl g_fl_RX9_26 dX9_flows_79 ?_
    intro r17
    refine V_iload_n (pc := 82) F dX9_flows_82 0 rfl ?_
    refine V_dup2 (pc := 83) F dX9_flows_83 rfl rfl ?_
    refine V_iald (pc := 84) F dX9_flows_84 ?_
    intro z18
    refine V_aload_n (pc := 85) F dX9_flows_85 1 rfl ?_
    refine V_getR (pc := 86) F 9 6 (by decide) (by decide) rfl g_fl_RX9_20 dX9_flows_86 ?_
    intro r19
    refine V_iload_n (pc := 89) F dX9_flows_89 2 rfl ?_
    refine V_iald (pc := 90) F dX9_flows_90 ?_
    intro z20
    refine V_bipush (pc := 91) F (x := (10 : Int32)) dX9_flows_91 (by decide) ?_
    refine V_idiv (pc := 93) F dX9_flows_93 ?_
    intro z21
    refine V_iadd (pc := 94) F dX9_flows_94 ?_
    intro z22
    refine V_iast (pc := 95) F dX9_flows_95 ?_
    intro h23
    refine V_aload_n (pc := 96) F dX9_flows_96 1 rfl ?_
    refine V_getR (pc := 97) F 9 9 (by decide) (by decide) rfl g_fl_RX9_29 dX9_flows_97 ?_
    intro r24
    refine V_iload_n (pc := 100) F dX9_flows_100 2 rfl ?_
    refine V_dup2 (pc := 101) F dX9_flows_101 rfl rfl ?_
    refine V_iald (pc := 102) F dX9_flows_102 ?_
    intro z25
    refine V_aload_n (pc := 103) F dX9_flows_103 1 rfl ?_
    refine V_getR (pc := 104) F 9 7 (by decide) (by decide) rfl g_fl_RX9_23 dX9_flows_104 ?_
    intro r26
    refine V_iload_n (pc := 107) F dX9_flows_107 2 rfl ?_
    refine V_iald (pc := 108) F dX9_flows_108 ?_
    intro z27
    refine V_bipush (pc := 109) F (x := (10 : Int32)) dX9_flows_109 (by decide) ?_
    refine V_idiv (pc := 111) F dX9_flows_111 ?_
    intro z28
    refine V_isub (pc := 112) F dX9_flows_112 ?_
    intro z29
    refine V_iast (pc := 113) F dX9_flows_113 ?_
    intro h30
    refine V_aload_n (pc := 114) F dX9_flows_114 1 rfl ?_
    refine V_getR (pc := 115) F 9 9 (by decide) (by decide) rfl g_fl_RX9_29 dX9_flows_115 ?_
    intro r31
    refine V_iload_n (pc := 118) F dX9_flows_118 0 rfl ?_
    refine V_dup2 (pc := 119) F dX9_flows_119 rfl rfl ?_
    refine V_iald (pc := 120) F dX9_flows_120 ?_
    intro z32
    refine V_aload_n (pc := 121) F dX9_flows_121 1 rfl ?_
    refine V_getR (pc := 122) F 9 7 (by decide) (by decide) rfl g_fl_RX9_23 dX9_flows_122 ?_
    intro r33
    refine V_iload_n (pc := 125) F dX9_flows_125 2 rfl ?_
    refine V_iald (pc := 126) F dX9_flows_126 ?_
    intro z34
    refine V_bipush (pc := 127) F (x := (10 : Int32)) dX9_flows_127 (by decide) ?_
    refine V_idiv (pc := 129) F dX9_flows_129 ?_
    intro z35
    refine V_iadd (pc := 130) F dX9_flows_130 ?_
    intro z36
    refine V_iast (pc := 131) F dX9_flows_131 ?_
    intro h37
    refine V_sub [1, 2] (L' := [(0, vR x0), (1, vI x1)]) rfl ?_
    exact vB_X9_flows_132 F hm rc30 hrc30 x0 x1 h37
theorem vB_X9_flows_140 {K : CT} (F : Fr K cX9_flows RX9 none [] 3 0) (hm : mxL K = 3) (rc140 : Option Nat → Int32 → MH → Res) (hrc140 : ∀ x0 x1 h, V K 140 [(0, vR x0), (1, vI x1)] [] h (rc140 x0 x1 h)) (x0 : Option Nat) (x1 : Int32) (h : MH) : V K 140 [(0, vR x0), (1, vI x1)] [] h (B_X9_flows_140 rc140 x0 x1 h) := by
  unfold B_X9_flows_140
  refine V_iload_n (pc := 140) F dX9_flows_140 1 rfl ?_
  refine V_bipush (pc := 141) F (x := (60 : Int32)) dX9_flows_141 (by decide) ?_
  refine V_icmp_ge (pc := 143) F 182 dX9_flows_143 (by decide) ?_ ?_
  · exact V_vret (pc := 182) F (Or.inl rfl) dX9_flows_182
  · refine V_aload_n (pc := 146) F dX9_flows_146 0 rfl ?_
    refine V_getR (pc := 147) F 9 6 (by decide) (by decide) rfl g_fl_RX9_20 dX9_flows_147 ?_
    intro r39
    refine V_iload_n (pc := 150) F dX9_flows_150 1 rfl ?_
    refine V_dup2 (pc := 151) F dX9_flows_151 rfl rfl ?_
    refine V_iald (pc := 152) F dX9_flows_152 ?_
    intro z40
    refine V_aload_n (pc := 153) F dX9_flows_153 0 rfl ?_
    refine V_getR (pc := 154) F 9 8 (by decide) (by decide) rfl g_fl_RX9_26 dX9_flows_154 ?_
    intro r41
    refine V_iload_n (pc := 157) F dX9_flows_157 1 rfl ?_
    refine V_iald (pc := 158) F dX9_flows_158 ?_
    intro z42
    refine V_iadd (pc := 159) F dX9_flows_159 ?_
    intro z43
    refine V_iast (pc := 160) F dX9_flows_160 ?_
    intro h44
    refine V_aload_n (pc := 161) F dX9_flows_161 0 rfl ?_
    refine V_getR (pc := 162) F 9 7 (by decide) (by decide) rfl g_fl_RX9_23 dX9_flows_162 ?_
    intro r45
    refine V_iload_n (pc := 165) F dX9_flows_165 1 rfl ?_
    refine V_dup2 (pc := 166) F dX9_flows_166 rfl rfl ?_
    refine V_iald (pc := 167) F dX9_flows_167 ?_
    intro z46
    refine V_aload_n (pc := 168) F dX9_flows_168 0 rfl ?_
    refine V_getR (pc := 169) F 9 9 (by decide) (by decide) rfl g_fl_RX9_29 dX9_flows_169 ?_
    intro r47
    refine V_iload_n (pc := 172) F dX9_flows_172 1 rfl ?_
    refine V_iald (pc := 173) F dX9_flows_173 ?_
    intro z48
    refine V_iadd (pc := 174) F dX9_flows_174 ?_
    intro z49
    refine V_iast (pc := 175) F dX9_flows_175 ?_
    intro h50
    refine V_iinc (pc := 176) F (fun z51 => [(1, vI z51), (0, vR x0)]) dX9_flows_176 (lt_mx hm (by decide)) 1 rfl (dx := (1 : Int32)) (by decide) (fun _ => rfl) ?_
    intro z51
    refine V_goto (pc := 179) F 140 dX9_flows_179 (by decide) ?_
    refine V_sub [1, 0] (L' := [(0, vR x0), (1, vI z51)]) rfl ?_
    exact hrc140 x0 z51 h50
theorem vL_X9_flows_140 {K : CT} (F : Fr K cX9_flows RX9 none [] 3 0) (hm : mxL K = 3) (n : Nat) : ∀ x0 x1 h, V K 140 [(0, vR x0), (1, vI x1)] [] h (L_X9_flows_140 n x0 x1 h) := by
  induction n with
  | zero => intros; exact V_none
  | succ n ih => intro x0 x1 h; exact vB_X9_flows_140 F hm _ ih x0 x1 h
theorem vB_X9_flows_30 {K : CT} (F : Fr K cX9_flows RX9 none [] 3 0) (hm : mxL K = 3) (rc30 : Option Nat → Int32 → MH → Res) (hrc30 : ∀ x0 x1 h, V K 30 [(0, vR x0), (1, vI x1)] [] h (rc30 x0 x1 h)) (x0 : Option Nat) (x1 : Int32) (h : MH) : V K 30 [(0, vR x0), (1, vI x1)] [] h (B_X9_flows_30 rc30 x0 x1 h) := by
  unfold B_X9_flows_30
  refine V_iload_n (pc := 30) F dX9_flows_30 1 rfl ?_
  refine V_bipush (pc := 31) F (x := (60 : Int32)) dX9_flows_31 (by decide) ?_
  refine V_icmp_ge (pc := 33) F 138 dX9_flows_33 (by decide) ?_ ?_
  · refine V_iconst (pc := 138) F (x := (0 : Int32)) dX9_flows_138 (by decide) ?_
    refine V_istore_n (pc := 139) F [(1, vI (0 : Int32)), (0, vR x0)] dX9_flows_139 (lt_mx hm (by decide)) rfl ?_
    refine V_sub [1, 0] (L' := [(0, vR x0), (1, vI (0 : Int32))]) rfl ?_
    exact vL_X9_flows_140 F hm fuel x0 (0 : Int32) h
  · refine V_aload_n (pc := 36) F dX9_flows_36 0 rfl ?_
    refine V_getR (pc := 37) F 9 3 (by decide) (by decide) rfl g_fl_RX9_7 dX9_flows_37 ?_
    intro r6
    refine V_iload_n (pc := 40) F dX9_flows_40 1 rfl ?_
    refine V_zald (pc := 41) F dX9_flows_41 ?_
    intro z7
    refine V_if_eq (pc := 42) F 49 dX9_flows_42 (by decide) ?_ ?_
    · refine V_aload_n (pc := 49) F dX9_flows_49 0 rfl ?_
      refine V_iload_n (pc := 50) F dX9_flows_50 1 rfl ?_
      refine V_cVM (pc := 51) F 9 (by decide) (as := [vI x1]) (C_X9_leads x0 x1 h) w_X9_leads g_in_X9_leads g_se_X9_leads g_ml_RX9_126 (by decide) (rest := []) rfl rfl (Nat.le_of_ble_eq_true rfl) dX9_flows_51 (k_I fun z8 h9 => ?_)
      exact vB_X9_flows_54 F hm rc30 hrc30 x0 x1 z8 h9
    · refine V_iconst (pc := 45) F (x := (-1 : Int32)) dX9_flows_45 (by decide) ?_
      refine V_goto (pc := 46) F 54 dX9_flows_46 (by decide) ?_
      exact vB_X9_flows_54 F hm rc30 hrc30 x0 x1 (-1 : Int32) h
theorem vL_X9_flows_30 {K : CT} (F : Fr K cX9_flows RX9 none [] 3 0) (hm : mxL K = 3) (n : Nat) : ∀ x0 x1 h, V K 30 [(0, vR x0), (1, vI x1)] [] h (L_X9_flows_30 n x0 x1 h) := by
  induction n with
  | zero => intros; exact V_none
  | succ n ih => intro x0 x1 h; exact vB_X9_flows_30 F hm _ ih x0 x1 h
theorem vB_X9_flows_2 {K : CT} (F : Fr K cX9_flows RX9 none [] 3 0) (hm : mxL K = 3) (rc2 : Option Nat → Int32 → MH → Res) (hrc2 : ∀ x0 x1 h, V K 2 [(0, vR x0), (1, vI x1)] [] h (rc2 x0 x1 h)) (x0 : Option Nat) (x1 : Int32) (h : MH) : V K 2 [(0, vR x0), (1, vI x1)] [] h (B_X9_flows_2 rc2 x0 x1 h) := by
  unfold B_X9_flows_2
  refine V_iload_n (pc := 2) F dX9_flows_2 1 rfl ?_
  refine V_bipush (pc := 3) F (x := (60 : Int32)) dX9_flows_3 (by decide) ?_
  refine V_icmp_ge (pc := 5) F 28 dX9_flows_5 (by decide) ?_ ?_
  · refine V_iconst (pc := 28) F (x := (0 : Int32)) dX9_flows_28 (by decide) ?_
    refine V_istore_n (pc := 29) F [(1, vI (0 : Int32)), (0, vR x0)] dX9_flows_29 (lt_mx hm (by decide)) rfl ?_
    refine V_sub [1, 0] (L' := [(0, vR x0), (1, vI (0 : Int32))]) rfl ?_
    exact vL_X9_flows_30 F hm fuel x0 (0 : Int32) h
  · refine V_aload_n (pc := 8) F dX9_flows_8 0 rfl ?_
    refine V_getR (pc := 9) F 9 8 (by decide) (by decide) rfl g_fl_RX9_26 dX9_flows_9 ?_
    intro r1
    refine V_iload_n (pc := 12) F dX9_flows_12 1 rfl ?_
    refine V_iconst (pc := 13) F (x := (0 : Int32)) dX9_flows_13 (by decide) ?_
    refine V_iast (pc := 14) F dX9_flows_14 ?_
    intro h2
    refine V_aload_n (pc := 15) F dX9_flows_15 0 rfl ?_
    refine V_getR (pc := 16) F 9 9 (by decide) (by decide) rfl g_fl_RX9_29 dX9_flows_16 ?_
    intro r3
    refine V_iload_n (pc := 19) F dX9_flows_19 1 rfl ?_
    refine V_iconst (pc := 20) F (x := (0 : Int32)) dX9_flows_20 (by decide) ?_
    refine V_iast (pc := 21) F dX9_flows_21 ?_
    intro h4
    refine V_iinc (pc := 22) F (fun z5 => [(1, vI z5), (0, vR x0)]) dX9_flows_22 (lt_mx hm (by decide)) 1 rfl (dx := (1 : Int32)) (by decide) (fun _ => rfl) ?_
    intro z5
    refine V_goto (pc := 25) F 2 dX9_flows_25 (by decide) ?_
    refine V_sub [1, 0] (L' := [(0, vR x0), (1, vI z5)]) rfl ?_
    exact hrc2 x0 z5 h4
theorem vL_X9_flows_2 {K : CT} (F : Fr K cX9_flows RX9 none [] 3 0) (hm : mxL K = 3) (n : Nat) : ∀ x0 x1 h, V K 2 [(0, vR x0), (1, vI x1)] [] h (L_X9_flows_2 n x0 x1 h) := by
  induction n with
  | zero => intros; exact V_none
  | succ n ih => intro x0 x1 h; exact vB_X9_flows_2 F hm _ ih x0 x1 h
theorem vM_X9_flows {K : CT} (F : Fr K cX9_flows RX9 none [] 3 0) (hm : mxL K = 3) (x0 : Option Nat) (h : MH) : V K 0 [(0, vR x0)] [] h (M_X9_flows x0 h) := by
  unfold M_X9_flows
  refine V_iconst (pc := 0) F (x := (0 : Int32)) dX9_flows_0 (by decide) ?_
  refine V_istore_n (pc := 1) F [(1, vI (0 : Int32)), (0, vR x0)] dX9_flows_1 (lt_mx hm (by decide)) rfl ?_
  refine V_sub [1, 0] (L' := [(0, vR x0), (1, vI (0 : Int32))]) rfl ?_
  exact vL_X9_flows_2 F hm fuel x0 (0 : Int32) h
theorem C_X9_flows (x0 : Option Nat) (h : MH) : CtrM yX9_flows (WSm yX9_flows cX9_flows 3 none) 3 [vR x0] h (M_X9_flows x0 h) :=
  CtrM_of (by decide) (Nat.le_of_ble_eq_true rfl) (fun K F hm hi => vM_X9_flows F hm x0 h)
def B_X9_warmsAndTurns_26 (x0 : Option Nat) (x1 : Int32) (s0 : Int32) (h : MH) : Res := gfI h x0 9 2 fun z7 => gfR h x0 9 6 fun r8 => rdI h r8 20 x1 fun z9 => bnd (s0 - z9) fun z10 => bnd (z7 + z10) fun z11 => pfI h x0 9 2 z11 fun h12 => gfR h12 x0 9 6 fun r13 => wrI h12 r13 20 x1 s0 fun h14 => bnd ((60 : Int32) + x1) fun z15 => gfR h14 x0 9 7 fun r16 => rdI h14 r16 20 x1 fun z17 => bnd ((5 : Int32) * z17) fun z18 => gfR h14 x0 9 6 fun r19 => rdI h14 r19 20 x1 fun z20 => bnd (z18 - z20) fun z21 => gfR h14 x0 9 7 fun r22 => rdI h14 r22 20 z15 fun z23 => bnd ((5 : Int32) * z23) fun z24 => gfR h14 x0 9 6 fun r25 => rdI h14 r25 20 z15 fun z26 => bnd (z24 - z26) fun z27 => if z21 ≤ z27 then (rtV h14) else (gfR h14 x0 9 6 fun r28 => rdI h14 r28 20 x1 fun z29 => gfR h14 x0 9 6 fun r30 => rdI h14 r30 20 z15 fun z31 => bnd (z29 + z31) fun z32 => gfR h14 x0 9 6 fun r33 => dvI z32 (2 : Int32) fun z34 => wrI h14 r33 20 x1 z34 fun h35 => gfR h35 x0 9 6 fun r36 => dvI z32 (2 : Int32) fun z37 => bnd (z32 - z37) fun z38 => wrI h35 r36 20 z15 z38 fun h39 => gfR h39 x0 9 7 fun r40 => rdI h39 r40 20 x1 fun z41 => gfR h39 x0 9 7 fun r42 => rdI h39 r42 20 z15 fun z43 => bnd (z41 + z43) fun z44 => gfR h39 x0 9 7 fun r45 => dvI z44 (2 : Int32) fun z46 => wrI h39 r45 20 x1 z46 fun h47 => gfR h47 x0 9 7 fun r48 => dvI z44 (2 : Int32) fun z49 => bnd (z44 - z49) fun z50 => wrI h47 r48 20 z15 z50 fun h51 => rtV h51)
def M_X9_warmsAndTurns (x0 : Option Nat) (x1 : Int32) (h : MH) : Res := gfR h x0 9 6 fun r1 => rdI h r1 20 x1 fun z2 => gfR h x0 9 5 fun r3 => dvI x1 (10 : Int32) fun z4 => rdI h r3 20 z4 fun z5 => bnd (z2 + z5) fun z6 => if 0 ≤ z6 then (B_X9_warmsAndTurns_26 x0 x1 z6 h) else (B_X9_warmsAndTurns_26 x0 x1 (0 : Int32) h)
theorem vB_X9_warmsAndTurns_26 {K : CT} (F : Fr K cX9_warmsAndTurns RX9 none [] 0 0) (hm : mxL K = 5) (x0 : Option Nat) (x1 : Int32) (s0 : Int32) (h : MH) : V K 26 [(0, vR x0), (1, vI x1)] [vI s0] h (B_X9_warmsAndTurns_26 x0 x1 s0 h) := by
  unfold B_X9_warmsAndTurns_26
  refine V_istore_n (pc := 26) F [(2, vI s0), (0, vR x0), (1, vI x1)] dX9_warmsAndTurns_26 (lt_mx hm (by decide)) rfl ?_
  refine V_aload_n (pc := 27) F dX9_warmsAndTurns_27 1 rfl ?_
  refine V_dup (pc := 28) F dX9_warmsAndTurns_28 rfl ?_
  refine V_getI (pc := 29) F 9 2 (by decide) (by decide) rfl g_fl_RX9_130 dX9_warmsAndTurns_29 ?_
  intro z7
  refine V_iload_n (pc := 32) F dX9_warmsAndTurns_32 0 rfl ?_
  refine V_aload_n (pc := 33) F dX9_warmsAndTurns_33 1 rfl ?_
  refine V_getR (pc := 34) F 9 6 (by decide) (by decide) rfl g_fl_RX9_20 dX9_warmsAndTurns_34 ?_
  intro r8
  refine V_iload_n (pc := 37) F dX9_warmsAndTurns_37 2 rfl ?_
  refine V_iald (pc := 38) F dX9_warmsAndTurns_38 ?_
  intro z9
  refine V_isub (pc := 39) F dX9_warmsAndTurns_39 ?_
  intro z10
  refine V_iadd (pc := 40) F dX9_warmsAndTurns_40 ?_
  intro z11
  refine V_putI (pc := 41) F 9 2 (by decide) (by decide) rfl rfl g_fl_RX9_130 dX9_warmsAndTurns_41 ?_
  intro h12
  refine V_aload_n (pc := 44) F dX9_warmsAndTurns_44 1 rfl ?_
  refine V_getR (pc := 45) F 9 6 (by decide) (by decide) rfl g_fl_RX9_20 dX9_warmsAndTurns_45 ?_
  intro r13
  refine V_iload_n (pc := 48) F dX9_warmsAndTurns_48 2 rfl ?_
  refine V_iload_n (pc := 49) F dX9_warmsAndTurns_49 0 rfl ?_
  refine V_iast (pc := 50) F dX9_warmsAndTurns_50 ?_
  intro h14
  refine V_bipush (pc := 51) F (x := (60 : Int32)) dX9_warmsAndTurns_51 (by decide) ?_
  refine V_iload_n (pc := 53) F dX9_warmsAndTurns_53 2 rfl ?_
  refine V_iadd (pc := 54) F dX9_warmsAndTurns_54 ?_
  intro z15
  refine V_istore_n (pc := 55) F [(3, vI z15), (2, vI s0), (0, vR x0), (1, vI x1)] dX9_warmsAndTurns_55 (lt_mx hm (by decide)) rfl ?_
  refine V_iconst (pc := 56) F (x := (5 : Int32)) dX9_warmsAndTurns_56 (by decide) ?_
  refine V_aload_n (pc := 57) F dX9_warmsAndTurns_57 2 rfl ?_
  refine V_getR (pc := 58) F 9 7 (by decide) (by decide) rfl g_fl_RX9_23 dX9_warmsAndTurns_58 ?_
  intro r16
  refine V_iload_n (pc := 61) F dX9_warmsAndTurns_61 3 rfl ?_
  refine V_iald (pc := 62) F dX9_warmsAndTurns_62 ?_
  intro z17
  refine V_imul (pc := 63) F dX9_warmsAndTurns_63 ?_
  intro z18
  refine V_aload_n (pc := 64) F dX9_warmsAndTurns_64 2 rfl ?_
  refine V_getR (pc := 65) F 9 6 (by decide) (by decide) rfl g_fl_RX9_20 dX9_warmsAndTurns_65 ?_
  intro r19
  refine V_iload_n (pc := 68) F dX9_warmsAndTurns_68 3 rfl ?_
  refine V_iald (pc := 69) F dX9_warmsAndTurns_69 ?_
  intro z20
  refine V_isub (pc := 70) F dX9_warmsAndTurns_70 ?_
  intro z21
  refine V_iconst (pc := 71) F (x := (5 : Int32)) dX9_warmsAndTurns_71 (by decide) ?_
  refine V_aload_n (pc := 72) F dX9_warmsAndTurns_72 2 rfl ?_
  refine V_getR (pc := 73) F 9 7 (by decide) (by decide) rfl g_fl_RX9_23 dX9_warmsAndTurns_73 ?_
  intro r22
  refine V_iload_n (pc := 76) F dX9_warmsAndTurns_76 0 rfl ?_
  refine V_iald (pc := 77) F dX9_warmsAndTurns_77 ?_
  intro z23
  refine V_imul (pc := 78) F dX9_warmsAndTurns_78 ?_
  intro z24
  refine V_aload_n (pc := 79) F dX9_warmsAndTurns_79 2 rfl ?_
  refine V_getR (pc := 80) F 9 6 (by decide) (by decide) rfl g_fl_RX9_20 dX9_warmsAndTurns_80 ?_
  intro r25
  refine V_iload_n (pc := 83) F dX9_warmsAndTurns_83 0 rfl ?_
  refine V_iald (pc := 84) F dX9_warmsAndTurns_84 ?_
  intro z26
  refine V_isub (pc := 85) F dX9_warmsAndTurns_85 ?_
  intro z27
  refine V_icmp_le (pc := 86) F 165 dX9_warmsAndTurns_86 (by decide) ?_ ?_
  · exact V_vret (pc := 165) F (Or.inl rfl) dX9_warmsAndTurns_165
  · refine V_aload_n (pc := 89) F dX9_warmsAndTurns_89 2 rfl ?_
    refine V_getR (pc := 90) F 9 6 (by decide) (by decide) rfl g_fl_RX9_20 dX9_warmsAndTurns_90 ?_
    intro r28
    refine V_iload_n (pc := 93) F dX9_warmsAndTurns_93 3 rfl ?_
    refine V_iald (pc := 94) F dX9_warmsAndTurns_94 ?_
    intro z29
    refine V_aload_n (pc := 95) F dX9_warmsAndTurns_95 2 rfl ?_
    refine V_getR (pc := 96) F 9 6 (by decide) (by decide) rfl g_fl_RX9_20 dX9_warmsAndTurns_96 ?_
    intro r30
    refine V_iload_n (pc := 99) F dX9_warmsAndTurns_99 0 rfl ?_
    refine V_iald (pc := 100) F dX9_warmsAndTurns_100 ?_
    intro z31
    refine V_iadd (pc := 101) F dX9_warmsAndTurns_101 ?_
    intro z32
    refine V_istore (pc := 102) F [(4, vI z32), (3, vI z15), (2, vI s0), (0, vR x0), (1, vI x1)] dX9_warmsAndTurns_102 (lt_mx hm (by decide)) rfl ?_
    refine V_aload_n (pc := 104) F dX9_warmsAndTurns_104 3 rfl ?_
    refine V_getR (pc := 105) F 9 6 (by decide) (by decide) rfl g_fl_RX9_20 dX9_warmsAndTurns_105 ?_
    intro r33
    refine V_iload_n (pc := 108) F dX9_warmsAndTurns_108 4 rfl ?_
    refine V_iload (pc := 109) F dX9_warmsAndTurns_109 0 rfl ?_
    refine V_iconst (pc := 111) F (x := (2 : Int32)) dX9_warmsAndTurns_111 (by decide) ?_
    refine V_idiv (pc := 112) F dX9_warmsAndTurns_112 ?_
    intro z34
    refine V_iast (pc := 113) F dX9_warmsAndTurns_113 ?_
    intro h35
    refine V_aload_n (pc := 114) F dX9_warmsAndTurns_114 3 rfl ?_
    refine V_getR (pc := 115) F 9 6 (by decide) (by decide) rfl g_fl_RX9_20 dX9_warmsAndTurns_115 ?_
    intro r36
    refine V_iload_n (pc := 118) F dX9_warmsAndTurns_118 1 rfl ?_
    refine V_iload (pc := 119) F dX9_warmsAndTurns_119 0 rfl ?_
    refine V_iload (pc := 121) F dX9_warmsAndTurns_121 0 rfl ?_
    refine V_iconst (pc := 123) F (x := (2 : Int32)) dX9_warmsAndTurns_123 (by decide) ?_
    refine V_idiv (pc := 124) F dX9_warmsAndTurns_124 ?_
    intro z37
    refine V_isub (pc := 125) F dX9_warmsAndTurns_125 ?_
    intro z38
    refine V_iast (pc := 126) F dX9_warmsAndTurns_126 ?_
    intro h39
    refine V_aload_n (pc := 127) F dX9_warmsAndTurns_127 3 rfl ?_
    refine V_getR (pc := 128) F 9 7 (by decide) (by decide) rfl g_fl_RX9_23 dX9_warmsAndTurns_128 ?_
    intro r40
    refine V_iload_n (pc := 131) F dX9_warmsAndTurns_131 4 rfl ?_
    refine V_iald (pc := 132) F dX9_warmsAndTurns_132 ?_
    intro z41
    refine V_aload_n (pc := 133) F dX9_warmsAndTurns_133 3 rfl ?_
    refine V_getR (pc := 134) F 9 7 (by decide) (by decide) rfl g_fl_RX9_23 dX9_warmsAndTurns_134 ?_
    intro r42
    refine V_iload_n (pc := 137) F dX9_warmsAndTurns_137 1 rfl ?_
    refine V_iald (pc := 138) F dX9_warmsAndTurns_138 ?_
    intro z43
    refine V_iadd (pc := 139) F dX9_warmsAndTurns_139 ?_
    intro z44
    refine V_istore (pc := 140) F [(4, vI z44), (3, vI z15), (2, vI s0), (0, vR x0), (1, vI x1)] dX9_warmsAndTurns_140 (lt_mx hm (by decide)) rfl ?_
    refine V_aload_n (pc := 142) F dX9_warmsAndTurns_142 3 rfl ?_
    refine V_getR (pc := 143) F 9 7 (by decide) (by decide) rfl g_fl_RX9_23 dX9_warmsAndTurns_143 ?_
    intro r45
    refine V_iload_n (pc := 146) F dX9_warmsAndTurns_146 4 rfl ?_
    refine V_iload (pc := 147) F dX9_warmsAndTurns_147 0 rfl ?_
    refine V_iconst (pc := 149) F (x := (2 : Int32)) dX9_warmsAndTurns_149 (by decide) ?_
    refine V_idiv (pc := 150) F dX9_warmsAndTurns_150 ?_
    intro z46
    refine V_iast (pc := 151) F dX9_warmsAndTurns_151 ?_
    intro h47
    refine V_aload_n (pc := 152) F dX9_warmsAndTurns_152 3 rfl ?_
    refine V_getR (pc := 153) F 9 7 (by decide) (by decide) rfl g_fl_RX9_23 dX9_warmsAndTurns_153 ?_
    intro r48
    refine V_iload_n (pc := 156) F dX9_warmsAndTurns_156 1 rfl ?_
    refine V_iload (pc := 157) F dX9_warmsAndTurns_157 0 rfl ?_
    refine V_iload (pc := 159) F dX9_warmsAndTurns_159 0 rfl ?_
    refine V_iconst (pc := 161) F (x := (2 : Int32)) dX9_warmsAndTurns_161 (by decide) ?_
    refine V_idiv (pc := 162) F dX9_warmsAndTurns_162 ?_
    intro z49
    refine V_isub (pc := 163) F dX9_warmsAndTurns_163 ?_
    intro z50
    refine V_iast (pc := 164) F dX9_warmsAndTurns_164 ?_
    intro h51
    exact V_vret (pc := 165) F (Or.inl rfl) dX9_warmsAndTurns_165
theorem vM_X9_warmsAndTurns {K : CT} (F : Fr K cX9_warmsAndTurns RX9 none [] 0 0) (hm : mxL K = 5) (x0 : Option Nat) (x1 : Int32) (h : MH) : V K 0 [(0, vR x0), (1, vI x1)] [] h (M_X9_warmsAndTurns x0 x1 h) := by
  unfold M_X9_warmsAndTurns
  refine V_aload_n (pc := 0) F dX9_warmsAndTurns_0 0 rfl ?_
  refine V_getR (pc := 1) F 9 6 (by decide) (by decide) rfl g_fl_RX9_20 dX9_warmsAndTurns_1 ?_
  intro r1
  refine V_iload_n (pc := 4) F dX9_warmsAndTurns_4 1 rfl ?_
  refine V_iald (pc := 5) F dX9_warmsAndTurns_5 ?_
  intro z2
  refine V_aload_n (pc := 6) F dX9_warmsAndTurns_6 0 rfl ?_
  refine V_getR (pc := 7) F 9 5 (by decide) (by decide) rfl g_fl_RX9_17 dX9_warmsAndTurns_7 ?_
  intro r3
  refine V_iload_n (pc := 10) F dX9_warmsAndTurns_10 1 rfl ?_
  refine V_bipush (pc := 11) F (x := (10 : Int32)) dX9_warmsAndTurns_11 (by decide) ?_
  refine V_idiv (pc := 13) F dX9_warmsAndTurns_13 ?_
  intro z4
  refine V_iald (pc := 14) F dX9_warmsAndTurns_14 ?_
  intro z5
  refine V_iadd (pc := 15) F dX9_warmsAndTurns_15 ?_
  intro z6
  refine V_istore_n (pc := 16) F [(2, vI z6), (0, vR x0), (1, vI x1)] dX9_warmsAndTurns_16 (lt_mx hm (by decide)) rfl ?_
  refine V_iload_n (pc := 17) F dX9_warmsAndTurns_17 0 rfl ?_
  refine V_if_ge (pc := 18) F 25 dX9_warmsAndTurns_18 (by decide) ?_ ?_
  · refine V_iload_n (pc := 25) F dX9_warmsAndTurns_25 0 rfl ?_
    refine V_sub [1, 2] (L' := [(0, vR x0), (1, vI x1)]) rfl ?_
    exact vB_X9_warmsAndTurns_26 F hm x0 x1 z6 h
  · refine V_iconst (pc := 21) F (x := (0 : Int32)) dX9_warmsAndTurns_21 (by decide) ?_
    refine V_goto (pc := 22) F 26 dX9_warmsAndTurns_22 (by decide) ?_
    refine V_sub [1, 2] (L' := [(0, vR x0), (1, vI x1)]) rfl ?_
    exact vB_X9_warmsAndTurns_26 F hm x0 x1 (0 : Int32) h
theorem C_X9_warmsAndTurns (x0 : Option Nat) (x1 : Int32) (h : MH) : CtrM yX9_warmsAndTurns (WSm yX9_warmsAndTurns cX9_warmsAndTurns 5 none) 0 [vR x0, vI x1] h (M_X9_warmsAndTurns x0 x1 h) :=
  CtrM_of (by decide) (Nat.le_of_ble_eq_true rfl) (fun K F hm hi => vM_X9_warmsAndTurns F hm x0 x1 h)
def M_X9_reads (x0 : Option Nat) (x1 : Int32) (x2 : Int32) (x3 : Int32) (h : MH) : Res := gfI h x0 9 23 fun z1 => if (100 : Int32) ≤ z1 then (rtV h) else (gfR h x0 9 24 fun r2 => gfI h x0 9 23 fun z3 => gfI h x0 9 1 fun z4 => wrI h r2 20 z3 z4 fun h5 => gfR h5 x0 9 25 fun r6 => gfI h5 x0 9 23 fun z7 => wrI h5 r6 20 z7 x1 fun h8 => gfR h8 x0 9 26 fun r9 => gfI h8 x0 9 23 fun z10 => gfR h8 x0 9 6 fun r11 => rdI h8 r11 20 x1 fun z12 => bnd (z12 + x3) fun z13 => wrI h8 r9 20 z10 z13 fun h14 => gfR h14 x0 9 27 fun r15 => gfI h14 x0 9 23 fun z16 => wrI h14 r15 20 z16 x2 fun h17 => gfR h17 x0 9 28 fun r18 => gfI h17 x0 9 23 fun z19 => wrI h17 r18 20 z19 (-1 : Int32) fun h20 => gfI h20 x0 9 23 fun z21 => bnd (z21 + (1 : Int32)) fun z22 => pfI h20 x0 9 23 z22 fun h23 => rtV h23)
theorem vM_X9_reads {K : CT} (F : Fr K cX9_reads RX9 none [] 0 0) (hm : mxL K = 4) (x0 : Option Nat) (x1 : Int32) (x2 : Int32) (x3 : Int32) (h : MH) : V K 0 [(0, vR x0), (1, vI x1), (2, vI x2), (3, vI x3)] [] h (M_X9_reads x0 x1 x2 x3 h) := by
  unfold M_X9_reads
  refine V_aload_n (pc := 0) F dX9_reads_0 0 rfl ?_
  refine V_getI (pc := 1) F 9 23 (by decide) (by decide) rfl g_fl_RX9_106 dX9_reads_1 ?_
  intro z1
  refine V_bipush (pc := 4) F (x := (100 : Int32)) dX9_reads_4 (by decide) ?_
  refine V_icmp_ge (pc := 6) F 79 dX9_reads_6 (by decide) ?_ ?_
  · exact V_vret (pc := 79) F (Or.inl rfl) dX9_reads_79
  · refine V_aload_n (pc := 9) F dX9_reads_9 0 rfl ?_
    refine V_getR (pc := 10) F 9 24 (by decide) (by decide) rfl g_fl_RX9_62 dX9_reads_10 ?_
    intro r2
    refine V_aload_n (pc := 13) F dX9_reads_13 0 rfl ?_
    refine V_getI (pc := 14) F 9 23 (by decide) (by decide) rfl g_fl_RX9_106 dX9_reads_14 ?_
    intro z3
    refine V_aload_n (pc := 17) F dX9_reads_17 0 rfl ?_
    refine V_getI (pc := 18) F 9 1 (by decide) (by decide) rfl g_fl_RX9_120 dX9_reads_18 ?_
    intro z4
    refine V_iast (pc := 21) F dX9_reads_21 ?_
    intro h5
    refine V_aload_n (pc := 22) F dX9_reads_22 0 rfl ?_
    refine V_getR (pc := 23) F 9 25 (by decide) (by decide) rfl g_fl_RX9_65 dX9_reads_23 ?_
    intro r6
    refine V_aload_n (pc := 26) F dX9_reads_26 0 rfl ?_
    refine V_getI (pc := 27) F 9 23 (by decide) (by decide) rfl g_fl_RX9_106 dX9_reads_27 ?_
    intro z7
    refine V_iload_n (pc := 30) F dX9_reads_30 1 rfl ?_
    refine V_iast (pc := 31) F dX9_reads_31 ?_
    intro h8
    refine V_aload_n (pc := 32) F dX9_reads_32 0 rfl ?_
    refine V_getR (pc := 33) F 9 26 (by decide) (by decide) rfl g_fl_RX9_68 dX9_reads_33 ?_
    intro r9
    refine V_aload_n (pc := 36) F dX9_reads_36 0 rfl ?_
    refine V_getI (pc := 37) F 9 23 (by decide) (by decide) rfl g_fl_RX9_106 dX9_reads_37 ?_
    intro z10
    refine V_aload_n (pc := 40) F dX9_reads_40 0 rfl ?_
    refine V_getR (pc := 41) F 9 6 (by decide) (by decide) rfl g_fl_RX9_20 dX9_reads_41 ?_
    intro r11
    refine V_iload_n (pc := 44) F dX9_reads_44 1 rfl ?_
    refine V_iald (pc := 45) F dX9_reads_45 ?_
    intro z12
    refine V_iload_n (pc := 46) F dX9_reads_46 3 rfl ?_
    refine V_iadd (pc := 47) F dX9_reads_47 ?_
    intro z13
    refine V_iast (pc := 48) F dX9_reads_48 ?_
    intro h14
    refine V_aload_n (pc := 49) F dX9_reads_49 0 rfl ?_
    refine V_getR (pc := 50) F 9 27 (by decide) (by decide) rfl g_fl_RX9_71 dX9_reads_50 ?_
    intro r15
    refine V_aload_n (pc := 53) F dX9_reads_53 0 rfl ?_
    refine V_getI (pc := 54) F 9 23 (by decide) (by decide) rfl g_fl_RX9_106 dX9_reads_54 ?_
    intro z16
    refine V_iload_n (pc := 57) F dX9_reads_57 2 rfl ?_
    refine V_iast (pc := 58) F dX9_reads_58 ?_
    intro h17
    refine V_aload_n (pc := 59) F dX9_reads_59 0 rfl ?_
    refine V_getR (pc := 60) F 9 28 (by decide) (by decide) rfl g_fl_RX9_74 dX9_reads_60 ?_
    intro r18
    refine V_aload_n (pc := 63) F dX9_reads_63 0 rfl ?_
    refine V_getI (pc := 64) F 9 23 (by decide) (by decide) rfl g_fl_RX9_106 dX9_reads_64 ?_
    intro z19
    refine V_iconst (pc := 67) F (x := (-1 : Int32)) dX9_reads_67 (by decide) ?_
    refine V_iast (pc := 68) F dX9_reads_68 ?_
    intro h20
    refine V_aload_n (pc := 69) F dX9_reads_69 0 rfl ?_
    refine V_dup (pc := 70) F dX9_reads_70 rfl ?_
    refine V_getI (pc := 71) F 9 23 (by decide) (by decide) rfl g_fl_RX9_106 dX9_reads_71 ?_
    intro z21
    refine V_iconst (pc := 74) F (x := (1 : Int32)) dX9_reads_74 (by decide) ?_
    refine V_iadd (pc := 75) F dX9_reads_75 ?_
    intro z22
    refine V_putI (pc := 76) F 9 23 (by decide) (by decide) rfl rfl g_fl_RX9_106 dX9_reads_76 ?_
    intro h23
    exact V_vret (pc := 79) F (Or.inl rfl) dX9_reads_79
theorem C_X9_reads (x0 : Option Nat) (x1 : Int32) (x2 : Int32) (x3 : Int32) (h : MH) : CtrM yX9_reads (WSm yX9_reads cX9_reads 4 none) 0 [vR x0, vI x1, vI x2, vI x3] h (M_X9_reads x0 x1 x2 x3 h) :=
  CtrM_of (by decide) (Nat.le_of_ble_eq_true rfl) (fun K F hm hi => vM_X9_reads F hm x0 x1 x2 x3 h)
def B_X9_parks_60 (x0 : Option Nat) (x1 : Int32) (s0 : Option Nat) (s1 : Int32) (s2 : Int32) (h : MH) : Res := wrI h s0 20 s1 s2 fun h16 => gfR h16 x0 9 11 fun r17 => rdI h16 r17 20 x1 fun z18 => gfR h16 x0 9 15 fun r19 => rdI h16 r19 20 x1 fun z20 => chk h16 x0 9 <| calV (M_X9_reads x0 z18 x1 z20 h16) fun h21 => gfR h21 x0 9 14 fun r22 => rdI h21 r22 20 x1 fun z23 => bnd (z23 - (1 : Int32)) fun z24 => wrI h21 r22 20 x1 z24 fun h25 => gfR h25 x0 9 13 fun r26 => gfR h25 x0 9 14 fun r27 => rdI h25 r27 20 x1 fun z28 => if z28 ≠ 0 then (gfR h25 x0 9 12 fun r29 => rdI h25 r29 20 x1 fun z30 => wrI h25 r26 20 x1 z30 fun h31 => rtV h31) else (wrI h25 r26 20 x1 (0 : Int32) fun h32 => rtV h32)
def M_X9_parks (x0 : Option Nat) (x1 : Int32) (h : MH) : Res := gfR h x0 9 14 fun r1 => rdI h r1 20 x1 fun z2 => if z2 ≠ 0 then (gfR h x0 9 13 fun r3 => rdI h r3 20 x1 fun z4 => bnd (z4 - (1 : Int32)) fun z5 => wrI h r3 20 x1 z5 fun h6 => gfR h6 x0 9 13 fun r7 => rdI h6 r7 20 x1 fun z8 => if z8 ≠ 0 then (rtV h6) else (gfR h6 x0 9 11 fun r9 => rdI h6 r9 20 x1 fun z10 => chk h6 x0 9 <| calI (M_X9_leads x0 z10 h6) fun z11 h12 => gfR h12 x0 9 11 fun r13 => if z11 ≠ (-1 : Int32) then (B_X9_parks_60 x0 x1 r13 x1 z11 h12) else (gfR h12 x0 9 11 fun r14 => rdI h12 r14 20 x1 fun z15 => B_X9_parks_60 x0 x1 r13 x1 z15 h12))) else (rtV h)
theorem vB_X9_parks_60 {K : CT} (F : Fr K cX9_parks RX9 none [] 3 0) (hm : mxL K = 3) (x0 : Option Nat) (x1 : Int32) (s0 : Option Nat) (s1 : Int32) (s2 : Int32) (h : MH) : V K 60 [(0, vR x0), (1, vI x1)] [vI s2, vI s1, vR s0] h (B_X9_parks_60 x0 x1 s0 s1 s2 h) := by
  unfold B_X9_parks_60
  refine V_iast (pc := 60) F dX9_parks_60 ?_
  intro h16
  refine V_aload_n (pc := 61) F dX9_parks_61 0 rfl ?_
  refine V_aload_n (pc := 62) F dX9_parks_62 0 rfl ?_
  refine V_getR (pc := 63) F 9 11 (by decide) (by decide) rfl g_fl_RX9_32 dX9_parks_63 ?_
  intro r17
  refine V_iload_n (pc := 66) F dX9_parks_66 1 rfl ?_
  refine V_iald (pc := 67) F dX9_parks_67 ?_
  intro z18
  refine V_iload_n (pc := 68) F dX9_parks_68 1 rfl ?_
  refine V_aload_n (pc := 69) F dX9_parks_69 0 rfl ?_
  refine V_getR (pc := 70) F 9 15 (by decide) (by decide) rfl g_fl_RX9_44 dX9_parks_70 ?_
  intro r19
  refine V_iload_n (pc := 73) F dX9_parks_73 1 rfl ?_
  refine V_iald (pc := 74) F dX9_parks_74 ?_
  intro z20
  refine V_cVM (pc := 75) F 9 (by decide) (as := [vI z18, vI x1, vI z20]) (C_X9_reads x0 z18 x1 z20 h16) w_X9_reads g_in_X9_reads g_se_X9_reads g_ml_RX9_133 (by decide) (rest := []) rfl rfl (Nat.le_of_ble_eq_true rfl) dX9_parks_75 (k_V fun h21 => ?_)
  refine V_aload_n (pc := 78) F dX9_parks_78 0 rfl ?_
  refine V_getR (pc := 79) F 9 14 (by decide) (by decide) rfl g_fl_RX9_41 dX9_parks_79 ?_
  intro r22
  refine V_iload_n (pc := 82) F dX9_parks_82 1 rfl ?_
  refine V_dup2 (pc := 83) F dX9_parks_83 rfl rfl ?_
  refine V_iald (pc := 84) F dX9_parks_84 ?_
  intro z23
  refine V_iconst (pc := 85) F (x := (1 : Int32)) dX9_parks_85 (by decide) ?_
  refine V_isub (pc := 86) F dX9_parks_86 ?_
  intro z24
  refine V_iast (pc := 87) F dX9_parks_87 ?_
  intro h25
  refine V_aload_n (pc := 88) F dX9_parks_88 0 rfl ?_
  refine V_getR (pc := 89) F 9 13 (by decide) (by decide) rfl g_fl_RX9_38 dX9_parks_89 ?_
  intro r26
  refine V_iload_n (pc := 92) F dX9_parks_92 1 rfl ?_
  refine V_aload_n (pc := 93) F dX9_parks_93 0 rfl ?_
  refine V_getR (pc := 94) F 9 14 (by decide) (by decide) rfl g_fl_RX9_41 dX9_parks_94 ?_
  intro r27
  refine V_iload_n (pc := 97) F dX9_parks_97 1 rfl ?_
  refine V_iald (pc := 98) F dX9_parks_98 ?_
  intro z28
  refine V_if_ne (pc := 99) F 106 dX9_parks_99 (by decide) ?_ ?_
  · refine V_aload_n (pc := 106) F dX9_parks_106 0 rfl ?_
    refine V_getR (pc := 107) F 9 12 (by decide) (by decide) rfl g_fl_RX9_35 dX9_parks_107 ?_
    intro r29
    refine V_iload_n (pc := 110) F dX9_parks_110 1 rfl ?_
    refine V_iald (pc := 111) F dX9_parks_111 ?_
    intro z30
    refine V_iast (pc := 112) F dX9_parks_112 ?_
    intro h31
    exact V_vret (pc := 113) F (Or.inl rfl) dX9_parks_113
  · refine V_iconst (pc := 102) F (x := (0 : Int32)) dX9_parks_102 (by decide) ?_
    refine V_goto (pc := 103) F 112 dX9_parks_103 (by decide) ?_
    refine V_iast (pc := 112) F dX9_parks_112 ?_
    intro h32
    exact V_vret (pc := 113) F (Or.inl rfl) dX9_parks_113
theorem vM_X9_parks {K : CT} (F : Fr K cX9_parks RX9 none [] 3 0) (hm : mxL K = 3) (x0 : Option Nat) (x1 : Int32) (h : MH) : V K 0 [(0, vR x0), (1, vI x1)] [] h (M_X9_parks x0 x1 h) := by
  unfold M_X9_parks
  refine V_aload_n (pc := 0) F dX9_parks_0 0 rfl ?_
  refine V_getR (pc := 1) F 9 14 (by decide) (by decide) rfl g_fl_RX9_41 dX9_parks_1 ?_
  intro r1
  refine V_iload_n (pc := 4) F dX9_parks_4 1 rfl ?_
  refine V_iald (pc := 5) F dX9_parks_5 ?_
  intro z2
  refine V_if_ne (pc := 6) F 10 dX9_parks_6 (by decide) ?_ ?_
  · refine V_aload_n (pc := 10) F dX9_parks_10 0 rfl ?_
    refine V_getR (pc := 11) F 9 13 (by decide) (by decide) rfl g_fl_RX9_38 dX9_parks_11 ?_
    intro r3
    refine V_iload_n (pc := 14) F dX9_parks_14 1 rfl ?_
    refine V_dup2 (pc := 15) F dX9_parks_15 rfl rfl ?_
    refine V_iald (pc := 16) F dX9_parks_16 ?_
    intro z4
    refine V_iconst (pc := 17) F (x := (1 : Int32)) dX9_parks_17 (by decide) ?_
    refine V_isub (pc := 18) F dX9_parks_18 ?_
    intro z5
    refine V_iast (pc := 19) F dX9_parks_19 ?_
    intro h6
    refine V_aload_n (pc := 20) F dX9_parks_20 0 rfl ?_
    refine V_getR (pc := 21) F 9 13 (by decide) (by decide) rfl g_fl_RX9_38 dX9_parks_21 ?_
    intro r7
    refine V_iload_n (pc := 24) F dX9_parks_24 1 rfl ?_
    refine V_iald (pc := 25) F dX9_parks_25 ?_
    intro z8
    refine V_if_ne (pc := 26) F 113 dX9_parks_26 (by decide) ?_ ?_
    · exact V_vret (pc := 113) F (Or.inl rfl) dX9_parks_113
    · refine V_aload_n (pc := 29) F dX9_parks_29 0 rfl ?_
      refine V_aload_n (pc := 30) F dX9_parks_30 0 rfl ?_
      refine V_getR (pc := 31) F 9 11 (by decide) (by decide) rfl g_fl_RX9_32 dX9_parks_31 ?_
      intro r9
      refine V_iload_n (pc := 34) F dX9_parks_34 1 rfl ?_
      refine V_iald (pc := 35) F dX9_parks_35 ?_
      intro z10
      refine V_cVM (pc := 36) F 9 (by decide) (as := [vI z10]) (C_X9_leads x0 z10 h6) w_X9_leads g_in_X9_leads g_se_X9_leads g_ml_RX9_126 (by decide) (rest := []) rfl rfl (Nat.le_of_ble_eq_true rfl) dX9_parks_36 (k_I fun z11 h12 => ?_)
      refine V_istore_n (pc := 39) F [(2, vI z11), (0, vR x0), (1, vI x1)] dX9_parks_39 (lt_mx hm (by decide)) rfl ?_
      refine V_aload_n (pc := 40) F dX9_parks_40 1 rfl ?_
      refine V_getR (pc := 41) F 9 11 (by decide) (by decide) rfl g_fl_RX9_32 dX9_parks_41 ?_
      intro r13
      refine V_iload_n (pc := 44) F dX9_parks_44 2 rfl ?_
      refine V_iload_n (pc := 45) F dX9_parks_45 0 rfl ?_
      refine V_iconst (pc := 46) F (x := (-1 : Int32)) dX9_parks_46 (by decide) ?_
      refine V_icmp_ne (pc := 47) F 59 dX9_parks_47 (by decide) ?_ ?_
      · refine V_iload_n (pc := 59) F dX9_parks_59 0 rfl ?_
        refine V_sub [1, 2] (L' := [(0, vR x0), (1, vI x1)]) rfl ?_
        exact vB_X9_parks_60 F hm x0 x1 r13 x1 z11 h12
      · refine V_aload_n (pc := 50) F dX9_parks_50 1 rfl ?_
        refine V_getR (pc := 51) F 9 11 (by decide) (by decide) rfl g_fl_RX9_32 dX9_parks_51 ?_
        intro r14
        refine V_iload_n (pc := 54) F dX9_parks_54 2 rfl ?_
        refine V_iald (pc := 55) F dX9_parks_55 ?_
        intro z15
        refine V_goto (pc := 56) F 60 dX9_parks_56 (by decide) ?_
        refine V_sub [1, 2] (L' := [(0, vR x0), (1, vI x1)]) rfl ?_
        exact vB_X9_parks_60 F hm x0 x1 r13 x1 z15 h12
  · exact V_vret (pc := 9) F (Or.inl rfl) dX9_parks_9
theorem C_X9_parks (x0 : Option Nat) (x1 : Int32) (h : MH) : CtrM yX9_parks (WSm yX9_parks cX9_parks 3 none) 3 [vR x0, vI x1] h (M_X9_parks x0 x1 h) :=
  CtrM_of (by decide) (Nat.le_of_ble_eq_true rfl) (fun K F hm hi => vM_X9_parks F hm x0 x1 h)
def B_X9_drifts_121 (rc23 : Option Nat → Int32 → Int32 → MH → Res) (rc44 : Option Nat → Int32 → Int32 → Int32 → Int32 → MH → Res) (x0 : Option Nat) (x1 : Int32) (x2 : Int32) (x3 : Int32) (x4 : Int32) (h : MH) : Res := bnd (x4 + (1)) fun z24 => rc44 x0 x1 x2 x3 z24 h
def B_X9_drifts_90 (rc23 : Option Nat → Int32 → Int32 → MH → Res) (rc44 : Option Nat → Int32 → Int32 → Int32 → Int32 → MH → Res) (x0 : Option Nat) (x1 : Int32) (x2 : Int32) (x3 : Int32) (x4 : Int32) (x5 : Int32) (s0 : Int32) (h : MH) : Res := if x5 = (-1 : Int32) then (B_X9_drifts_121 rc23 rc44 x0 x1 x2 x3 x4 h) else (gfR h x0 9 8 fun r16 => rdI h r16 20 x2 fun z17 => bnd (z17 - s0) fun z18 => wrI h r16 20 x2 z18 fun h19 => gfR h19 x0 9 8 fun r20 => rdI h19 r20 20 x5 fun z21 => bnd (z21 + s0) fun z22 => wrI h19 r20 20 x5 z22 fun h23 => B_X9_drifts_121 rc23 rc44 x0 x1 x2 x3 x4 h23)
def B_X9_drifts_70 (rc23 : Option Nat → Int32 → Int32 → MH → Res) (rc44 : Option Nat → Int32 → Int32 → Int32 → Int32 → MH → Res) (x0 : Option Nat) (x1 : Int32) (x2 : Int32) (x3 : Int32) (x4 : Int32) (s0 : Int32) (h : MH) : Res := if x4 ≠ 0 then (dvI x3 (10 : Int32) fun z13 => B_X9_drifts_90 rc23 rc44 x0 x1 x2 x3 x4 s0 z13 h) else (bnd ((4 : Int32) * x3) fun z14 => dvI z14 (10 : Int32) fun z15 => B_X9_drifts_90 rc23 rc44 x0 x1 x2 x3 x4 s0 z15 h)
def B_X9_drifts_44 (rc23 : Option Nat → Int32 → Int32 → MH → Res) (rc44 : Option Nat → Int32 → Int32 → Int32 → Int32 → MH → Res) (x0 : Option Nat) (x1 : Int32) (x2 : Int32) (x3 : Int32) (x4 : Int32) (h : MH) : Res := if (5 : Int32) ≤ x4 then (bnd (x2 + (1)) fun z8 => rc23 x0 x1 z8 h) else (if x4 ≠ 0 then (chk h x0 9 <| calI (M_X9_beside x0 x2 x4 h) fun z9 h10 => B_X9_drifts_70 rc23 rc44 x0 x1 x2 x3 x4 z9 h10) else (chk h x0 9 <| calI (M_X9_leads x0 x2 h) fun z11 h12 => B_X9_drifts_70 rc23 rc44 x0 x1 x2 x3 x4 z11 h12))
def L_X9_drifts_44 (rc23 : Option Nat → Int32 → Int32 → MH → Res) : Nat → Option Nat → Int32 → Int32 → Int32 → Int32 → MH → Res
  | 0 => fun _ _ _ _ _ _ => none
  | n + 1 => B_X9_drifts_44 rc23 (L_X9_drifts_44 rc23 n)
def B_X9_drifts_135 (rc135 : Option Nat → Int32 → Int32 → MH → Res) (x0 : Option Nat) (x1 : Int32) (x2 : Int32) (h : MH) : Res := if (60 : Int32) ≤ x2 then (rtV h) else (gfR h x0 9 32 fun r25 => bnd ((60 : Int32) * x1) fun z26 => bnd (z26 + x2) fun z27 => rdI h r25 20 z27 fun z28 => gfR h x0 9 8 fun r29 => rdI h r29 20 x2 fun z30 => bnd (z28 + z30) fun z31 => wrI h r25 20 z27 z31 fun h32 => bnd (x2 + (1)) fun z33 => rc135 x0 x1 z33 h32)
def L_X9_drifts_135 : Nat → Option Nat → Int32 → Int32 → MH → Res
  | 0 => fun _ _ _ _ => none
  | n + 1 => B_X9_drifts_135 (L_X9_drifts_135 n)
def B_X9_drifts_23 (rc23 : Option Nat → Int32 → Int32 → MH → Res) (x0 : Option Nat) (x1 : Int32) (x2 : Int32) (h : MH) : Res := if (60 : Int32) ≤ x2 then (L_X9_drifts_135 fuel x0 x1 (0 : Int32) h) else (gfR h x0 9 32 fun r4 => bnd ((60 : Int32) * x1) fun z5 => bnd (z5 + x2) fun z6 => rdI h r4 20 z6 fun z7 => L_X9_drifts_44 rc23 fuel x0 x1 x2 z7 (0 : Int32) h)
def L_X9_drifts_23 : Nat → Option Nat → Int32 → Int32 → MH → Res
  | 0 => fun _ _ _ _ => none
  | n + 1 => B_X9_drifts_23 (L_X9_drifts_23 n)
def B_X9_drifts_2 (rc2 : Option Nat → Int32 → Int32 → MH → Res) (x0 : Option Nat) (x1 : Int32) (x2 : Int32) (h : MH) : Res := if (60 : Int32) ≤ x2 then (L_X9_drifts_23 fuel x0 x1 (0 : Int32) h) else (gfR h x0 9 8 fun r1 => wrI h r1 20 x2 (0 : Int32) fun h2 => bnd (x2 + (1)) fun z3 => rc2 x0 x1 z3 h2)
def L_X9_drifts_2 : Nat → Option Nat → Int32 → Int32 → MH → Res
  | 0 => fun _ _ _ _ => none
  | n + 1 => B_X9_drifts_2 (L_X9_drifts_2 n)
def M_X9_drifts (x0 : Option Nat) (x1 : Int32) (h : MH) : Res := L_X9_drifts_2 fuel x0 x1 (0 : Int32) h
theorem vB_X9_drifts_121 {K : CT} (F : Fr K cX9_drifts RX9 none [] 3 0) (hm : mxL K = 7) (rc23 : Option Nat → Int32 → Int32 → MH → Res) (hrc23 : ∀ x0 x1 x2 h, V K 23 [(0, vR x0), (1, vI x1), (2, vI x2)] [] h (rc23 x0 x1 x2 h)) (rc44 : Option Nat → Int32 → Int32 → Int32 → Int32 → MH → Res) (hrc44 : ∀ x0 x1 x2 x3 x4 h, V K 44 [(0, vR x0), (1, vI x1), (2, vI x2), (3, vI x3), (4, vI x4)] [] h (rc44 x0 x1 x2 x3 x4 h)) (x0 : Option Nat) (x1 : Int32) (x2 : Int32) (x3 : Int32) (x4 : Int32) (h : MH) : V K 121 [(0, vR x0), (1, vI x1), (2, vI x2), (3, vI x3), (4, vI x4)] [] h (B_X9_drifts_121 rc23 rc44 x0 x1 x2 x3 x4 h) := by
  unfold B_X9_drifts_121
  refine V_iinc (pc := 121) F (fun z24 => [(4, vI z24), (0, vR x0), (1, vI x1), (2, vI x2), (3, vI x3)]) dX9_drifts_121 (lt_mx hm (by decide)) 4 rfl (dx := (1 : Int32)) (by decide) (fun _ => rfl) ?_
  intro z24
  refine V_goto (pc := 124) F 44 dX9_drifts_124 (by decide) ?_
  refine V_sub [1, 2, 3, 4, 0] (L' := [(0, vR x0), (1, vI x1), (2, vI x2), (3, vI x3), (4, vI z24)]) rfl ?_
  exact hrc44 x0 x1 x2 x3 z24 h
theorem vB_X9_drifts_90 {K : CT} (F : Fr K cX9_drifts RX9 none [] 3 0) (hm : mxL K = 7) (rc23 : Option Nat → Int32 → Int32 → MH → Res) (hrc23 : ∀ x0 x1 x2 h, V K 23 [(0, vR x0), (1, vI x1), (2, vI x2)] [] h (rc23 x0 x1 x2 h)) (rc44 : Option Nat → Int32 → Int32 → Int32 → Int32 → MH → Res) (hrc44 : ∀ x0 x1 x2 x3 x4 h, V K 44 [(0, vR x0), (1, vI x1), (2, vI x2), (3, vI x3), (4, vI x4)] [] h (rc44 x0 x1 x2 x3 x4 h)) (x0 : Option Nat) (x1 : Int32) (x2 : Int32) (x3 : Int32) (x4 : Int32) (x5 : Int32) (s0 : Int32) (h : MH) : V K 90 [(0, vR x0), (1, vI x1), (2, vI x2), (3, vI x3), (4, vI x4), (5, vI x5)] [vI s0] h (B_X9_drifts_90 rc23 rc44 x0 x1 x2 x3 x4 x5 s0 h) := by
  unfold B_X9_drifts_90
  refine V_istore (pc := 90) F [(6, vI s0), (0, vR x0), (1, vI x1), (2, vI x2), (3, vI x3), (4, vI x4), (5, vI x5)] dX9_drifts_90 (lt_mx hm (by decide)) rfl ?_
  refine V_iload (pc := 92) F dX9_drifts_92 6 rfl ?_
  refine V_iconst (pc := 94) F (x := (-1 : Int32)) dX9_drifts_94 (by decide) ?_
  refine V_icmp_eq (pc := 95) F 121 dX9_drifts_95 (by decide) ?_ ?_
  · refine V_sub [1, 2, 3, 4, 5] (L' := [(0, vR x0), (1, vI x1), (2, vI x2), (3, vI x3), (4, vI x4)]) rfl ?_
    exact vB_X9_drifts_121 F hm rc23 hrc23 rc44 hrc44 x0 x1 x2 x3 x4 h
  · refine V_aload_n (pc := 98) F dX9_drifts_98 1 rfl ?_
    refine V_getR (pc := 99) F 9 8 (by decide) (by decide) rfl g_fl_RX9_26 dX9_drifts_99 ?_
    intro r16
    refine V_iload_n (pc := 102) F dX9_drifts_102 3 rfl ?_
    refine V_dup2 (pc := 103) F dX9_drifts_103 rfl rfl ?_
    refine V_iald (pc := 104) F dX9_drifts_104 ?_
    intro z17
    refine V_iload (pc := 105) F dX9_drifts_105 0 rfl ?_
    refine V_isub (pc := 107) F dX9_drifts_107 ?_
    intro z18
    refine V_iast (pc := 108) F dX9_drifts_108 ?_
    intro h19
    refine V_aload_n (pc := 109) F dX9_drifts_109 1 rfl ?_
    refine V_getR (pc := 110) F 9 8 (by decide) (by decide) rfl g_fl_RX9_26 dX9_drifts_110 ?_
    intro r20
    refine V_iload (pc := 113) F dX9_drifts_113 6 rfl ?_
    refine V_dup2 (pc := 115) F dX9_drifts_115 rfl rfl ?_
    refine V_iald (pc := 116) F dX9_drifts_116 ?_
    intro z21
    refine V_iload (pc := 117) F dX9_drifts_117 0 rfl ?_
    refine V_iadd (pc := 119) F dX9_drifts_119 ?_
    intro z22
    refine V_iast (pc := 120) F dX9_drifts_120 ?_
    intro h23
    refine V_sub [1, 2, 3, 4, 5] (L' := [(0, vR x0), (1, vI x1), (2, vI x2), (3, vI x3), (4, vI x4)]) rfl ?_
    exact vB_X9_drifts_121 F hm rc23 hrc23 rc44 hrc44 x0 x1 x2 x3 x4 h23
theorem vB_X9_drifts_70 {K : CT} (F : Fr K cX9_drifts RX9 none [] 3 0) (hm : mxL K = 7) (rc23 : Option Nat → Int32 → Int32 → MH → Res) (hrc23 : ∀ x0 x1 x2 h, V K 23 [(0, vR x0), (1, vI x1), (2, vI x2)] [] h (rc23 x0 x1 x2 h)) (rc44 : Option Nat → Int32 → Int32 → Int32 → Int32 → MH → Res) (hrc44 : ∀ x0 x1 x2 x3 x4 h, V K 44 [(0, vR x0), (1, vI x1), (2, vI x2), (3, vI x3), (4, vI x4)] [] h (rc44 x0 x1 x2 x3 x4 h)) (x0 : Option Nat) (x1 : Int32) (x2 : Int32) (x3 : Int32) (x4 : Int32) (s0 : Int32) (h : MH) : V K 70 [(0, vR x0), (1, vI x1), (2, vI x2), (3, vI x3), (4, vI x4)] [vI s0] h (B_X9_drifts_70 rc23 rc44 x0 x1 x2 x3 x4 s0 h) := by
  unfold B_X9_drifts_70
  refine V_istore (pc := 70) F [(5, vI s0), (0, vR x0), (1, vI x1), (2, vI x2), (3, vI x3), (4, vI x4)] dX9_drifts_70 (lt_mx hm (by decide)) rfl ?_
  refine V_iload (pc := 72) F dX9_drifts_72 5 rfl ?_
  refine V_if_ne (pc := 74) F 86 dX9_drifts_74 (by decide) ?_ ?_
  · refine V_iload_n (pc := 86) F dX9_drifts_86 4 rfl ?_
    refine V_bipush (pc := 87) F (x := (10 : Int32)) dX9_drifts_87 (by decide) ?_
    refine V_idiv (pc := 89) F dX9_drifts_89 ?_
    intro z13
    refine V_sub [1, 2, 3, 4, 5, 0] (L' := [(0, vR x0), (1, vI x1), (2, vI x2), (3, vI x3), (4, vI x4), (5, vI s0)]) rfl ?_
    exact vB_X9_drifts_90 F hm rc23 hrc23 rc44 hrc44 x0 x1 x2 x3 x4 s0 z13 h
  · refine V_iconst (pc := 77) F (x := (4 : Int32)) dX9_drifts_77 (by decide) ?_
    refine V_iload_n (pc := 78) F dX9_drifts_78 4 rfl ?_
    refine V_imul (pc := 79) F dX9_drifts_79 ?_
    intro z14
    refine V_bipush (pc := 80) F (x := (10 : Int32)) dX9_drifts_80 (by decide) ?_
    refine V_idiv (pc := 82) F dX9_drifts_82 ?_
    intro z15
    refine V_goto (pc := 83) F 90 dX9_drifts_83 (by decide) ?_
    refine V_sub [1, 2, 3, 4, 5, 0] (L' := [(0, vR x0), (1, vI x1), (2, vI x2), (3, vI x3), (4, vI x4), (5, vI s0)]) rfl ?_
    exact vB_X9_drifts_90 F hm rc23 hrc23 rc44 hrc44 x0 x1 x2 x3 x4 s0 z15 h
theorem vB_X9_drifts_44 {K : CT} (F : Fr K cX9_drifts RX9 none [] 3 0) (hm : mxL K = 7) (rc23 : Option Nat → Int32 → Int32 → MH → Res) (hrc23 : ∀ x0 x1 x2 h, V K 23 [(0, vR x0), (1, vI x1), (2, vI x2)] [] h (rc23 x0 x1 x2 h)) (rc44 : Option Nat → Int32 → Int32 → Int32 → Int32 → MH → Res) (hrc44 : ∀ x0 x1 x2 x3 x4 h, V K 44 [(0, vR x0), (1, vI x1), (2, vI x2), (3, vI x3), (4, vI x4)] [] h (rc44 x0 x1 x2 x3 x4 h)) (x0 : Option Nat) (x1 : Int32) (x2 : Int32) (x3 : Int32) (x4 : Int32) (h : MH) : V K 44 [(0, vR x0), (1, vI x1), (2, vI x2), (3, vI x3), (4, vI x4)] [] h (B_X9_drifts_44 rc23 rc44 x0 x1 x2 x3 x4 h) := by
  unfold B_X9_drifts_44
  refine V_iload (pc := 44) F dX9_drifts_44 4 rfl ?_
  refine V_iconst (pc := 46) F (x := (5 : Int32)) dX9_drifts_46 (by decide) ?_
  refine V_icmp_ge (pc := 47) F 127 dX9_drifts_47 (by decide) ?_ ?_
  · refine V_iinc (pc := 127) F (fun z8 => [(2, vI z8), (0, vR x0), (1, vI x1), (3, vI x3), (4, vI x4)]) dX9_drifts_127 (lt_mx hm (by decide)) 2 rfl (dx := (1 : Int32)) (by decide) (fun _ => rfl) ?_
    intro z8
    refine V_goto (pc := 130) F 23 dX9_drifts_130 (by decide) ?_
    refine V_sub [1, 2, 0] (L' := [(0, vR x0), (1, vI x1), (2, vI z8)]) rfl ?_
    exact hrc23 x0 x1 z8 h
  · refine V_iload (pc := 50) F dX9_drifts_50 4 rfl ?_
    refine V_if_ne (pc := 52) F 63 dX9_drifts_52 (by decide) ?_ ?_
    · refine V_aload_n (pc := 63) F dX9_drifts_63 0 rfl ?_
      refine V_iload_n (pc := 64) F dX9_drifts_64 2 rfl ?_
      refine V_iload (pc := 65) F dX9_drifts_65 4 rfl ?_
      refine V_cVM (pc := 67) F 9 (by decide) (as := [vI x2, vI x4]) (C_X9_beside x0 x2 x4 h) w_X9_beside g_in_X9_beside g_se_X9_beside g_ml_RX9_112 (by decide) (rest := []) rfl rfl (Nat.le_of_ble_eq_true rfl) dX9_drifts_67 (k_I fun z9 h10 => ?_)
      exact vB_X9_drifts_70 F hm rc23 hrc23 rc44 hrc44 x0 x1 x2 x3 x4 z9 h10
    · refine V_aload_n (pc := 55) F dX9_drifts_55 0 rfl ?_
      refine V_iload_n (pc := 56) F dX9_drifts_56 2 rfl ?_
      refine V_cVM (pc := 57) F 9 (by decide) (as := [vI x2]) (C_X9_leads x0 x2 h) w_X9_leads g_in_X9_leads g_se_X9_leads g_ml_RX9_126 (by decide) (rest := []) rfl rfl (Nat.le_of_ble_eq_true rfl) dX9_drifts_57 (k_I fun z11 h12 => ?_)
      refine V_goto (pc := 60) F 70 dX9_drifts_60 (by decide) ?_
      exact vB_X9_drifts_70 F hm rc23 hrc23 rc44 hrc44 x0 x1 x2 x3 x4 z11 h12
theorem vL_X9_drifts_44 {K : CT} (F : Fr K cX9_drifts RX9 none [] 3 0) (hm : mxL K = 7) (rc23 : Option Nat → Int32 → Int32 → MH → Res) (hrc23 : ∀ x0 x1 x2 h, V K 23 [(0, vR x0), (1, vI x1), (2, vI x2)] [] h (rc23 x0 x1 x2 h)) (n : Nat) : ∀ x0 x1 x2 x3 x4 h, V K 44 [(0, vR x0), (1, vI x1), (2, vI x2), (3, vI x3), (4, vI x4)] [] h (L_X9_drifts_44 rc23 n x0 x1 x2 x3 x4 h) := by
  induction n with
  | zero => intros; exact V_none
  | succ n ih => intro x0 x1 x2 x3 x4 h; exact vB_X9_drifts_44 F hm rc23 hrc23 _ ih x0 x1 x2 x3 x4 h
theorem vB_X9_drifts_135 {K : CT} (F : Fr K cX9_drifts RX9 none [] 3 0) (hm : mxL K = 7) (rc135 : Option Nat → Int32 → Int32 → MH → Res) (hrc135 : ∀ x0 x1 x2 h, V K 135 [(0, vR x0), (1, vI x1), (2, vI x2)] [] h (rc135 x0 x1 x2 h)) (x0 : Option Nat) (x1 : Int32) (x2 : Int32) (h : MH) : V K 135 [(0, vR x0), (1, vI x1), (2, vI x2)] [] h (B_X9_drifts_135 rc135 x0 x1 x2 h) := by
  unfold B_X9_drifts_135
  refine V_iload_n (pc := 135) F dX9_drifts_135 2 rfl ?_
  refine V_bipush (pc := 136) F (x := (60 : Int32)) dX9_drifts_136 (by decide) ?_
  refine V_icmp_ge (pc := 138) F 167 dX9_drifts_138 (by decide) ?_ ?_
  · exact V_vret (pc := 167) F (Or.inl rfl) dX9_drifts_167
  · refine V_aload_n (pc := 141) F dX9_drifts_141 0 rfl ?_
    refine V_getR (pc := 142) F 9 32 (by decide) (by decide) rfl g_fl_RX9_84 dX9_drifts_142 ?_
    intro r25
    refine V_bipush (pc := 145) F (x := (60 : Int32)) dX9_drifts_145 (by decide) ?_
    refine V_iload_n (pc := 147) F dX9_drifts_147 1 rfl ?_
    refine V_imul (pc := 148) F dX9_drifts_148 ?_
    intro z26
    refine V_iload_n (pc := 149) F dX9_drifts_149 2 rfl ?_
    refine V_iadd (pc := 150) F dX9_drifts_150 ?_
    intro z27
    refine V_dup2 (pc := 151) F dX9_drifts_151 rfl rfl ?_
    refine V_iald (pc := 152) F dX9_drifts_152 ?_
    intro z28
    refine V_aload_n (pc := 153) F dX9_drifts_153 0 rfl ?_
    refine V_getR (pc := 154) F 9 8 (by decide) (by decide) rfl g_fl_RX9_26 dX9_drifts_154 ?_
    intro r29
    refine V_iload_n (pc := 157) F dX9_drifts_157 2 rfl ?_
    refine V_iald (pc := 158) F dX9_drifts_158 ?_
    intro z30
    refine V_iadd (pc := 159) F dX9_drifts_159 ?_
    intro z31
    refine V_iast (pc := 160) F dX9_drifts_160 ?_
    intro h32
    refine V_iinc (pc := 161) F (fun z33 => [(2, vI z33), (0, vR x0), (1, vI x1)]) dX9_drifts_161 (lt_mx hm (by decide)) 2 rfl (dx := (1 : Int32)) (by decide) (fun _ => rfl) ?_
    intro z33
    refine V_goto (pc := 164) F 135 dX9_drifts_164 (by decide) ?_
    refine V_sub [1, 2, 0] (L' := [(0, vR x0), (1, vI x1), (2, vI z33)]) rfl ?_
    exact hrc135 x0 x1 z33 h32
theorem vL_X9_drifts_135 {K : CT} (F : Fr K cX9_drifts RX9 none [] 3 0) (hm : mxL K = 7) (n : Nat) : ∀ x0 x1 x2 h, V K 135 [(0, vR x0), (1, vI x1), (2, vI x2)] [] h (L_X9_drifts_135 n x0 x1 x2 h) := by
  induction n with
  | zero => intros; exact V_none
  | succ n ih => intro x0 x1 x2 h; exact vB_X9_drifts_135 F hm _ ih x0 x1 x2 h
theorem vB_X9_drifts_23 {K : CT} (F : Fr K cX9_drifts RX9 none [] 3 0) (hm : mxL K = 7) (rc23 : Option Nat → Int32 → Int32 → MH → Res) (hrc23 : ∀ x0 x1 x2 h, V K 23 [(0, vR x0), (1, vI x1), (2, vI x2)] [] h (rc23 x0 x1 x2 h)) (x0 : Option Nat) (x1 : Int32) (x2 : Int32) (h : MH) : V K 23 [(0, vR x0), (1, vI x1), (2, vI x2)] [] h (B_X9_drifts_23 rc23 x0 x1 x2 h) := by
  unfold B_X9_drifts_23
  refine V_iload_n (pc := 23) F dX9_drifts_23 2 rfl ?_
  refine V_bipush (pc := 24) F (x := (60 : Int32)) dX9_drifts_24 (by decide) ?_
  refine V_icmp_ge (pc := 26) F 133 dX9_drifts_26 (by decide) ?_ ?_
  · refine V_iconst (pc := 133) F (x := (0 : Int32)) dX9_drifts_133 (by decide) ?_
    refine V_istore_n (pc := 134) F [(2, vI (0 : Int32)), (0, vR x0), (1, vI x1)] dX9_drifts_134 (lt_mx hm (by decide)) rfl ?_
    refine V_sub [1, 2, 0] (L' := [(0, vR x0), (1, vI x1), (2, vI (0 : Int32))]) rfl ?_
    exact vL_X9_drifts_135 F hm fuel x0 x1 (0 : Int32) h
  · refine V_aload_n (pc := 29) F dX9_drifts_29 0 rfl ?_
    refine V_getR (pc := 30) F 9 32 (by decide) (by decide) rfl g_fl_RX9_84 dX9_drifts_30 ?_
    intro r4
    refine V_bipush (pc := 33) F (x := (60 : Int32)) dX9_drifts_33 (by decide) ?_
    refine V_iload_n (pc := 35) F dX9_drifts_35 1 rfl ?_
    refine V_imul (pc := 36) F dX9_drifts_36 ?_
    intro z5
    refine V_iload_n (pc := 37) F dX9_drifts_37 2 rfl ?_
    refine V_iadd (pc := 38) F dX9_drifts_38 ?_
    intro z6
    refine V_iald (pc := 39) F dX9_drifts_39 ?_
    intro z7
    refine V_istore_n (pc := 40) F [(3, vI z7), (0, vR x0), (1, vI x1), (2, vI x2)] dX9_drifts_40 (lt_mx hm (by decide)) rfl ?_
    refine V_iconst (pc := 41) F (x := (0 : Int32)) dX9_drifts_41 (by decide) ?_
    refine V_istore (pc := 42) F [(4, vI (0 : Int32)), (3, vI z7), (0, vR x0), (1, vI x1), (2, vI x2)] dX9_drifts_42 (lt_mx hm (by decide)) rfl ?_
    refine V_sub [2, 3, 4, 1, 0] (L' := [(0, vR x0), (1, vI x1), (2, vI x2), (3, vI z7), (4, vI (0 : Int32))]) rfl ?_
    exact vL_X9_drifts_44 F hm rc23 hrc23 fuel x0 x1 x2 z7 (0 : Int32) h
theorem vL_X9_drifts_23 {K : CT} (F : Fr K cX9_drifts RX9 none [] 3 0) (hm : mxL K = 7) (n : Nat) : ∀ x0 x1 x2 h, V K 23 [(0, vR x0), (1, vI x1), (2, vI x2)] [] h (L_X9_drifts_23 n x0 x1 x2 h) := by
  induction n with
  | zero => intros; exact V_none
  | succ n ih => intro x0 x1 x2 h; exact vB_X9_drifts_23 F hm _ ih x0 x1 x2 h
theorem vB_X9_drifts_2 {K : CT} (F : Fr K cX9_drifts RX9 none [] 3 0) (hm : mxL K = 7) (rc2 : Option Nat → Int32 → Int32 → MH → Res) (hrc2 : ∀ x0 x1 x2 h, V K 2 [(0, vR x0), (1, vI x1), (2, vI x2)] [] h (rc2 x0 x1 x2 h)) (x0 : Option Nat) (x1 : Int32) (x2 : Int32) (h : MH) : V K 2 [(0, vR x0), (1, vI x1), (2, vI x2)] [] h (B_X9_drifts_2 rc2 x0 x1 x2 h) := by
  unfold B_X9_drifts_2
  refine V_iload_n (pc := 2) F dX9_drifts_2 2 rfl ?_
  refine V_bipush (pc := 3) F (x := (60 : Int32)) dX9_drifts_3 (by decide) ?_
  refine V_icmp_ge (pc := 5) F 21 dX9_drifts_5 (by decide) ?_ ?_
  · refine V_iconst (pc := 21) F (x := (0 : Int32)) dX9_drifts_21 (by decide) ?_
    refine V_istore_n (pc := 22) F [(2, vI (0 : Int32)), (0, vR x0), (1, vI x1)] dX9_drifts_22 (lt_mx hm (by decide)) rfl ?_
    refine V_sub [1, 2, 0] (L' := [(0, vR x0), (1, vI x1), (2, vI (0 : Int32))]) rfl ?_
    exact vL_X9_drifts_23 F hm fuel x0 x1 (0 : Int32) h
  · refine V_aload_n (pc := 8) F dX9_drifts_8 0 rfl ?_
    refine V_getR (pc := 9) F 9 8 (by decide) (by decide) rfl g_fl_RX9_26 dX9_drifts_9 ?_
    intro r1
    refine V_iload_n (pc := 12) F dX9_drifts_12 2 rfl ?_
    refine V_iconst (pc := 13) F (x := (0 : Int32)) dX9_drifts_13 (by decide) ?_
    refine V_iast (pc := 14) F dX9_drifts_14 ?_
    intro h2
    refine V_iinc (pc := 15) F (fun z3 => [(2, vI z3), (0, vR x0), (1, vI x1)]) dX9_drifts_15 (lt_mx hm (by decide)) 2 rfl (dx := (1 : Int32)) (by decide) (fun _ => rfl) ?_
    intro z3
    refine V_goto (pc := 18) F 2 dX9_drifts_18 (by decide) ?_
    refine V_sub [1, 2, 0] (L' := [(0, vR x0), (1, vI x1), (2, vI z3)]) rfl ?_
    exact hrc2 x0 x1 z3 h2
theorem vL_X9_drifts_2 {K : CT} (F : Fr K cX9_drifts RX9 none [] 3 0) (hm : mxL K = 7) (n : Nat) : ∀ x0 x1 x2 h, V K 2 [(0, vR x0), (1, vI x1), (2, vI x2)] [] h (L_X9_drifts_2 n x0 x1 x2 h) := by
  induction n with
  | zero => intros; exact V_none
  | succ n ih => intro x0 x1 x2 h; exact vB_X9_drifts_2 F hm _ ih x0 x1 x2 h
theorem vM_X9_drifts {K : CT} (F : Fr K cX9_drifts RX9 none [] 3 0) (hm : mxL K = 7) (x0 : Option Nat) (x1 : Int32) (h : MH) : V K 0 [(0, vR x0), (1, vI x1)] [] h (M_X9_drifts x0 x1 h) := by
  unfold M_X9_drifts
  refine V_iconst (pc := 0) F (x := (0 : Int32)) dX9_drifts_0 (by decide) ?_
  refine V_istore_n (pc := 1) F [(2, vI (0 : Int32)), (0, vR x0), (1, vI x1)] dX9_drifts_1 (lt_mx hm (by decide)) rfl ?_
  refine V_sub [1, 2, 0] (L' := [(0, vR x0), (1, vI x1), (2, vI (0 : Int32))]) rfl ?_
  exact vL_X9_drifts_2 F hm fuel x0 x1 (0 : Int32) h
theorem C_X9_drifts (x0 : Option Nat) (x1 : Int32) (h : MH) : CtrM yX9_drifts (WSm yX9_drifts cX9_drifts 7 none) 3 [vR x0, vI x1] h (M_X9_drifts x0 x1 h) :=
  CtrM_of (by decide) (Nat.le_of_ble_eq_true rfl) (fun K F hm hi => vM_X9_drifts F hm x0 x1 h)
def B_X9_stationOf_42 (rc5 : Option Nat → Int32 → Int32 → Int32 → Int32 → MH → Res) (x0 : Option Nat) (x1 : Int32) (x2 : Int32) (x4 : Int32) (s0 : Int32) (h : MH) : Res := bnd (x4 + (1)) fun z6 => rc5 x0 x1 x2 s0 z6 h
def B_X9_stationOf_41 (rc5 : Option Nat → Int32 → Int32 → Int32 → Int32 → MH → Res) (x0 : Option Nat) (x1 : Int32) (x2 : Int32) (x3 : Int32) (x4 : Int32) (h : MH) : Res := B_X9_stationOf_42 rc5 x0 x1 x2 x4 x3 h
def B_X9_stationOf_5 (rc5 : Option Nat → Int32 → Int32 → Int32 → Int32 → MH → Res) (x0 : Option Nat) (x1 : Int32) (x2 : Int32) (x3 : Int32) (x4 : Int32) (h : MH) : Res := gfI h x0 9 17 fun z1 => if z1 ≤ x4 then (rtI x3 h) else (gfR h x0 9 18 fun r2 => rdI h r2 20 x4 fun z3 => if z3 ≠ x1 then (B_X9_stationOf_41 rc5 x0 x1 x2 x3 x4 h) else (gfR h x0 9 19 fun r4 => rdI h r4 20 x4 fun z5 => if z5 ≠ x2 then (B_X9_stationOf_41 rc5 x0 x1 x2 x3 x4 h) else (B_X9_stationOf_42 rc5 x0 x1 x2 x4 x4 h)))
def L_X9_stationOf_5 : Nat → Option Nat → Int32 → Int32 → Int32 → Int32 → MH → Res
  | 0 => fun _ _ _ _ _ _ => none
  | n + 1 => B_X9_stationOf_5 (L_X9_stationOf_5 n)
def M_X9_stationOf (x0 : Option Nat) (x1 : Int32) (x2 : Int32) (h : MH) : Res := L_X9_stationOf_5 fuel x0 x1 x2 (-1 : Int32) (0 : Int32) h
theorem vB_X9_stationOf_42 {K : CT} (F : Fr K cX9_stationOf RX9 (some .int) [] 0 0) (hm : mxL K = 5) (rc5 : Option Nat → Int32 → Int32 → Int32 → Int32 → MH → Res) (hrc5 : ∀ x0 x1 x2 x3 x4 h, V K 5 [(0, vR x0), (1, vI x1), (2, vI x2), (3, vI x3), (4, vI x4)] [] h (rc5 x0 x1 x2 x3 x4 h)) (x0 : Option Nat) (x1 : Int32) (x2 : Int32) (x4 : Int32) (s0 : Int32) (h : MH) : V K 42 [(0, vR x0), (1, vI x1), (2, vI x2), (4, vI x4)] [vI s0] h (B_X9_stationOf_42 rc5 x0 x1 x2 x4 s0 h) := by
  unfold B_X9_stationOf_42
  refine V_istore_n (pc := 42) F [(3, vI s0), (0, vR x0), (1, vI x1), (2, vI x2), (4, vI x4)] dX9_stationOf_42 (lt_mx hm (by decide)) rfl ?_
  refine V_iinc (pc := 43) F (fun z6 => [(4, vI z6), (3, vI s0), (0, vR x0), (1, vI x1), (2, vI x2)]) dX9_stationOf_43 (lt_mx hm (by decide)) 4 rfl (dx := (1 : Int32)) (by decide) (fun _ => rfl) ?_
  intro z6
  refine V_goto (pc := 46) F 5 dX9_stationOf_46 (by decide) ?_
  refine V_sub [2, 3, 4, 1, 0] (L' := [(0, vR x0), (1, vI x1), (2, vI x2), (3, vI s0), (4, vI z6)]) rfl ?_
  exact hrc5 x0 x1 x2 s0 z6 h
theorem vB_X9_stationOf_41 {K : CT} (F : Fr K cX9_stationOf RX9 (some .int) [] 0 0) (hm : mxL K = 5) (rc5 : Option Nat → Int32 → Int32 → Int32 → Int32 → MH → Res) (hrc5 : ∀ x0 x1 x2 x3 x4 h, V K 5 [(0, vR x0), (1, vI x1), (2, vI x2), (3, vI x3), (4, vI x4)] [] h (rc5 x0 x1 x2 x3 x4 h)) (x0 : Option Nat) (x1 : Int32) (x2 : Int32) (x3 : Int32) (x4 : Int32) (h : MH) : V K 41 [(0, vR x0), (1, vI x1), (2, vI x2), (3, vI x3), (4, vI x4)] [] h (B_X9_stationOf_41 rc5 x0 x1 x2 x3 x4 h) := by
  unfold B_X9_stationOf_41
  refine V_iload_n (pc := 41) F dX9_stationOf_41 3 rfl ?_
  refine V_sub [0, 1, 2, 4] (L' := [(0, vR x0), (1, vI x1), (2, vI x2), (4, vI x4)]) rfl ?_
  exact vB_X9_stationOf_42 F hm rc5 hrc5 x0 x1 x2 x4 x3 h
theorem vB_X9_stationOf_5 {K : CT} (F : Fr K cX9_stationOf RX9 (some .int) [] 0 0) (hm : mxL K = 5) (rc5 : Option Nat → Int32 → Int32 → Int32 → Int32 → MH → Res) (hrc5 : ∀ x0 x1 x2 x3 x4 h, V K 5 [(0, vR x0), (1, vI x1), (2, vI x2), (3, vI x3), (4, vI x4)] [] h (rc5 x0 x1 x2 x3 x4 h)) (x0 : Option Nat) (x1 : Int32) (x2 : Int32) (x3 : Int32) (x4 : Int32) (h : MH) : V K 5 [(0, vR x0), (1, vI x1), (2, vI x2), (3, vI x3), (4, vI x4)] [] h (B_X9_stationOf_5 rc5 x0 x1 x2 x3 x4 h) := by
  unfold B_X9_stationOf_5
  refine V_iload (pc := 5) F dX9_stationOf_5 4 rfl ?_
  refine V_aload_n (pc := 7) F dX9_stationOf_7 0 rfl ?_
  refine V_getI (pc := 8) F 9 17 (by decide) (by decide) rfl g_fl_RX9_123 dX9_stationOf_8 ?_
  intro z1
  refine V_icmp_ge (pc := 11) F 49 dX9_stationOf_11 (by decide) ?_ ?_
  · refine V_iload_n (pc := 49) F dX9_stationOf_49 3 rfl ?_
    exact V_iret (pc := 50) F (Or.inl rfl) dX9_stationOf_50
  · refine V_aload_n (pc := 14) F dX9_stationOf_14 0 rfl ?_
    refine V_getR (pc := 15) F 9 18 (by decide) (by decide) rfl g_fl_RX9_50 dX9_stationOf_15 ?_
    intro r2
    refine V_iload (pc := 18) F dX9_stationOf_18 4 rfl ?_
    refine V_iald (pc := 20) F dX9_stationOf_20 ?_
    intro z3
    refine V_iload_n (pc := 21) F dX9_stationOf_21 1 rfl ?_
    refine V_icmp_ne (pc := 22) F 41 dX9_stationOf_22 (by decide) ?_ ?_
    · exact vB_X9_stationOf_41 F hm rc5 hrc5 x0 x1 x2 x3 x4 h
    · refine V_aload_n (pc := 25) F dX9_stationOf_25 0 rfl ?_
      refine V_getR (pc := 26) F 9 19 (by decide) (by decide) rfl g_fl_RX9_53 dX9_stationOf_26 ?_
      intro r4
      refine V_iload (pc := 29) F dX9_stationOf_29 4 rfl ?_
      refine V_iald (pc := 31) F dX9_stationOf_31 ?_
      intro z5
      refine V_iload_n (pc := 32) F dX9_stationOf_32 2 rfl ?_
      refine V_icmp_ne (pc := 33) F 41 dX9_stationOf_33 (by decide) ?_ ?_
      · exact vB_X9_stationOf_41 F hm rc5 hrc5 x0 x1 x2 x3 x4 h
      · refine V_iload (pc := 36) F dX9_stationOf_36 4 rfl ?_
        refine V_goto (pc := 38) F 42 dX9_stationOf_38 (by decide) ?_
        refine V_sub [0, 1, 2, 4] (L' := [(0, vR x0), (1, vI x1), (2, vI x2), (4, vI x4)]) rfl ?_
        exact vB_X9_stationOf_42 F hm rc5 hrc5 x0 x1 x2 x4 x4 h
theorem vL_X9_stationOf_5 {K : CT} (F : Fr K cX9_stationOf RX9 (some .int) [] 0 0) (hm : mxL K = 5) (n : Nat) : ∀ x0 x1 x2 x3 x4 h, V K 5 [(0, vR x0), (1, vI x1), (2, vI x2), (3, vI x3), (4, vI x4)] [] h (L_X9_stationOf_5 n x0 x1 x2 x3 x4 h) := by
  induction n with
  | zero => intros; exact V_none
  | succ n ih => intro x0 x1 x2 x3 x4 h; exact vB_X9_stationOf_5 F hm _ ih x0 x1 x2 x3 x4 h
theorem vM_X9_stationOf {K : CT} (F : Fr K cX9_stationOf RX9 (some .int) [] 0 0) (hm : mxL K = 5) (x0 : Option Nat) (x1 : Int32) (x2 : Int32) (h : MH) : V K 0 [(0, vR x0), (1, vI x1), (2, vI x2)] [] h (M_X9_stationOf x0 x1 x2 h) := by
  unfold M_X9_stationOf
  refine V_iconst (pc := 0) F (x := (-1 : Int32)) dX9_stationOf_0 (by decide) ?_
  refine V_istore_n (pc := 1) F [(3, vI (-1 : Int32)), (0, vR x0), (1, vI x1), (2, vI x2)] dX9_stationOf_1 (lt_mx hm (by decide)) rfl ?_
  refine V_iconst (pc := 2) F (x := (0 : Int32)) dX9_stationOf_2 (by decide) ?_
  refine V_istore (pc := 3) F [(4, vI (0 : Int32)), (3, vI (-1 : Int32)), (0, vR x0), (1, vI x1), (2, vI x2)] dX9_stationOf_3 (lt_mx hm (by decide)) rfl ?_
  refine V_sub [2, 3, 4, 1, 0] (L' := [(0, vR x0), (1, vI x1), (2, vI x2), (3, vI (-1 : Int32)), (4, vI (0 : Int32))]) rfl ?_
  exact vL_X9_stationOf_5 F hm fuel x0 x1 x2 (-1 : Int32) (0 : Int32) h
theorem C_X9_stationOf (x0 : Option Nat) (x1 : Int32) (x2 : Int32) (h : MH) : CtrM yX9_stationOf (WSm yX9_stationOf cX9_stationOf 5 (some .int)) 0 [vR x0, vI x1, vI x2] h (M_X9_stationOf x0 x1 x2 h) :=
  CtrM_of (by decide) (Nat.le_of_ble_eq_true rfl) (fun K F hm hi => vM_X9_stationOf F hm x0 x1 x2 h)
def B_X9_isStorm_40 (rc4 : Option Nat → Int32 → Int32 → Int32 → MH → Res) (x0 : Option Nat) (x1 : Int32) (x3 : Int32) (s0 : Int32) (h : MH) : Res := bnd (x3 + (1)) fun z8 => rc4 x0 x1 s0 z8 h
def B_X9_isStorm_35 (rc4 : Option Nat → Int32 → Int32 → Int32 → MH → Res) (x0 : Option Nat) (x1 : Int32) (x3 : Int32) (h : MH) : Res := B_X9_isStorm_40 rc4 x0 x1 x3 (1 : Int32) h
def B_X9_isStorm_4 (rc4 : Option Nat → Int32 → Int32 → Int32 → MH → Res) (x0 : Option Nat) (x1 : Int32) (x2 : Int32) (x3 : Int32) (h : MH) : Res := gfI h x0 9 20 fun z1 => if z1 ≤ x3 then (rtZ x2 h) else (if x2 ≠ 0 then (B_X9_isStorm_35 rc4 x0 x1 x3 h) else (gfR h x0 9 21 fun r2 => rdI h r2 20 x3 fun z3 => gfR h x0 9 22 fun r4 => rdI h r4 20 x3 fun z5 => calI (M_X9_in x1 z3 z5 h) fun z6 h7 => if z6 = 0 then (B_X9_isStorm_40 rc4 x0 x1 x3 (0 : Int32) h7) else (B_X9_isStorm_35 rc4 x0 x1 x3 h7)))
def L_X9_isStorm_4 : Nat → Option Nat → Int32 → Int32 → Int32 → MH → Res
  | 0 => fun _ _ _ _ _ => none
  | n + 1 => B_X9_isStorm_4 (L_X9_isStorm_4 n)
def M_X9_isStorm (x0 : Option Nat) (x1 : Int32) (h : MH) : Res := L_X9_isStorm_4 fuel x0 x1 (0 : Int32) (0 : Int32) h
theorem vB_X9_isStorm_40 {K : CT} (F : Fr K cX9_isStorm RX9 (some .boolean) [] 1 0) (hm : mxL K = 4) (rc4 : Option Nat → Int32 → Int32 → Int32 → MH → Res) (hrc4 : ∀ x0 x1 x2 x3 h, V K 4 [(0, vR x0), (1, vI x1), (2, vI x2), (3, vI x3)] [] h (rc4 x0 x1 x2 x3 h)) (x0 : Option Nat) (x1 : Int32) (x3 : Int32) (s0 : Int32) (h : MH) : V K 40 [(0, vR x0), (1, vI x1), (3, vI x3)] [vI s0] h (B_X9_isStorm_40 rc4 x0 x1 x3 s0 h) := by
  unfold B_X9_isStorm_40
  refine V_istore_n (pc := 40) F [(2, vI s0), (0, vR x0), (1, vI x1), (3, vI x3)] dX9_isStorm_40 (lt_mx hm (by decide)) rfl ?_
  refine V_iinc (pc := 41) F (fun z8 => [(3, vI z8), (2, vI s0), (0, vR x0), (1, vI x1)]) dX9_isStorm_41 (lt_mx hm (by decide)) 3 rfl (dx := (1 : Int32)) (by decide) (fun _ => rfl) ?_
  intro z8
  refine V_goto (pc := 44) F 4 dX9_isStorm_44 (by decide) ?_
  refine V_sub [2, 3, 1, 0] (L' := [(0, vR x0), (1, vI x1), (2, vI s0), (3, vI z8)]) rfl ?_
  exact hrc4 x0 x1 s0 z8 h
theorem vB_X9_isStorm_35 {K : CT} (F : Fr K cX9_isStorm RX9 (some .boolean) [] 1 0) (hm : mxL K = 4) (rc4 : Option Nat → Int32 → Int32 → Int32 → MH → Res) (hrc4 : ∀ x0 x1 x2 x3 h, V K 4 [(0, vR x0), (1, vI x1), (2, vI x2), (3, vI x3)] [] h (rc4 x0 x1 x2 x3 h)) (x0 : Option Nat) (x1 : Int32) (x3 : Int32) (h : MH) : V K 35 [(0, vR x0), (1, vI x1), (3, vI x3)] [] h (B_X9_isStorm_35 rc4 x0 x1 x3 h) := by
  unfold B_X9_isStorm_35
  refine V_iconst (pc := 35) F (x := (1 : Int32)) dX9_isStorm_35 (by decide) ?_
  refine V_goto (pc := 36) F 40 dX9_isStorm_36 (by decide) ?_
  exact vB_X9_isStorm_40 F hm rc4 hrc4 x0 x1 x3 (1 : Int32) h
theorem vB_X9_isStorm_4 {K : CT} (F : Fr K cX9_isStorm RX9 (some .boolean) [] 1 0) (hm : mxL K = 4) (rc4 : Option Nat → Int32 → Int32 → Int32 → MH → Res) (hrc4 : ∀ x0 x1 x2 x3 h, V K 4 [(0, vR x0), (1, vI x1), (2, vI x2), (3, vI x3)] [] h (rc4 x0 x1 x2 x3 h)) (x0 : Option Nat) (x1 : Int32) (x2 : Int32) (x3 : Int32) (h : MH) : V K 4 [(0, vR x0), (1, vI x1), (2, vI x2), (3, vI x3)] [] h (B_X9_isStorm_4 rc4 x0 x1 x2 x3 h) := by
  unfold B_X9_isStorm_4
  refine V_iload_n (pc := 4) F dX9_isStorm_4 3 rfl ?_
  refine V_aload_n (pc := 5) F dX9_isStorm_5 0 rfl ?_
  refine V_getI (pc := 6) F 9 20 (by decide) (by decide) rfl g_fl_RX9_137 dX9_isStorm_6 ?_
  intro z1
  refine V_icmp_ge (pc := 9) F 47 dX9_isStorm_9 (by decide) ?_ ?_
  · refine V_iload_n (pc := 47) F dX9_isStorm_47 2 rfl ?_
    exact V_zret (pc := 48) F (Or.inl rfl) dX9_isStorm_48
  · refine V_iload_n (pc := 12) F dX9_isStorm_12 2 rfl ?_
    refine V_if_ne (pc := 13) F 35 dX9_isStorm_13 (by decide) ?_ ?_
    · refine V_sub [0, 1, 3] (L' := [(0, vR x0), (1, vI x1), (3, vI x3)]) rfl ?_
      exact vB_X9_isStorm_35 F hm rc4 hrc4 x0 x1 x3 h
    · refine V_iload_n (pc := 16) F dX9_isStorm_16 1 rfl ?_
      refine V_aload_n (pc := 17) F dX9_isStorm_17 0 rfl ?_
      refine V_getR (pc := 18) F 9 21 (by decide) (by decide) rfl g_fl_RX9_56 dX9_isStorm_18 ?_
      intro r2
      refine V_iload_n (pc := 21) F dX9_isStorm_21 3 rfl ?_
      refine V_iald (pc := 22) F dX9_isStorm_22 ?_
      intro z3
      refine V_aload_n (pc := 23) F dX9_isStorm_23 0 rfl ?_
      refine V_getR (pc := 24) F 9 22 (by decide) (by decide) rfl g_fl_RX9_59 dX9_isStorm_24 ?_
      intro r4
      refine V_iload_n (pc := 27) F dX9_isStorm_27 3 rfl ?_
      refine V_iald (pc := 28) F dX9_isStorm_28 ?_
      intro z5
      refine V_cSM (pc := 29) F (as := [vI x1, vI z3, vI z5]) (C_X9_in x1 z3 z5 h) w_X9_in g_st_X9_in g_ml_RX9_99 (by decide) (rest := []) rfl rfl (Nat.le_of_ble_eq_true rfl) dX9_isStorm_29 (k_I fun z6 h7 => ?_)
      refine V_if_eq (pc := 32) F 39 dX9_isStorm_32 (by decide) ?_ ?_
      · refine V_iconst (pc := 39) F (x := (0 : Int32)) dX9_isStorm_39 (by decide) ?_
        refine V_sub [0, 1, 3] (L' := [(0, vR x0), (1, vI x1), (3, vI x3)]) rfl ?_
        exact vB_X9_isStorm_40 F hm rc4 hrc4 x0 x1 x3 (0 : Int32) h7
      · refine V_sub [0, 1, 3] (L' := [(0, vR x0), (1, vI x1), (3, vI x3)]) rfl ?_
        exact vB_X9_isStorm_35 F hm rc4 hrc4 x0 x1 x3 h7
theorem vL_X9_isStorm_4 {K : CT} (F : Fr K cX9_isStorm RX9 (some .boolean) [] 1 0) (hm : mxL K = 4) (n : Nat) : ∀ x0 x1 x2 x3 h, V K 4 [(0, vR x0), (1, vI x1), (2, vI x2), (3, vI x3)] [] h (L_X9_isStorm_4 n x0 x1 x2 x3 h) := by
  induction n with
  | zero => intros; exact V_none
  | succ n ih => intro x0 x1 x2 x3 h; exact vB_X9_isStorm_4 F hm _ ih x0 x1 x2 x3 h
theorem vM_X9_isStorm {K : CT} (F : Fr K cX9_isStorm RX9 (some .boolean) [] 1 0) (hm : mxL K = 4) (x0 : Option Nat) (x1 : Int32) (h : MH) : V K 0 [(0, vR x0), (1, vI x1)] [] h (M_X9_isStorm x0 x1 h) := by
  unfold M_X9_isStorm
  refine V_iconst (pc := 0) F (x := (0 : Int32)) dX9_isStorm_0 (by decide) ?_
  refine V_istore_n (pc := 1) F [(2, vI (0 : Int32)), (0, vR x0), (1, vI x1)] dX9_isStorm_1 (lt_mx hm (by decide)) rfl ?_
  refine V_iconst (pc := 2) F (x := (0 : Int32)) dX9_isStorm_2 (by decide) ?_
  refine V_istore_n (pc := 3) F [(3, vI (0 : Int32)), (2, vI (0 : Int32)), (0, vR x0), (1, vI x1)] dX9_isStorm_3 (lt_mx hm (by decide)) rfl ?_
  refine V_sub [2, 3, 1, 0] (L' := [(0, vR x0), (1, vI x1), (2, vI (0 : Int32)), (3, vI (0 : Int32))]) rfl ?_
  exact vL_X9_isStorm_4 F hm fuel x0 x1 (0 : Int32) (0 : Int32) h
theorem C_X9_isStorm (x0 : Option Nat) (x1 : Int32) (h : MH) : CtrM yX9_isStorm (WSm yX9_isStorm cX9_isStorm 4 (some .boolean)) 1 [vR x0, vI x1] h (M_X9_isStorm x0 x1 h) :=
  CtrM_of (by decide) (Nat.le_of_ble_eq_true rfl) (fun K F hm hi => vM_X9_isStorm F hm x0 x1 h)
def B_X9_ships_81 (rc2 : Option Nat → Int32 → MH → Res) (x0 : Option Nat) (x1 : Int32) (h : MH) : Res := bnd (x1 + (1)) fun z21 => rc2 x0 z21 h
def B_X9_ships_41 (rc2 : Option Nat → Int32 → MH → Res) (x0 : Option Nat) (x1 : Int32) (x2 : Int32) (h : MH) : Res := gfI h x0 9 17 fun z8 => bnd (z8 - (1 : Int32)) fun z9 => pfI h x0 9 17 z9 fun h10 => gfR h10 x0 9 18 fun r11 => gfR h10 x0 9 18 fun r12 => gfI h10 x0 9 17 fun z13 => rdI h10 r12 20 z13 fun z14 => wrI h10 r11 20 x2 z14 fun h15 => gfR h15 x0 9 19 fun r16 => gfR h15 x0 9 19 fun r17 => gfI h15 x0 9 17 fun z18 => rdI h15 r17 20 z18 fun z19 => wrI h15 r16 20 x2 z19 fun h20 => B_X9_ships_81 rc2 x0 x1 h20
def B_X9_ships_2 (rc2 : Option Nat → Int32 → MH → Res) (x0 : Option Nat) (x1 : Int32) (h : MH) : Res := if (60 : Int32) ≤ x1 then (rtV h) else (gfI h x0 9 1 fun z1 => chk h x0 9 <| calI (M_X9_stationOf x0 z1 x1 h) fun z2 h3 => if z2 = (-1 : Int32) then (B_X9_ships_81 rc2 x0 x1 h3) else (gfI h3 x0 9 1 fun z4 => chk h3 x0 9 <| calI (M_X9_isStorm x0 z4 h3) fun z5 h6 => if z5 ≠ 0 then (B_X9_ships_41 rc2 x0 x1 z2 h6) else (chk h6 x0 9 <| calV (M_X9_reads x0 x1 (-1 : Int32) (0 : Int32) h6) fun h7 => B_X9_ships_41 rc2 x0 x1 z2 h7)))
def L_X9_ships_2 : Nat → Option Nat → Int32 → MH → Res
  | 0 => fun _ _ _ => none
  | n + 1 => B_X9_ships_2 (L_X9_ships_2 n)
def M_X9_ships (x0 : Option Nat) (h : MH) : Res := L_X9_ships_2 fuel x0 (0 : Int32) h
theorem vB_X9_ships_81 {K : CT} (F : Fr K cX9_ships RX9 none [] 2 0) (hm : mxL K = 3) (rc2 : Option Nat → Int32 → MH → Res) (hrc2 : ∀ x0 x1 h, V K 2 [(0, vR x0), (1, vI x1)] [] h (rc2 x0 x1 h)) (x0 : Option Nat) (x1 : Int32) (h : MH) : V K 81 [(0, vR x0), (1, vI x1)] [] h (B_X9_ships_81 rc2 x0 x1 h) := by
  unfold B_X9_ships_81
  refine V_iinc (pc := 81) F (fun z21 => [(1, vI z21), (0, vR x0)]) dX9_ships_81 (lt_mx hm (by decide)) 1 rfl (dx := (1 : Int32)) (by decide) (fun _ => rfl) ?_
  intro z21
  refine V_goto (pc := 84) F 2 dX9_ships_84 (by decide) ?_
  refine V_sub [1, 0] (L' := [(0, vR x0), (1, vI z21)]) rfl ?_
  exact hrc2 x0 z21 h
theorem vB_X9_ships_41 {K : CT} (F : Fr K cX9_ships RX9 none [] 2 0) (hm : mxL K = 3) (rc2 : Option Nat → Int32 → MH → Res) (hrc2 : ∀ x0 x1 h, V K 2 [(0, vR x0), (1, vI x1)] [] h (rc2 x0 x1 h)) (x0 : Option Nat) (x1 : Int32) (x2 : Int32) (h : MH) : V K 41 [(0, vR x0), (1, vI x1), (2, vI x2)] [] h (B_X9_ships_41 rc2 x0 x1 x2 h) := by
  unfold B_X9_ships_41
  refine V_aload_n (pc := 41) F dX9_ships_41 0 rfl ?_
  refine V_dup (pc := 42) F dX9_ships_42 rfl ?_
  refine V_getI (pc := 43) F 9 17 (by decide) (by decide) rfl g_fl_RX9_123 dX9_ships_43 ?_
  intro z8
  refine V_iconst (pc := 46) F (x := (1 : Int32)) dX9_ships_46 (by decide) ?_
  refine V_isub (pc := 47) F dX9_ships_47 ?_
  intro z9
  refine V_putI (pc := 48) F 9 17 (by decide) (by decide) rfl rfl g_fl_RX9_123 dX9_ships_48 ?_
  intro h10
  refine V_aload_n (pc := 51) F dX9_ships_51 0 rfl ?_
  refine V_getR (pc := 52) F 9 18 (by decide) (by decide) rfl g_fl_RX9_50 dX9_ships_52 ?_
  intro r11
  refine V_iload_n (pc := 55) F dX9_ships_55 2 rfl ?_
  refine V_aload_n (pc := 56) F dX9_ships_56 0 rfl ?_
  refine V_getR (pc := 57) F 9 18 (by decide) (by decide) rfl g_fl_RX9_50 dX9_ships_57 ?_
  intro r12
  refine V_aload_n (pc := 60) F dX9_ships_60 0 rfl ?_
  refine V_getI (pc := 61) F 9 17 (by decide) (by decide) rfl g_fl_RX9_123 dX9_ships_61 ?_
  intro z13
  refine V_iald (pc := 64) F dX9_ships_64 ?_
  intro z14
  refine V_iast (pc := 65) F dX9_ships_65 ?_
  intro h15
  refine V_aload_n (pc := 66) F dX9_ships_66 0 rfl ?_
  refine V_getR (pc := 67) F 9 19 (by decide) (by decide) rfl g_fl_RX9_53 dX9_ships_67 ?_
  intro r16
  refine V_iload_n (pc := 70) F dX9_ships_70 2 rfl ?_
  refine V_aload_n (pc := 71) F dX9_ships_71 0 rfl ?_
  refine V_getR (pc := 72) F 9 19 (by decide) (by decide) rfl g_fl_RX9_53 dX9_ships_72 ?_
  intro r17
  refine V_aload_n (pc := 75) F dX9_ships_75 0 rfl ?_
  refine V_getI (pc := 76) F 9 17 (by decide) (by decide) rfl g_fl_RX9_123 dX9_ships_76 ?_
  intro z18
  refine V_iald (pc := 79) F dX9_ships_79 ?_
  intro z19
  refine V_iast (pc := 80) F dX9_ships_80 ?_
  intro h20
  refine V_sub [0, 1] (L' := [(0, vR x0), (1, vI x1)]) rfl ?_
  exact vB_X9_ships_81 F hm rc2 hrc2 x0 x1 h20
theorem vB_X9_ships_2 {K : CT} (F : Fr K cX9_ships RX9 none [] 2 0) (hm : mxL K = 3) (rc2 : Option Nat → Int32 → MH → Res) (hrc2 : ∀ x0 x1 h, V K 2 [(0, vR x0), (1, vI x1)] [] h (rc2 x0 x1 h)) (x0 : Option Nat) (x1 : Int32) (h : MH) : V K 2 [(0, vR x0), (1, vI x1)] [] h (B_X9_ships_2 rc2 x0 x1 h) := by
  unfold B_X9_ships_2
  refine V_iload_n (pc := 2) F dX9_ships_2 1 rfl ?_
  refine V_bipush (pc := 3) F (x := (60 : Int32)) dX9_ships_3 (by decide) ?_
  refine V_icmp_ge (pc := 5) F 87 dX9_ships_5 (by decide) ?_ ?_
  · exact V_vret (pc := 87) F (Or.inl rfl) dX9_ships_87
  · refine V_aload_n (pc := 8) F dX9_ships_8 0 rfl ?_
    refine V_aload_n (pc := 9) F dX9_ships_9 0 rfl ?_
    refine V_getI (pc := 10) F 9 1 (by decide) (by decide) rfl g_fl_RX9_120 dX9_ships_10 ?_
    intro z1
    refine V_iload_n (pc := 13) F dX9_ships_13 1 rfl ?_
    refine V_cVM (pc := 14) F 9 (by decide) (as := [vI z1, vI x1]) (C_X9_stationOf x0 z1 x1 h) w_X9_stationOf g_in_X9_stationOf g_se_X9_stationOf g_ml_RX9_140 (by decide) (rest := []) rfl rfl (Nat.le_of_ble_eq_true rfl) dX9_ships_14 (k_I fun z2 h3 => ?_)
    refine V_istore_n (pc := 17) F [(2, vI z2), (0, vR x0), (1, vI x1)] dX9_ships_17 (lt_mx hm (by decide)) rfl ?_
    refine V_iload_n (pc := 18) F dX9_ships_18 0 rfl ?_
    refine V_iconst (pc := 19) F (x := (-1 : Int32)) dX9_ships_19 (by decide) ?_
    refine V_icmp_eq (pc := 20) F 81 dX9_ships_20 (by decide) ?_ ?_
    · refine V_sub [1, 2] (L' := [(0, vR x0), (1, vI x1)]) rfl ?_
      exact vB_X9_ships_81 F hm rc2 hrc2 x0 x1 h3
    · refine V_aload_n (pc := 23) F dX9_ships_23 1 rfl ?_
      refine V_aload_n (pc := 24) F dX9_ships_24 1 rfl ?_
      refine V_getI (pc := 25) F 9 1 (by decide) (by decide) rfl g_fl_RX9_120 dX9_ships_25 ?_
      intro z4
      refine V_cVM (pc := 28) F 9 (by decide) (as := [vI z4]) (C_X9_isStorm x0 z4 h3) w_X9_isStorm g_in_X9_isStorm g_se_X9_isStorm g_ml_RX9_143 (by decide) (rest := []) rfl rfl (Nat.le_of_ble_eq_true rfl) dX9_ships_28 (k_I fun z5 h6 => ?_)
      refine V_if_ne (pc := 31) F 41 dX9_ships_31 (by decide) ?_ ?_
      · refine V_sub [1, 2, 0] (L' := [(0, vR x0), (1, vI x1), (2, vI z2)]) rfl ?_
        exact vB_X9_ships_41 F hm rc2 hrc2 x0 x1 z2 h6
      · refine V_aload_n (pc := 34) F dX9_ships_34 1 rfl ?_
        refine V_iload_n (pc := 35) F dX9_ships_35 2 rfl ?_
        refine V_iconst (pc := 36) F (x := (-1 : Int32)) dX9_ships_36 (by decide) ?_
        refine V_iconst (pc := 37) F (x := (0 : Int32)) dX9_ships_37 (by decide) ?_
        refine V_cVM (pc := 38) F 9 (by decide) (as := [vI x1, vI (-1 : Int32), vI (0 : Int32)]) (C_X9_reads x0 x1 (-1 : Int32) (0 : Int32) h6) w_X9_reads g_in_X9_reads g_se_X9_reads g_ml_RX9_133 (by decide) (rest := []) rfl rfl (Nat.le_of_ble_eq_true rfl) dX9_ships_38 (k_V fun h7 => ?_)
        refine V_sub [1, 2, 0] (L' := [(0, vR x0), (1, vI x1), (2, vI z2)]) rfl ?_
        exact vB_X9_ships_41 F hm rc2 hrc2 x0 x1 z2 h7
theorem vL_X9_ships_2 {K : CT} (F : Fr K cX9_ships RX9 none [] 2 0) (hm : mxL K = 3) (n : Nat) : ∀ x0 x1 h, V K 2 [(0, vR x0), (1, vI x1)] [] h (L_X9_ships_2 n x0 x1 h) := by
  induction n with
  | zero => intros; exact V_none
  | succ n ih => intro x0 x1 h; exact vB_X9_ships_2 F hm _ ih x0 x1 h
theorem vM_X9_ships {K : CT} (F : Fr K cX9_ships RX9 none [] 2 0) (hm : mxL K = 3) (x0 : Option Nat) (h : MH) : V K 0 [(0, vR x0)] [] h (M_X9_ships x0 h) := by
  unfold M_X9_ships
  refine V_iconst (pc := 0) F (x := (0 : Int32)) dX9_ships_0 (by decide) ?_
  refine V_istore_n (pc := 1) F [(1, vI (0 : Int32)), (0, vR x0)] dX9_ships_1 (lt_mx hm (by decide)) rfl ?_
  refine V_sub [1, 0] (L' := [(0, vR x0), (1, vI (0 : Int32))]) rfl ?_
  exact vL_X9_ships_2 F hm fuel x0 (0 : Int32) h
theorem C_X9_ships (x0 : Option Nat) (h : MH) : CtrM yX9_ships (WSm yX9_ships cX9_ships 3 none) 2 [vR x0] h (M_X9_ships x0 h) :=
  CtrM_of (by decide) (Nat.le_of_ble_eq_true rfl) (fun K F hm hi => vM_X9_ships F hm x0 h)
def B_X9_pass_85 (rc37 : Option Nat → Int32 → Int32 → MH → Res) (rc65 : Option Nat → Int32 → Int32 → Int32 → MH → Res) (x0 : Option Nat) (x1 : Int32) (x2 : Int32) (x3 : Int32) (h : MH) : Res := bnd (x3 + (1)) fun z14 => rc65 x0 x1 x2 z14 h
def B_X9_pass_114 (rc37 : Option Nat → Int32 → Int32 → MH → Res) (rc114 : Option Nat → Int32 → Int32 → Int32 → MH → Res) (x0 : Option Nat) (x1 : Int32) (x2 : Int32) (x3 : Int32) (h : MH) : Res := gfI h x0 9 30 fun z18 => if z18 ≤ x3 then (chk h x0 9 <| calV (M_X9_ships x0 h) fun h19 => bnd (x2 + (1)) fun z20 => rc37 x0 x1 z20 h19) else (chk h x0 9 <| calV (M_X9_drifts x0 x3 h) fun h21 => bnd (x3 + (1)) fun z22 => rc114 x0 x1 x2 z22 h21)
def L_X9_pass_114 (rc37 : Option Nat → Int32 → Int32 → MH → Res) : Nat → Option Nat → Int32 → Int32 → Int32 → MH → Res
  | 0 => fun _ _ _ _ _ => none
  | n + 1 => B_X9_pass_114 rc37 (L_X9_pass_114 rc37 n)
def B_X9_pass_93 (rc37 : Option Nat → Int32 → Int32 → MH → Res) (rc93 : Option Nat → Int32 → Int32 → Int32 → MH → Res) (x0 : Option Nat) (x1 : Int32) (x2 : Int32) (x3 : Int32) (h : MH) : Res := gfI h x0 9 10 fun z15 => if z15 ≤ x3 then (L_X9_pass_114 rc37 fuel x0 x1 x2 (0 : Int32) h) else (chk h x0 9 <| calV (M_X9_parks x0 x3 h) fun h16 => bnd (x3 + (1)) fun z17 => rc93 x0 x1 x2 z17 h16)
def L_X9_pass_93 (rc37 : Option Nat → Int32 → Int32 → MH → Res) : Nat → Option Nat → Int32 → Int32 → Int32 → MH → Res
  | 0 => fun _ _ _ _ _ => none
  | n + 1 => B_X9_pass_93 rc37 (L_X9_pass_93 rc37 n)
def B_X9_pass_65 (rc37 : Option Nat → Int32 → Int32 → MH → Res) (rc65 : Option Nat → Int32 → Int32 → Int32 → MH → Res) (x0 : Option Nat) (x1 : Int32) (x2 : Int32) (x3 : Int32) (h : MH) : Res := if (60 : Int32) ≤ x3 then (L_X9_pass_93 rc37 fuel x0 x1 x2 (0 : Int32) h) else (gfR h x0 9 3 fun r11 => rdI h r11 21 x3 fun z12 => if z12 ≠ 0 then (B_X9_pass_85 rc37 rc65 x0 x1 x2 x3 h) else (chk h x0 9 <| calV (M_X9_warmsAndTurns x0 x3 h) fun h13 => B_X9_pass_85 rc37 rc65 x0 x1 x2 x3 h13))
def L_X9_pass_65 (rc37 : Option Nat → Int32 → Int32 → MH → Res) : Nat → Option Nat → Int32 → Int32 → Int32 → MH → Res
  | 0 => fun _ _ _ _ _ => none
  | n + 1 => B_X9_pass_65 rc37 (L_X9_pass_65 rc37 n)
def B_X9_pass_143 (x0 : Option Nat) (h : MH) : Res := gfI h x0 9 0 fun z23 => if z23 ≤ 0 then (gfI h x0 9 1 fun z24 => rtI z24 h) else (rtI (0 : Int32) h)
def B_X9_pass_37 (rc37 : Option Nat → Int32 → Int32 → MH → Res) (x0 : Option Nat) (x1 : Int32) (x2 : Int32) (h : MH) : Res := if x1 ≤ x2 then (B_X9_pass_143 x0 h) else (gfI h x0 9 0 fun z6 => if z6 ≠ 0 then (B_X9_pass_143 x0 h) else (gfI h x0 9 1 fun z7 => bnd (z7 + (1 : Int32)) fun z8 => pfI h x0 9 1 z8 fun h9 => chk h9 x0 9 <| calV (M_X9_flows x0 h9) fun h10 => L_X9_pass_65 rc37 fuel x0 x1 x2 (0 : Int32) h10))
def L_X9_pass_37 : Nat → Option Nat → Int32 → Int32 → MH → Res
  | 0 => fun _ _ _ _ => none
  | n + 1 => B_X9_pass_37 (L_X9_pass_37 n)
def B_X9_pass_32 (x0 : Option Nat) (x1 : Int32) (s0 : Option Nat) (s1 : Int32) (h : MH) : Res := pfI h s0 9 0 s1 fun h5 => L_X9_pass_37 fuel x0 x1 (0 : Int32) h5
def M_X9_pass (x0 : Option Nat) (x1 : Int32) (h : MH) : Res := calI (M_X9_in x1 (1 : Int32) (50 : Int32) h) fun z1 h2 => if z1 ≠ 0 then (gfI h2 x0 9 1 fun z3 => bnd (z3 + x1) fun z4 => if z4 ≤ (1000 : Int32) then (B_X9_pass_32 x0 x1 x0 (0 : Int32) h2) else (B_X9_pass_32 x0 x1 x0 (2 : Int32) h2)) else (B_X9_pass_32 x0 x1 x0 (1 : Int32) h2)
theorem vB_X9_pass_85 {K : CT} (F : Fr K cX9_pass RX9 (some .int) [] 4 0) (hm : mxL K = 4) (rc37 : Option Nat → Int32 → Int32 → MH → Res) (hrc37 : ∀ x0 x1 x2 h, V K 37 [(0, vR x0), (1, vI x1), (2, vI x2)] [] h (rc37 x0 x1 x2 h)) (rc65 : Option Nat → Int32 → Int32 → Int32 → MH → Res) (hrc65 : ∀ x0 x1 x2 x3 h, V K 65 [(0, vR x0), (1, vI x1), (2, vI x2), (3, vI x3)] [] h (rc65 x0 x1 x2 x3 h)) (x0 : Option Nat) (x1 : Int32) (x2 : Int32) (x3 : Int32) (h : MH) : V K 85 [(0, vR x0), (1, vI x1), (2, vI x2), (3, vI x3)] [] h (B_X9_pass_85 rc37 rc65 x0 x1 x2 x3 h) := by
  unfold B_X9_pass_85
  refine V_iinc (pc := 85) F (fun z14 => [(3, vI z14), (0, vR x0), (1, vI x1), (2, vI x2)]) dX9_pass_85 (lt_mx hm (by decide)) 3 rfl (dx := (1 : Int32)) (by decide) (fun _ => rfl) ?_
  intro z14
  refine V_goto (pc := 88) F 65 dX9_pass_88 (by decide) ?_
  refine V_sub [1, 2, 3, 0] (L' := [(0, vR x0), (1, vI x1), (2, vI x2), (3, vI z14)]) rfl ?_
  exact hrc65 x0 x1 x2 z14 h
theorem vB_X9_pass_114 {K : CT} (F : Fr K cX9_pass RX9 (some .int) [] 4 0) (hm : mxL K = 4) (rc37 : Option Nat → Int32 → Int32 → MH → Res) (hrc37 : ∀ x0 x1 x2 h, V K 37 [(0, vR x0), (1, vI x1), (2, vI x2)] [] h (rc37 x0 x1 x2 h)) (rc114 : Option Nat → Int32 → Int32 → Int32 → MH → Res) (hrc114 : ∀ x0 x1 x2 x3 h, V K 114 [(0, vR x0), (1, vI x1), (2, vI x2), (3, vI x3)] [] h (rc114 x0 x1 x2 x3 h)) (x0 : Option Nat) (x1 : Int32) (x2 : Int32) (x3 : Int32) (h : MH) : V K 114 [(0, vR x0), (1, vI x1), (2, vI x2), (3, vI x3)] [] h (B_X9_pass_114 rc37 rc114 x0 x1 x2 x3 h) := by
  unfold B_X9_pass_114
  refine V_iload_n (pc := 114) F dX9_pass_114 3 rfl ?_
  refine V_aload_n (pc := 115) F dX9_pass_115 0 rfl ?_
  refine V_getI (pc := 116) F 9 30 (by decide) (by decide) rfl g_fl_RX9_109 dX9_pass_116 ?_
  intro z18
  refine V_icmp_ge (pc := 119) F 133 dX9_pass_119 (by decide) ?_ ?_
  · refine V_aload_n (pc := 133) F dX9_pass_133 0 rfl ?_
    refine V_cVM (pc := 134) F 9 (by decide) (as := []) (C_X9_ships x0 h) w_X9_ships g_in_X9_ships g_se_X9_ships g_ml_RX9_158 (by decide) (rest := []) rfl rfl (Nat.le_of_ble_eq_true rfl) dX9_pass_134 (k_V fun h19 => ?_)
    refine V_iinc (pc := 137) F (fun z20 => [(2, vI z20), (0, vR x0), (1, vI x1), (3, vI x3)]) dX9_pass_137 (lt_mx hm (by decide)) 2 rfl (dx := (1 : Int32)) (by decide) (fun _ => rfl) ?_
    intro z20
    refine V_goto (pc := 140) F 37 dX9_pass_140 (by decide) ?_
    refine V_sub [1, 2, 0] (L' := [(0, vR x0), (1, vI x1), (2, vI z20)]) rfl ?_
    exact hrc37 x0 x1 z20 h19
  · refine V_aload_n (pc := 122) F dX9_pass_122 0 rfl ?_
    refine V_iload_n (pc := 123) F dX9_pass_123 3 rfl ?_
    refine V_cVM (pc := 124) F 9 (by decide) (as := [vI x3]) (C_X9_drifts x0 x3 h) w_X9_drifts g_in_X9_drifts g_se_X9_drifts g_ml_RX9_155 (by decide) (rest := []) rfl rfl (Nat.le_of_ble_eq_true rfl) dX9_pass_124 (k_V fun h21 => ?_)
    refine V_iinc (pc := 127) F (fun z22 => [(3, vI z22), (0, vR x0), (1, vI x1), (2, vI x2)]) dX9_pass_127 (lt_mx hm (by decide)) 3 rfl (dx := (1 : Int32)) (by decide) (fun _ => rfl) ?_
    intro z22
    refine V_goto (pc := 130) F 114 dX9_pass_130 (by decide) ?_
    refine V_sub [1, 2, 3, 0] (L' := [(0, vR x0), (1, vI x1), (2, vI x2), (3, vI z22)]) rfl ?_
    exact hrc114 x0 x1 x2 z22 h21
theorem vL_X9_pass_114 {K : CT} (F : Fr K cX9_pass RX9 (some .int) [] 4 0) (hm : mxL K = 4) (rc37 : Option Nat → Int32 → Int32 → MH → Res) (hrc37 : ∀ x0 x1 x2 h, V K 37 [(0, vR x0), (1, vI x1), (2, vI x2)] [] h (rc37 x0 x1 x2 h)) (n : Nat) : ∀ x0 x1 x2 x3 h, V K 114 [(0, vR x0), (1, vI x1), (2, vI x2), (3, vI x3)] [] h (L_X9_pass_114 rc37 n x0 x1 x2 x3 h) := by
  induction n with
  | zero => intros; exact V_none
  | succ n ih => intro x0 x1 x2 x3 h; exact vB_X9_pass_114 F hm rc37 hrc37 _ ih x0 x1 x2 x3 h
theorem vB_X9_pass_93 {K : CT} (F : Fr K cX9_pass RX9 (some .int) [] 4 0) (hm : mxL K = 4) (rc37 : Option Nat → Int32 → Int32 → MH → Res) (hrc37 : ∀ x0 x1 x2 h, V K 37 [(0, vR x0), (1, vI x1), (2, vI x2)] [] h (rc37 x0 x1 x2 h)) (rc93 : Option Nat → Int32 → Int32 → Int32 → MH → Res) (hrc93 : ∀ x0 x1 x2 x3 h, V K 93 [(0, vR x0), (1, vI x1), (2, vI x2), (3, vI x3)] [] h (rc93 x0 x1 x2 x3 h)) (x0 : Option Nat) (x1 : Int32) (x2 : Int32) (x3 : Int32) (h : MH) : V K 93 [(0, vR x0), (1, vI x1), (2, vI x2), (3, vI x3)] [] h (B_X9_pass_93 rc37 rc93 x0 x1 x2 x3 h) := by
  unfold B_X9_pass_93
  refine V_iload_n (pc := 93) F dX9_pass_93 3 rfl ?_
  refine V_aload_n (pc := 94) F dX9_pass_94 0 rfl ?_
  refine V_getI (pc := 95) F 9 10 (by decide) (by decide) rfl g_fl_RX9_103 dX9_pass_95 ?_
  intro z15
  refine V_icmp_ge (pc := 98) F 112 dX9_pass_98 (by decide) ?_ ?_
  · refine V_iconst (pc := 112) F (x := (0 : Int32)) dX9_pass_112 (by decide) ?_
    refine V_istore_n (pc := 113) F [(3, vI (0 : Int32)), (0, vR x0), (1, vI x1), (2, vI x2)] dX9_pass_113 (lt_mx hm (by decide)) rfl ?_
    refine V_sub [1, 2, 3, 0] (L' := [(0, vR x0), (1, vI x1), (2, vI x2), (3, vI (0 : Int32))]) rfl ?_
    exact vL_X9_pass_114 F hm rc37 hrc37 fuel x0 x1 x2 (0 : Int32) h
  · refine V_aload_n (pc := 101) F dX9_pass_101 0 rfl ?_
    refine V_iload_n (pc := 102) F dX9_pass_102 3 rfl ?_
    refine V_cVM (pc := 103) F 9 (by decide) (as := [vI x3]) (C_X9_parks x0 x3 h) w_X9_parks g_in_X9_parks g_se_X9_parks g_ml_RX9_153 (by decide) (rest := []) rfl rfl (Nat.le_of_ble_eq_true rfl) dX9_pass_103 (k_V fun h16 => ?_)
    refine V_iinc (pc := 106) F (fun z17 => [(3, vI z17), (0, vR x0), (1, vI x1), (2, vI x2)]) dX9_pass_106 (lt_mx hm (by decide)) 3 rfl (dx := (1 : Int32)) (by decide) (fun _ => rfl) ?_
    intro z17
    refine V_goto (pc := 109) F 93 dX9_pass_109 (by decide) ?_
    refine V_sub [1, 2, 3, 0] (L' := [(0, vR x0), (1, vI x1), (2, vI x2), (3, vI z17)]) rfl ?_
    exact hrc93 x0 x1 x2 z17 h16
theorem vL_X9_pass_93 {K : CT} (F : Fr K cX9_pass RX9 (some .int) [] 4 0) (hm : mxL K = 4) (rc37 : Option Nat → Int32 → Int32 → MH → Res) (hrc37 : ∀ x0 x1 x2 h, V K 37 [(0, vR x0), (1, vI x1), (2, vI x2)] [] h (rc37 x0 x1 x2 h)) (n : Nat) : ∀ x0 x1 x2 x3 h, V K 93 [(0, vR x0), (1, vI x1), (2, vI x2), (3, vI x3)] [] h (L_X9_pass_93 rc37 n x0 x1 x2 x3 h) := by
  induction n with
  | zero => intros; exact V_none
  | succ n ih => intro x0 x1 x2 x3 h; exact vB_X9_pass_93 F hm rc37 hrc37 _ ih x0 x1 x2 x3 h
theorem vB_X9_pass_65 {K : CT} (F : Fr K cX9_pass RX9 (some .int) [] 4 0) (hm : mxL K = 4) (rc37 : Option Nat → Int32 → Int32 → MH → Res) (hrc37 : ∀ x0 x1 x2 h, V K 37 [(0, vR x0), (1, vI x1), (2, vI x2)] [] h (rc37 x0 x1 x2 h)) (rc65 : Option Nat → Int32 → Int32 → Int32 → MH → Res) (hrc65 : ∀ x0 x1 x2 x3 h, V K 65 [(0, vR x0), (1, vI x1), (2, vI x2), (3, vI x3)] [] h (rc65 x0 x1 x2 x3 h)) (x0 : Option Nat) (x1 : Int32) (x2 : Int32) (x3 : Int32) (h : MH) : V K 65 [(0, vR x0), (1, vI x1), (2, vI x2), (3, vI x3)] [] h (B_X9_pass_65 rc37 rc65 x0 x1 x2 x3 h) := by
  unfold B_X9_pass_65
  refine V_iload_n (pc := 65) F dX9_pass_65 3 rfl ?_
  refine V_bipush (pc := 66) F (x := (60 : Int32)) dX9_pass_66 (by decide) ?_
  refine V_icmp_ge (pc := 68) F 91 dX9_pass_68 (by decide) ?_ ?_
  · refine V_iconst (pc := 91) F (x := (0 : Int32)) dX9_pass_91 (by decide) ?_
    refine V_istore_n (pc := 92) F [(3, vI (0 : Int32)), (0, vR x0), (1, vI x1), (2, vI x2)] dX9_pass_92 (lt_mx hm (by decide)) rfl ?_
    refine V_sub [1, 2, 3, 0] (L' := [(0, vR x0), (1, vI x1), (2, vI x2), (3, vI (0 : Int32))]) rfl ?_
    exact vL_X9_pass_93 F hm rc37 hrc37 fuel x0 x1 x2 (0 : Int32) h
  · refine V_aload_n (pc := 71) F dX9_pass_71 0 rfl ?_
    refine V_getR (pc := 72) F 9 3 (by decide) (by decide) rfl g_fl_RX9_7 dX9_pass_72 ?_
    intro r11
    refine V_iload_n (pc := 75) F dX9_pass_75 3 rfl ?_
    refine V_zald (pc := 76) F dX9_pass_76 ?_
    intro z12
    refine V_if_ne (pc := 77) F 85 dX9_pass_77 (by decide) ?_ ?_
    · exact vB_X9_pass_85 F hm rc37 hrc37 rc65 hrc65 x0 x1 x2 x3 h
    · refine V_aload_n (pc := 80) F dX9_pass_80 0 rfl ?_
      refine V_iload_n (pc := 81) F dX9_pass_81 3 rfl ?_
      refine V_cVM (pc := 82) F 9 (by decide) (as := [vI x3]) (C_X9_warmsAndTurns x0 x3 h) w_X9_warmsAndTurns g_in_X9_warmsAndTurns g_se_X9_warmsAndTurns g_ml_RX9_149 (by decide) (rest := []) rfl rfl (Nat.le_of_ble_eq_true rfl) dX9_pass_82 (k_V fun h13 => ?_)
      exact vB_X9_pass_85 F hm rc37 hrc37 rc65 hrc65 x0 x1 x2 x3 h13
theorem vL_X9_pass_65 {K : CT} (F : Fr K cX9_pass RX9 (some .int) [] 4 0) (hm : mxL K = 4) (rc37 : Option Nat → Int32 → Int32 → MH → Res) (hrc37 : ∀ x0 x1 x2 h, V K 37 [(0, vR x0), (1, vI x1), (2, vI x2)] [] h (rc37 x0 x1 x2 h)) (n : Nat) : ∀ x0 x1 x2 x3 h, V K 65 [(0, vR x0), (1, vI x1), (2, vI x2), (3, vI x3)] [] h (L_X9_pass_65 rc37 n x0 x1 x2 x3 h) := by
  induction n with
  | zero => intros; exact V_none
  | succ n ih => intro x0 x1 x2 x3 h; exact vB_X9_pass_65 F hm rc37 hrc37 _ ih x0 x1 x2 x3 h
theorem vB_X9_pass_143 {K : CT} (F : Fr K cX9_pass RX9 (some .int) [] 4 0) (hm : mxL K = 4) (x0 : Option Nat) (h : MH) : V K 143 [(0, vR x0)] [] h (B_X9_pass_143 x0 h) := by
  unfold B_X9_pass_143
  refine V_aload_n (pc := 143) F dX9_pass_143 0 rfl ?_
  refine V_getI (pc := 144) F 9 0 (by decide) (by decide) rfl g_fl_RX9_96 dX9_pass_144 ?_
  intro z23
  refine V_if_le (pc := 147) F 154 dX9_pass_147 (by decide) ?_ ?_
  · refine V_aload_n (pc := 154) F dX9_pass_154 0 rfl ?_
    refine V_getI (pc := 155) F 9 1 (by decide) (by decide) rfl g_fl_RX9_120 dX9_pass_155 ?_
    intro z24
    exact V_iret (pc := 158) F (Or.inl rfl) dX9_pass_158
  · refine V_iconst (pc := 150) F (x := (0 : Int32)) dX9_pass_150 (by decide) ?_
    refine V_goto (pc := 151) F 158 dX9_pass_151 (by decide) ?_
    exact V_iret (pc := 158) F (Or.inl rfl) dX9_pass_158
theorem vB_X9_pass_37 {K : CT} (F : Fr K cX9_pass RX9 (some .int) [] 4 0) (hm : mxL K = 4) (rc37 : Option Nat → Int32 → Int32 → MH → Res) (hrc37 : ∀ x0 x1 x2 h, V K 37 [(0, vR x0), (1, vI x1), (2, vI x2)] [] h (rc37 x0 x1 x2 h)) (x0 : Option Nat) (x1 : Int32) (x2 : Int32) (h : MH) : V K 37 [(0, vR x0), (1, vI x1), (2, vI x2)] [] h (B_X9_pass_37 rc37 x0 x1 x2 h) := by
  unfold B_X9_pass_37
  refine V_iload_n (pc := 37) F dX9_pass_37 2 rfl ?_
  refine V_iload_n (pc := 38) F dX9_pass_38 1 rfl ?_
  refine V_icmp_ge (pc := 39) F 143 dX9_pass_39 (by decide) ?_ ?_
  · refine V_sub [0] (L' := [(0, vR x0)]) rfl ?_
    exact vB_X9_pass_143 F hm x0 h
  · refine V_aload_n (pc := 42) F dX9_pass_42 0 rfl ?_
    refine V_getI (pc := 43) F 9 0 (by decide) (by decide) rfl g_fl_RX9_96 dX9_pass_43 ?_
    intro z6
    refine V_if_ne (pc := 46) F 143 dX9_pass_46 (by decide) ?_ ?_
    · refine V_sub [0] (L' := [(0, vR x0)]) rfl ?_
      exact vB_X9_pass_143 F hm x0 h
    · refine V_aload_n (pc := 49) F dX9_pass_49 0 rfl ?_
      refine V_dup (pc := 50) F dX9_pass_50 rfl ?_
      refine V_getI (pc := 51) F 9 1 (by decide) (by decide) rfl g_fl_RX9_120 dX9_pass_51 ?_
      intro z7
      refine V_iconst (pc := 54) F (x := (1 : Int32)) dX9_pass_54 (by decide) ?_
      refine V_iadd (pc := 55) F dX9_pass_55 ?_
      intro z8
      refine V_putI (pc := 56) F 9 1 (by decide) (by decide) rfl rfl g_fl_RX9_120 dX9_pass_56 ?_
      intro h9
      refine V_aload_n (pc := 59) F dX9_pass_59 0 rfl ?_
      refine V_cVM (pc := 60) F 9 (by decide) (as := []) (C_X9_flows x0 h9) w_X9_flows g_in_X9_flows g_se_X9_flows g_ml_RX9_146 (by decide) (rest := []) rfl rfl (Nat.le_of_ble_eq_true rfl) dX9_pass_60 (k_V fun h10 => ?_)
      refine V_iconst (pc := 63) F (x := (0 : Int32)) dX9_pass_63 (by decide) ?_
      refine V_istore_n (pc := 64) F [(3, vI (0 : Int32)), (0, vR x0), (1, vI x1), (2, vI x2)] dX9_pass_64 (lt_mx hm (by decide)) rfl ?_
      refine V_sub [1, 2, 3, 0] (L' := [(0, vR x0), (1, vI x1), (2, vI x2), (3, vI (0 : Int32))]) rfl ?_
      exact vL_X9_pass_65 F hm rc37 hrc37 fuel x0 x1 x2 (0 : Int32) h10
theorem vL_X9_pass_37 {K : CT} (F : Fr K cX9_pass RX9 (some .int) [] 4 0) (hm : mxL K = 4) (n : Nat) : ∀ x0 x1 x2 h, V K 37 [(0, vR x0), (1, vI x1), (2, vI x2)] [] h (L_X9_pass_37 n x0 x1 x2 h) := by
  induction n with
  | zero => intros; exact V_none
  | succ n ih => intro x0 x1 x2 h; exact vB_X9_pass_37 F hm _ ih x0 x1 x2 h
theorem vB_X9_pass_32 {K : CT} (F : Fr K cX9_pass RX9 (some .int) [] 4 0) (hm : mxL K = 4) (x0 : Option Nat) (x1 : Int32) (s0 : Option Nat) (s1 : Int32) (h : MH) : V K 32 [(0, vR x0), (1, vI x1)] [vI s1, vR s0] h (B_X9_pass_32 x0 x1 s0 s1 h) := by
  unfold B_X9_pass_32
  refine V_putI (pc := 32) F 9 0 (by decide) (by decide) rfl rfl g_fl_RX9_96 dX9_pass_32 ?_
  intro h5
  refine V_iconst (pc := 35) F (x := (0 : Int32)) dX9_pass_35 (by decide) ?_
  refine V_istore_n (pc := 36) F [(2, vI (0 : Int32)), (0, vR x0), (1, vI x1)] dX9_pass_36 (lt_mx hm (by decide)) rfl ?_
  refine V_sub [1, 2, 0] (L' := [(0, vR x0), (1, vI x1), (2, vI (0 : Int32))]) rfl ?_
  exact vL_X9_pass_37 F hm fuel x0 x1 (0 : Int32) h5
theorem vM_X9_pass {K : CT} (F : Fr K cX9_pass RX9 (some .int) [] 4 0) (hm : mxL K = 4) (x0 : Option Nat) (x1 : Int32) (h : MH) : V K 0 [(0, vR x0), (1, vI x1)] [] h (M_X9_pass x0 x1 h) := by
  unfold M_X9_pass
  refine V_aload_n (pc := 0) F dX9_pass_0 0 rfl ?_
  refine V_iload_n (pc := 1) F dX9_pass_1 1 rfl ?_
  refine V_iconst (pc := 2) F (x := (1 : Int32)) dX9_pass_2 (by decide) ?_
  refine V_bipush (pc := 3) F (x := (50 : Int32)) dX9_pass_3 (by decide) ?_
  refine V_cSM (pc := 5) F (as := [vI x1, vI (1 : Int32), vI (50 : Int32)]) (C_X9_in x1 (1 : Int32) (50 : Int32) h) w_X9_in g_st_X9_in g_ml_RX9_99 (by decide) (rest := [vR x0]) rfl rfl (Nat.le_of_ble_eq_true rfl) dX9_pass_5 (k_I fun z1 h2 => ?_)
  refine V_if_ne (pc := 8) F 15 dX9_pass_8 (by decide) ?_ ?_
  · refine V_aload_n (pc := 15) F dX9_pass_15 0 rfl ?_
    refine V_getI (pc := 16) F 9 1 (by decide) (by decide) rfl g_fl_RX9_120 dX9_pass_16 ?_
    intro z3
    refine V_iload_n (pc := 19) F dX9_pass_19 1 rfl ?_
    refine V_iadd (pc := 20) F dX9_pass_20 ?_
    intro z4
    refine V_sipush (pc := 21) F (x := (1000 : Int32)) dX9_pass_21 (by decide) ?_
    refine V_icmp_le (pc := 24) F 31 dX9_pass_24 (by decide) ?_ ?_
    · refine V_iconst (pc := 31) F (x := (0 : Int32)) dX9_pass_31 (by decide) ?_
      exact vB_X9_pass_32 F hm x0 x1 x0 (0 : Int32) h2
    · refine V_iconst (pc := 27) F (x := (2 : Int32)) dX9_pass_27 (by decide) ?_
      refine V_goto (pc := 28) F 32 dX9_pass_28 (by decide) ?_
      exact vB_X9_pass_32 F hm x0 x1 x0 (2 : Int32) h2
  · refine V_iconst (pc := 11) F (x := (1 : Int32)) dX9_pass_11 (by decide) ?_
    refine V_goto (pc := 12) F 32 dX9_pass_12 (by decide) ?_
    exact vB_X9_pass_32 F hm x0 x1 x0 (1 : Int32) h2
theorem C_X9_pass (x0 : Option Nat) (x1 : Int32) (h : MH) : CtrM yX9_pass (WSm yX9_pass cX9_pass 4 (some .int)) 4 [vR x0, vI x1] h (M_X9_pass x0 x1 h) :=
  CtrM_of (by decide) (Nat.le_of_ble_eq_true rfl) (fun K F hm hi => vM_X9_pass F hm x0 x1 h)
def B_X9_lay_86 (x0 : Option Nat) (x1 : Int32) (x2 : Int32) (x3 : Int32) (x4 : Int32) (s0 : Option Nat) (s1 : Int32) (h : MH) : Res := pfI h s0 9 0 s1 fun h15 => gfI h15 x0 9 0 fun z16 => if z16 ≤ 0 then (gfR h15 x0 9 11 fun r17 => gfI h15 x0 9 10 fun z18 => wrI h15 r17 20 z18 x1 fun h19 => gfR h19 x0 9 12 fun r20 => gfI h19 x0 9 10 fun z21 => wrI h19 r20 20 z21 x2 fun h22 => gfR h22 x0 9 13 fun r23 => gfI h22 x0 9 10 fun z24 => wrI h22 r23 20 z24 x2 fun h25 => gfR h25 x0 9 14 fun r26 => gfI h25 x0 9 10 fun z27 => wrI h25 r26 20 z27 x3 fun h28 => gfR h28 x0 9 15 fun r29 => gfI h28 x0 9 10 fun z30 => wrI h28 r29 20 z30 x4 fun h31 => gfI h31 x0 9 10 fun z32 => bnd (z32 + (1 : Int32)) fun z33 => pfI h31 x0 9 10 z33 fun h34 => gfI h34 x0 9 10 fun z35 => bnd (z35 - (1 : Int32)) fun z36 => rtI z36 h34) else (rtI (0 : Int32) h15)
def B_X9_lay_78 (x0 : Option Nat) (x1 : Int32) (x2 : Int32) (x3 : Int32) (x4 : Int32) (s0 : Option Nat) (h : MH) : Res := B_X9_lay_86 x0 x1 x2 x3 x4 s0 (3 : Int32) h
def B_X9_lay_82 (x0 : Option Nat) (x1 : Int32) (x2 : Int32) (x3 : Int32) (x4 : Int32) (s0 : Option Nat) (h : MH) : Res := gfI h x0 9 0 fun z14 => B_X9_lay_86 x0 x1 x2 x3 x4 s0 z14 h
def B_X9_lay_49 (x0 : Option Nat) (x1 : Int32) (x2 : Int32) (x3 : Int32) (x4 : Int32) (s0 : Option Nat) (s1 : Int32) (h : MH) : Res := pfI h s0 9 0 s1 fun h9 => gfI h9 x0 9 0 fun z10 => if z10 ≠ 0 then (B_X9_lay_82 x0 x1 x2 x3 x4 x0 h9) else (gfR h9 x0 9 3 fun r11 => rdI h9 r11 21 x1 fun z12 => if z12 ≠ 0 then (B_X9_lay_78 x0 x1 x2 x3 x4 x0 h9) else (gfI h9 x0 9 10 fun z13 => if z13 ≠ (8 : Int32) then (B_X9_lay_82 x0 x1 x2 x3 x4 x0 h9) else (B_X9_lay_78 x0 x1 x2 x3 x4 x0 h9)))
def B_X9_lay_44 (x0 : Option Nat) (x1 : Int32) (x2 : Int32) (x3 : Int32) (x4 : Int32) (s0 : Option Nat) (h : MH) : Res := B_X9_lay_49 x0 x1 x2 x3 x4 s0 (2 : Int32) h
def M_X9_lay (x0 : Option Nat) (x1 : Int32) (x2 : Int32) (x3 : Int32) (x4 : Int32) (h : MH) : Res := calI (M_X9_isCell x1 h) fun z1 h2 => if z1 ≠ 0 then (calI (M_X9_in x2 (1 : Int32) (20 : Int32) h2) fun z3 h4 => if z3 = 0 then (B_X9_lay_44 x0 x1 x2 x3 x4 x0 h4) else (calI (M_X9_in x3 (1 : Int32) (100 : Int32) h4) fun z5 h6 => if z5 = 0 then (B_X9_lay_44 x0 x1 x2 x3 x4 x0 h6) else (calI (M_X9_in x4 (-50 : Int32) (50 : Int32) h6) fun z7 h8 => if z7 ≠ 0 then (B_X9_lay_49 x0 x1 x2 x3 x4 x0 (0 : Int32) h8) else (B_X9_lay_44 x0 x1 x2 x3 x4 x0 h8)))) else (B_X9_lay_49 x0 x1 x2 x3 x4 x0 (1 : Int32) h2)
theorem vB_X9_lay_86 {K : CT} (F : Fr K cX9_lay RX9 (some .int) [] 2 0) (hm : mxL K = 5) (x0 : Option Nat) (x1 : Int32) (x2 : Int32) (x3 : Int32) (x4 : Int32) (s0 : Option Nat) (s1 : Int32) (h : MH) : V K 86 [(0, vR x0), (1, vI x1), (2, vI x2), (3, vI x3), (4, vI x4)] [vI s1, vR s0] h (B_X9_lay_86 x0 x1 x2 x3 x4 s0 s1 h) := by
  unfold B_X9_lay_86
  refine V_putI (pc := 86) F 9 0 (by decide) (by decide) rfl rfl g_fl_RX9_96 dX9_lay_86 ?_
  intro h15
  refine V_aload_n (pc := 89) F dX9_lay_89 0 rfl ?_
  refine V_getI (pc := 90) F 9 0 (by decide) (by decide) rfl g_fl_RX9_96 dX9_lay_90 ?_
  intro z16
  refine V_if_le (pc := 93) F 98 dX9_lay_93 (by decide) ?_ ?_
  · refine V_aload_n (pc := 98) F dX9_lay_98 0 rfl ?_
    refine V_getR (pc := 99) F 9 11 (by decide) (by decide) rfl g_fl_RX9_32 dX9_lay_99 ?_
    intro r17
    refine V_aload_n (pc := 102) F dX9_lay_102 0 rfl ?_
    refine V_getI (pc := 103) F 9 10 (by decide) (by decide) rfl g_fl_RX9_103 dX9_lay_103 ?_
    intro z18
    refine V_iload_n (pc := 106) F dX9_lay_106 1 rfl ?_
    refine V_iast (pc := 107) F dX9_lay_107 ?_
    intro h19
    refine V_aload_n (pc := 108) F dX9_lay_108 0 rfl ?_
    refine V_getR (pc := 109) F 9 12 (by decide) (by decide) rfl g_fl_RX9_35 dX9_lay_109 ?_
    intro r20
    refine V_aload_n (pc := 112) F dX9_lay_112 0 rfl ?_
    refine V_getI (pc := 113) F 9 10 (by decide) (by decide) rfl g_fl_RX9_103 dX9_lay_113 ?_
    intro z21
    refine V_iload_n (pc := 116) F dX9_lay_116 2 rfl ?_
    refine V_iast (pc := 117) F dX9_lay_117 ?_
    intro h22
    refine V_aload_n (pc := 118) F dX9_lay_118 0 rfl ?_
    refine V_getR (pc := 119) F 9 13 (by decide) (by decide) rfl g_fl_RX9_38 dX9_lay_119 ?_
    intro r23
    refine V_aload_n (pc := 122) F dX9_lay_122 0 rfl ?_
    refine V_getI (pc := 123) F 9 10 (by decide) (by decide) rfl g_fl_RX9_103 dX9_lay_123 ?_
    intro z24
    refine V_iload_n (pc := 126) F dX9_lay_126 2 rfl ?_
    refine V_iast (pc := 127) F dX9_lay_127 ?_
    intro h25
    refine V_aload_n (pc := 128) F dX9_lay_128 0 rfl ?_
    refine V_getR (pc := 129) F 9 14 (by decide) (by decide) rfl g_fl_RX9_41 dX9_lay_129 ?_
    intro r26
    refine V_aload_n (pc := 132) F dX9_lay_132 0 rfl ?_
    refine V_getI (pc := 133) F 9 10 (by decide) (by decide) rfl g_fl_RX9_103 dX9_lay_133 ?_
    intro z27
    refine V_iload_n (pc := 136) F dX9_lay_136 3 rfl ?_
    refine V_iast (pc := 137) F dX9_lay_137 ?_
    intro h28
    refine V_aload_n (pc := 138) F dX9_lay_138 0 rfl ?_
    refine V_getR (pc := 139) F 9 15 (by decide) (by decide) rfl g_fl_RX9_44 dX9_lay_139 ?_
    intro r29
    refine V_aload_n (pc := 142) F dX9_lay_142 0 rfl ?_
    refine V_getI (pc := 143) F 9 10 (by decide) (by decide) rfl g_fl_RX9_103 dX9_lay_143 ?_
    intro z30
    refine V_iload (pc := 146) F dX9_lay_146 4 rfl ?_
    refine V_iast (pc := 148) F dX9_lay_148 ?_
    intro h31
    refine V_aload_n (pc := 149) F dX9_lay_149 0 rfl ?_
    refine V_dup (pc := 150) F dX9_lay_150 rfl ?_
    refine V_getI (pc := 151) F 9 10 (by decide) (by decide) rfl g_fl_RX9_103 dX9_lay_151 ?_
    intro z32
    refine V_iconst (pc := 154) F (x := (1 : Int32)) dX9_lay_154 (by decide) ?_
    refine V_iadd (pc := 155) F dX9_lay_155 ?_
    intro z33
    refine V_putI (pc := 156) F 9 10 (by decide) (by decide) rfl rfl g_fl_RX9_103 dX9_lay_156 ?_
    intro h34
    refine V_aload_n (pc := 159) F dX9_lay_159 0 rfl ?_
    refine V_getI (pc := 160) F 9 10 (by decide) (by decide) rfl g_fl_RX9_103 dX9_lay_160 ?_
    intro z35
    refine V_iconst (pc := 163) F (x := (1 : Int32)) dX9_lay_163 (by decide) ?_
    refine V_isub (pc := 164) F dX9_lay_164 ?_
    intro z36
    exact V_iret (pc := 165) F (Or.inl rfl) dX9_lay_165
  · refine V_iconst (pc := 96) F (x := (0 : Int32)) dX9_lay_96 (by decide) ?_
    exact V_iret (pc := 97) F (Or.inl rfl) dX9_lay_97
theorem vB_X9_lay_78 {K : CT} (F : Fr K cX9_lay RX9 (some .int) [] 2 0) (hm : mxL K = 5) (x0 : Option Nat) (x1 : Int32) (x2 : Int32) (x3 : Int32) (x4 : Int32) (s0 : Option Nat) (h : MH) : V K 78 [(0, vR x0), (1, vI x1), (2, vI x2), (3, vI x3), (4, vI x4)] [vR s0] h (B_X9_lay_78 x0 x1 x2 x3 x4 s0 h) := by
  unfold B_X9_lay_78
  refine V_iconst (pc := 78) F (x := (3 : Int32)) dX9_lay_78 (by decide) ?_
  refine V_goto (pc := 79) F 86 dX9_lay_79 (by decide) ?_
  exact vB_X9_lay_86 F hm x0 x1 x2 x3 x4 s0 (3 : Int32) h
theorem vB_X9_lay_82 {K : CT} (F : Fr K cX9_lay RX9 (some .int) [] 2 0) (hm : mxL K = 5) (x0 : Option Nat) (x1 : Int32) (x2 : Int32) (x3 : Int32) (x4 : Int32) (s0 : Option Nat) (h : MH) : V K 82 [(0, vR x0), (1, vI x1), (2, vI x2), (3, vI x3), (4, vI x4)] [vR s0] h (B_X9_lay_82 x0 x1 x2 x3 x4 s0 h) := by
  unfold B_X9_lay_82
  refine V_aload_n (pc := 82) F dX9_lay_82 0 rfl ?_
  refine V_getI (pc := 83) F 9 0 (by decide) (by decide) rfl g_fl_RX9_96 dX9_lay_83 ?_
  intro z14
  exact vB_X9_lay_86 F hm x0 x1 x2 x3 x4 s0 z14 h
theorem vB_X9_lay_49 {K : CT} (F : Fr K cX9_lay RX9 (some .int) [] 2 0) (hm : mxL K = 5) (x0 : Option Nat) (x1 : Int32) (x2 : Int32) (x3 : Int32) (x4 : Int32) (s0 : Option Nat) (s1 : Int32) (h : MH) : V K 49 [(0, vR x0), (1, vI x1), (2, vI x2), (3, vI x3), (4, vI x4)] [vI s1, vR s0] h (B_X9_lay_49 x0 x1 x2 x3 x4 s0 s1 h) := by
  unfold B_X9_lay_49
  refine V_putI (pc := 49) F 9 0 (by decide) (by decide) rfl rfl g_fl_RX9_96 dX9_lay_49 ?_
  intro h9
  refine V_aload_n (pc := 52) F dX9_lay_52 0 rfl ?_
  refine V_aload_n (pc := 53) F dX9_lay_53 0 rfl ?_
  refine V_getI (pc := 54) F 9 0 (by decide) (by decide) rfl g_fl_RX9_96 dX9_lay_54 ?_
  intro z10
  refine V_if_ne (pc := 57) F 82 dX9_lay_57 (by decide) ?_ ?_
  · exact vB_X9_lay_82 F hm x0 x1 x2 x3 x4 x0 h9
  · refine V_aload_n (pc := 60) F dX9_lay_60 0 rfl ?_
    refine V_getR (pc := 61) F 9 3 (by decide) (by decide) rfl g_fl_RX9_7 dX9_lay_61 ?_
    intro r11
    refine V_iload_n (pc := 64) F dX9_lay_64 1 rfl ?_
    refine V_zald (pc := 65) F dX9_lay_65 ?_
    intro z12
    refine V_if_ne (pc := 66) F 78 dX9_lay_66 (by decide) ?_ ?_
    · exact vB_X9_lay_78 F hm x0 x1 x2 x3 x4 x0 h9
    · refine V_aload_n (pc := 69) F dX9_lay_69 0 rfl ?_
      refine V_getI (pc := 70) F 9 10 (by decide) (by decide) rfl g_fl_RX9_103 dX9_lay_70 ?_
      intro z13
      refine V_bipush (pc := 73) F (x := (8 : Int32)) dX9_lay_73 (by decide) ?_
      refine V_icmp_ne (pc := 75) F 82 dX9_lay_75 (by decide) ?_ ?_
      · exact vB_X9_lay_82 F hm x0 x1 x2 x3 x4 x0 h9
      · exact vB_X9_lay_78 F hm x0 x1 x2 x3 x4 x0 h9
theorem vB_X9_lay_44 {K : CT} (F : Fr K cX9_lay RX9 (some .int) [] 2 0) (hm : mxL K = 5) (x0 : Option Nat) (x1 : Int32) (x2 : Int32) (x3 : Int32) (x4 : Int32) (s0 : Option Nat) (h : MH) : V K 44 [(0, vR x0), (1, vI x1), (2, vI x2), (3, vI x3), (4, vI x4)] [vR s0] h (B_X9_lay_44 x0 x1 x2 x3 x4 s0 h) := by
  unfold B_X9_lay_44
  refine V_iconst (pc := 44) F (x := (2 : Int32)) dX9_lay_44 (by decide) ?_
  refine V_goto (pc := 45) F 49 dX9_lay_45 (by decide) ?_
  exact vB_X9_lay_49 F hm x0 x1 x2 x3 x4 s0 (2 : Int32) h
theorem vM_X9_lay {K : CT} (F : Fr K cX9_lay RX9 (some .int) [] 2 0) (hm : mxL K = 5) (x0 : Option Nat) (x1 : Int32) (x2 : Int32) (x3 : Int32) (x4 : Int32) (h : MH) : V K 0 [(0, vR x0), (1, vI x1), (2, vI x2), (3, vI x3), (4, vI x4)] [] h (M_X9_lay x0 x1 x2 x3 x4 h) := by
  unfold M_X9_lay
  refine V_aload_n (pc := 0) F dX9_lay_0 0 rfl ?_
  refine V_iload_n (pc := 1) F dX9_lay_1 1 rfl ?_
  refine V_cSM (pc := 2) F (as := [vI x1]) (C_X9_isCell x1 h) w_X9_isCell g_st_X9_isCell g_ml_RX9_116 (by decide) (rest := [vR x0]) rfl rfl (Nat.le_of_ble_eq_true rfl) dX9_lay_2 (k_I fun z1 h2 => ?_)
  refine V_if_ne (pc := 5) F 12 dX9_lay_5 (by decide) ?_ ?_
  · refine V_iload_n (pc := 12) F dX9_lay_12 2 rfl ?_
    refine V_iconst (pc := 13) F (x := (1 : Int32)) dX9_lay_13 (by decide) ?_
    refine V_bipush (pc := 14) F (x := (20 : Int32)) dX9_lay_14 (by decide) ?_
    refine V_cSM (pc := 16) F (as := [vI x2, vI (1 : Int32), vI (20 : Int32)]) (C_X9_in x2 (1 : Int32) (20 : Int32) h2) w_X9_in g_st_X9_in g_ml_RX9_99 (by decide) (rest := [vR x0]) rfl rfl (Nat.le_of_ble_eq_true rfl) dX9_lay_16 (k_I fun z3 h4 => ?_)
    refine V_if_eq (pc := 19) F 44 dX9_lay_19 (by decide) ?_ ?_
    · exact vB_X9_lay_44 F hm x0 x1 x2 x3 x4 x0 h4
    · refine V_iload_n (pc := 22) F dX9_lay_22 3 rfl ?_
      refine V_iconst (pc := 23) F (x := (1 : Int32)) dX9_lay_23 (by decide) ?_
      refine V_bipush (pc := 24) F (x := (100 : Int32)) dX9_lay_24 (by decide) ?_
      refine V_cSM (pc := 26) F (as := [vI x3, vI (1 : Int32), vI (100 : Int32)]) (C_X9_in x3 (1 : Int32) (100 : Int32) h4) w_X9_in g_st_X9_in g_ml_RX9_99 (by decide) (rest := [vR x0]) rfl rfl (Nat.le_of_ble_eq_true rfl) dX9_lay_26 (k_I fun z5 h6 => ?_)
      refine V_if_eq (pc := 29) F 44 dX9_lay_29 (by decide) ?_ ?_
      · exact vB_X9_lay_44 F hm x0 x1 x2 x3 x4 x0 h6
      · refine V_iload (pc := 32) F dX9_lay_32 4 rfl ?_
        refine V_bipush (pc := 34) F (x := (-50 : Int32)) dX9_lay_34 (by decide) ?_
        refine V_bipush (pc := 36) F (x := (50 : Int32)) dX9_lay_36 (by decide) ?_
        refine V_cSM (pc := 38) F (as := [vI x4, vI (-50 : Int32), vI (50 : Int32)]) (C_X9_in x4 (-50 : Int32) (50 : Int32) h6) w_X9_in g_st_X9_in g_ml_RX9_99 (by decide) (rest := [vR x0]) rfl rfl (Nat.le_of_ble_eq_true rfl) dX9_lay_38 (k_I fun z7 h8 => ?_)
        refine V_if_ne (pc := 41) F 48 dX9_lay_41 (by decide) ?_ ?_
        · refine V_iconst (pc := 48) F (x := (0 : Int32)) dX9_lay_48 (by decide) ?_
          exact vB_X9_lay_49 F hm x0 x1 x2 x3 x4 x0 (0 : Int32) h8
        · exact vB_X9_lay_44 F hm x0 x1 x2 x3 x4 x0 h8
  · refine V_iconst (pc := 8) F (x := (1 : Int32)) dX9_lay_8 (by decide) ?_
    refine V_goto (pc := 9) F 49 dX9_lay_9 (by decide) ?_
    exact vB_X9_lay_49 F hm x0 x1 x2 x3 x4 x0 (1 : Int32) h2
theorem C_X9_lay (x0 : Option Nat) (x1 : Int32) (x2 : Int32) (x3 : Int32) (x4 : Int32) (h : MH) : CtrM yX9_lay (WSm yX9_lay cX9_lay 5 (some .int)) 2 [vR x0, vI x1, vI x2, vI x3, vI x4] h (M_X9_lay x0 x1 x2 x3 x4 h) :=
  CtrM_of (by decide) (Nat.le_of_ble_eq_true rfl) (fun K F hm hi => vM_X9_lay F hm x0 x1 x2 x3 x4 h)
def B_X9_station_80 (x0 : Option Nat) (x1 : Int32) (x2 : Int32) (s0 : Option Nat) (s1 : Int32) (h : MH) : Res := pfI h s0 9 0 s1 fun h15 => gfI h15 x0 9 0 fun z16 => if z16 ≤ 0 then (gfR h15 x0 9 18 fun r17 => gfI h15 x0 9 17 fun z18 => wrI h15 r17 20 z18 x1 fun h19 => gfR h19 x0 9 19 fun r20 => gfI h19 x0 9 17 fun z21 => wrI h19 r20 20 z21 x2 fun h22 => gfI h22 x0 9 17 fun z23 => bnd (z23 + (1 : Int32)) fun z24 => pfI h22 x0 9 17 z24 fun h25 => gfI h25 x0 9 17 fun z26 => rtI z26 h25) else (rtI (0 : Int32) h15)
def B_X9_station_72 (x0 : Option Nat) (x1 : Int32) (x2 : Int32) (s0 : Option Nat) (h : MH) : Res := B_X9_station_80 x0 x1 x2 s0 (3 : Int32) h
def B_X9_station_76 (x0 : Option Nat) (x1 : Int32) (x2 : Int32) (s0 : Option Nat) (h : MH) : Res := gfI h x0 9 0 fun z14 => B_X9_station_80 x0 x1 x2 s0 z14 h
def B_X9_station_33 (x0 : Option Nat) (x1 : Int32) (x2 : Int32) (s0 : Option Nat) (s1 : Int32) (h : MH) : Res := pfI h s0 9 0 s1 fun h7 => gfI h7 x0 9 0 fun z8 => if z8 ≠ 0 then (B_X9_station_76 x0 x1 x2 x0 h7) else (gfR h7 x0 9 3 fun r9 => rdI h7 r9 21 x2 fun z10 => if z10 ≠ 0 then (B_X9_station_72 x0 x1 x2 x0 h7) else (chk h7 x0 9 <| calI (M_X9_stationOf x0 x1 x2 h7) fun z11 h12 => if z11 ≠ (-1 : Int32) then (B_X9_station_72 x0 x1 x2 x0 h12) else (gfI h12 x0 9 17 fun z13 => if z13 ≠ (30 : Int32) then (B_X9_station_76 x0 x1 x2 x0 h12) else (B_X9_station_72 x0 x1 x2 x0 h12))))
def M_X9_station (x0 : Option Nat) (x1 : Int32) (x2 : Int32) (h : MH) : Res := calI (M_X9_isCell x2 h) fun z1 h2 => if z1 ≠ 0 then (gfI h2 x0 9 1 fun z3 => bnd (z3 + (1 : Int32)) fun z4 => calI (M_X9_in x1 z4 (1000 : Int32) h2) fun z5 h6 => if z5 ≠ 0 then (B_X9_station_33 x0 x1 x2 x0 (0 : Int32) h6) else (B_X9_station_33 x0 x1 x2 x0 (2 : Int32) h6)) else (B_X9_station_33 x0 x1 x2 x0 (1 : Int32) h2)
theorem vB_X9_station_80 {K : CT} (F : Fr K cX9_station RX9 (some .int) [] 2 0) (hm : mxL K = 3) (x0 : Option Nat) (x1 : Int32) (x2 : Int32) (s0 : Option Nat) (s1 : Int32) (h : MH) : V K 80 [(0, vR x0), (1, vI x1), (2, vI x2)] [vI s1, vR s0] h (B_X9_station_80 x0 x1 x2 s0 s1 h) := by
  unfold B_X9_station_80
  refine V_putI (pc := 80) F 9 0 (by decide) (by decide) rfl rfl g_fl_RX9_96 dX9_station_80 ?_
  intro h15
  refine V_aload_n (pc := 83) F dX9_station_83 0 rfl ?_
  refine V_getI (pc := 84) F 9 0 (by decide) (by decide) rfl g_fl_RX9_96 dX9_station_84 ?_
  intro z16
  refine V_if_le (pc := 87) F 92 dX9_station_87 (by decide) ?_ ?_
  · refine V_aload_n (pc := 92) F dX9_station_92 0 rfl ?_
    refine V_getR (pc := 93) F 9 18 (by decide) (by decide) rfl g_fl_RX9_50 dX9_station_93 ?_
    intro r17
    refine V_aload_n (pc := 96) F dX9_station_96 0 rfl ?_
    refine V_getI (pc := 97) F 9 17 (by decide) (by decide) rfl g_fl_RX9_123 dX9_station_97 ?_
    intro z18
    refine V_iload_n (pc := 100) F dX9_station_100 1 rfl ?_
    refine V_iast (pc := 101) F dX9_station_101 ?_
    intro h19
    refine V_aload_n (pc := 102) F dX9_station_102 0 rfl ?_
    refine V_getR (pc := 103) F 9 19 (by decide) (by decide) rfl g_fl_RX9_53 dX9_station_103 ?_
    intro r20
    refine V_aload_n (pc := 106) F dX9_station_106 0 rfl ?_
    refine V_getI (pc := 107) F 9 17 (by decide) (by decide) rfl g_fl_RX9_123 dX9_station_107 ?_
    intro z21
    refine V_iload_n (pc := 110) F dX9_station_110 2 rfl ?_
    refine V_iast (pc := 111) F dX9_station_111 ?_
    intro h22
    refine V_aload_n (pc := 112) F dX9_station_112 0 rfl ?_
    refine V_dup (pc := 113) F dX9_station_113 rfl ?_
    refine V_getI (pc := 114) F 9 17 (by decide) (by decide) rfl g_fl_RX9_123 dX9_station_114 ?_
    intro z23
    refine V_iconst (pc := 117) F (x := (1 : Int32)) dX9_station_117 (by decide) ?_
    refine V_iadd (pc := 118) F dX9_station_118 ?_
    intro z24
    refine V_putI (pc := 119) F 9 17 (by decide) (by decide) rfl rfl g_fl_RX9_123 dX9_station_119 ?_
    intro h25
    refine V_aload_n (pc := 122) F dX9_station_122 0 rfl ?_
    refine V_getI (pc := 123) F 9 17 (by decide) (by decide) rfl g_fl_RX9_123 dX9_station_123 ?_
    intro z26
    exact V_iret (pc := 126) F (Or.inl rfl) dX9_station_126
  · refine V_iconst (pc := 90) F (x := (0 : Int32)) dX9_station_90 (by decide) ?_
    exact V_iret (pc := 91) F (Or.inl rfl) dX9_station_91
theorem vB_X9_station_72 {K : CT} (F : Fr K cX9_station RX9 (some .int) [] 2 0) (hm : mxL K = 3) (x0 : Option Nat) (x1 : Int32) (x2 : Int32) (s0 : Option Nat) (h : MH) : V K 72 [(0, vR x0), (1, vI x1), (2, vI x2)] [vR s0] h (B_X9_station_72 x0 x1 x2 s0 h) := by
  unfold B_X9_station_72
  refine V_iconst (pc := 72) F (x := (3 : Int32)) dX9_station_72 (by decide) ?_
  refine V_goto (pc := 73) F 80 dX9_station_73 (by decide) ?_
  exact vB_X9_station_80 F hm x0 x1 x2 s0 (3 : Int32) h
theorem vB_X9_station_76 {K : CT} (F : Fr K cX9_station RX9 (some .int) [] 2 0) (hm : mxL K = 3) (x0 : Option Nat) (x1 : Int32) (x2 : Int32) (s0 : Option Nat) (h : MH) : V K 76 [(0, vR x0), (1, vI x1), (2, vI x2)] [vR s0] h (B_X9_station_76 x0 x1 x2 s0 h) := by
  unfold B_X9_station_76
  refine V_aload_n (pc := 76) F dX9_station_76 0 rfl ?_
  refine V_getI (pc := 77) F 9 0 (by decide) (by decide) rfl g_fl_RX9_96 dX9_station_77 ?_
  intro z14
  exact vB_X9_station_80 F hm x0 x1 x2 s0 z14 h
theorem vB_X9_station_33 {K : CT} (F : Fr K cX9_station RX9 (some .int) [] 2 0) (hm : mxL K = 3) (x0 : Option Nat) (x1 : Int32) (x2 : Int32) (s0 : Option Nat) (s1 : Int32) (h : MH) : V K 33 [(0, vR x0), (1, vI x1), (2, vI x2)] [vI s1, vR s0] h (B_X9_station_33 x0 x1 x2 s0 s1 h) := by
  unfold B_X9_station_33
  refine V_putI (pc := 33) F 9 0 (by decide) (by decide) rfl rfl g_fl_RX9_96 dX9_station_33 ?_
  intro h7
  refine V_aload_n (pc := 36) F dX9_station_36 0 rfl ?_
  refine V_aload_n (pc := 37) F dX9_station_37 0 rfl ?_
  refine V_getI (pc := 38) F 9 0 (by decide) (by decide) rfl g_fl_RX9_96 dX9_station_38 ?_
  intro z8
  refine V_if_ne (pc := 41) F 76 dX9_station_41 (by decide) ?_ ?_
  · exact vB_X9_station_76 F hm x0 x1 x2 x0 h7
  · refine V_aload_n (pc := 44) F dX9_station_44 0 rfl ?_
    refine V_getR (pc := 45) F 9 3 (by decide) (by decide) rfl g_fl_RX9_7 dX9_station_45 ?_
    intro r9
    refine V_iload_n (pc := 48) F dX9_station_48 2 rfl ?_
    refine V_zald (pc := 49) F dX9_station_49 ?_
    intro z10
    refine V_if_ne (pc := 50) F 72 dX9_station_50 (by decide) ?_ ?_
    · exact vB_X9_station_72 F hm x0 x1 x2 x0 h7
    · refine V_aload_n (pc := 53) F dX9_station_53 0 rfl ?_
      refine V_iload_n (pc := 54) F dX9_station_54 1 rfl ?_
      refine V_iload_n (pc := 55) F dX9_station_55 2 rfl ?_
      refine V_cVM (pc := 56) F 9 (by decide) (as := [vI x1, vI x2]) (C_X9_stationOf x0 x1 x2 h7) w_X9_stationOf g_in_X9_stationOf g_se_X9_stationOf g_ml_RX9_140 (by decide) (rest := [vR x0]) rfl rfl (Nat.le_of_ble_eq_true rfl) dX9_station_56 (k_I fun z11 h12 => ?_)
      refine V_iconst (pc := 59) F (x := (-1 : Int32)) dX9_station_59 (by decide) ?_
      refine V_icmp_ne (pc := 60) F 72 dX9_station_60 (by decide) ?_ ?_
      · exact vB_X9_station_72 F hm x0 x1 x2 x0 h12
      · refine V_aload_n (pc := 63) F dX9_station_63 0 rfl ?_
        refine V_getI (pc := 64) F 9 17 (by decide) (by decide) rfl g_fl_RX9_123 dX9_station_64 ?_
        intro z13
        refine V_bipush (pc := 67) F (x := (30 : Int32)) dX9_station_67 (by decide) ?_
        refine V_icmp_ne (pc := 69) F 76 dX9_station_69 (by decide) ?_ ?_
        · exact vB_X9_station_76 F hm x0 x1 x2 x0 h12
        · exact vB_X9_station_72 F hm x0 x1 x2 x0 h12
theorem vM_X9_station {K : CT} (F : Fr K cX9_station RX9 (some .int) [] 2 0) (hm : mxL K = 3) (x0 : Option Nat) (x1 : Int32) (x2 : Int32) (h : MH) : V K 0 [(0, vR x0), (1, vI x1), (2, vI x2)] [] h (M_X9_station x0 x1 x2 h) := by
  unfold M_X9_station
  refine V_aload_n (pc := 0) F dX9_station_0 0 rfl ?_
  refine V_iload_n (pc := 1) F dX9_station_1 2 rfl ?_
  refine V_cSM (pc := 2) F (as := [vI x2]) (C_X9_isCell x2 h) w_X9_isCell g_st_X9_isCell g_ml_RX9_116 (by decide) (rest := [vR x0]) rfl rfl (Nat.le_of_ble_eq_true rfl) dX9_station_2 (k_I fun z1 h2 => ?_)
  refine V_if_ne (pc := 5) F 12 dX9_station_5 (by decide) ?_ ?_
  · refine V_iload_n (pc := 12) F dX9_station_12 1 rfl ?_
    refine V_aload_n (pc := 13) F dX9_station_13 0 rfl ?_
    refine V_getI (pc := 14) F 9 1 (by decide) (by decide) rfl g_fl_RX9_120 dX9_station_14 ?_
    intro z3
    refine V_iconst (pc := 17) F (x := (1 : Int32)) dX9_station_17 (by decide) ?_
    refine V_iadd (pc := 18) F dX9_station_18 ?_
    intro z4
    refine V_sipush (pc := 19) F (x := (1000 : Int32)) dX9_station_19 (by decide) ?_
    refine V_cSM (pc := 22) F (as := [vI x1, vI z4, vI (1000 : Int32)]) (C_X9_in x1 z4 (1000 : Int32) h2) w_X9_in g_st_X9_in g_ml_RX9_99 (by decide) (rest := [vR x0]) rfl rfl (Nat.le_of_ble_eq_true rfl) dX9_station_22 (k_I fun z5 h6 => ?_)
    refine V_if_ne (pc := 25) F 32 dX9_station_25 (by decide) ?_ ?_
    · refine V_iconst (pc := 32) F (x := (0 : Int32)) dX9_station_32 (by decide) ?_
      exact vB_X9_station_33 F hm x0 x1 x2 x0 (0 : Int32) h6
    · refine V_iconst (pc := 28) F (x := (2 : Int32)) dX9_station_28 (by decide) ?_
      refine V_goto (pc := 29) F 33 dX9_station_29 (by decide) ?_
      exact vB_X9_station_33 F hm x0 x1 x2 x0 (2 : Int32) h6
  · refine V_iconst (pc := 8) F (x := (1 : Int32)) dX9_station_8 (by decide) ?_
    refine V_goto (pc := 9) F 33 dX9_station_9 (by decide) ?_
    exact vB_X9_station_33 F hm x0 x1 x2 x0 (1 : Int32) h2
theorem C_X9_station (x0 : Option Nat) (x1 : Int32) (x2 : Int32) (h : MH) : CtrM yX9_station (WSm yX9_station cX9_station 3 (some .int)) 2 [vR x0, vI x1, vI x2] h (M_X9_station x0 x1 x2 h) :=
  CtrM_of (by decide) (Nat.le_of_ble_eq_true rfl) (fun K F hm hi => vM_X9_station F hm x0 x1 x2 h)
def B_X9_storm_107 (rc63 : Option Nat → Int32 → Int32 → Int32 → Int32 → MH → Res) (x0 : Option Nat) (x1 : Int32) (x2 : Int32) (x4 : Int32) (s0 : Int32) (s1 : Int32) (h : MH) : Res := bnd (s0 + s1) fun z28 => bnd (x4 + (1)) fun z29 => rc63 x0 x1 x2 z28 z29 h
def B_X9_storm_106 (rc63 : Option Nat → Int32 → Int32 → Int32 → Int32 → MH → Res) (x0 : Option Nat) (x1 : Int32) (x2 : Int32) (x4 : Int32) (s0 : Int32) (h : MH) : Res := B_X9_storm_107 rc63 x0 x1 x2 x4 s0 (0 : Int32) h
def B_X9_storm_63 (rc63 : Option Nat → Int32 → Int32 → Int32 → Int32 → MH → Res) (x0 : Option Nat) (x1 : Int32) (x2 : Int32) (x3 : Int32) (x4 : Int32) (h : MH) : Res := gfI h x0 9 17 fun z10 => if z10 ≤ x4 then (gfR h x0 9 21 fun r11 => gfI h x0 9 20 fun z12 => wrI h r11 20 z12 x1 fun h13 => gfR h13 x0 9 22 fun r14 => gfI h13 x0 9 20 fun z15 => wrI h13 r14 20 z15 x2 fun h16 => gfI h16 x0 9 20 fun z17 => bnd (z17 + (1 : Int32)) fun z18 => pfI h16 x0 9 20 z18 fun h19 => rtI x3 h19) else (gfR h x0 9 18 fun r20 => rdI h r20 20 x4 fun z21 => calI (M_X9_in z21 x1 x2 h) fun z22 h23 => if z22 = 0 then (B_X9_storm_106 rc63 x0 x1 x2 x4 x3 h23) else (gfR h23 x0 9 18 fun r24 => rdI h23 r24 20 x4 fun z25 => chk h23 x0 9 <| calI (M_X9_isStorm x0 z25 h23) fun z26 h27 => if z26 ≠ 0 then (B_X9_storm_106 rc63 x0 x1 x2 x4 x3 h27) else (B_X9_storm_107 rc63 x0 x1 x2 x4 x3 (1 : Int32) h27)))
def L_X9_storm_63 : Nat → Option Nat → Int32 → Int32 → Int32 → Int32 → MH → Res
  | 0 => fun _ _ _ _ _ _ => none
  | n + 1 => B_X9_storm_63 (L_X9_storm_63 n)
def B_X9_storm_46 (x0 : Option Nat) (x1 : Int32) (x2 : Int32) (s0 : Option Nat) (s1 : Int32) (h : MH) : Res := pfI h s0 9 0 s1 fun h8 => gfI h8 x0 9 0 fun z9 => if z9 ≤ 0 then (L_X9_storm_63 fuel x0 x1 x2 (0 : Int32) (0 : Int32) h8) else (rtI (0 : Int32) h8)
def B_X9_storm_28 (x0 : Option Nat) (x1 : Int32) (x2 : Int32) (s0 : Option Nat) (h : MH) : Res := B_X9_storm_46 x0 x1 x2 s0 (1 : Int32) h
def M_X9_storm (x0 : Option Nat) (x1 : Int32) (x2 : Int32) (h : MH) : Res := gfI h x0 9 1 fun z1 => bnd (z1 + (1 : Int32)) fun z2 => calI (M_X9_in x1 z2 (1000 : Int32) h) fun z3 h4 => if z3 = 0 then (B_X9_storm_28 x0 x1 x2 x0 h4) else (calI (M_X9_in x2 x1 (1000 : Int32) h4) fun z5 h6 => if z5 ≠ 0 then (gfI h6 x0 9 20 fun z7 => if z7 ≠ (20 : Int32) then (B_X9_storm_46 x0 x1 x2 x0 (0 : Int32) h6) else (B_X9_storm_46 x0 x1 x2 x0 (2 : Int32) h6)) else (B_X9_storm_28 x0 x1 x2 x0 h6))
theorem vB_X9_storm_107 {K : CT} (F : Fr K cX9_storm RX9 (some .int) [] 2 0) (hm : mxL K = 5) (rc63 : Option Nat → Int32 → Int32 → Int32 → Int32 → MH → Res) (hrc63 : ∀ x0 x1 x2 x3 x4 h, V K 63 [(0, vR x0), (1, vI x1), (2, vI x2), (3, vI x3), (4, vI x4)] [] h (rc63 x0 x1 x2 x3 x4 h)) (x0 : Option Nat) (x1 : Int32) (x2 : Int32) (x4 : Int32) (s0 : Int32) (s1 : Int32) (h : MH) : V K 107 [(0, vR x0), (1, vI x1), (2, vI x2), (4, vI x4)] [vI s1, vI s0] h (B_X9_storm_107 rc63 x0 x1 x2 x4 s0 s1 h) := by
  unfold B_X9_storm_107
  refine V_iadd (pc := 107) F dX9_storm_107 ?_
  intro z28
  refine V_istore_n (pc := 108) F [(3, vI z28), (0, vR x0), (1, vI x1), (2, vI x2), (4, vI x4)] dX9_storm_108 (lt_mx hm (by decide)) rfl ?_
  refine V_iinc (pc := 109) F (fun z29 => [(4, vI z29), (3, vI z28), (0, vR x0), (1, vI x1), (2, vI x2)]) dX9_storm_109 (lt_mx hm (by decide)) 4 rfl (dx := (1 : Int32)) (by decide) (fun _ => rfl) ?_
  intro z29
  refine V_goto (pc := 112) F 63 dX9_storm_112 (by decide) ?_
  refine V_sub [2, 3, 4, 1, 0] (L' := [(0, vR x0), (1, vI x1), (2, vI x2), (3, vI z28), (4, vI z29)]) rfl ?_
  exact hrc63 x0 x1 x2 z28 z29 h
theorem vB_X9_storm_106 {K : CT} (F : Fr K cX9_storm RX9 (some .int) [] 2 0) (hm : mxL K = 5) (rc63 : Option Nat → Int32 → Int32 → Int32 → Int32 → MH → Res) (hrc63 : ∀ x0 x1 x2 x3 x4 h, V K 63 [(0, vR x0), (1, vI x1), (2, vI x2), (3, vI x3), (4, vI x4)] [] h (rc63 x0 x1 x2 x3 x4 h)) (x0 : Option Nat) (x1 : Int32) (x2 : Int32) (x4 : Int32) (s0 : Int32) (h : MH) : V K 106 [(0, vR x0), (1, vI x1), (2, vI x2), (4, vI x4)] [vI s0] h (B_X9_storm_106 rc63 x0 x1 x2 x4 s0 h) := by
  unfold B_X9_storm_106
  refine V_iconst (pc := 106) F (x := (0 : Int32)) dX9_storm_106 (by decide) ?_
  exact vB_X9_storm_107 F hm rc63 hrc63 x0 x1 x2 x4 s0 (0 : Int32) h
theorem vB_X9_storm_63 {K : CT} (F : Fr K cX9_storm RX9 (some .int) [] 2 0) (hm : mxL K = 5) (rc63 : Option Nat → Int32 → Int32 → Int32 → Int32 → MH → Res) (hrc63 : ∀ x0 x1 x2 x3 x4 h, V K 63 [(0, vR x0), (1, vI x1), (2, vI x2), (3, vI x3), (4, vI x4)] [] h (rc63 x0 x1 x2 x3 x4 h)) (x0 : Option Nat) (x1 : Int32) (x2 : Int32) (x3 : Int32) (x4 : Int32) (h : MH) : V K 63 [(0, vR x0), (1, vI x1), (2, vI x2), (3, vI x3), (4, vI x4)] [] h (B_X9_storm_63 rc63 x0 x1 x2 x3 x4 h) := by
  unfold B_X9_storm_63
  refine V_iload (pc := 63) F dX9_storm_63 4 rfl ?_
  refine V_aload_n (pc := 65) F dX9_storm_65 0 rfl ?_
  refine V_getI (pc := 66) F 9 17 (by decide) (by decide) rfl g_fl_RX9_123 dX9_storm_66 ?_
  intro z10
  refine V_icmp_ge (pc := 69) F 115 dX9_storm_69 (by decide) ?_ ?_
  · refine V_aload_n (pc := 115) F dX9_storm_115 0 rfl ?_
    refine V_getR (pc := 116) F 9 21 (by decide) (by decide) rfl g_fl_RX9_56 dX9_storm_116 ?_
    intro r11
    refine V_aload_n (pc := 119) F dX9_storm_119 0 rfl ?_
    refine V_getI (pc := 120) F 9 20 (by decide) (by decide) rfl g_fl_RX9_137 dX9_storm_120 ?_
    intro z12
    refine V_iload_n (pc := 123) F dX9_storm_123 1 rfl ?_
    refine V_iast (pc := 124) F dX9_storm_124 ?_
    intro h13
    refine V_aload_n (pc := 125) F dX9_storm_125 0 rfl ?_
    refine V_getR (pc := 126) F 9 22 (by decide) (by decide) rfl g_fl_RX9_59 dX9_storm_126 ?_
    intro r14
    refine V_aload_n (pc := 129) F dX9_storm_129 0 rfl ?_
    refine V_getI (pc := 130) F 9 20 (by decide) (by decide) rfl g_fl_RX9_137 dX9_storm_130 ?_
    intro z15
    refine V_iload_n (pc := 133) F dX9_storm_133 2 rfl ?_
    refine V_iast (pc := 134) F dX9_storm_134 ?_
    intro h16
    refine V_aload_n (pc := 135) F dX9_storm_135 0 rfl ?_
    refine V_dup (pc := 136) F dX9_storm_136 rfl ?_
    refine V_getI (pc := 137) F 9 20 (by decide) (by decide) rfl g_fl_RX9_137 dX9_storm_137 ?_
    intro z17
    refine V_iconst (pc := 140) F (x := (1 : Int32)) dX9_storm_140 (by decide) ?_
    refine V_iadd (pc := 141) F dX9_storm_141 ?_
    intro z18
    refine V_putI (pc := 142) F 9 20 (by decide) (by decide) rfl rfl g_fl_RX9_137 dX9_storm_142 ?_
    intro h19
    refine V_iload_n (pc := 145) F dX9_storm_145 3 rfl ?_
    exact V_iret (pc := 146) F (Or.inl rfl) dX9_storm_146
  · refine V_iload_n (pc := 72) F dX9_storm_72 3 rfl ?_
    refine V_aload_n (pc := 73) F dX9_storm_73 0 rfl ?_
    refine V_getR (pc := 74) F 9 18 (by decide) (by decide) rfl g_fl_RX9_50 dX9_storm_74 ?_
    intro r20
    refine V_iload (pc := 77) F dX9_storm_77 4 rfl ?_
    refine V_iald (pc := 79) F dX9_storm_79 ?_
    intro z21
    refine V_iload_n (pc := 80) F dX9_storm_80 1 rfl ?_
    refine V_iload_n (pc := 81) F dX9_storm_81 2 rfl ?_
    refine V_cSM (pc := 82) F (as := [vI z21, vI x1, vI x2]) (C_X9_in z21 x1 x2 h) w_X9_in g_st_X9_in g_ml_RX9_99 (by decide) (rest := [vI x3]) rfl rfl (Nat.le_of_ble_eq_true rfl) dX9_storm_82 (k_I fun z22 h23 => ?_)
    refine V_if_eq (pc := 85) F 106 dX9_storm_85 (by decide) ?_ ?_
    · refine V_sub [0, 1, 2, 4] (L' := [(0, vR x0), (1, vI x1), (2, vI x2), (4, vI x4)]) rfl ?_
      exact vB_X9_storm_106 F hm rc63 hrc63 x0 x1 x2 x4 x3 h23
    · refine V_aload_n (pc := 88) F dX9_storm_88 0 rfl ?_
      refine V_aload_n (pc := 89) F dX9_storm_89 0 rfl ?_
      refine V_getR (pc := 90) F 9 18 (by decide) (by decide) rfl g_fl_RX9_50 dX9_storm_90 ?_
      intro r24
      refine V_iload (pc := 93) F dX9_storm_93 4 rfl ?_
      refine V_iald (pc := 95) F dX9_storm_95 ?_
      intro z25
      refine V_cVM (pc := 96) F 9 (by decide) (as := [vI z25]) (C_X9_isStorm x0 z25 h23) w_X9_isStorm g_in_X9_isStorm g_se_X9_isStorm g_ml_RX9_143 (by decide) (rest := [vI x3]) rfl rfl (Nat.le_of_ble_eq_true rfl) dX9_storm_96 (k_I fun z26 h27 => ?_)
      refine V_if_ne (pc := 99) F 106 dX9_storm_99 (by decide) ?_ ?_
      · refine V_sub [0, 1, 2, 4] (L' := [(0, vR x0), (1, vI x1), (2, vI x2), (4, vI x4)]) rfl ?_
        exact vB_X9_storm_106 F hm rc63 hrc63 x0 x1 x2 x4 x3 h27
      · refine V_iconst (pc := 102) F (x := (1 : Int32)) dX9_storm_102 (by decide) ?_
        refine V_goto (pc := 103) F 107 dX9_storm_103 (by decide) ?_
        refine V_sub [0, 1, 2, 4] (L' := [(0, vR x0), (1, vI x1), (2, vI x2), (4, vI x4)]) rfl ?_
        exact vB_X9_storm_107 F hm rc63 hrc63 x0 x1 x2 x4 x3 (1 : Int32) h27
theorem vL_X9_storm_63 {K : CT} (F : Fr K cX9_storm RX9 (some .int) [] 2 0) (hm : mxL K = 5) (n : Nat) : ∀ x0 x1 x2 x3 x4 h, V K 63 [(0, vR x0), (1, vI x1), (2, vI x2), (3, vI x3), (4, vI x4)] [] h (L_X9_storm_63 n x0 x1 x2 x3 x4 h) := by
  induction n with
  | zero => intros; exact V_none
  | succ n ih => intro x0 x1 x2 x3 x4 h; exact vB_X9_storm_63 F hm _ ih x0 x1 x2 x3 x4 h
theorem vB_X9_storm_46 {K : CT} (F : Fr K cX9_storm RX9 (some .int) [] 2 0) (hm : mxL K = 5) (x0 : Option Nat) (x1 : Int32) (x2 : Int32) (s0 : Option Nat) (s1 : Int32) (h : MH) : V K 46 [(0, vR x0), (1, vI x1), (2, vI x2)] [vI s1, vR s0] h (B_X9_storm_46 x0 x1 x2 s0 s1 h) := by
  unfold B_X9_storm_46
  refine V_putI (pc := 46) F 9 0 (by decide) (by decide) rfl rfl g_fl_RX9_96 dX9_storm_46 ?_
  intro h8
  refine V_aload_n (pc := 49) F dX9_storm_49 0 rfl ?_
  refine V_getI (pc := 50) F 9 0 (by decide) (by decide) rfl g_fl_RX9_96 dX9_storm_50 ?_
  intro z9
  refine V_if_le (pc := 53) F 58 dX9_storm_53 (by decide) ?_ ?_
  · refine V_iconst (pc := 58) F (x := (0 : Int32)) dX9_storm_58 (by decide) ?_
    refine V_istore_n (pc := 59) F [(3, vI (0 : Int32)), (0, vR x0), (1, vI x1), (2, vI x2)] dX9_storm_59 (lt_mx hm (by decide)) rfl ?_
    refine V_iconst (pc := 60) F (x := (0 : Int32)) dX9_storm_60 (by decide) ?_
    refine V_istore (pc := 61) F [(4, vI (0 : Int32)), (3, vI (0 : Int32)), (0, vR x0), (1, vI x1), (2, vI x2)] dX9_storm_61 (lt_mx hm (by decide)) rfl ?_
    refine V_sub [2, 3, 4, 1, 0] (L' := [(0, vR x0), (1, vI x1), (2, vI x2), (3, vI (0 : Int32)), (4, vI (0 : Int32))]) rfl ?_
    exact vL_X9_storm_63 F hm fuel x0 x1 x2 (0 : Int32) (0 : Int32) h8
  · refine V_iconst (pc := 56) F (x := (0 : Int32)) dX9_storm_56 (by decide) ?_
    exact V_iret (pc := 57) F (Or.inl rfl) dX9_storm_57
theorem vB_X9_storm_28 {K : CT} (F : Fr K cX9_storm RX9 (some .int) [] 2 0) (hm : mxL K = 5) (x0 : Option Nat) (x1 : Int32) (x2 : Int32) (s0 : Option Nat) (h : MH) : V K 28 [(0, vR x0), (1, vI x1), (2, vI x2)] [vR s0] h (B_X9_storm_28 x0 x1 x2 s0 h) := by
  unfold B_X9_storm_28
  refine V_iconst (pc := 28) F (x := (1 : Int32)) dX9_storm_28 (by decide) ?_
  refine V_goto (pc := 29) F 46 dX9_storm_29 (by decide) ?_
  exact vB_X9_storm_46 F hm x0 x1 x2 s0 (1 : Int32) h
theorem vM_X9_storm {K : CT} (F : Fr K cX9_storm RX9 (some .int) [] 2 0) (hm : mxL K = 5) (x0 : Option Nat) (x1 : Int32) (x2 : Int32) (h : MH) : V K 0 [(0, vR x0), (1, vI x1), (2, vI x2)] [] h (M_X9_storm x0 x1 x2 h) := by
  unfold M_X9_storm
  refine V_aload_n (pc := 0) F dX9_storm_0 0 rfl ?_
  refine V_iload_n (pc := 1) F dX9_storm_1 1 rfl ?_
  refine V_aload_n (pc := 2) F dX9_storm_2 0 rfl ?_
  refine V_getI (pc := 3) F 9 1 (by decide) (by decide) rfl g_fl_RX9_120 dX9_storm_3 ?_
  intro z1
  refine V_iconst (pc := 6) F (x := (1 : Int32)) dX9_storm_6 (by decide) ?_
  refine V_iadd (pc := 7) F dX9_storm_7 ?_
  intro z2
  refine V_sipush (pc := 8) F (x := (1000 : Int32)) dX9_storm_8 (by decide) ?_
  refine V_cSM (pc := 11) F (as := [vI x1, vI z2, vI (1000 : Int32)]) (C_X9_in x1 z2 (1000 : Int32) h) w_X9_in g_st_X9_in g_ml_RX9_99 (by decide) (rest := [vR x0]) rfl rfl (Nat.le_of_ble_eq_true rfl) dX9_storm_11 (k_I fun z3 h4 => ?_)
  refine V_if_eq (pc := 14) F 28 dX9_storm_14 (by decide) ?_ ?_
  · exact vB_X9_storm_28 F hm x0 x1 x2 x0 h4
  · refine V_iload_n (pc := 17) F dX9_storm_17 2 rfl ?_
    refine V_iload_n (pc := 18) F dX9_storm_18 1 rfl ?_
    refine V_sipush (pc := 19) F (x := (1000 : Int32)) dX9_storm_19 (by decide) ?_
    refine V_cSM (pc := 22) F (as := [vI x2, vI x1, vI (1000 : Int32)]) (C_X9_in x2 x1 (1000 : Int32) h4) w_X9_in g_st_X9_in g_ml_RX9_99 (by decide) (rest := [vR x0]) rfl rfl (Nat.le_of_ble_eq_true rfl) dX9_storm_22 (k_I fun z5 h6 => ?_)
    refine V_if_ne (pc := 25) F 32 dX9_storm_25 (by decide) ?_ ?_
    · refine V_aload_n (pc := 32) F dX9_storm_32 0 rfl ?_
      refine V_getI (pc := 33) F 9 20 (by decide) (by decide) rfl g_fl_RX9_137 dX9_storm_33 ?_
      intro z7
      refine V_bipush (pc := 36) F (x := (20 : Int32)) dX9_storm_36 (by decide) ?_
      refine V_icmp_ne (pc := 38) F 45 dX9_storm_38 (by decide) ?_ ?_
      · refine V_iconst (pc := 45) F (x := (0 : Int32)) dX9_storm_45 (by decide) ?_
        exact vB_X9_storm_46 F hm x0 x1 x2 x0 (0 : Int32) h6
      · refine V_iconst (pc := 41) F (x := (2 : Int32)) dX9_storm_41 (by decide) ?_
        refine V_goto (pc := 42) F 46 dX9_storm_42 (by decide) ?_
        exact vB_X9_storm_46 F hm x0 x1 x2 x0 (2 : Int32) h6
    · exact vB_X9_storm_28 F hm x0 x1 x2 x0 h6
theorem C_X9_storm (x0 : Option Nat) (x1 : Int32) (x2 : Int32) (h : MH) : CtrM yX9_storm (WSm yX9_storm cX9_storm 5 (some .int)) 2 [vR x0, vI x1, vI x2] h (M_X9_storm x0 x1 x2 h) :=
  CtrM_of (by decide) (Nat.le_of_ble_eq_true rfl) (fun K F hm hi => vM_X9_storm F hm x0 x1 x2 h)
def M_X9_isFloat (x0 : Option Nat) (x1 : Int32) (h : MH) : Res := gfI h x0 9 10 fun z1 => bnd (z1 - (1 : Int32)) fun z2 => calI (M_X9_in x1 (0 : Int32) z2 h) fun z3 h4 => rtZ z3 h4
theorem vM_X9_isFloat {K : CT} (F : Fr K cX9_isFloat RX9 (some .boolean) [] 1 0) (hm : mxL K = 2) (x0 : Option Nat) (x1 : Int32) (h : MH) : V K 0 [(0, vR x0), (1, vI x1)] [] h (M_X9_isFloat x0 x1 h) := by
  unfold M_X9_isFloat
  refine V_iload_n (pc := 0) F dX9_isFloat_0 1 rfl ?_
  refine V_iconst (pc := 1) F (x := (0 : Int32)) dX9_isFloat_1 (by decide) ?_
  refine V_aload_n (pc := 2) F dX9_isFloat_2 0 rfl ?_
  refine V_getI (pc := 3) F 9 10 (by decide) (by decide) rfl g_fl_RX9_103 dX9_isFloat_3 ?_
  intro z1
  refine V_iconst (pc := 6) F (x := (1 : Int32)) dX9_isFloat_6 (by decide) ?_
  refine V_isub (pc := 7) F dX9_isFloat_7 ?_
  intro z2
  refine V_cSM (pc := 8) F (as := [vI x1, vI (0 : Int32), vI z2]) (C_X9_in x1 (0 : Int32) z2 h) w_X9_in g_st_X9_in g_ml_RX9_99 (by decide) (rest := []) rfl rfl (Nat.le_of_ble_eq_true rfl) dX9_isFloat_8 (k_I fun z3 h4 => ?_)
  exact V_zret (pc := 11) F (Or.inl rfl) dX9_isFloat_11
theorem C_X9_isFloat (x0 : Option Nat) (x1 : Int32) (h : MH) : CtrM yX9_isFloat (WSm yX9_isFloat cX9_isFloat 2 (some .boolean)) 1 [vR x0, vI x1] h (M_X9_isFloat x0 x1 h) :=
  CtrM_of (by decide) (Nat.le_of_ble_eq_true rfl) (fun K F hm hi => vM_X9_isFloat F hm x0 x1 h)
def M_X9_size (x0 : Int32) (h : MH) : Res := if 0 ≤ x0 then (rtI x0 h) else (bnd (-x0) fun z1 => rtI z1 h)
theorem vM_X9_size {K : CT} (F : Fr K cX9_size RX9 (some .int) [] 0 0) (hm : mxL K = 1) (x0 : Int32) (h : MH) : V K 0 [(0, vI x0)] [] h (M_X9_size x0 h) := by
  unfold M_X9_size
  refine V_iload_n (pc := 0) F dX9_size_0 0 rfl ?_
  refine V_if_ge (pc := 1) F 9 dX9_size_1 (by decide) ?_ ?_
  · refine V_iload_n (pc := 9) F dX9_size_9 0 rfl ?_
    exact V_iret (pc := 10) F (Or.inl rfl) dX9_size_10
  · refine V_iload_n (pc := 4) F dX9_size_4 0 rfl ?_
    refine V_ineg (pc := 5) F dX9_size_5 ?_
    intro z1
    refine V_goto (pc := 6) F 10 dX9_size_6 (by decide) ?_
    exact V_iret (pc := 10) F (Or.inl rfl) dX9_size_10
theorem C_X9_size (x0 : Int32) (h : MH) : CtrM yX9_size (WSm yX9_size cX9_size 1 (some .int)) 0 [vI x0] h (M_X9_size x0 h) :=
  CtrM_of (by decide) (Nat.le_of_ble_eq_true rfl) (fun K F hm hi => vM_X9_size F hm x0 h)
def B_X9_shipFor_104 (rc4 : Option Nat → Int32 → Int32 → Int32 → MH → Res) (x0 : Option Nat) (x1 : Int32) (x3 : Int32) (s0 : Int32) (h : MH) : Res := bnd (x3 + (1)) fun z22 => rc4 x0 x1 s0 z22 h
def B_X9_shipFor_99 (rc4 : Option Nat → Int32 → Int32 → Int32 → MH → Res) (x0 : Option Nat) (x1 : Int32) (x3 : Int32) (h : MH) : Res := B_X9_shipFor_104 rc4 x0 x1 x3 x3 h
def B_X9_shipFor_103 (rc4 : Option Nat → Int32 → Int32 → Int32 → MH → Res) (x0 : Option Nat) (x1 : Int32) (x2 : Int32) (x3 : Int32) (h : MH) : Res := B_X9_shipFor_104 rc4 x0 x1 x3 x2 h
def B_X9_shipFor_66 (rc4 : Option Nat → Int32 → Int32 → Int32 → MH → Res) (x0 : Option Nat) (x1 : Int32) (x2 : Int32) (x3 : Int32) (x4 : Int32) (s0 : Int32) (h : MH) : Res := if s0 = 0 then (B_X9_shipFor_103 rc4 x0 x1 x2 x3 h) else (if x2 = (-1 : Int32) then (B_X9_shipFor_99 rc4 x0 x1 x3 h) else (gfR h x0 9 24 fun r15 => rdI h r15 20 x2 fun z16 => gfR h x0 9 24 fun r17 => rdI h r17 20 x1 fun z18 => bnd (z16 - z18) fun z19 => calI (M_X9_size z19 h) fun z20 h21 => if z20 ≤ x4 then (B_X9_shipFor_103 rc4 x0 x1 x2 x3 h21) else (B_X9_shipFor_99 rc4 x0 x1 x3 h21)))
def B_X9_shipFor_65 (rc4 : Option Nat → Int32 → Int32 → Int32 → MH → Res) (x0 : Option Nat) (x1 : Int32) (x2 : Int32) (x3 : Int32) (x4 : Int32) (h : MH) : Res := B_X9_shipFor_66 rc4 x0 x1 x2 x3 x4 (0 : Int32) h
def B_X9_shipFor_4 (rc4 : Option Nat → Int32 → Int32 → Int32 → MH → Res) (x0 : Option Nat) (x1 : Int32) (x2 : Int32) (x3 : Int32) (h : MH) : Res := gfI h x0 9 23 fun z1 => if z1 ≤ x3 then (rtI x2 h) else (gfR h x0 9 24 fun r2 => rdI h r2 20 x3 fun z3 => gfR h x0 9 24 fun r4 => rdI h r4 20 x1 fun z5 => bnd (z3 - z5) fun z6 => calI (M_X9_size z6 h) fun z7 h8 => gfR h8 x0 9 27 fun r9 => rdI h8 r9 20 x3 fun z10 => if z10 ≠ (-1 : Int32) then (B_X9_shipFor_65 rc4 x0 x1 x2 x3 z7 h8) else (gfR h8 x0 9 25 fun r11 => rdI h8 r11 20 x3 fun z12 => gfR h8 x0 9 25 fun r13 => rdI h8 r13 20 x1 fun z14 => if z12 ≠ z14 then (B_X9_shipFor_65 rc4 x0 x1 x2 x3 z7 h8) else (if (2 : Int32) < z7 then (B_X9_shipFor_65 rc4 x0 x1 x2 x3 z7 h8) else (B_X9_shipFor_66 rc4 x0 x1 x2 x3 z7 (1 : Int32) h8))))
def L_X9_shipFor_4 : Nat → Option Nat → Int32 → Int32 → Int32 → MH → Res
  | 0 => fun _ _ _ _ _ => none
  | n + 1 => B_X9_shipFor_4 (L_X9_shipFor_4 n)
def M_X9_shipFor (x0 : Option Nat) (x1 : Int32) (h : MH) : Res := L_X9_shipFor_4 fuel x0 x1 (-1 : Int32) (0 : Int32) h
theorem vB_X9_shipFor_104 {K : CT} (F : Fr K cX9_shipFor RX9 (some .int) [] 1 0) (hm : mxL K = 6) (rc4 : Option Nat → Int32 → Int32 → Int32 → MH → Res) (hrc4 : ∀ x0 x1 x2 x3 h, V K 4 [(0, vR x0), (1, vI x1), (2, vI x2), (3, vI x3)] [] h (rc4 x0 x1 x2 x3 h)) (x0 : Option Nat) (x1 : Int32) (x3 : Int32) (s0 : Int32) (h : MH) : V K 104 [(0, vR x0), (1, vI x1), (3, vI x3)] [vI s0] h (B_X9_shipFor_104 rc4 x0 x1 x3 s0 h) := by
  unfold B_X9_shipFor_104
  refine V_istore_n (pc := 104) F [(2, vI s0), (0, vR x0), (1, vI x1), (3, vI x3)] dX9_shipFor_104 (lt_mx hm (by decide)) rfl ?_
  refine V_iinc (pc := 105) F (fun z22 => [(3, vI z22), (2, vI s0), (0, vR x0), (1, vI x1)]) dX9_shipFor_105 (lt_mx hm (by decide)) 3 rfl (dx := (1 : Int32)) (by decide) (fun _ => rfl) ?_
  intro z22
  refine V_goto (pc := 108) F 4 dX9_shipFor_108 (by decide) ?_
  refine V_sub [2, 3, 1, 0] (L' := [(0, vR x0), (1, vI x1), (2, vI s0), (3, vI z22)]) rfl ?_
  exact hrc4 x0 x1 s0 z22 h
theorem vB_X9_shipFor_99 {K : CT} (F : Fr K cX9_shipFor RX9 (some .int) [] 1 0) (hm : mxL K = 6) (rc4 : Option Nat → Int32 → Int32 → Int32 → MH → Res) (hrc4 : ∀ x0 x1 x2 x3 h, V K 4 [(0, vR x0), (1, vI x1), (2, vI x2), (3, vI x3)] [] h (rc4 x0 x1 x2 x3 h)) (x0 : Option Nat) (x1 : Int32) (x3 : Int32) (h : MH) : V K 99 [(0, vR x0), (1, vI x1), (3, vI x3)] [] h (B_X9_shipFor_99 rc4 x0 x1 x3 h) := by
  unfold B_X9_shipFor_99
  refine V_iload_n (pc := 99) F dX9_shipFor_99 2 rfl ?_
  refine V_goto (pc := 100) F 104 dX9_shipFor_100 (by decide) ?_
  exact vB_X9_shipFor_104 F hm rc4 hrc4 x0 x1 x3 x3 h
theorem vB_X9_shipFor_103 {K : CT} (F : Fr K cX9_shipFor RX9 (some .int) [] 1 0) (hm : mxL K = 6) (rc4 : Option Nat → Int32 → Int32 → Int32 → MH → Res) (hrc4 : ∀ x0 x1 x2 x3 h, V K 4 [(0, vR x0), (1, vI x1), (2, vI x2), (3, vI x3)] [] h (rc4 x0 x1 x2 x3 h)) (x0 : Option Nat) (x1 : Int32) (x2 : Int32) (x3 : Int32) (h : MH) : V K 103 [(0, vR x0), (1, vI x1), (2, vI x2), (3, vI x3)] [] h (B_X9_shipFor_103 rc4 x0 x1 x2 x3 h) := by
  unfold B_X9_shipFor_103
  refine V_iload_n (pc := 103) F dX9_shipFor_103 2 rfl ?_
  refine V_sub [0, 1, 3] (L' := [(0, vR x0), (1, vI x1), (3, vI x3)]) rfl ?_
  exact vB_X9_shipFor_104 F hm rc4 hrc4 x0 x1 x3 x2 h
theorem vB_X9_shipFor_66 {K : CT} (F : Fr K cX9_shipFor RX9 (some .int) [] 1 0) (hm : mxL K = 6) (rc4 : Option Nat → Int32 → Int32 → Int32 → MH → Res) (hrc4 : ∀ x0 x1 x2 x3 h, V K 4 [(0, vR x0), (1, vI x1), (2, vI x2), (3, vI x3)] [] h (rc4 x0 x1 x2 x3 h)) (x0 : Option Nat) (x1 : Int32) (x2 : Int32) (x3 : Int32) (x4 : Int32) (s0 : Int32) (h : MH) : V K 66 [(0, vR x0), (1, vI x1), (2, vI x2), (3, vI x3), (4, vI x4)] [vI s0] h (B_X9_shipFor_66 rc4 x0 x1 x2 x3 x4 s0 h) := by
  unfold B_X9_shipFor_66
  refine V_istore (pc := 66) F [(5, vI s0), (0, vR x0), (1, vI x1), (2, vI x2), (3, vI x3), (4, vI x4)] dX9_shipFor_66 (lt_mx hm (by decide)) rfl ?_
  refine V_iload (pc := 68) F dX9_shipFor_68 0 rfl ?_
  refine V_if_eq (pc := 70) F 103 dX9_shipFor_70 (by decide) ?_ ?_
  · refine V_sub [1, 2, 3, 4] (L' := [(0, vR x0), (1, vI x1), (2, vI x2), (3, vI x3)]) rfl ?_
    exact vB_X9_shipFor_103 F hm rc4 hrc4 x0 x1 x2 x3 h
  · refine V_iload_n (pc := 73) F dX9_shipFor_73 3 rfl ?_
    refine V_iconst (pc := 74) F (x := (-1 : Int32)) dX9_shipFor_74 (by decide) ?_
    refine V_icmp_eq (pc := 75) F 99 dX9_shipFor_75 (by decide) ?_ ?_
    · refine V_sub [1, 2, 4] (L' := [(0, vR x0), (1, vI x1), (3, vI x3)]) rfl ?_
      exact vB_X9_shipFor_99 F hm rc4 hrc4 x0 x1 x3 h
    · refine V_iload (pc := 78) F dX9_shipFor_78 5 rfl ?_
      refine V_aload_n (pc := 80) F dX9_shipFor_80 1 rfl ?_
      refine V_getR (pc := 81) F 9 24 (by decide) (by decide) rfl g_fl_RX9_62 dX9_shipFor_81 ?_
      intro r15
      refine V_iload_n (pc := 84) F dX9_shipFor_84 3 rfl ?_
      refine V_iald (pc := 85) F dX9_shipFor_85 ?_
      intro z16
      refine V_aload_n (pc := 86) F dX9_shipFor_86 1 rfl ?_
      refine V_getR (pc := 87) F 9 24 (by decide) (by decide) rfl g_fl_RX9_62 dX9_shipFor_87 ?_
      intro r17
      refine V_iload_n (pc := 90) F dX9_shipFor_90 2 rfl ?_
      refine V_iald (pc := 91) F dX9_shipFor_91 ?_
      intro z18
      refine V_isub (pc := 92) F dX9_shipFor_92 ?_
      intro z19
      refine V_cSM (pc := 93) F (as := [vI z19]) (C_X9_size z19 h) w_X9_size g_st_X9_size g_ml_RX9_161 (by decide) (rest := [vI x4]) rfl rfl (Nat.le_of_ble_eq_true rfl) dX9_shipFor_93 (k_I fun z20 h21 => ?_)
      refine V_icmp_ge (pc := 96) F 103 dX9_shipFor_96 (by decide) ?_ ?_
      · refine V_sub [1, 2, 3, 4] (L' := [(0, vR x0), (1, vI x1), (2, vI x2), (3, vI x3)]) rfl ?_
        exact vB_X9_shipFor_103 F hm rc4 hrc4 x0 x1 x2 x3 h21
      · refine V_sub [1, 2, 4] (L' := [(0, vR x0), (1, vI x1), (3, vI x3)]) rfl ?_
        exact vB_X9_shipFor_99 F hm rc4 hrc4 x0 x1 x3 h21
theorem vB_X9_shipFor_65 {K : CT} (F : Fr K cX9_shipFor RX9 (some .int) [] 1 0) (hm : mxL K = 6) (rc4 : Option Nat → Int32 → Int32 → Int32 → MH → Res) (hrc4 : ∀ x0 x1 x2 x3 h, V K 4 [(0, vR x0), (1, vI x1), (2, vI x2), (3, vI x3)] [] h (rc4 x0 x1 x2 x3 h)) (x0 : Option Nat) (x1 : Int32) (x2 : Int32) (x3 : Int32) (x4 : Int32) (h : MH) : V K 65 [(0, vR x0), (1, vI x1), (2, vI x2), (3, vI x3), (4, vI x4)] [] h (B_X9_shipFor_65 rc4 x0 x1 x2 x3 x4 h) := by
  unfold B_X9_shipFor_65
  refine V_iconst (pc := 65) F (x := (0 : Int32)) dX9_shipFor_65 (by decide) ?_
  exact vB_X9_shipFor_66 F hm rc4 hrc4 x0 x1 x2 x3 x4 (0 : Int32) h
theorem vB_X9_shipFor_4 {K : CT} (F : Fr K cX9_shipFor RX9 (some .int) [] 1 0) (hm : mxL K = 6) (rc4 : Option Nat → Int32 → Int32 → Int32 → MH → Res) (hrc4 : ∀ x0 x1 x2 x3 h, V K 4 [(0, vR x0), (1, vI x1), (2, vI x2), (3, vI x3)] [] h (rc4 x0 x1 x2 x3 h)) (x0 : Option Nat) (x1 : Int32) (x2 : Int32) (x3 : Int32) (h : MH) : V K 4 [(0, vR x0), (1, vI x1), (2, vI x2), (3, vI x3)] [] h (B_X9_shipFor_4 rc4 x0 x1 x2 x3 h) := by
  unfold B_X9_shipFor_4
  refine V_iload_n (pc := 4) F dX9_shipFor_4 3 rfl ?_
  refine V_aload_n (pc := 5) F dX9_shipFor_5 0 rfl ?_
  refine V_getI (pc := 6) F 9 23 (by decide) (by decide) rfl g_fl_RX9_106 dX9_shipFor_6 ?_
  intro z1
  refine V_icmp_ge (pc := 9) F 111 dX9_shipFor_9 (by decide) ?_ ?_
  · refine V_iload_n (pc := 111) F dX9_shipFor_111 2 rfl ?_
    exact V_iret (pc := 112) F (Or.inl rfl) dX9_shipFor_112
  · refine V_aload_n (pc := 12) F dX9_shipFor_12 0 rfl ?_
    refine V_getR (pc := 13) F 9 24 (by decide) (by decide) rfl g_fl_RX9_62 dX9_shipFor_13 ?_
    intro r2
    refine V_iload_n (pc := 16) F dX9_shipFor_16 3 rfl ?_
    refine V_iald (pc := 17) F dX9_shipFor_17 ?_
    intro z3
    refine V_aload_n (pc := 18) F dX9_shipFor_18 0 rfl ?_
    refine V_getR (pc := 19) F 9 24 (by decide) (by decide) rfl g_fl_RX9_62 dX9_shipFor_19 ?_
    intro r4
    refine V_iload_n (pc := 22) F dX9_shipFor_22 1 rfl ?_
    refine V_iald (pc := 23) F dX9_shipFor_23 ?_
    intro z5
    refine V_isub (pc := 24) F dX9_shipFor_24 ?_
    intro z6
    refine V_cSM (pc := 25) F (as := [vI z6]) (C_X9_size z6 h) w_X9_size g_st_X9_size g_ml_RX9_161 (by decide) (rest := []) rfl rfl (Nat.le_of_ble_eq_true rfl) dX9_shipFor_25 (k_I fun z7 h8 => ?_)
    refine V_istore (pc := 28) F [(4, vI z7), (0, vR x0), (1, vI x1), (2, vI x2), (3, vI x3)] dX9_shipFor_28 (lt_mx hm (by decide)) rfl ?_
    refine V_aload_n (pc := 30) F dX9_shipFor_30 1 rfl ?_
    refine V_getR (pc := 31) F 9 27 (by decide) (by decide) rfl g_fl_RX9_71 dX9_shipFor_31 ?_
    intro r9
    refine V_iload_n (pc := 34) F dX9_shipFor_34 4 rfl ?_
    refine V_iald (pc := 35) F dX9_shipFor_35 ?_
    intro z10
    refine V_iconst (pc := 36) F (x := (-1 : Int32)) dX9_shipFor_36 (by decide) ?_
    refine V_icmp_ne (pc := 37) F 65 dX9_shipFor_37 (by decide) ?_ ?_
    · refine V_sub [1, 2, 3, 4, 0] (L' := [(0, vR x0), (1, vI x1), (2, vI x2), (3, vI x3), (4, vI z7)]) rfl ?_
      exact vB_X9_shipFor_65 F hm rc4 hrc4 x0 x1 x2 x3 z7 h8
    · refine V_aload_n (pc := 40) F dX9_shipFor_40 1 rfl ?_
      refine V_getR (pc := 41) F 9 25 (by decide) (by decide) rfl g_fl_RX9_65 dX9_shipFor_41 ?_
      intro r11
      refine V_iload_n (pc := 44) F dX9_shipFor_44 4 rfl ?_
      refine V_iald (pc := 45) F dX9_shipFor_45 ?_
      intro z12
      refine V_aload_n (pc := 46) F dX9_shipFor_46 1 rfl ?_
      refine V_getR (pc := 47) F 9 25 (by decide) (by decide) rfl g_fl_RX9_65 dX9_shipFor_47 ?_
      intro r13
      refine V_iload_n (pc := 50) F dX9_shipFor_50 2 rfl ?_
      refine V_iald (pc := 51) F dX9_shipFor_51 ?_
      intro z14
      refine V_icmp_ne (pc := 52) F 65 dX9_shipFor_52 (by decide) ?_ ?_
      · refine V_sub [1, 2, 3, 4, 0] (L' := [(0, vR x0), (1, vI x1), (2, vI x2), (3, vI x3), (4, vI z7)]) rfl ?_
        exact vB_X9_shipFor_65 F hm rc4 hrc4 x0 x1 x2 x3 z7 h8
      · refine V_iload (pc := 55) F dX9_shipFor_55 0 rfl ?_
        refine V_iconst (pc := 57) F (x := (2 : Int32)) dX9_shipFor_57 (by decide) ?_
        refine V_icmp_gt (pc := 58) F 65 dX9_shipFor_58 (by decide) ?_ ?_
        · refine V_sub [1, 2, 3, 4, 0] (L' := [(0, vR x0), (1, vI x1), (2, vI x2), (3, vI x3), (4, vI z7)]) rfl ?_
          exact vB_X9_shipFor_65 F hm rc4 hrc4 x0 x1 x2 x3 z7 h8
        · refine V_iconst (pc := 61) F (x := (1 : Int32)) dX9_shipFor_61 (by decide) ?_
          refine V_goto (pc := 62) F 66 dX9_shipFor_62 (by decide) ?_
          refine V_sub [1, 2, 3, 4, 0] (L' := [(0, vR x0), (1, vI x1), (2, vI x2), (3, vI x3), (4, vI z7)]) rfl ?_
          exact vB_X9_shipFor_66 F hm rc4 hrc4 x0 x1 x2 x3 z7 (1 : Int32) h8
theorem vL_X9_shipFor_4 {K : CT} (F : Fr K cX9_shipFor RX9 (some .int) [] 1 0) (hm : mxL K = 6) (n : Nat) : ∀ x0 x1 x2 x3 h, V K 4 [(0, vR x0), (1, vI x1), (2, vI x2), (3, vI x3)] [] h (L_X9_shipFor_4 n x0 x1 x2 x3 h) := by
  induction n with
  | zero => intros; exact V_none
  | succ n ih => intro x0 x1 x2 x3 h; exact vB_X9_shipFor_4 F hm _ ih x0 x1 x2 x3 h
theorem vM_X9_shipFor {K : CT} (F : Fr K cX9_shipFor RX9 (some .int) [] 1 0) (hm : mxL K = 6) (x0 : Option Nat) (x1 : Int32) (h : MH) : V K 0 [(0, vR x0), (1, vI x1)] [] h (M_X9_shipFor x0 x1 h) := by
  unfold M_X9_shipFor
  refine V_iconst (pc := 0) F (x := (-1 : Int32)) dX9_shipFor_0 (by decide) ?_
  refine V_istore_n (pc := 1) F [(2, vI (-1 : Int32)), (0, vR x0), (1, vI x1)] dX9_shipFor_1 (lt_mx hm (by decide)) rfl ?_
  refine V_iconst (pc := 2) F (x := (0 : Int32)) dX9_shipFor_2 (by decide) ?_
  refine V_istore_n (pc := 3) F [(3, vI (0 : Int32)), (2, vI (-1 : Int32)), (0, vR x0), (1, vI x1)] dX9_shipFor_3 (lt_mx hm (by decide)) rfl ?_
  refine V_sub [2, 3, 1, 0] (L' := [(0, vR x0), (1, vI x1), (2, vI (-1 : Int32)), (3, vI (0 : Int32))]) rfl ?_
  exact vL_X9_shipFor_4 F hm fuel x0 x1 (-1 : Int32) (0 : Int32) h
theorem C_X9_shipFor (x0 : Option Nat) (x1 : Int32) (h : MH) : CtrM yX9_shipFor (WSm yX9_shipFor cX9_shipFor 6 (some .int)) 1 [vR x0, vI x1] h (M_X9_shipFor x0 x1 h) :=
  CtrM_of (by decide) (Nat.le_of_ble_eq_true rfl) (fun K F hm hi => vM_X9_shipFor F hm x0 x1 h)
def B_X9_calibrate_87 (rc27 : Option Nat → Int32 → Int32 → MH → Res) (x0 : Option Nat) (x1 : Int32) (x2 : Int32) (h : MH) : Res := bnd (x2 + (-1)) fun z20 => rc27 x0 x1 z20 h
def B_X9_calibrate_57 (rc27 : Option Nat → Int32 → Int32 → MH → Res) (x0 : Option Nat) (x1 : Int32) (x2 : Int32) (s0 : Int32) (h : MH) : Res := if s0 = (-1 : Int32) then (B_X9_calibrate_87 rc27 x0 x1 x2 h) else (gfR h x0 9 16 fun r12 => gfR h x0 9 26 fun r13 => rdI h r13 20 x2 fun z14 => gfR h x0 9 26 fun r15 => rdI h r15 20 s0 fun z16 => bnd (z14 - z16) fun z17 => wrI h r12 20 x1 z17 fun h18 => pfI h18 x0 9 0 (0 : Int32) fun h19 => B_X9_calibrate_87 rc27 x0 x1 x2 h19)
def B_X9_calibrate_93 (x0 : Option Nat) (x1 : Int32) (h : MH) : Res := gfI h x0 9 0 fun z21 => if z21 ≤ 0 then (gfR h x0 9 16 fun r22 => rdI h r22 20 x1 fun z23 => rtI z23 h) else (rtI (0 : Int32) h)
def B_X9_calibrate_27 (rc27 : Option Nat → Int32 → Int32 → MH → Res) (x0 : Option Nat) (x1 : Int32) (x2 : Int32) (h : MH) : Res := if x2 < 0 then (B_X9_calibrate_93 x0 x1 h) else (gfI h x0 9 0 fun z7 => if z7 ≤ 0 then (B_X9_calibrate_93 x0 x1 h) else (gfR h x0 9 27 fun r8 => rdI h r8 20 x2 fun z9 => if z9 ≠ x1 then (B_X9_calibrate_57 rc27 x0 x1 x2 (-1 : Int32) h) else (chk h x0 9 <| calI (M_X9_shipFor x0 x2 h) fun z10 h11 => B_X9_calibrate_57 rc27 x0 x1 x2 z10 h11)))
def L_X9_calibrate_27 : Nat → Option Nat → Int32 → Int32 → MH → Res
  | 0 => fun _ _ _ _ => none
  | n + 1 => B_X9_calibrate_27 (L_X9_calibrate_27 n)
def M_X9_calibrate (x0 : Option Nat) (x1 : Int32) (h : MH) : Res := chk h x0 9 <| calI (M_X9_isFloat x0 x1 h) fun z1 h2 => if z1 ≠ 0 then (pfI h2 x0 9 0 (2 : Int32) fun h3 => gfI h3 x0 9 23 fun z4 => bnd (z4 - (1 : Int32)) fun z5 => L_X9_calibrate_27 fuel x0 x1 z5 h3) else (pfI h2 x0 9 0 (1 : Int32) fun h6 => rtI (0 : Int32) h6)
theorem vB_X9_calibrate_87 {K : CT} (F : Fr K cX9_calibrate RX9 (some .int) [] 2 0) (hm : mxL K = 4) (rc27 : Option Nat → Int32 → Int32 → MH → Res) (hrc27 : ∀ x0 x1 x2 h, V K 27 [(0, vR x0), (1, vI x1), (2, vI x2)] [] h (rc27 x0 x1 x2 h)) (x0 : Option Nat) (x1 : Int32) (x2 : Int32) (h : MH) : V K 87 [(0, vR x0), (1, vI x1), (2, vI x2)] [] h (B_X9_calibrate_87 rc27 x0 x1 x2 h) := by
  unfold B_X9_calibrate_87
  refine V_iinc (pc := 87) F (fun z20 => [(2, vI z20), (0, vR x0), (1, vI x1)]) dX9_calibrate_87 (lt_mx hm (by decide)) 2 rfl (dx := (-1 : Int32)) (by decide) (fun _ => rfl) ?_
  intro z20
  refine V_goto (pc := 90) F 27 dX9_calibrate_90 (by decide) ?_
  refine V_sub [1, 2, 0] (L' := [(0, vR x0), (1, vI x1), (2, vI z20)]) rfl ?_
  exact hrc27 x0 x1 z20 h
theorem vB_X9_calibrate_57 {K : CT} (F : Fr K cX9_calibrate RX9 (some .int) [] 2 0) (hm : mxL K = 4) (rc27 : Option Nat → Int32 → Int32 → MH → Res) (hrc27 : ∀ x0 x1 x2 h, V K 27 [(0, vR x0), (1, vI x1), (2, vI x2)] [] h (rc27 x0 x1 x2 h)) (x0 : Option Nat) (x1 : Int32) (x2 : Int32) (s0 : Int32) (h : MH) : V K 57 [(0, vR x0), (1, vI x1), (2, vI x2)] [vI s0] h (B_X9_calibrate_57 rc27 x0 x1 x2 s0 h) := by
  unfold B_X9_calibrate_57
  refine V_istore_n (pc := 57) F [(3, vI s0), (0, vR x0), (1, vI x1), (2, vI x2)] dX9_calibrate_57 (lt_mx hm (by decide)) rfl ?_
  refine V_iload_n (pc := 58) F dX9_calibrate_58 0 rfl ?_
  refine V_iconst (pc := 59) F (x := (-1 : Int32)) dX9_calibrate_59 (by decide) ?_
  refine V_icmp_eq (pc := 60) F 87 dX9_calibrate_60 (by decide) ?_ ?_
  · refine V_sub [1, 2, 3] (L' := [(0, vR x0), (1, vI x1), (2, vI x2)]) rfl ?_
    exact vB_X9_calibrate_87 F hm rc27 hrc27 x0 x1 x2 h
  · refine V_aload_n (pc := 63) F dX9_calibrate_63 1 rfl ?_
    refine V_getR (pc := 64) F 9 16 (by decide) (by decide) rfl g_fl_RX9_47 dX9_calibrate_64 ?_
    intro r12
    refine V_iload_n (pc := 67) F dX9_calibrate_67 2 rfl ?_
    refine V_aload_n (pc := 68) F dX9_calibrate_68 1 rfl ?_
    refine V_getR (pc := 69) F 9 26 (by decide) (by decide) rfl g_fl_RX9_68 dX9_calibrate_69 ?_
    intro r13
    refine V_iload_n (pc := 72) F dX9_calibrate_72 3 rfl ?_
    refine V_iald (pc := 73) F dX9_calibrate_73 ?_
    intro z14
    refine V_aload_n (pc := 74) F dX9_calibrate_74 1 rfl ?_
    refine V_getR (pc := 75) F 9 26 (by decide) (by decide) rfl g_fl_RX9_68 dX9_calibrate_75 ?_
    intro r15
    refine V_iload_n (pc := 78) F dX9_calibrate_78 0 rfl ?_
    refine V_iald (pc := 79) F dX9_calibrate_79 ?_
    intro z16
    refine V_isub (pc := 80) F dX9_calibrate_80 ?_
    intro z17
    refine V_iast (pc := 81) F dX9_calibrate_81 ?_
    intro h18
    refine V_aload_n (pc := 82) F dX9_calibrate_82 1 rfl ?_
    refine V_iconst (pc := 83) F (x := (0 : Int32)) dX9_calibrate_83 (by decide) ?_
    refine V_putI (pc := 84) F 9 0 (by decide) (by decide) rfl rfl g_fl_RX9_96 dX9_calibrate_84 ?_
    intro h19
    refine V_sub [1, 2, 3] (L' := [(0, vR x0), (1, vI x1), (2, vI x2)]) rfl ?_
    exact vB_X9_calibrate_87 F hm rc27 hrc27 x0 x1 x2 h19
theorem vB_X9_calibrate_93 {K : CT} (F : Fr K cX9_calibrate RX9 (some .int) [] 2 0) (hm : mxL K = 4) (x0 : Option Nat) (x1 : Int32) (h : MH) : V K 93 [(0, vR x0), (1, vI x1)] [] h (B_X9_calibrate_93 x0 x1 h) := by
  unfold B_X9_calibrate_93
  refine V_aload_n (pc := 93) F dX9_calibrate_93 0 rfl ?_
  refine V_getI (pc := 94) F 9 0 (by decide) (by decide) rfl g_fl_RX9_96 dX9_calibrate_94 ?_
  intro z21
  refine V_if_le (pc := 97) F 104 dX9_calibrate_97 (by decide) ?_ ?_
  · refine V_aload_n (pc := 104) F dX9_calibrate_104 0 rfl ?_
    refine V_getR (pc := 105) F 9 16 (by decide) (by decide) rfl g_fl_RX9_47 dX9_calibrate_105 ?_
    intro r22
    refine V_iload_n (pc := 108) F dX9_calibrate_108 1 rfl ?_
    refine V_iald (pc := 109) F dX9_calibrate_109 ?_
    intro z23
    exact V_iret (pc := 110) F (Or.inl rfl) dX9_calibrate_110
  · refine V_iconst (pc := 100) F (x := (0 : Int32)) dX9_calibrate_100 (by decide) ?_
    refine V_goto (pc := 101) F 110 dX9_calibrate_101 (by decide) ?_
    exact V_iret (pc := 110) F (Or.inl rfl) dX9_calibrate_110
theorem vB_X9_calibrate_27 {K : CT} (F : Fr K cX9_calibrate RX9 (some .int) [] 2 0) (hm : mxL K = 4) (rc27 : Option Nat → Int32 → Int32 → MH → Res) (hrc27 : ∀ x0 x1 x2 h, V K 27 [(0, vR x0), (1, vI x1), (2, vI x2)] [] h (rc27 x0 x1 x2 h)) (x0 : Option Nat) (x1 : Int32) (x2 : Int32) (h : MH) : V K 27 [(0, vR x0), (1, vI x1), (2, vI x2)] [] h (B_X9_calibrate_27 rc27 x0 x1 x2 h) := by
  unfold B_X9_calibrate_27
  refine V_iload_n (pc := 27) F dX9_calibrate_27 2 rfl ?_
  refine V_if_lt (pc := 28) F 93 dX9_calibrate_28 (by decide) ?_ ?_
  · refine V_sub [0, 1] (L' := [(0, vR x0), (1, vI x1)]) rfl ?_
    exact vB_X9_calibrate_93 F hm x0 x1 h
  · refine V_aload_n (pc := 31) F dX9_calibrate_31 0 rfl ?_
    refine V_getI (pc := 32) F 9 0 (by decide) (by decide) rfl g_fl_RX9_96 dX9_calibrate_32 ?_
    intro z7
    refine V_if_le (pc := 35) F 93 dX9_calibrate_35 (by decide) ?_ ?_
    · refine V_sub [0, 1] (L' := [(0, vR x0), (1, vI x1)]) rfl ?_
      exact vB_X9_calibrate_93 F hm x0 x1 h
    · refine V_aload_n (pc := 38) F dX9_calibrate_38 0 rfl ?_
      refine V_getR (pc := 39) F 9 27 (by decide) (by decide) rfl g_fl_RX9_71 dX9_calibrate_39 ?_
      intro r8
      refine V_iload_n (pc := 42) F dX9_calibrate_42 2 rfl ?_
      refine V_iald (pc := 43) F dX9_calibrate_43 ?_
      intro z9
      refine V_iload_n (pc := 44) F dX9_calibrate_44 1 rfl ?_
      refine V_icmp_ne (pc := 45) F 56 dX9_calibrate_45 (by decide) ?_ ?_
      · refine V_iconst (pc := 56) F (x := (-1 : Int32)) dX9_calibrate_56 (by decide) ?_
        exact vB_X9_calibrate_57 F hm rc27 hrc27 x0 x1 x2 (-1 : Int32) h
      · refine V_aload_n (pc := 48) F dX9_calibrate_48 0 rfl ?_
        refine V_iload_n (pc := 49) F dX9_calibrate_49 2 rfl ?_
        refine V_cVM (pc := 50) F 9 (by decide) (as := [vI x2]) (C_X9_shipFor x0 x2 h) w_X9_shipFor g_in_X9_shipFor g_se_X9_shipFor g_ml_RX9_167 (by decide) (rest := []) rfl rfl (Nat.le_of_ble_eq_true rfl) dX9_calibrate_50 (k_I fun z10 h11 => ?_)
        refine V_goto (pc := 53) F 57 dX9_calibrate_53 (by decide) ?_
        exact vB_X9_calibrate_57 F hm rc27 hrc27 x0 x1 x2 z10 h11
theorem vL_X9_calibrate_27 {K : CT} (F : Fr K cX9_calibrate RX9 (some .int) [] 2 0) (hm : mxL K = 4) (n : Nat) : ∀ x0 x1 x2 h, V K 27 [(0, vR x0), (1, vI x1), (2, vI x2)] [] h (L_X9_calibrate_27 n x0 x1 x2 h) := by
  induction n with
  | zero => intros; exact V_none
  | succ n ih => intro x0 x1 x2 h; exact vB_X9_calibrate_27 F hm _ ih x0 x1 x2 h
theorem vM_X9_calibrate {K : CT} (F : Fr K cX9_calibrate RX9 (some .int) [] 2 0) (hm : mxL K = 4) (x0 : Option Nat) (x1 : Int32) (h : MH) : V K 0 [(0, vR x0), (1, vI x1)] [] h (M_X9_calibrate x0 x1 h) := by
  unfold M_X9_calibrate
  refine V_aload_n (pc := 0) F dX9_calibrate_0 0 rfl ?_
  refine V_iload_n (pc := 1) F dX9_calibrate_1 1 rfl ?_
  refine V_cVM (pc := 2) F 9 (by decide) (as := [vI x1]) (C_X9_isFloat x0 x1 h) w_X9_isFloat g_in_X9_isFloat g_se_X9_isFloat g_ml_RX9_164 (by decide) (rest := []) rfl rfl (Nat.le_of_ble_eq_true rfl) dX9_calibrate_2 (k_I fun z1 h2 => ?_)
  refine V_if_ne (pc := 5) F 15 dX9_calibrate_5 (by decide) ?_ ?_
  · refine V_aload_n (pc := 15) F dX9_calibrate_15 0 rfl ?_
    refine V_iconst (pc := 16) F (x := (2 : Int32)) dX9_calibrate_16 (by decide) ?_
    refine V_putI (pc := 17) F 9 0 (by decide) (by decide) rfl rfl g_fl_RX9_96 dX9_calibrate_17 ?_
    intro h3
    refine V_aload_n (pc := 20) F dX9_calibrate_20 0 rfl ?_
    refine V_getI (pc := 21) F 9 23 (by decide) (by decide) rfl g_fl_RX9_106 dX9_calibrate_21 ?_
    intro z4
    refine V_iconst (pc := 24) F (x := (1 : Int32)) dX9_calibrate_24 (by decide) ?_
    refine V_isub (pc := 25) F dX9_calibrate_25 ?_
    intro z5
    refine V_istore_n (pc := 26) F [(2, vI z5), (0, vR x0), (1, vI x1)] dX9_calibrate_26 (lt_mx hm (by decide)) rfl ?_
    refine V_sub [1, 2, 0] (L' := [(0, vR x0), (1, vI x1), (2, vI z5)]) rfl ?_
    exact vL_X9_calibrate_27 F hm fuel x0 x1 z5 h3
  · refine V_aload_n (pc := 8) F dX9_calibrate_8 0 rfl ?_
    refine V_iconst (pc := 9) F (x := (1 : Int32)) dX9_calibrate_9 (by decide) ?_
    refine V_putI (pc := 10) F 9 0 (by decide) (by decide) rfl rfl g_fl_RX9_96 dX9_calibrate_10 ?_
    intro h6
    refine V_iconst (pc := 13) F (x := (0 : Int32)) dX9_calibrate_13 (by decide) ?_
    exact V_iret (pc := 14) F (Or.inl rfl) dX9_calibrate_14
theorem C_X9_calibrate (x0 : Option Nat) (x1 : Int32) (h : MH) : CtrM yX9_calibrate (WSm yX9_calibrate cX9_calibrate 4 (some .int)) 2 [vR x0, vI x1] h (M_X9_calibrate x0 x1 h) :=
  CtrM_of (by decide) (Nat.le_of_ble_eq_true rfl) (fun K F hm hi => vM_X9_calibrate F hm x0 x1 h)
def M_X9_isReading (x0 : Option Nat) (x1 : Int32) (h : MH) : Res := gfI h x0 9 23 fun z1 => bnd (z1 - (1 : Int32)) fun z2 => calI (M_X9_in x1 (0 : Int32) z2 h) fun z3 h4 => rtZ z3 h4
theorem vM_X9_isReading {K : CT} (F : Fr K cX9_isReading RX9 (some .boolean) [] 1 0) (hm : mxL K = 2) (x0 : Option Nat) (x1 : Int32) (h : MH) : V K 0 [(0, vR x0), (1, vI x1)] [] h (M_X9_isReading x0 x1 h) := by
  unfold M_X9_isReading
  refine V_iload_n (pc := 0) F dX9_isReading_0 1 rfl ?_
  refine V_iconst (pc := 1) F (x := (0 : Int32)) dX9_isReading_1 (by decide) ?_
  refine V_aload_n (pc := 2) F dX9_isReading_2 0 rfl ?_
  refine V_getI (pc := 3) F 9 23 (by decide) (by decide) rfl g_fl_RX9_106 dX9_isReading_3 ?_
  intro z1
  refine V_iconst (pc := 6) F (x := (1 : Int32)) dX9_isReading_6 (by decide) ?_
  refine V_isub (pc := 7) F dX9_isReading_7 ?_
  intro z2
  refine V_cSM (pc := 8) F (as := [vI x1, vI (0 : Int32), vI z2]) (C_X9_in x1 (0 : Int32) z2 h) w_X9_in g_st_X9_in g_ml_RX9_99 (by decide) (rest := []) rfl rfl (Nat.le_of_ble_eq_true rfl) dX9_isReading_8 (k_I fun z3 h4 => ?_)
  exact V_zret (pc := 11) F (Or.inl rfl) dX9_isReading_11
theorem C_X9_isReading (x0 : Option Nat) (x1 : Int32) (h : MH) : CtrM yX9_isReading (WSm yX9_isReading cX9_isReading 2 (some .boolean)) 1 [vR x0, vI x1] h (M_X9_isReading x0 x1 h) :=
  CtrM_of (by decide) (Nat.le_of_ble_eq_true rfl) (fun K F hm hi => vM_X9_isReading F hm x0 x1 h)
def M_X9_corrected (x0 : Option Nat) (x1 : Int32) (h : MH) : Res := gfR h x0 9 27 fun r1 => rdI h r1 20 x1 fun z2 => if z2 ≠ (-1 : Int32) then (gfR h x0 9 26 fun r3 => rdI h r3 20 x1 fun z4 => gfR h x0 9 16 fun r5 => gfR h x0 9 27 fun r6 => rdI h r6 20 x1 fun z7 => rdI h r5 20 z7 fun z8 => bnd (z4 - z8) fun z9 => rtI z9 h) else (gfR h x0 9 26 fun r10 => rdI h r10 20 x1 fun z11 => rtI z11 h)
theorem vM_X9_corrected {K : CT} (F : Fr K cX9_corrected RX9 (some .int) [] 0 0) (hm : mxL K = 2) (x0 : Option Nat) (x1 : Int32) (h : MH) : V K 0 [(0, vR x0), (1, vI x1)] [] h (M_X9_corrected x0 x1 h) := by
  unfold M_X9_corrected
  refine V_aload_n (pc := 0) F dX9_corrected_0 0 rfl ?_
  refine V_getR (pc := 1) F 9 27 (by decide) (by decide) rfl g_fl_RX9_71 dX9_corrected_1 ?_
  intro r1
  refine V_iload_n (pc := 4) F dX9_corrected_4 1 rfl ?_
  refine V_iald (pc := 5) F dX9_corrected_5 ?_
  intro z2
  refine V_iconst (pc := 6) F (x := (-1 : Int32)) dX9_corrected_6 (by decide) ?_
  refine V_icmp_ne (pc := 7) F 19 dX9_corrected_7 (by decide) ?_ ?_
  · refine V_aload_n (pc := 19) F dX9_corrected_19 0 rfl ?_
    refine V_getR (pc := 20) F 9 26 (by decide) (by decide) rfl g_fl_RX9_68 dX9_corrected_20 ?_
    intro r3
    refine V_iload_n (pc := 23) F dX9_corrected_23 1 rfl ?_
    refine V_iald (pc := 24) F dX9_corrected_24 ?_
    intro z4
    refine V_aload_n (pc := 25) F dX9_corrected_25 0 rfl ?_
    refine V_getR (pc := 26) F 9 16 (by decide) (by decide) rfl g_fl_RX9_47 dX9_corrected_26 ?_
    intro r5
    refine V_aload_n (pc := 29) F dX9_corrected_29 0 rfl ?_
    refine V_getR (pc := 30) F 9 27 (by decide) (by decide) rfl g_fl_RX9_71 dX9_corrected_30 ?_
    intro r6
    refine V_iload_n (pc := 33) F dX9_corrected_33 1 rfl ?_
    refine V_iald (pc := 34) F dX9_corrected_34 ?_
    intro z7
    refine V_iald (pc := 35) F dX9_corrected_35 ?_
    intro z8
    refine V_isub (pc := 36) F dX9_corrected_36 ?_
    intro z9
    exact V_iret (pc := 37) F (Or.inl rfl) dX9_corrected_37
  · refine V_aload_n (pc := 10) F dX9_corrected_10 0 rfl ?_
    refine V_getR (pc := 11) F 9 26 (by decide) (by decide) rfl g_fl_RX9_68 dX9_corrected_11 ?_
    intro r10
    refine V_iload_n (pc := 14) F dX9_corrected_14 1 rfl ?_
    refine V_iald (pc := 15) F dX9_corrected_15 ?_
    intro z11
    refine V_goto (pc := 16) F 37 dX9_corrected_16 (by decide) ?_
    exact V_iret (pc := 37) F (Or.inl rfl) dX9_corrected_37
theorem C_X9_corrected (x0 : Option Nat) (x1 : Int32) (h : MH) : CtrM yX9_corrected (WSm yX9_corrected cX9_corrected 2 (some .int)) 0 [vR x0, vI x1] h (M_X9_corrected x0 x1 h) :=
  CtrM_of (by decide) (Nat.le_of_ble_eq_true rfl) (fun K F hm hi => vM_X9_corrected F hm x0 x1 h)
def B_X9_flagOf_20 (x0 : Option Nat) (x1 : Int32) (h : MH) : Res := gfR h x0 9 28 fun r5 => rdI h r5 20 x1 fun z6 => if z6 = (-1 : Int32) then (rtI (0 : Int32) h) else (gfR h x0 9 28 fun r7 => rdI h r7 20 x1 fun z8 => rtI z8 h)
def B_X9_flagOf_119 (rc48 : Option Nat → Int32 → Int32 → Int32 → Int32 → MH → Res) (x0 : Option Nat) (x1 : Int32) (x2 : Int32) (x4 : Int32) (s0 : Int32) (h : MH) : Res := bnd (x4 + (1)) fun z30 => rc48 x0 x1 x2 s0 z30 h
def B_X9_flagOf_118 (rc48 : Option Nat → Int32 → Int32 → Int32 → Int32 → MH → Res) (x0 : Option Nat) (x1 : Int32) (x2 : Int32) (x3 : Int32) (x4 : Int32) (h : MH) : Res := B_X9_flagOf_119 rc48 x0 x1 x2 x4 x3 h
def B_X9_flagOf_85 (rc48 : Option Nat → Int32 → Int32 → Int32 → Int32 → MH → Res) (x0 : Option Nat) (x1 : Int32) (x3 : Int32) (x4 : Int32) (s0 : Int32) (h : MH) : Res := if x4 ≤ x1 then (B_X9_flagOf_118 rc48 x0 x1 s0 x3 x4 h) else (if x3 ≠ (-1 : Int32) then (B_X9_flagOf_118 rc48 x0 x1 s0 x3 x4 h) else (gfR h x0 9 27 fun r26 => rdI h r26 20 x4 fun z27 => gfR h x0 9 27 fun r28 => rdI h r28 20 x1 fun z29 => if z27 ≠ z29 then (B_X9_flagOf_118 rc48 x0 x1 s0 x3 x4 h) else (B_X9_flagOf_119 rc48 x0 x1 s0 x4 x4 h)))
def B_X9_flagOf_84 (rc48 : Option Nat → Int32 → Int32 → Int32 → Int32 → MH → Res) (x0 : Option Nat) (x1 : Int32) (x2 : Int32) (x3 : Int32) (x4 : Int32) (h : MH) : Res := B_X9_flagOf_85 rc48 x0 x1 x3 x4 x2 h
def B_X9_flagOf_202 (h : MH) : Res := rtI (1 : Int32) h
def B_X9_flagOf_182 (x0 : Option Nat) (x4 : Int32) (x5 : Int32) (h : MH) : Res := gfI h x0 9 29 fun z31 => bnd (-z31) fun z32 => if z32 ≤ x4 then (rtI (0 : Int32) h) else (gfI h x0 9 29 fun z33 => bnd (-z33) fun z34 => if z34 ≤ x5 then (rtI (0 : Int32) h) else (B_X9_flagOf_202 h))
def B_X9_flagOf_48 (rc48 : Option Nat → Int32 → Int32 → Int32 → Int32 → MH → Res) (x0 : Option Nat) (x1 : Int32) (x2 : Int32) (x3 : Int32) (x4 : Int32) (h : MH) : Res := gfI h x0 9 23 fun z9 => if z9 ≤ x4 then (if x2 = (-1 : Int32) then (rtI (0 : Int32) h) else (if x3 ≠ (-1 : Int32) then (chk h x0 9 <| calI (M_X9_corrected x0 x1 h) fun z10 h11 => chk h11 x0 9 <| calI (M_X9_corrected x0 x2 h11) fun z12 h13 => bnd (z10 - z12) fun z14 => chk h13 x0 9 <| calI (M_X9_corrected x0 x1 h13) fun z15 h16 => chk h16 x0 9 <| calI (M_X9_corrected x0 x3 h16) fun z17 h18 => bnd (z15 - z17) fun z19 => gfI h18 x0 9 29 fun z20 => if z14 ≤ z20 then (B_X9_flagOf_182 x0 z14 z19 h18) else (gfI h18 x0 9 29 fun z21 => if z21 < z19 then (B_X9_flagOf_202 h18) else (B_X9_flagOf_182 x0 z14 z19 h18))) else (rtI (0 : Int32) h))) else (if x1 ≤ x4 then (B_X9_flagOf_84 rc48 x0 x1 x2 x3 x4 h) else (gfR h x0 9 27 fun r22 => rdI h r22 20 x4 fun z23 => gfR h x0 9 27 fun r24 => rdI h r24 20 x1 fun z25 => if z23 ≠ z25 then (B_X9_flagOf_84 rc48 x0 x1 x2 x3 x4 h) else (B_X9_flagOf_85 rc48 x0 x1 x3 x4 x4 h)))
def L_X9_flagOf_48 : Nat → Option Nat → Int32 → Int32 → Int32 → Int32 → MH → Res
  | 0 => fun _ _ _ _ _ _ => none
  | n + 1 => B_X9_flagOf_48 (L_X9_flagOf_48 n)
def M_X9_flagOf (x0 : Option Nat) (x1 : Int32) (h : MH) : Res := gfR h x0 9 28 fun r1 => rdI h r1 20 x1 fun z2 => if z2 ≠ (-1 : Int32) then (B_X9_flagOf_20 x0 x1 h) else (gfR h x0 9 27 fun r3 => rdI h r3 20 x1 fun z4 => if z4 ≠ (-1 : Int32) then (L_X9_flagOf_48 fuel x0 x1 (-1 : Int32) (-1 : Int32) (0 : Int32) h) else (B_X9_flagOf_20 x0 x1 h))
theorem vB_X9_flagOf_20 {K : CT} (F : Fr K cX9_flagOf RX9 (some .int) [] 1 0) (hm : mxL K = 6) (x0 : Option Nat) (x1 : Int32) (h : MH) : V K 20 [(0, vR x0), (1, vI x1)] [] h (B_X9_flagOf_20 x0 x1 h) := by
  unfold B_X9_flagOf_20
  refine V_aload_n (pc := 20) F dX9_flagOf_20 0 rfl ?_
  refine V_getR (pc := 21) F 9 28 (by decide) (by decide) rfl g_fl_RX9_74 dX9_flagOf_21 ?_
  intro r5
  refine V_iload_n (pc := 24) F dX9_flagOf_24 1 rfl ?_
  refine V_iald (pc := 25) F dX9_flagOf_25 ?_
  intro z6
  refine V_iconst (pc := 26) F (x := (-1 : Int32)) dX9_flagOf_26 (by decide) ?_
  refine V_icmp_eq (pc := 27) F 39 dX9_flagOf_27 (by decide) ?_ ?_
  · refine V_iconst (pc := 39) F (x := (0 : Int32)) dX9_flagOf_39 (by decide) ?_
    exact V_iret (pc := 40) F (Or.inl rfl) dX9_flagOf_40
  · refine V_aload_n (pc := 30) F dX9_flagOf_30 0 rfl ?_
    refine V_getR (pc := 31) F 9 28 (by decide) (by decide) rfl g_fl_RX9_74 dX9_flagOf_31 ?_
    intro r7
    refine V_iload_n (pc := 34) F dX9_flagOf_34 1 rfl ?_
    refine V_iald (pc := 35) F dX9_flagOf_35 ?_
    intro z8
    refine V_goto (pc := 36) F 40 dX9_flagOf_36 (by decide) ?_
    exact V_iret (pc := 40) F (Or.inl rfl) dX9_flagOf_40
theorem vB_X9_flagOf_119 {K : CT} (F : Fr K cX9_flagOf RX9 (some .int) [] 1 0) (hm : mxL K = 6) (rc48 : Option Nat → Int32 → Int32 → Int32 → Int32 → MH → Res) (hrc48 : ∀ x0 x1 x2 x3 x4 h, V K 48 [(0, vR x0), (1, vI x1), (2, vI x2), (3, vI x3), (4, vI x4)] [] h (rc48 x0 x1 x2 x3 x4 h)) (x0 : Option Nat) (x1 : Int32) (x2 : Int32) (x4 : Int32) (s0 : Int32) (h : MH) : V K 119 [(0, vR x0), (1, vI x1), (2, vI x2), (4, vI x4)] [vI s0] h (B_X9_flagOf_119 rc48 x0 x1 x2 x4 s0 h) := by
  unfold B_X9_flagOf_119
  refine V_istore_n (pc := 119) F [(3, vI s0), (0, vR x0), (1, vI x1), (2, vI x2), (4, vI x4)] dX9_flagOf_119 (lt_mx hm (by decide)) rfl ?_
  refine V_iinc (pc := 120) F (fun z30 => [(4, vI z30), (3, vI s0), (0, vR x0), (1, vI x1), (2, vI x2)]) dX9_flagOf_120 (lt_mx hm (by decide)) 4 rfl (dx := (1 : Int32)) (by decide) (fun _ => rfl) ?_
  intro z30
  refine V_goto (pc := 123) F 48 dX9_flagOf_123 (by decide) ?_
  refine V_sub [2, 3, 4, 1, 0] (L' := [(0, vR x0), (1, vI x1), (2, vI x2), (3, vI s0), (4, vI z30)]) rfl ?_
  exact hrc48 x0 x1 x2 s0 z30 h
theorem vB_X9_flagOf_118 {K : CT} (F : Fr K cX9_flagOf RX9 (some .int) [] 1 0) (hm : mxL K = 6) (rc48 : Option Nat → Int32 → Int32 → Int32 → Int32 → MH → Res) (hrc48 : ∀ x0 x1 x2 x3 x4 h, V K 48 [(0, vR x0), (1, vI x1), (2, vI x2), (3, vI x3), (4, vI x4)] [] h (rc48 x0 x1 x2 x3 x4 h)) (x0 : Option Nat) (x1 : Int32) (x2 : Int32) (x3 : Int32) (x4 : Int32) (h : MH) : V K 118 [(0, vR x0), (1, vI x1), (2, vI x2), (3, vI x3), (4, vI x4)] [] h (B_X9_flagOf_118 rc48 x0 x1 x2 x3 x4 h) := by
  unfold B_X9_flagOf_118
  refine V_iload_n (pc := 118) F dX9_flagOf_118 3 rfl ?_
  refine V_sub [0, 1, 2, 4] (L' := [(0, vR x0), (1, vI x1), (2, vI x2), (4, vI x4)]) rfl ?_
  exact vB_X9_flagOf_119 F hm rc48 hrc48 x0 x1 x2 x4 x3 h
theorem vB_X9_flagOf_85 {K : CT} (F : Fr K cX9_flagOf RX9 (some .int) [] 1 0) (hm : mxL K = 6) (rc48 : Option Nat → Int32 → Int32 → Int32 → Int32 → MH → Res) (hrc48 : ∀ x0 x1 x2 x3 x4 h, V K 48 [(0, vR x0), (1, vI x1), (2, vI x2), (3, vI x3), (4, vI x4)] [] h (rc48 x0 x1 x2 x3 x4 h)) (x0 : Option Nat) (x1 : Int32) (x3 : Int32) (x4 : Int32) (s0 : Int32) (h : MH) : V K 85 [(0, vR x0), (1, vI x1), (3, vI x3), (4, vI x4)] [vI s0] h (B_X9_flagOf_85 rc48 x0 x1 x3 x4 s0 h) := by
  unfold B_X9_flagOf_85
  refine V_istore_n (pc := 85) F [(2, vI s0), (0, vR x0), (1, vI x1), (3, vI x3), (4, vI x4)] dX9_flagOf_85 (lt_mx hm (by decide)) rfl ?_
  refine V_iload (pc := 86) F dX9_flagOf_86 4 rfl ?_
  refine V_iload_n (pc := 88) F dX9_flagOf_88 2 rfl ?_
  refine V_icmp_le (pc := 89) F 118 dX9_flagOf_89 (by decide) ?_ ?_
  · refine V_sub [1, 2, 0, 3, 4] (L' := [(0, vR x0), (1, vI x1), (2, vI s0), (3, vI x3), (4, vI x4)]) rfl ?_
    exact vB_X9_flagOf_118 F hm rc48 hrc48 x0 x1 s0 x3 x4 h
  · refine V_iload_n (pc := 92) F dX9_flagOf_92 3 rfl ?_
    refine V_iconst (pc := 93) F (x := (-1 : Int32)) dX9_flagOf_93 (by decide) ?_
    refine V_icmp_ne (pc := 94) F 118 dX9_flagOf_94 (by decide) ?_ ?_
    · refine V_sub [1, 2, 0, 3, 4] (L' := [(0, vR x0), (1, vI x1), (2, vI s0), (3, vI x3), (4, vI x4)]) rfl ?_
      exact vB_X9_flagOf_118 F hm rc48 hrc48 x0 x1 s0 x3 x4 h
    · refine V_aload_n (pc := 97) F dX9_flagOf_97 1 rfl ?_
      refine V_getR (pc := 98) F 9 27 (by decide) (by decide) rfl g_fl_RX9_71 dX9_flagOf_98 ?_
      intro r26
      refine V_iload (pc := 101) F dX9_flagOf_101 4 rfl ?_
      refine V_iald (pc := 103) F dX9_flagOf_103 ?_
      intro z27
      refine V_aload_n (pc := 104) F dX9_flagOf_104 1 rfl ?_
      refine V_getR (pc := 105) F 9 27 (by decide) (by decide) rfl g_fl_RX9_71 dX9_flagOf_105 ?_
      intro r28
      refine V_iload_n (pc := 108) F dX9_flagOf_108 2 rfl ?_
      refine V_iald (pc := 109) F dX9_flagOf_109 ?_
      intro z29
      refine V_icmp_ne (pc := 110) F 118 dX9_flagOf_110 (by decide) ?_ ?_
      · refine V_sub [1, 2, 0, 3, 4] (L' := [(0, vR x0), (1, vI x1), (2, vI s0), (3, vI x3), (4, vI x4)]) rfl ?_
        exact vB_X9_flagOf_118 F hm rc48 hrc48 x0 x1 s0 x3 x4 h
      · refine V_iload (pc := 113) F dX9_flagOf_113 4 rfl ?_
        refine V_goto (pc := 115) F 119 dX9_flagOf_115 (by decide) ?_
        refine V_sub [1, 2, 0, 4] (L' := [(0, vR x0), (1, vI x1), (2, vI s0), (4, vI x4)]) rfl ?_
        exact vB_X9_flagOf_119 F hm rc48 hrc48 x0 x1 s0 x4 x4 h
theorem vB_X9_flagOf_84 {K : CT} (F : Fr K cX9_flagOf RX9 (some .int) [] 1 0) (hm : mxL K = 6) (rc48 : Option Nat → Int32 → Int32 → Int32 → Int32 → MH → Res) (hrc48 : ∀ x0 x1 x2 x3 x4 h, V K 48 [(0, vR x0), (1, vI x1), (2, vI x2), (3, vI x3), (4, vI x4)] [] h (rc48 x0 x1 x2 x3 x4 h)) (x0 : Option Nat) (x1 : Int32) (x2 : Int32) (x3 : Int32) (x4 : Int32) (h : MH) : V K 84 [(0, vR x0), (1, vI x1), (2, vI x2), (3, vI x3), (4, vI x4)] [] h (B_X9_flagOf_84 rc48 x0 x1 x2 x3 x4 h) := by
  unfold B_X9_flagOf_84
  refine V_iload_n (pc := 84) F dX9_flagOf_84 2 rfl ?_
  refine V_sub [0, 1, 3, 4] (L' := [(0, vR x0), (1, vI x1), (3, vI x3), (4, vI x4)]) rfl ?_
  exact vB_X9_flagOf_85 F hm rc48 hrc48 x0 x1 x3 x4 x2 h
theorem vB_X9_flagOf_202 {K : CT} (F : Fr K cX9_flagOf RX9 (some .int) [] 1 0) (hm : mxL K = 6) (h : MH) : V K 202 [] [] h (B_X9_flagOf_202 h) := by
  unfold B_X9_flagOf_202
  refine V_iconst (pc := 202) F (x := (1 : Int32)) dX9_flagOf_202 (by decide) ?_
  refine V_goto (pc := 203) F 207 dX9_flagOf_203 (by decide) ?_
  exact V_iret (pc := 207) F (Or.inl rfl) dX9_flagOf_207
theorem vB_X9_flagOf_182 {K : CT} (F : Fr K cX9_flagOf RX9 (some .int) [] 1 0) (hm : mxL K = 6) (x0 : Option Nat) (x4 : Int32) (x5 : Int32) (h : MH) : V K 182 [(0, vR x0), (4, vI x4), (5, vI x5)] [] h (B_X9_flagOf_182 x0 x4 x5 h) := by
  unfold B_X9_flagOf_182
  refine V_iload (pc := 182) F dX9_flagOf_182 1 rfl ?_
  refine V_aload_n (pc := 184) F dX9_flagOf_184 0 rfl ?_
  refine V_getI (pc := 185) F 9 29 (by decide) (by decide) rfl g_fl_RX9_77 dX9_flagOf_185 ?_
  intro z31
  refine V_ineg (pc := 188) F dX9_flagOf_188 ?_
  intro z32
  refine V_icmp_ge (pc := 189) F 206 dX9_flagOf_189 (by decide) ?_ ?_
  · refine V_iconst (pc := 206) F (x := (0 : Int32)) dX9_flagOf_206 (by decide) ?_
    exact V_iret (pc := 207) F (Or.inl rfl) dX9_flagOf_207
  · refine V_iload (pc := 192) F dX9_flagOf_192 2 rfl ?_
    refine V_aload_n (pc := 194) F dX9_flagOf_194 0 rfl ?_
    refine V_getI (pc := 195) F 9 29 (by decide) (by decide) rfl g_fl_RX9_77 dX9_flagOf_195 ?_
    intro z33
    refine V_ineg (pc := 198) F dX9_flagOf_198 ?_
    intro z34
    refine V_icmp_ge (pc := 199) F 206 dX9_flagOf_199 (by decide) ?_ ?_
    · refine V_iconst (pc := 206) F (x := (0 : Int32)) dX9_flagOf_206 (by decide) ?_
      exact V_iret (pc := 207) F (Or.inl rfl) dX9_flagOf_207
    · refine V_sub [] (L' := []) rfl ?_
      exact vB_X9_flagOf_202 F hm h
theorem vB_X9_flagOf_48 {K : CT} (F : Fr K cX9_flagOf RX9 (some .int) [] 1 0) (hm : mxL K = 6) (rc48 : Option Nat → Int32 → Int32 → Int32 → Int32 → MH → Res) (hrc48 : ∀ x0 x1 x2 x3 x4 h, V K 48 [(0, vR x0), (1, vI x1), (2, vI x2), (3, vI x3), (4, vI x4)] [] h (rc48 x0 x1 x2 x3 x4 h)) (x0 : Option Nat) (x1 : Int32) (x2 : Int32) (x3 : Int32) (x4 : Int32) (h : MH) : V K 48 [(0, vR x0), (1, vI x1), (2, vI x2), (3, vI x3), (4, vI x4)] [] h (B_X9_flagOf_48 rc48 x0 x1 x2 x3 x4 h) := by
  unfold B_X9_flagOf_48
  refine V_iload (pc := 48) F dX9_flagOf_48 4 rfl ?_
  refine V_aload_n (pc := 50) F dX9_flagOf_50 0 rfl ?_
  refine V_getI (pc := 51) F 9 23 (by decide) (by decide) rfl g_fl_RX9_106 dX9_flagOf_51 ?_
  intro z9
  refine V_icmp_ge (pc := 54) F 126 dX9_flagOf_54 (by decide) ?_ ?_
  · refine V_iload_n (pc := 126) F dX9_flagOf_126 2 rfl ?_
    refine V_iconst (pc := 127) F (x := (-1 : Int32)) dX9_flagOf_127 (by decide) ?_
    refine V_icmp_eq (pc := 128) F 136 dX9_flagOf_128 (by decide) ?_ ?_
    · refine V_iconst (pc := 136) F (x := (0 : Int32)) dX9_flagOf_136 (by decide) ?_
      exact V_iret (pc := 137) F (Or.inl rfl) dX9_flagOf_137
    · refine V_iload_n (pc := 131) F dX9_flagOf_131 3 rfl ?_
      refine V_iconst (pc := 132) F (x := (-1 : Int32)) dX9_flagOf_132 (by decide) ?_
      refine V_icmp_ne (pc := 133) F 138 dX9_flagOf_133 (by decide) ?_ ?_
      · refine V_aload_n (pc := 138) F dX9_flagOf_138 0 rfl ?_
        refine V_iload_n (pc := 139) F dX9_flagOf_139 1 rfl ?_
        refine V_cVM (pc := 140) F 9 (by decide) (as := [vI x1]) (C_X9_corrected x0 x1 h) w_X9_corrected g_in_X9_corrected g_se_X9_corrected g_ml_RX9_170 (by decide) (rest := []) rfl rfl (Nat.le_of_ble_eq_true rfl) dX9_flagOf_140 (k_I fun z10 h11 => ?_)
        refine V_aload_n (pc := 143) F dX9_flagOf_143 0 rfl ?_
        refine V_iload_n (pc := 144) F dX9_flagOf_144 2 rfl ?_
        refine V_cVM (pc := 145) F 9 (by decide) (as := [vI x2]) (C_X9_corrected x0 x2 h11) w_X9_corrected g_in_X9_corrected g_se_X9_corrected g_ml_RX9_170 (by decide) (rest := [vI z10]) rfl rfl (Nat.le_of_ble_eq_true rfl) dX9_flagOf_145 (k_I fun z12 h13 => ?_)
        refine V_isub (pc := 148) F dX9_flagOf_148 ?_
        intro z14
        refine V_istore (pc := 149) F [(4, vI z14), (0, vR x0), (1, vI x1), (2, vI x2), (3, vI x3)] dX9_flagOf_149 (lt_mx hm (by decide)) rfl ?_
        refine V_aload_n (pc := 151) F dX9_flagOf_151 1 rfl ?_
        refine V_iload_n (pc := 152) F dX9_flagOf_152 2 rfl ?_
        refine V_cVM (pc := 153) F 9 (by decide) (as := [vI x1]) (C_X9_corrected x0 x1 h13) w_X9_corrected g_in_X9_corrected g_se_X9_corrected g_ml_RX9_170 (by decide) (rest := []) rfl rfl (Nat.le_of_ble_eq_true rfl) dX9_flagOf_153 (k_I fun z15 h16 => ?_)
        refine V_aload_n (pc := 156) F dX9_flagOf_156 1 rfl ?_
        refine V_iload_n (pc := 157) F dX9_flagOf_157 4 rfl ?_
        refine V_cVM (pc := 158) F 9 (by decide) (as := [vI x3]) (C_X9_corrected x0 x3 h16) w_X9_corrected g_in_X9_corrected g_se_X9_corrected g_ml_RX9_170 (by decide) (rest := [vI z15]) rfl rfl (Nat.le_of_ble_eq_true rfl) dX9_flagOf_158 (k_I fun z17 h18 => ?_)
        refine V_isub (pc := 161) F dX9_flagOf_161 ?_
        intro z19
        refine V_istore (pc := 162) F [(5, vI z19), (4, vI z14), (0, vR x0), (1, vI x1), (2, vI x2), (3, vI x3)] dX9_flagOf_162 (lt_mx hm (by decide)) rfl ?_
        refine V_iload (pc := 164) F dX9_flagOf_164 1 rfl ?_
        refine V_aload_n (pc := 166) F dX9_flagOf_166 2 rfl ?_
        refine V_getI (pc := 167) F 9 29 (by decide) (by decide) rfl g_fl_RX9_77 dX9_flagOf_167 ?_
        intro z20
        refine V_icmp_le (pc := 170) F 182 dX9_flagOf_170 (by decide) ?_ ?_
        · refine V_sub [2, 1, 0] (L' := [(0, vR x0), (4, vI z14), (5, vI z19)]) rfl ?_
          exact vB_X9_flagOf_182 F hm x0 z14 z19 h18
        · refine V_iload (pc := 173) F dX9_flagOf_173 0 rfl ?_
          refine V_aload_n (pc := 175) F dX9_flagOf_175 2 rfl ?_
          refine V_getI (pc := 176) F 9 29 (by decide) (by decide) rfl g_fl_RX9_77 dX9_flagOf_176 ?_
          intro z21
          refine V_icmp_gt (pc := 179) F 202 dX9_flagOf_179 (by decide) ?_ ?_
          · refine V_sub [] (L' := []) rfl ?_
            exact vB_X9_flagOf_202 F hm h18
          · refine V_sub [2, 1, 0] (L' := [(0, vR x0), (4, vI z14), (5, vI z19)]) rfl ?_
            exact vB_X9_flagOf_182 F hm x0 z14 z19 h18
      · refine V_iconst (pc := 136) F (x := (0 : Int32)) dX9_flagOf_136 (by decide) ?_
        exact V_iret (pc := 137) F (Or.inl rfl) dX9_flagOf_137
  · refine V_iload (pc := 57) F dX9_flagOf_57 4 rfl ?_
    refine V_iload_n (pc := 59) F dX9_flagOf_59 1 rfl ?_
    refine V_icmp_ge (pc := 60) F 84 dX9_flagOf_60 (by decide) ?_ ?_
    · exact vB_X9_flagOf_84 F hm rc48 hrc48 x0 x1 x2 x3 x4 h
    · refine V_aload_n (pc := 63) F dX9_flagOf_63 0 rfl ?_
      refine V_getR (pc := 64) F 9 27 (by decide) (by decide) rfl g_fl_RX9_71 dX9_flagOf_64 ?_
      intro r22
      refine V_iload (pc := 67) F dX9_flagOf_67 4 rfl ?_
      refine V_iald (pc := 69) F dX9_flagOf_69 ?_
      intro z23
      refine V_aload_n (pc := 70) F dX9_flagOf_70 0 rfl ?_
      refine V_getR (pc := 71) F 9 27 (by decide) (by decide) rfl g_fl_RX9_71 dX9_flagOf_71 ?_
      intro r24
      refine V_iload_n (pc := 74) F dX9_flagOf_74 1 rfl ?_
      refine V_iald (pc := 75) F dX9_flagOf_75 ?_
      intro z25
      refine V_icmp_ne (pc := 76) F 84 dX9_flagOf_76 (by decide) ?_ ?_
      · exact vB_X9_flagOf_84 F hm rc48 hrc48 x0 x1 x2 x3 x4 h
      · refine V_iload (pc := 79) F dX9_flagOf_79 4 rfl ?_
        refine V_goto (pc := 81) F 85 dX9_flagOf_81 (by decide) ?_
        refine V_sub [0, 1, 3, 4] (L' := [(0, vR x0), (1, vI x1), (3, vI x3), (4, vI x4)]) rfl ?_
        exact vB_X9_flagOf_85 F hm rc48 hrc48 x0 x1 x3 x4 x4 h
theorem vL_X9_flagOf_48 {K : CT} (F : Fr K cX9_flagOf RX9 (some .int) [] 1 0) (hm : mxL K = 6) (n : Nat) : ∀ x0 x1 x2 x3 x4 h, V K 48 [(0, vR x0), (1, vI x1), (2, vI x2), (3, vI x3), (4, vI x4)] [] h (L_X9_flagOf_48 n x0 x1 x2 x3 x4 h) := by
  induction n with
  | zero => intros; exact V_none
  | succ n ih => intro x0 x1 x2 x3 x4 h; exact vB_X9_flagOf_48 F hm _ ih x0 x1 x2 x3 x4 h
theorem vM_X9_flagOf {K : CT} (F : Fr K cX9_flagOf RX9 (some .int) [] 1 0) (hm : mxL K = 6) (x0 : Option Nat) (x1 : Int32) (h : MH) : V K 0 [(0, vR x0), (1, vI x1)] [] h (M_X9_flagOf x0 x1 h) := by
  unfold M_X9_flagOf
  refine V_aload_n (pc := 0) F dX9_flagOf_0 0 rfl ?_
  refine V_getR (pc := 1) F 9 28 (by decide) (by decide) rfl g_fl_RX9_74 dX9_flagOf_1 ?_
  intro r1
  refine V_iload_n (pc := 4) F dX9_flagOf_4 1 rfl ?_
  refine V_iald (pc := 5) F dX9_flagOf_5 ?_
  intro z2
  refine V_iconst (pc := 6) F (x := (-1 : Int32)) dX9_flagOf_6 (by decide) ?_
  refine V_icmp_ne (pc := 7) F 20 dX9_flagOf_7 (by decide) ?_ ?_
  · exact vB_X9_flagOf_20 F hm x0 x1 h
  · refine V_aload_n (pc := 10) F dX9_flagOf_10 0 rfl ?_
    refine V_getR (pc := 11) F 9 27 (by decide) (by decide) rfl g_fl_RX9_71 dX9_flagOf_11 ?_
    intro r3
    refine V_iload_n (pc := 14) F dX9_flagOf_14 1 rfl ?_
    refine V_iald (pc := 15) F dX9_flagOf_15 ?_
    intro z4
    refine V_iconst (pc := 16) F (x := (-1 : Int32)) dX9_flagOf_16 (by decide) ?_
    refine V_icmp_ne (pc := 17) F 41 dX9_flagOf_17 (by decide) ?_ ?_
    · refine V_iconst (pc := 41) F (x := (-1 : Int32)) dX9_flagOf_41 (by decide) ?_
      refine V_istore_n (pc := 42) F [(2, vI (-1 : Int32)), (0, vR x0), (1, vI x1)] dX9_flagOf_42 (lt_mx hm (by decide)) rfl ?_
      refine V_iconst (pc := 43) F (x := (-1 : Int32)) dX9_flagOf_43 (by decide) ?_
      refine V_istore_n (pc := 44) F [(3, vI (-1 : Int32)), (2, vI (-1 : Int32)), (0, vR x0), (1, vI x1)] dX9_flagOf_44 (lt_mx hm (by decide)) rfl ?_
      refine V_iconst (pc := 45) F (x := (0 : Int32)) dX9_flagOf_45 (by decide) ?_
      refine V_istore (pc := 46) F [(4, vI (0 : Int32)), (3, vI (-1 : Int32)), (2, vI (-1 : Int32)), (0, vR x0), (1, vI x1)] dX9_flagOf_46 (lt_mx hm (by decide)) rfl ?_
      refine V_sub [3, 4, 2, 1, 0] (L' := [(0, vR x0), (1, vI x1), (2, vI (-1 : Int32)), (3, vI (-1 : Int32)), (4, vI (0 : Int32))]) rfl ?_
      exact vL_X9_flagOf_48 F hm fuel x0 x1 (-1 : Int32) (-1 : Int32) (0 : Int32) h
    · exact vB_X9_flagOf_20 F hm x0 x1 h
theorem C_X9_flagOf (x0 : Option Nat) (x1 : Int32) (h : MH) : CtrM yX9_flagOf (WSm yX9_flagOf cX9_flagOf 6 (some .int)) 1 [vR x0, vI x1] h (M_X9_flagOf x0 x1 h) :=
  CtrM_of (by decide) (Nat.le_of_ble_eq_true rfl) (fun K F hm hi => vM_X9_flagOf F hm x0 x1 h)
def B_X9_flag_27 (x0 : Option Nat) (x1 : Int32) (x2 : Int32) (s0 : Option Nat) (s1 : Int32) (h : MH) : Res := pfI h s0 9 0 s1 fun h5 => gfI h5 x0 9 0 fun z6 => if z6 ≤ 0 then (chk h5 x0 9 <| calI (M_X9_flagOf x0 x1 h5) fun z7 h8 => gfR h8 x0 9 28 fun r9 => wrI h8 r9 20 x1 x2 fun h10 => rtI z7 h10) else (rtI (0 : Int32) h5)
def M_X9_flag (x0 : Option Nat) (x1 : Int32) (x2 : Int32) (h : MH) : Res := chk h x0 9 <| calI (M_X9_isReading x0 x1 h) fun z1 h2 => if z1 ≠ 0 then (calI (M_X9_in x2 (-1 : Int32) (2 : Int32) h2) fun z3 h4 => if z3 ≠ 0 then (B_X9_flag_27 x0 x1 x2 x0 (0 : Int32) h4) else (B_X9_flag_27 x0 x1 x2 x0 (2 : Int32) h4)) else (B_X9_flag_27 x0 x1 x2 x0 (1 : Int32) h2)
theorem vB_X9_flag_27 {K : CT} (F : Fr K cX9_flag RX9 (some .int) [] 2 0) (hm : mxL K = 4) (x0 : Option Nat) (x1 : Int32) (x2 : Int32) (s0 : Option Nat) (s1 : Int32) (h : MH) : V K 27 [(0, vR x0), (1, vI x1), (2, vI x2)] [vI s1, vR s0] h (B_X9_flag_27 x0 x1 x2 s0 s1 h) := by
  unfold B_X9_flag_27
  refine V_putI (pc := 27) F 9 0 (by decide) (by decide) rfl rfl g_fl_RX9_96 dX9_flag_27 ?_
  intro h5
  refine V_aload_n (pc := 30) F dX9_flag_30 0 rfl ?_
  refine V_getI (pc := 31) F 9 0 (by decide) (by decide) rfl g_fl_RX9_96 dX9_flag_31 ?_
  intro z6
  refine V_if_le (pc := 34) F 39 dX9_flag_34 (by decide) ?_ ?_
  · refine V_aload_n (pc := 39) F dX9_flag_39 0 rfl ?_
    refine V_iload_n (pc := 40) F dX9_flag_40 1 rfl ?_
    refine V_cVM (pc := 41) F 9 (by decide) (as := [vI x1]) (C_X9_flagOf x0 x1 h5) w_X9_flagOf g_in_X9_flagOf g_se_X9_flagOf g_ml_RX9_176 (by decide) (rest := []) rfl rfl (Nat.le_of_ble_eq_true rfl) dX9_flag_41 (k_I fun z7 h8 => ?_)
    refine V_istore_n (pc := 44) F [(3, vI z7), (0, vR x0), (1, vI x1), (2, vI x2)] dX9_flag_44 (lt_mx hm (by decide)) rfl ?_
    refine V_aload_n (pc := 45) F dX9_flag_45 1 rfl ?_
    refine V_getR (pc := 46) F 9 28 (by decide) (by decide) rfl g_fl_RX9_74 dX9_flag_46 ?_
    intro r9
    refine V_iload_n (pc := 49) F dX9_flag_49 2 rfl ?_
    refine V_iload_n (pc := 50) F dX9_flag_50 3 rfl ?_
    refine V_iast (pc := 51) F dX9_flag_51 ?_
    intro h10
    refine V_iload_n (pc := 52) F dX9_flag_52 0 rfl ?_
    exact V_iret (pc := 53) F (Or.inl rfl) dX9_flag_53
  · refine V_iconst (pc := 37) F (x := (0 : Int32)) dX9_flag_37 (by decide) ?_
    exact V_iret (pc := 38) F (Or.inl rfl) dX9_flag_38
theorem vM_X9_flag {K : CT} (F : Fr K cX9_flag RX9 (some .int) [] 2 0) (hm : mxL K = 4) (x0 : Option Nat) (x1 : Int32) (x2 : Int32) (h : MH) : V K 0 [(0, vR x0), (1, vI x1), (2, vI x2)] [] h (M_X9_flag x0 x1 x2 h) := by
  unfold M_X9_flag
  refine V_aload_n (pc := 0) F dX9_flag_0 0 rfl ?_
  refine V_aload_n (pc := 1) F dX9_flag_1 0 rfl ?_
  refine V_iload_n (pc := 2) F dX9_flag_2 1 rfl ?_
  refine V_cVM (pc := 3) F 9 (by decide) (as := [vI x1]) (C_X9_isReading x0 x1 h) w_X9_isReading g_in_X9_isReading g_se_X9_isReading g_ml_RX9_173 (by decide) (rest := [vR x0]) rfl rfl (Nat.le_of_ble_eq_true rfl) dX9_flag_3 (k_I fun z1 h2 => ?_)
  refine V_if_ne (pc := 6) F 13 dX9_flag_6 (by decide) ?_ ?_
  · refine V_iload_n (pc := 13) F dX9_flag_13 2 rfl ?_
    refine V_iconst (pc := 14) F (x := (-1 : Int32)) dX9_flag_14 (by decide) ?_
    refine V_iconst (pc := 15) F (x := (2 : Int32)) dX9_flag_15 (by decide) ?_
    refine V_cSM (pc := 16) F (as := [vI x2, vI (-1 : Int32), vI (2 : Int32)]) (C_X9_in x2 (-1 : Int32) (2 : Int32) h2) w_X9_in g_st_X9_in g_ml_RX9_99 (by decide) (rest := [vR x0]) rfl rfl (Nat.le_of_ble_eq_true rfl) dX9_flag_16 (k_I fun z3 h4 => ?_)
    refine V_if_ne (pc := 19) F 26 dX9_flag_19 (by decide) ?_ ?_
    · refine V_iconst (pc := 26) F (x := (0 : Int32)) dX9_flag_26 (by decide) ?_
      exact vB_X9_flag_27 F hm x0 x1 x2 x0 (0 : Int32) h4
    · refine V_iconst (pc := 22) F (x := (2 : Int32)) dX9_flag_22 (by decide) ?_
      refine V_goto (pc := 23) F 27 dX9_flag_23 (by decide) ?_
      exact vB_X9_flag_27 F hm x0 x1 x2 x0 (2 : Int32) h4
  · refine V_iconst (pc := 9) F (x := (1 : Int32)) dX9_flag_9 (by decide) ?_
    refine V_goto (pc := 10) F 27 dX9_flag_10 (by decide) ?_
    exact vB_X9_flag_27 F hm x0 x1 x2 x0 (1 : Int32) h2
theorem C_X9_flag (x0 : Option Nat) (x1 : Int32) (x2 : Int32) (h : MH) : CtrM yX9_flag (WSm yX9_flag cX9_flag 4 (some .int)) 2 [vR x0, vI x1, vI x2] h (M_X9_flag x0 x1 x2 h) :=
  CtrM_of (by decide) (Nat.le_of_ble_eq_true rfl) (fun K F hm hi => vM_X9_flag F hm x0 x1 x2 h)
def B_X9_bound_17 (x0 : Option Nat) (x1 : Int32) (s0 : Option Nat) (s1 : Int32) (h : MH) : Res := pfI h s0 9 0 s1 fun h3 => gfI h3 x0 9 0 fun z4 => if z4 ≤ 0 then (gfI h3 x0 9 29 fun z5 => pfI h3 x0 9 29 x1 fun h6 => rtI z5 h6) else (rtI (0 : Int32) h3)
def M_X9_bound (x0 : Option Nat) (x1 : Int32) (h : MH) : Res := calI (M_X9_in x1 (0 : Int32) (1000 : Int32) h) fun z1 h2 => if z1 = 0 then (B_X9_bound_17 x0 x1 x0 (1 : Int32) h2) else (B_X9_bound_17 x0 x1 x0 (0 : Int32) h2)
theorem vB_X9_bound_17 {K : CT} (F : Fr K cX9_bound RX9 (some .int) [] 1 0) (hm : mxL K = 3) (x0 : Option Nat) (x1 : Int32) (s0 : Option Nat) (s1 : Int32) (h : MH) : V K 17 [(0, vR x0), (1, vI x1)] [vI s1, vR s0] h (B_X9_bound_17 x0 x1 s0 s1 h) := by
  unfold B_X9_bound_17
  refine V_putI (pc := 17) F 9 0 (by decide) (by decide) rfl rfl g_fl_RX9_96 dX9_bound_17 ?_
  intro h3
  refine V_aload_n (pc := 20) F dX9_bound_20 0 rfl ?_
  refine V_getI (pc := 21) F 9 0 (by decide) (by decide) rfl g_fl_RX9_96 dX9_bound_21 ?_
  intro z4
  refine V_if_le (pc := 24) F 29 dX9_bound_24 (by decide) ?_ ?_
  · refine V_aload_n (pc := 29) F dX9_bound_29 0 rfl ?_
    refine V_getI (pc := 30) F 9 29 (by decide) (by decide) rfl g_fl_RX9_77 dX9_bound_30 ?_
    intro z5
    refine V_istore_n (pc := 33) F [(2, vI z5), (0, vR x0), (1, vI x1)] dX9_bound_33 (lt_mx hm (by decide)) rfl ?_
    refine V_aload_n (pc := 34) F dX9_bound_34 1 rfl ?_
    refine V_iload_n (pc := 35) F dX9_bound_35 2 rfl ?_
    refine V_putI (pc := 36) F 9 29 (by decide) (by decide) rfl rfl g_fl_RX9_77 dX9_bound_36 ?_
    intro h6
    refine V_iload_n (pc := 39) F dX9_bound_39 0 rfl ?_
    exact V_iret (pc := 40) F (Or.inl rfl) dX9_bound_40
  · refine V_iconst (pc := 27) F (x := (0 : Int32)) dX9_bound_27 (by decide) ?_
    exact V_iret (pc := 28) F (Or.inl rfl) dX9_bound_28
theorem vM_X9_bound {K : CT} (F : Fr K cX9_bound RX9 (some .int) [] 1 0) (hm : mxL K = 3) (x0 : Option Nat) (x1 : Int32) (h : MH) : V K 0 [(0, vR x0), (1, vI x1)] [] h (M_X9_bound x0 x1 h) := by
  unfold M_X9_bound
  refine V_aload_n (pc := 0) F dX9_bound_0 0 rfl ?_
  refine V_iload_n (pc := 1) F dX9_bound_1 1 rfl ?_
  refine V_iconst (pc := 2) F (x := (0 : Int32)) dX9_bound_2 (by decide) ?_
  refine V_sipush (pc := 3) F (x := (1000 : Int32)) dX9_bound_3 (by decide) ?_
  refine V_cSM (pc := 6) F (as := [vI x1, vI (0 : Int32), vI (1000 : Int32)]) (C_X9_in x1 (0 : Int32) (1000 : Int32) h) w_X9_in g_st_X9_in g_ml_RX9_99 (by decide) (rest := [vR x0]) rfl rfl (Nat.le_of_ble_eq_true rfl) dX9_bound_6 (k_I fun z1 h2 => ?_)
  refine V_if_eq (pc := 9) F 16 dX9_bound_9 (by decide) ?_ ?_
  · refine V_iconst (pc := 16) F (x := (1 : Int32)) dX9_bound_16 (by decide) ?_
    exact vB_X9_bound_17 F hm x0 x1 x0 (1 : Int32) h2
  · refine V_iconst (pc := 12) F (x := (0 : Int32)) dX9_bound_12 (by decide) ?_
    refine V_goto (pc := 13) F 17 dX9_bound_13 (by decide) ?_
    exact vB_X9_bound_17 F hm x0 x1 x0 (0 : Int32) h2
theorem C_X9_bound (x0 : Option Nat) (x1 : Int32) (h : MH) : CtrM yX9_bound (WSm yX9_bound cX9_bound 3 (some .int)) 1 [vR x0, vI x1] h (M_X9_bound x0 x1 h) :=
  CtrM_of (by decide) (Nat.le_of_ble_eq_true rfl) (fun K F hm hi => vM_X9_bound F hm x0 x1 h)
def B_X9_search_34 (x0 : Option Nat) (x1 : Int32) (s0 : Option Nat) (s1 : Int32) (h : MH) : Res := pfI h s0 9 0 s1 fun h6 => gfI h6 x0 9 0 fun z7 => if z7 ≤ 0 then (gfR h6 x0 9 32 fun r8 => gfI h6 x0 9 30 fun z9 => bnd ((60 : Int32) * z9) fun z10 => bnd (z10 + x1) fun z11 => wrI h6 r8 20 z11 (10000 : Int32) fun h12 => gfR h12 x0 9 31 fun r13 => gfI h12 x0 9 30 fun z14 => wrI h12 r13 20 z14 x1 fun h15 => gfI h15 x0 9 30 fun z16 => bnd (z16 + (1 : Int32)) fun z17 => pfI h15 x0 9 30 z17 fun h18 => gfI h18 x0 9 30 fun z19 => bnd (z19 - (1 : Int32)) fun z20 => rtI z20 h18) else (rtI (0 : Int32) h6)
def B_X9_search_29 (x0 : Option Nat) (x1 : Int32) (s0 : Option Nat) (h : MH) : Res := B_X9_search_34 x0 x1 s0 (2 : Int32) h
def M_X9_search (x0 : Option Nat) (x1 : Int32) (h : MH) : Res := calI (M_X9_isCell x1 h) fun z1 h2 => if z1 ≠ 0 then (gfR h2 x0 9 3 fun r3 => rdI h2 r3 21 x1 fun z4 => if z4 ≠ 0 then (B_X9_search_29 x0 x1 x0 h2) else (gfI h2 x0 9 30 fun z5 => if z5 ≠ (4 : Int32) then (B_X9_search_34 x0 x1 x0 (0 : Int32) h2) else (B_X9_search_29 x0 x1 x0 h2))) else (B_X9_search_34 x0 x1 x0 (1 : Int32) h2)
theorem vB_X9_search_34 {K : CT} (F : Fr K cX9_search RX9 (some .int) [] 2 0) (hm : mxL K = 2) (x0 : Option Nat) (x1 : Int32) (s0 : Option Nat) (s1 : Int32) (h : MH) : V K 34 [(0, vR x0), (1, vI x1)] [vI s1, vR s0] h (B_X9_search_34 x0 x1 s0 s1 h) := by
  unfold B_X9_search_34
  refine V_putI (pc := 34) F 9 0 (by decide) (by decide) rfl rfl g_fl_RX9_96 dX9_search_34 ?_
  intro h6
  refine V_aload_n (pc := 37) F dX9_search_37 0 rfl ?_
  refine V_getI (pc := 38) F 9 0 (by decide) (by decide) rfl g_fl_RX9_96 dX9_search_38 ?_
  intro z7
  refine V_if_le (pc := 41) F 46 dX9_search_41 (by decide) ?_ ?_
  · refine V_aload_n (pc := 46) F dX9_search_46 0 rfl ?_
    refine V_getR (pc := 47) F 9 32 (by decide) (by decide) rfl g_fl_RX9_84 dX9_search_47 ?_
    intro r8
    refine V_bipush (pc := 50) F (x := (60 : Int32)) dX9_search_50 (by decide) ?_
    refine V_aload_n (pc := 52) F dX9_search_52 0 rfl ?_
    refine V_getI (pc := 53) F 9 30 (by decide) (by decide) rfl g_fl_RX9_109 dX9_search_53 ?_
    intro z9
    refine V_imul (pc := 56) F dX9_search_56 ?_
    intro z10
    refine V_iload_n (pc := 57) F dX9_search_57 1 rfl ?_
    refine V_iadd (pc := 58) F dX9_search_58 ?_
    intro z11
    refine V_sipush (pc := 59) F (x := (10000 : Int32)) dX9_search_59 (by decide) ?_
    refine V_iast (pc := 62) F dX9_search_62 ?_
    intro h12
    refine V_aload_n (pc := 63) F dX9_search_63 0 rfl ?_
    refine V_getR (pc := 64) F 9 31 (by decide) (by decide) rfl g_fl_RX9_81 dX9_search_64 ?_
    intro r13
    refine V_aload_n (pc := 67) F dX9_search_67 0 rfl ?_
    refine V_getI (pc := 68) F 9 30 (by decide) (by decide) rfl g_fl_RX9_109 dX9_search_68 ?_
    intro z14
    refine V_iload_n (pc := 71) F dX9_search_71 1 rfl ?_
    refine V_iast (pc := 72) F dX9_search_72 ?_
    intro h15
    refine V_aload_n (pc := 73) F dX9_search_73 0 rfl ?_
    refine V_dup (pc := 74) F dX9_search_74 rfl ?_
    refine V_getI (pc := 75) F 9 30 (by decide) (by decide) rfl g_fl_RX9_109 dX9_search_75 ?_
    intro z16
    refine V_iconst (pc := 78) F (x := (1 : Int32)) dX9_search_78 (by decide) ?_
    refine V_iadd (pc := 79) F dX9_search_79 ?_
    intro z17
    refine V_putI (pc := 80) F 9 30 (by decide) (by decide) rfl rfl g_fl_RX9_109 dX9_search_80 ?_
    intro h18
    refine V_aload_n (pc := 83) F dX9_search_83 0 rfl ?_
    refine V_getI (pc := 84) F 9 30 (by decide) (by decide) rfl g_fl_RX9_109 dX9_search_84 ?_
    intro z19
    refine V_iconst (pc := 87) F (x := (1 : Int32)) dX9_search_87 (by decide) ?_
    refine V_isub (pc := 88) F dX9_search_88 ?_
    intro z20
    exact V_iret (pc := 89) F (Or.inl rfl) dX9_search_89
  · refine V_iconst (pc := 44) F (x := (0 : Int32)) dX9_search_44 (by decide) ?_
    exact V_iret (pc := 45) F (Or.inl rfl) dX9_search_45
theorem vB_X9_search_29 {K : CT} (F : Fr K cX9_search RX9 (some .int) [] 2 0) (hm : mxL K = 2) (x0 : Option Nat) (x1 : Int32) (s0 : Option Nat) (h : MH) : V K 29 [(0, vR x0), (1, vI x1)] [vR s0] h (B_X9_search_29 x0 x1 s0 h) := by
  unfold B_X9_search_29
  refine V_iconst (pc := 29) F (x := (2 : Int32)) dX9_search_29 (by decide) ?_
  refine V_goto (pc := 30) F 34 dX9_search_30 (by decide) ?_
  exact vB_X9_search_34 F hm x0 x1 s0 (2 : Int32) h
theorem vM_X9_search {K : CT} (F : Fr K cX9_search RX9 (some .int) [] 2 0) (hm : mxL K = 2) (x0 : Option Nat) (x1 : Int32) (h : MH) : V K 0 [(0, vR x0), (1, vI x1)] [] h (M_X9_search x0 x1 h) := by
  unfold M_X9_search
  refine V_aload_n (pc := 0) F dX9_search_0 0 rfl ?_
  refine V_iload_n (pc := 1) F dX9_search_1 1 rfl ?_
  refine V_cSM (pc := 2) F (as := [vI x1]) (C_X9_isCell x1 h) w_X9_isCell g_st_X9_isCell g_ml_RX9_116 (by decide) (rest := [vR x0]) rfl rfl (Nat.le_of_ble_eq_true rfl) dX9_search_2 (k_I fun z1 h2 => ?_)
  refine V_if_ne (pc := 5) F 12 dX9_search_5 (by decide) ?_ ?_
  · refine V_aload_n (pc := 12) F dX9_search_12 0 rfl ?_
    refine V_getR (pc := 13) F 9 3 (by decide) (by decide) rfl g_fl_RX9_7 dX9_search_13 ?_
    intro r3
    refine V_iload_n (pc := 16) F dX9_search_16 1 rfl ?_
    refine V_zald (pc := 17) F dX9_search_17 ?_
    intro z4
    refine V_if_ne (pc := 18) F 29 dX9_search_18 (by decide) ?_ ?_
    · exact vB_X9_search_29 F hm x0 x1 x0 h2
    · refine V_aload_n (pc := 21) F dX9_search_21 0 rfl ?_
      refine V_getI (pc := 22) F 9 30 (by decide) (by decide) rfl g_fl_RX9_109 dX9_search_22 ?_
      intro z5
      refine V_iconst (pc := 25) F (x := (4 : Int32)) dX9_search_25 (by decide) ?_
      refine V_icmp_ne (pc := 26) F 33 dX9_search_26 (by decide) ?_ ?_
      · refine V_iconst (pc := 33) F (x := (0 : Int32)) dX9_search_33 (by decide) ?_
        exact vB_X9_search_34 F hm x0 x1 x0 (0 : Int32) h2
      · exact vB_X9_search_29 F hm x0 x1 x0 h2
  · refine V_iconst (pc := 8) F (x := (1 : Int32)) dX9_search_8 (by decide) ?_
    refine V_goto (pc := 9) F 34 dX9_search_9 (by decide) ?_
    exact vB_X9_search_34 F hm x0 x1 x0 (1 : Int32) h2
theorem C_X9_search (x0 : Option Nat) (x1 : Int32) (h : MH) : CtrM yX9_search (WSm yX9_search cX9_search 2 (some .int)) 2 [vR x0, vI x1] h (M_X9_search x0 x1 h) :=
  CtrM_of (by decide) (Nat.le_of_ble_eq_true rfl) (fun K F hm hi => vM_X9_search F hm x0 x1 h)
def M_X9_isSearch (x0 : Option Nat) (x1 : Int32) (h : MH) : Res := gfI h x0 9 30 fun z1 => bnd (z1 - (1 : Int32)) fun z2 => calI (M_X9_in x1 (0 : Int32) z2 h) fun z3 h4 => rtZ z3 h4
theorem vM_X9_isSearch {K : CT} (F : Fr K cX9_isSearch RX9 (some .boolean) [] 1 0) (hm : mxL K = 2) (x0 : Option Nat) (x1 : Int32) (h : MH) : V K 0 [(0, vR x0), (1, vI x1)] [] h (M_X9_isSearch x0 x1 h) := by
  unfold M_X9_isSearch
  refine V_iload_n (pc := 0) F dX9_isSearch_0 1 rfl ?_
  refine V_iconst (pc := 1) F (x := (0 : Int32)) dX9_isSearch_1 (by decide) ?_
  refine V_aload_n (pc := 2) F dX9_isSearch_2 0 rfl ?_
  refine V_getI (pc := 3) F 9 30 (by decide) (by decide) rfl g_fl_RX9_109 dX9_isSearch_3 ?_
  intro z1
  refine V_iconst (pc := 6) F (x := (1 : Int32)) dX9_isSearch_6 (by decide) ?_
  refine V_isub (pc := 7) F dX9_isSearch_7 ?_
  intro z2
  refine V_cSM (pc := 8) F (as := [vI x1, vI (0 : Int32), vI z2]) (C_X9_in x1 (0 : Int32) z2 h) w_X9_in g_st_X9_in g_ml_RX9_99 (by decide) (rest := []) rfl rfl (Nat.le_of_ble_eq_true rfl) dX9_isSearch_8 (k_I fun z3 h4 => ?_)
  exact V_zret (pc := 11) F (Or.inl rfl) dX9_isSearch_11
theorem C_X9_isSearch (x0 : Option Nat) (x1 : Int32) (h : MH) : CtrM yX9_isSearch (WSm yX9_isSearch cX9_isSearch 2 (some .boolean)) 1 [vR x0, vI x1] h (M_X9_isSearch x0 x1 h) :=
  CtrM_of (by decide) (Nat.le_of_ble_eq_true rfl) (fun K F hm hi => vM_X9_isSearch F hm x0 x1 h)
def B_X9_leg_35 (x0 : Option Nat) (x1 : Int32) (x2 : Int32) (x3 : Int32) (s0 : Option Nat) (s1 : Int32) (h : MH) : Res := pfI h s0 9 0 s1 fun h7 => gfI h7 x0 9 0 fun z8 => if z8 ≤ 0 then (gfR h7 x0 9 32 fun r9 => bnd ((60 : Int32) * x1) fun z10 => bnd (z10 + x2) fun z11 => rdI h7 r9 20 z11 fun z12 => bnd (z12 * x3) fun z13 => dvI z13 (100 : Int32) fun z14 => gfR h7 x0 9 32 fun r15 => bnd ((60 : Int32) * x1) fun z16 => bnd (z16 + x2) fun z17 => rdI h7 r15 20 z17 fun z18 => bnd (z18 - z14) fun z19 => wrI h7 r15 20 z17 z19 fun h20 => rtI z14 h20) else (rtI (0 : Int32) h7)
def B_X9_leg_16 (x0 : Option Nat) (x1 : Int32) (x2 : Int32) (x3 : Int32) (s0 : Option Nat) (h : MH) : Res := B_X9_leg_35 x0 x1 x2 x3 s0 (1 : Int32) h
def M_X9_leg (x0 : Option Nat) (x1 : Int32) (x2 : Int32) (x3 : Int32) (h : MH) : Res := chk h x0 9 <| calI (M_X9_isSearch x0 x1 h) fun z1 h2 => if z1 = 0 then (B_X9_leg_16 x0 x1 x2 x3 x0 h2) else (calI (M_X9_isCell x2 h2) fun z3 h4 => if z3 ≠ 0 then (calI (M_X9_in x3 (1 : Int32) (100 : Int32) h4) fun z5 h6 => if z5 ≠ 0 then (B_X9_leg_35 x0 x1 x2 x3 x0 (0 : Int32) h6) else (B_X9_leg_35 x0 x1 x2 x3 x0 (2 : Int32) h6)) else (B_X9_leg_16 x0 x1 x2 x3 x0 h4))
theorem vB_X9_leg_35 {K : CT} (F : Fr K cX9_leg RX9 (some .int) [] 2 0) (hm : mxL K = 5) (x0 : Option Nat) (x1 : Int32) (x2 : Int32) (x3 : Int32) (s0 : Option Nat) (s1 : Int32) (h : MH) : V K 35 [(0, vR x0), (1, vI x1), (2, vI x2), (3, vI x3)] [vI s1, vR s0] h (B_X9_leg_35 x0 x1 x2 x3 s0 s1 h) := by
  unfold B_X9_leg_35
  refine V_putI (pc := 35) F 9 0 (by decide) (by decide) rfl rfl g_fl_RX9_96 dX9_leg_35 ?_
  intro h7
  refine V_aload_n (pc := 38) F dX9_leg_38 0 rfl ?_
  refine V_getI (pc := 39) F 9 0 (by decide) (by decide) rfl g_fl_RX9_96 dX9_leg_39 ?_
  intro z8
  refine V_if_le (pc := 42) F 47 dX9_leg_42 (by decide) ?_ ?_
  · refine V_aload_n (pc := 47) F dX9_leg_47 0 rfl ?_
    refine V_getR (pc := 48) F 9 32 (by decide) (by decide) rfl g_fl_RX9_84 dX9_leg_48 ?_
    intro r9
    refine V_bipush (pc := 51) F (x := (60 : Int32)) dX9_leg_51 (by decide) ?_
    refine V_iload_n (pc := 53) F dX9_leg_53 1 rfl ?_
    refine V_imul (pc := 54) F dX9_leg_54 ?_
    intro z10
    refine V_iload_n (pc := 55) F dX9_leg_55 2 rfl ?_
    refine V_iadd (pc := 56) F dX9_leg_56 ?_
    intro z11
    refine V_iald (pc := 57) F dX9_leg_57 ?_
    intro z12
    refine V_iload_n (pc := 58) F dX9_leg_58 3 rfl ?_
    refine V_imul (pc := 59) F dX9_leg_59 ?_
    intro z13
    refine V_bipush (pc := 60) F (x := (100 : Int32)) dX9_leg_60 (by decide) ?_
    refine V_idiv (pc := 62) F dX9_leg_62 ?_
    intro z14
    refine V_istore (pc := 63) F [(4, vI z14), (0, vR x0), (1, vI x1), (2, vI x2), (3, vI x3)] dX9_leg_63 (lt_mx hm (by decide)) rfl ?_
    refine V_aload_n (pc := 65) F dX9_leg_65 1 rfl ?_
    refine V_getR (pc := 66) F 9 32 (by decide) (by decide) rfl g_fl_RX9_84 dX9_leg_66 ?_
    intro r15
    refine V_bipush (pc := 69) F (x := (60 : Int32)) dX9_leg_69 (by decide) ?_
    refine V_iload_n (pc := 71) F dX9_leg_71 2 rfl ?_
    refine V_imul (pc := 72) F dX9_leg_72 ?_
    intro z16
    refine V_iload_n (pc := 73) F dX9_leg_73 3 rfl ?_
    refine V_iadd (pc := 74) F dX9_leg_74 ?_
    intro z17
    refine V_dup2 (pc := 75) F dX9_leg_75 rfl rfl ?_
    refine V_iald (pc := 76) F dX9_leg_76 ?_
    intro z18
    refine V_iload (pc := 77) F dX9_leg_77 0 rfl ?_
    refine V_isub (pc := 79) F dX9_leg_79 ?_
    intro z19
    refine V_iast (pc := 80) F dX9_leg_80 ?_
    intro h20
    refine V_iload (pc := 81) F dX9_leg_81 0 rfl ?_
    exact V_iret (pc := 83) F (Or.inl rfl) dX9_leg_83
  · refine V_iconst (pc := 45) F (x := (0 : Int32)) dX9_leg_45 (by decide) ?_
    exact V_iret (pc := 46) F (Or.inl rfl) dX9_leg_46
theorem vB_X9_leg_16 {K : CT} (F : Fr K cX9_leg RX9 (some .int) [] 2 0) (hm : mxL K = 5) (x0 : Option Nat) (x1 : Int32) (x2 : Int32) (x3 : Int32) (s0 : Option Nat) (h : MH) : V K 16 [(0, vR x0), (1, vI x1), (2, vI x2), (3, vI x3)] [vR s0] h (B_X9_leg_16 x0 x1 x2 x3 s0 h) := by
  unfold B_X9_leg_16
  refine V_iconst (pc := 16) F (x := (1 : Int32)) dX9_leg_16 (by decide) ?_
  refine V_goto (pc := 17) F 35 dX9_leg_17 (by decide) ?_
  exact vB_X9_leg_35 F hm x0 x1 x2 x3 s0 (1 : Int32) h
theorem vM_X9_leg {K : CT} (F : Fr K cX9_leg RX9 (some .int) [] 2 0) (hm : mxL K = 5) (x0 : Option Nat) (x1 : Int32) (x2 : Int32) (x3 : Int32) (h : MH) : V K 0 [(0, vR x0), (1, vI x1), (2, vI x2), (3, vI x3)] [] h (M_X9_leg x0 x1 x2 x3 h) := by
  unfold M_X9_leg
  refine V_aload_n (pc := 0) F dX9_leg_0 0 rfl ?_
  refine V_aload_n (pc := 1) F dX9_leg_1 0 rfl ?_
  refine V_iload_n (pc := 2) F dX9_leg_2 1 rfl ?_
  refine V_cVM (pc := 3) F 9 (by decide) (as := [vI x1]) (C_X9_isSearch x0 x1 h) w_X9_isSearch g_in_X9_isSearch g_se_X9_isSearch g_ml_RX9_179 (by decide) (rest := [vR x0]) rfl rfl (Nat.le_of_ble_eq_true rfl) dX9_leg_3 (k_I fun z1 h2 => ?_)
  refine V_if_eq (pc := 6) F 16 dX9_leg_6 (by decide) ?_ ?_
  · exact vB_X9_leg_16 F hm x0 x1 x2 x3 x0 h2
  · refine V_iload_n (pc := 9) F dX9_leg_9 2 rfl ?_
    refine V_cSM (pc := 10) F (as := [vI x2]) (C_X9_isCell x2 h2) w_X9_isCell g_st_X9_isCell g_ml_RX9_116 (by decide) (rest := [vR x0]) rfl rfl (Nat.le_of_ble_eq_true rfl) dX9_leg_10 (k_I fun z3 h4 => ?_)
    refine V_if_ne (pc := 13) F 20 dX9_leg_13 (by decide) ?_ ?_
    · refine V_iload_n (pc := 20) F dX9_leg_20 3 rfl ?_
      refine V_iconst (pc := 21) F (x := (1 : Int32)) dX9_leg_21 (by decide) ?_
      refine V_bipush (pc := 22) F (x := (100 : Int32)) dX9_leg_22 (by decide) ?_
      refine V_cSM (pc := 24) F (as := [vI x3, vI (1 : Int32), vI (100 : Int32)]) (C_X9_in x3 (1 : Int32) (100 : Int32) h4) w_X9_in g_st_X9_in g_ml_RX9_99 (by decide) (rest := [vR x0]) rfl rfl (Nat.le_of_ble_eq_true rfl) dX9_leg_24 (k_I fun z5 h6 => ?_)
      refine V_if_ne (pc := 27) F 34 dX9_leg_27 (by decide) ?_ ?_
      · refine V_iconst (pc := 34) F (x := (0 : Int32)) dX9_leg_34 (by decide) ?_
        exact vB_X9_leg_35 F hm x0 x1 x2 x3 x0 (0 : Int32) h6
      · refine V_iconst (pc := 30) F (x := (2 : Int32)) dX9_leg_30 (by decide) ?_
        refine V_goto (pc := 31) F 35 dX9_leg_31 (by decide) ?_
        exact vB_X9_leg_35 F hm x0 x1 x2 x3 x0 (2 : Int32) h6
    · exact vB_X9_leg_16 F hm x0 x1 x2 x3 x0 h4
theorem C_X9_leg (x0 : Option Nat) (x1 : Int32) (x2 : Int32) (x3 : Int32) (h : MH) : CtrM yX9_leg (WSm yX9_leg cX9_leg 5 (some .int)) 2 [vR x0, vI x1, vI x2, vI x3] h (M_X9_leg x0 x1 x2 x3 h) :=
  CtrM_of (by decide) (Nat.le_of_ble_eq_true rfl) (fun K F hm hi => vM_X9_leg F hm x0 x1 x2 x3 h)
def B_X9_part_50 (x0 : Option Nat) (x1 : Int32) (x2 : Int32) (x3 : Int32) (s0 : Option Nat) (s1 : Int32) (h : MH) : Res := pfI h s0 9 0 s1 fun h9 => gfI h9 x0 9 0 fun z10 => if z10 ≤ 0 then (gfR h9 x0 9 34 fun r11 => gfI h9 x0 9 33 fun z12 => wrI h9 r11 20 z12 x1 fun h13 => gfR h13 x0 9 35 fun r14 => gfI h13 x0 9 33 fun z15 => wrI h13 r14 20 z15 x2 fun h16 => gfR h16 x0 9 36 fun r17 => gfI h16 x0 9 33 fun z18 => wrI h16 r17 20 z18 x3 fun h19 => gfI h19 x0 9 33 fun z20 => bnd (z20 + (1 : Int32)) fun z21 => pfI h19 x0 9 33 z21 fun h22 => gfI h22 x0 9 33 fun z23 => rtI z23 h22) else (rtI (0 : Int32) h9)
def B_X9_part_32 (x0 : Option Nat) (x1 : Int32) (x2 : Int32) (x3 : Int32) (s0 : Option Nat) (h : MH) : Res := B_X9_part_50 x0 x1 x2 x3 s0 (1 : Int32) h
def M_X9_part (x0 : Option Nat) (x1 : Int32) (x2 : Int32) (x3 : Int32) (h : MH) : Res := calI (M_X9_in x1 (2 : Int32) (60 : Int32) h) fun z1 h2 => if z1 = 0 then (B_X9_part_32 x0 x1 x2 x3 x0 h2) else (calI (M_X9_in x2 (0 : Int32) (100 : Int32) h2) fun z3 h4 => if z3 = 0 then (B_X9_part_32 x0 x1 x2 x3 x0 h4) else (bnd (x1 - (1 : Int32)) fun z5 => calI (M_X9_in x3 (0 : Int32) z5 h4) fun z6 h7 => if z6 ≠ 0 then (gfI h7 x0 9 33 fun z8 => if z8 ≠ (6 : Int32) then (B_X9_part_50 x0 x1 x2 x3 x0 (0 : Int32) h7) else (B_X9_part_50 x0 x1 x2 x3 x0 (2 : Int32) h7)) else (B_X9_part_32 x0 x1 x2 x3 x0 h7)))
theorem vB_X9_part_50 {K : CT} (F : Fr K cX9_part RX9 (some .int) [] 1 0) (hm : mxL K = 4) (x0 : Option Nat) (x1 : Int32) (x2 : Int32) (x3 : Int32) (s0 : Option Nat) (s1 : Int32) (h : MH) : V K 50 [(0, vR x0), (1, vI x1), (2, vI x2), (3, vI x3)] [vI s1, vR s0] h (B_X9_part_50 x0 x1 x2 x3 s0 s1 h) := by
  unfold B_X9_part_50
  refine V_putI (pc := 50) F 9 0 (by decide) (by decide) rfl rfl g_fl_RX9_96 dX9_part_50 ?_
  intro h9
  refine V_aload_n (pc := 53) F dX9_part_53 0 rfl ?_
  refine V_getI (pc := 54) F 9 0 (by decide) (by decide) rfl g_fl_RX9_96 dX9_part_54 ?_
  intro z10
  refine V_if_le (pc := 57) F 62 dX9_part_57 (by decide) ?_ ?_
  · refine V_aload_n (pc := 62) F dX9_part_62 0 rfl ?_
    refine V_getR (pc := 63) F 9 34 (by decide) (by decide) rfl g_fl_RX9_87 dX9_part_63 ?_
    intro r11
    refine V_aload_n (pc := 66) F dX9_part_66 0 rfl ?_
    refine V_getI (pc := 67) F 9 33 (by decide) (by decide) rfl g_fl_RX9_182 dX9_part_67 ?_
    intro z12
    refine V_iload_n (pc := 70) F dX9_part_70 1 rfl ?_
    refine V_iast (pc := 71) F dX9_part_71 ?_
    intro h13
    refine V_aload_n (pc := 72) F dX9_part_72 0 rfl ?_
    refine V_getR (pc := 73) F 9 35 (by decide) (by decide) rfl g_fl_RX9_90 dX9_part_73 ?_
    intro r14
    refine V_aload_n (pc := 76) F dX9_part_76 0 rfl ?_
    refine V_getI (pc := 77) F 9 33 (by decide) (by decide) rfl g_fl_RX9_182 dX9_part_77 ?_
    intro z15
    refine V_iload_n (pc := 80) F dX9_part_80 2 rfl ?_
    refine V_iast (pc := 81) F dX9_part_81 ?_
    intro h16
    refine V_aload_n (pc := 82) F dX9_part_82 0 rfl ?_
    refine V_getR (pc := 83) F 9 36 (by decide) (by decide) rfl g_fl_RX9_93 dX9_part_83 ?_
    intro r17
    refine V_aload_n (pc := 86) F dX9_part_86 0 rfl ?_
    refine V_getI (pc := 87) F 9 33 (by decide) (by decide) rfl g_fl_RX9_182 dX9_part_87 ?_
    intro z18
    refine V_iload_n (pc := 90) F dX9_part_90 3 rfl ?_
    refine V_iast (pc := 91) F dX9_part_91 ?_
    intro h19
    refine V_aload_n (pc := 92) F dX9_part_92 0 rfl ?_
    refine V_dup (pc := 93) F dX9_part_93 rfl ?_
    refine V_getI (pc := 94) F 9 33 (by decide) (by decide) rfl g_fl_RX9_182 dX9_part_94 ?_
    intro z20
    refine V_iconst (pc := 97) F (x := (1 : Int32)) dX9_part_97 (by decide) ?_
    refine V_iadd (pc := 98) F dX9_part_98 ?_
    intro z21
    refine V_putI (pc := 99) F 9 33 (by decide) (by decide) rfl rfl g_fl_RX9_182 dX9_part_99 ?_
    intro h22
    refine V_aload_n (pc := 102) F dX9_part_102 0 rfl ?_
    refine V_getI (pc := 103) F 9 33 (by decide) (by decide) rfl g_fl_RX9_182 dX9_part_103 ?_
    intro z23
    exact V_iret (pc := 106) F (Or.inl rfl) dX9_part_106
  · refine V_iconst (pc := 60) F (x := (0 : Int32)) dX9_part_60 (by decide) ?_
    exact V_iret (pc := 61) F (Or.inl rfl) dX9_part_61
theorem vB_X9_part_32 {K : CT} (F : Fr K cX9_part RX9 (some .int) [] 1 0) (hm : mxL K = 4) (x0 : Option Nat) (x1 : Int32) (x2 : Int32) (x3 : Int32) (s0 : Option Nat) (h : MH) : V K 32 [(0, vR x0), (1, vI x1), (2, vI x2), (3, vI x3)] [vR s0] h (B_X9_part_32 x0 x1 x2 x3 s0 h) := by
  unfold B_X9_part_32
  refine V_iconst (pc := 32) F (x := (1 : Int32)) dX9_part_32 (by decide) ?_
  refine V_goto (pc := 33) F 50 dX9_part_33 (by decide) ?_
  exact vB_X9_part_50 F hm x0 x1 x2 x3 s0 (1 : Int32) h
theorem vM_X9_part {K : CT} (F : Fr K cX9_part RX9 (some .int) [] 1 0) (hm : mxL K = 4) (x0 : Option Nat) (x1 : Int32) (x2 : Int32) (x3 : Int32) (h : MH) : V K 0 [(0, vR x0), (1, vI x1), (2, vI x2), (3, vI x3)] [] h (M_X9_part x0 x1 x2 x3 h) := by
  unfold M_X9_part
  refine V_aload_n (pc := 0) F dX9_part_0 0 rfl ?_
  refine V_iload_n (pc := 1) F dX9_part_1 1 rfl ?_
  refine V_iconst (pc := 2) F (x := (2 : Int32)) dX9_part_2 (by decide) ?_
  refine V_bipush (pc := 3) F (x := (60 : Int32)) dX9_part_3 (by decide) ?_
  refine V_cSM (pc := 5) F (as := [vI x1, vI (2 : Int32), vI (60 : Int32)]) (C_X9_in x1 (2 : Int32) (60 : Int32) h) w_X9_in g_st_X9_in g_ml_RX9_99 (by decide) (rest := [vR x0]) rfl rfl (Nat.le_of_ble_eq_true rfl) dX9_part_5 (k_I fun z1 h2 => ?_)
  refine V_if_eq (pc := 8) F 32 dX9_part_8 (by decide) ?_ ?_
  · exact vB_X9_part_32 F hm x0 x1 x2 x3 x0 h2
  · refine V_iload_n (pc := 11) F dX9_part_11 2 rfl ?_
    refine V_iconst (pc := 12) F (x := (0 : Int32)) dX9_part_12 (by decide) ?_
    refine V_bipush (pc := 13) F (x := (100 : Int32)) dX9_part_13 (by decide) ?_
    refine V_cSM (pc := 15) F (as := [vI x2, vI (0 : Int32), vI (100 : Int32)]) (C_X9_in x2 (0 : Int32) (100 : Int32) h2) w_X9_in g_st_X9_in g_ml_RX9_99 (by decide) (rest := [vR x0]) rfl rfl (Nat.le_of_ble_eq_true rfl) dX9_part_15 (k_I fun z3 h4 => ?_)
    refine V_if_eq (pc := 18) F 32 dX9_part_18 (by decide) ?_ ?_
    · exact vB_X9_part_32 F hm x0 x1 x2 x3 x0 h4
    · refine V_iload_n (pc := 21) F dX9_part_21 3 rfl ?_
      refine V_iconst (pc := 22) F (x := (0 : Int32)) dX9_part_22 (by decide) ?_
      refine V_iload_n (pc := 23) F dX9_part_23 1 rfl ?_
      refine V_iconst (pc := 24) F (x := (1 : Int32)) dX9_part_24 (by decide) ?_
      refine V_isub (pc := 25) F dX9_part_25 ?_
      intro z5
      refine V_cSM (pc := 26) F (as := [vI x3, vI (0 : Int32), vI z5]) (C_X9_in x3 (0 : Int32) z5 h4) w_X9_in g_st_X9_in g_ml_RX9_99 (by decide) (rest := [vR x0]) rfl rfl (Nat.le_of_ble_eq_true rfl) dX9_part_26 (k_I fun z6 h7 => ?_)
      refine V_if_ne (pc := 29) F 36 dX9_part_29 (by decide) ?_ ?_
      · refine V_aload_n (pc := 36) F dX9_part_36 0 rfl ?_
        refine V_getI (pc := 37) F 9 33 (by decide) (by decide) rfl g_fl_RX9_182 dX9_part_37 ?_
        intro z8
        refine V_bipush (pc := 40) F (x := (6 : Int32)) dX9_part_40 (by decide) ?_
        refine V_icmp_ne (pc := 42) F 49 dX9_part_42 (by decide) ?_ ?_
        · refine V_iconst (pc := 49) F (x := (0 : Int32)) dX9_part_49 (by decide) ?_
          exact vB_X9_part_50 F hm x0 x1 x2 x3 x0 (0 : Int32) h7
        · refine V_iconst (pc := 45) F (x := (2 : Int32)) dX9_part_45 (by decide) ?_
          refine V_goto (pc := 46) F 50 dX9_part_46 (by decide) ?_
          exact vB_X9_part_50 F hm x0 x1 x2 x3 x0 (2 : Int32) h7
      · exact vB_X9_part_32 F hm x0 x1 x2 x3 x0 h7
theorem C_X9_part (x0 : Option Nat) (x1 : Int32) (x2 : Int32) (x3 : Int32) (h : MH) : CtrM yX9_part (WSm yX9_part cX9_part 4 (some .int)) 1 [vR x0, vI x1, vI x2, vI x3] h (M_X9_part x0 x1 x2 x3 h) :=
  CtrM_of (by decide) (Nat.le_of_ble_eq_true rfl) (fun K F hm hi => vM_X9_part F hm x0 x1 x2 x3 h)
def M_X9_day (x0 : Option Nat) (h : MH) : Res := pfI h x0 9 0 (0 : Int32) fun h1 => gfI h1 x0 9 1 fun z2 => rtI z2 h1
theorem vM_X9_day {K : CT} (F : Fr K cX9_day RX9 (some .int) [] 0 0) (hm : mxL K = 1) (x0 : Option Nat) (h : MH) : V K 0 [(0, vR x0)] [] h (M_X9_day x0 h) := by
  unfold M_X9_day
  refine V_aload_n (pc := 0) F dX9_day_0 0 rfl ?_
  refine V_iconst (pc := 1) F (x := (0 : Int32)) dX9_day_1 (by decide) ?_
  refine V_putI (pc := 2) F 9 0 (by decide) (by decide) rfl rfl g_fl_RX9_96 dX9_day_2 ?_
  intro h1
  refine V_aload_n (pc := 5) F dX9_day_5 0 rfl ?_
  refine V_getI (pc := 6) F 9 1 (by decide) (by decide) rfl g_fl_RX9_120 dX9_day_6 ?_
  intro z2
  exact V_iret (pc := 9) F (Or.inl rfl) dX9_day_9
theorem C_X9_day (x0 : Option Nat) (h : MH) : CtrM yX9_day (WSm yX9_day cX9_day 1 (some .int)) 0 [vR x0] h (M_X9_day x0 h) :=
  CtrM_of (by decide) (Nat.le_of_ble_eq_true rfl) (fun K F hm hi => vM_X9_day F hm x0 h)
def B_X9_ofLayer_35 (x0 : Option Nat) (x1 : Int32) (x2 : Int32) (x3 : Int32) (s0 : Option Nat) (s1 : Int32) (h : MH) : Res := pfI h s0 9 0 s1 fun h7 => gfI h7 x0 9 0 fun z8 => if 0 < z8 then (rtI (0 : Int32) h7) else (gfR h7 x0 9 3 fun r9 => rdI h7 r9 21 x1 fun z10 => if z10 = 0 then (bnd ((60 : Int32) * x2) fun z11 => bnd (z11 + x1) fun z12 => if x3 ≠ 0 then (if x3 ≠ (1 : Int32) then (gfR h7 x0 9 7 fun r13 => rdI h7 r13 20 z12 fun z14 => bnd ((5 : Int32) * z14) fun z15 => gfR h7 x0 9 6 fun r16 => rdI h7 r16 20 z12 fun z17 => bnd (z15 - z17) fun z18 => rtI z18 h7) else (gfR h7 x0 9 7 fun r19 => rdI h7 r19 20 z12 fun z20 => rtI z20 h7)) else (gfR h7 x0 9 6 fun r21 => rdI h7 r21 20 z12 fun z22 => rtI z22 h7)) else (rtI (0 : Int32) h7))
def B_X9_ofLayer_30 (x0 : Option Nat) (x1 : Int32) (x2 : Int32) (x3 : Int32) (s0 : Option Nat) (h : MH) : Res := B_X9_ofLayer_35 x0 x1 x2 x3 s0 (2 : Int32) h
def M_X9_ofLayer (x0 : Option Nat) (x1 : Int32) (x2 : Int32) (x3 : Int32) (h : MH) : Res := calI (M_X9_isCell x1 h) fun z1 h2 => if z1 ≠ 0 then (calI (M_X9_in x2 (0 : Int32) (1 : Int32) h2) fun z3 h4 => if z3 = 0 then (B_X9_ofLayer_30 x0 x1 x2 x3 x0 h4) else (calI (M_X9_in x3 (0 : Int32) (2 : Int32) h4) fun z5 h6 => if z5 ≠ 0 then (B_X9_ofLayer_35 x0 x1 x2 x3 x0 (0 : Int32) h6) else (B_X9_ofLayer_30 x0 x1 x2 x3 x0 h6))) else (B_X9_ofLayer_35 x0 x1 x2 x3 x0 (1 : Int32) h2)
theorem vB_X9_ofLayer_35 {K : CT} (F : Fr K cX9_ofLayer RX9 (some .int) [] 2 0) (hm : mxL K = 5) (x0 : Option Nat) (x1 : Int32) (x2 : Int32) (x3 : Int32) (s0 : Option Nat) (s1 : Int32) (h : MH) : V K 35 [(0, vR x0), (1, vI x1), (2, vI x2), (3, vI x3)] [vI s1, vR s0] h (B_X9_ofLayer_35 x0 x1 x2 x3 s0 s1 h) := by
  unfold B_X9_ofLayer_35
  refine V_putI (pc := 35) F 9 0 (by decide) (by decide) rfl rfl g_fl_RX9_96 dX9_ofLayer_35 ?_
  intro h7
  refine V_aload_n (pc := 38) F dX9_ofLayer_38 0 rfl ?_
  refine V_getI (pc := 39) F 9 0 (by decide) (by decide) rfl g_fl_RX9_96 dX9_ofLayer_39 ?_
  intro z8
  refine V_if_gt (pc := 42) F 54 dX9_ofLayer_42 (by decide) ?_ ?_
  · refine V_iconst (pc := 54) F (x := (0 : Int32)) dX9_ofLayer_54 (by decide) ?_
    exact V_iret (pc := 55) F (Or.inl rfl) dX9_ofLayer_55
  · refine V_aload_n (pc := 45) F dX9_ofLayer_45 0 rfl ?_
    refine V_getR (pc := 46) F 9 3 (by decide) (by decide) rfl g_fl_RX9_7 dX9_ofLayer_46 ?_
    intro r9
    refine V_iload_n (pc := 49) F dX9_ofLayer_49 1 rfl ?_
    refine V_zald (pc := 50) F dX9_ofLayer_50 ?_
    intro z10
    refine V_if_eq (pc := 51) F 56 dX9_ofLayer_51 (by decide) ?_ ?_
    · refine V_bipush (pc := 56) F (x := (60 : Int32)) dX9_ofLayer_56 (by decide) ?_
      refine V_iload_n (pc := 58) F dX9_ofLayer_58 2 rfl ?_
      refine V_imul (pc := 59) F dX9_ofLayer_59 ?_
      intro z11
      refine V_iload_n (pc := 60) F dX9_ofLayer_60 1 rfl ?_
      refine V_iadd (pc := 61) F dX9_ofLayer_61 ?_
      intro z12
      refine V_istore (pc := 62) F [(4, vI z12), (0, vR x0), (1, vI x1), (2, vI x2), (3, vI x3)] dX9_ofLayer_62 (lt_mx hm (by decide)) rfl ?_
      refine V_iload_n (pc := 64) F dX9_ofLayer_64 4 rfl ?_
      refine V_if_ne (pc := 65) F 78 dX9_ofLayer_65 (by decide) ?_ ?_
      · refine V_iload_n (pc := 78) F dX9_ofLayer_78 4 rfl ?_
        refine V_iconst (pc := 79) F (x := (1 : Int32)) dX9_ofLayer_79 (by decide) ?_
        refine V_icmp_ne (pc := 80) F 93 dX9_ofLayer_80 (by decide) ?_ ?_
        · refine V_iconst (pc := 93) F (x := (5 : Int32)) dX9_ofLayer_93 (by decide) ?_
          refine V_aload_n (pc := 94) F dX9_ofLayer_94 1 rfl ?_
          refine V_getR (pc := 95) F 9 7 (by decide) (by decide) rfl g_fl_RX9_23 dX9_ofLayer_95 ?_
          intro r13
          refine V_iload (pc := 98) F dX9_ofLayer_98 0 rfl ?_
          refine V_iald (pc := 100) F dX9_ofLayer_100 ?_
          intro z14
          refine V_imul (pc := 101) F dX9_ofLayer_101 ?_
          intro z15
          refine V_aload_n (pc := 102) F dX9_ofLayer_102 1 rfl ?_
          refine V_getR (pc := 103) F 9 6 (by decide) (by decide) rfl g_fl_RX9_20 dX9_ofLayer_103 ?_
          intro r16
          refine V_iload (pc := 106) F dX9_ofLayer_106 0 rfl ?_
          refine V_iald (pc := 108) F dX9_ofLayer_108 ?_
          intro z17
          refine V_isub (pc := 109) F dX9_ofLayer_109 ?_
          intro z18
          exact V_iret (pc := 110) F (Or.inl rfl) dX9_ofLayer_110
        · refine V_aload_n (pc := 83) F dX9_ofLayer_83 1 rfl ?_
          refine V_getR (pc := 84) F 9 7 (by decide) (by decide) rfl g_fl_RX9_23 dX9_ofLayer_84 ?_
          intro r19
          refine V_iload (pc := 87) F dX9_ofLayer_87 0 rfl ?_
          refine V_iald (pc := 89) F dX9_ofLayer_89 ?_
          intro z20
          refine V_goto (pc := 90) F 110 dX9_ofLayer_90 (by decide) ?_
          exact V_iret (pc := 110) F (Or.inl rfl) dX9_ofLayer_110
      · refine V_aload_n (pc := 68) F dX9_ofLayer_68 1 rfl ?_
        refine V_getR (pc := 69) F 9 6 (by decide) (by decide) rfl g_fl_RX9_20 dX9_ofLayer_69 ?_
        intro r21
        refine V_iload (pc := 72) F dX9_ofLayer_72 0 rfl ?_
        refine V_iald (pc := 74) F dX9_ofLayer_74 ?_
        intro z22
        refine V_goto (pc := 75) F 110 dX9_ofLayer_75 (by decide) ?_
        exact V_iret (pc := 110) F (Or.inl rfl) dX9_ofLayer_110
    · refine V_iconst (pc := 54) F (x := (0 : Int32)) dX9_ofLayer_54 (by decide) ?_
      exact V_iret (pc := 55) F (Or.inl rfl) dX9_ofLayer_55
theorem vB_X9_ofLayer_30 {K : CT} (F : Fr K cX9_ofLayer RX9 (some .int) [] 2 0) (hm : mxL K = 5) (x0 : Option Nat) (x1 : Int32) (x2 : Int32) (x3 : Int32) (s0 : Option Nat) (h : MH) : V K 30 [(0, vR x0), (1, vI x1), (2, vI x2), (3, vI x3)] [vR s0] h (B_X9_ofLayer_30 x0 x1 x2 x3 s0 h) := by
  unfold B_X9_ofLayer_30
  refine V_iconst (pc := 30) F (x := (2 : Int32)) dX9_ofLayer_30 (by decide) ?_
  refine V_goto (pc := 31) F 35 dX9_ofLayer_31 (by decide) ?_
  exact vB_X9_ofLayer_35 F hm x0 x1 x2 x3 s0 (2 : Int32) h
theorem vM_X9_ofLayer {K : CT} (F : Fr K cX9_ofLayer RX9 (some .int) [] 2 0) (hm : mxL K = 5) (x0 : Option Nat) (x1 : Int32) (x2 : Int32) (x3 : Int32) (h : MH) : V K 0 [(0, vR x0), (1, vI x1), (2, vI x2), (3, vI x3)] [] h (M_X9_ofLayer x0 x1 x2 x3 h) := by
  unfold M_X9_ofLayer
  refine V_aload_n (pc := 0) F dX9_ofLayer_0 0 rfl ?_
  refine V_iload_n (pc := 1) F dX9_ofLayer_1 1 rfl ?_
  refine V_cSM (pc := 2) F (as := [vI x1]) (C_X9_isCell x1 h) w_X9_isCell g_st_X9_isCell g_ml_RX9_116 (by decide) (rest := [vR x0]) rfl rfl (Nat.le_of_ble_eq_true rfl) dX9_ofLayer_2 (k_I fun z1 h2 => ?_)
  refine V_if_ne (pc := 5) F 12 dX9_ofLayer_5 (by decide) ?_ ?_
  · refine V_iload_n (pc := 12) F dX9_ofLayer_12 2 rfl ?_
    refine V_iconst (pc := 13) F (x := (0 : Int32)) dX9_ofLayer_13 (by decide) ?_
    refine V_iconst (pc := 14) F (x := (1 : Int32)) dX9_ofLayer_14 (by decide) ?_
    refine V_cSM (pc := 15) F (as := [vI x2, vI (0 : Int32), vI (1 : Int32)]) (C_X9_in x2 (0 : Int32) (1 : Int32) h2) w_X9_in g_st_X9_in g_ml_RX9_99 (by decide) (rest := [vR x0]) rfl rfl (Nat.le_of_ble_eq_true rfl) dX9_ofLayer_15 (k_I fun z3 h4 => ?_)
    refine V_if_eq (pc := 18) F 30 dX9_ofLayer_18 (by decide) ?_ ?_
    · exact vB_X9_ofLayer_30 F hm x0 x1 x2 x3 x0 h4
    · refine V_iload_n (pc := 21) F dX9_ofLayer_21 3 rfl ?_
      refine V_iconst (pc := 22) F (x := (0 : Int32)) dX9_ofLayer_22 (by decide) ?_
      refine V_iconst (pc := 23) F (x := (2 : Int32)) dX9_ofLayer_23 (by decide) ?_
      refine V_cSM (pc := 24) F (as := [vI x3, vI (0 : Int32), vI (2 : Int32)]) (C_X9_in x3 (0 : Int32) (2 : Int32) h4) w_X9_in g_st_X9_in g_ml_RX9_99 (by decide) (rest := [vR x0]) rfl rfl (Nat.le_of_ble_eq_true rfl) dX9_ofLayer_24 (k_I fun z5 h6 => ?_)
      refine V_if_ne (pc := 27) F 34 dX9_ofLayer_27 (by decide) ?_ ?_
      · refine V_iconst (pc := 34) F (x := (0 : Int32)) dX9_ofLayer_34 (by decide) ?_
        exact vB_X9_ofLayer_35 F hm x0 x1 x2 x3 x0 (0 : Int32) h6
      · exact vB_X9_ofLayer_30 F hm x0 x1 x2 x3 x0 h6
  · refine V_iconst (pc := 8) F (x := (1 : Int32)) dX9_ofLayer_8 (by decide) ?_
    refine V_goto (pc := 9) F 35 dX9_ofLayer_9 (by decide) ?_
    exact vB_X9_ofLayer_35 F hm x0 x1 x2 x3 x0 (1 : Int32) h2
theorem C_X9_ofLayer (x0 : Option Nat) (x1 : Int32) (x2 : Int32) (x3 : Int32) (h : MH) : CtrM yX9_ofLayer (WSm yX9_ofLayer cX9_ofLayer 5 (some .int)) 2 [vR x0, vI x1, vI x2, vI x3] h (M_X9_ofLayer x0 x1 x2 x3 h) :=
  CtrM_of (by decide) (Nat.le_of_ble_eq_true rfl) (fun K F hm hi => vM_X9_ofLayer F hm x0 x1 x2 x3 h)
def B_X9_total_79 (rc41 : Option Nat → Int32 → Int32 → Int32 → MH → Res) (x0 : Option Nat) (x1 : Int32) (x3 : Int32) (s0 : Int32) (s1 : Int32) (h : MH) : Res := bnd (s0 + s1) fun z11 => bnd (x3 + (1)) fun z12 => rc41 x0 x1 z11 z12 h
def B_X9_total_41 (rc41 : Option Nat → Int32 → Int32 → Int32 → MH → Res) (x0 : Option Nat) (x1 : Int32) (x2 : Int32) (x3 : Int32) (h : MH) : Res := if (120 : Int32) ≤ x3 then (rtI x2 h) else (gfI h x0 9 0 fun z6 => if z6 ≠ 0 then (rtI x2 h) else (if (2 : Int32) ≤ x1 then (rtI x2 h) else (if x1 ≠ 0 then (gfR h x0 9 7 fun r7 => rdI h r7 20 x3 fun z8 => B_X9_total_79 rc41 x0 x1 x3 x2 z8 h) else (gfR h x0 9 6 fun r9 => rdI h r9 20 x3 fun z10 => B_X9_total_79 rc41 x0 x1 x3 x2 z10 h))))
def L_X9_total_41 : Nat → Option Nat → Int32 → Int32 → Int32 → MH → Res
  | 0 => fun _ _ _ _ _ => none
  | n + 1 => B_X9_total_41 (L_X9_total_41 n)
def B_X9_total_38 (x0 : Option Nat) (x1 : Int32) (s0 : Int32) (h : MH) : Res := L_X9_total_41 fuel x0 x1 s0 (0 : Int32) h
def B_X9_total_37 (x0 : Option Nat) (x1 : Int32) (h : MH) : Res := B_X9_total_38 x0 x1 (0 : Int32) h
def B_X9_total_15 (x0 : Option Nat) (x1 : Int32) (s0 : Option Nat) (s1 : Int32) (h : MH) : Res := pfI h s0 9 0 s1 fun h3 => gfI h3 x0 9 0 fun z4 => if z4 ≠ 0 then (B_X9_total_37 x0 x1 h3) else (if x1 ≠ (2 : Int32) then (B_X9_total_37 x0 x1 h3) else (gfI h3 x0 9 2 fun z5 => B_X9_total_38 x0 x1 z5 h3))
def M_X9_total (x0 : Option Nat) (x1 : Int32) (h : MH) : Res := calI (M_X9_in x1 (0 : Int32) (2 : Int32) h) fun z1 h2 => if z1 = 0 then (B_X9_total_15 x0 x1 x0 (1 : Int32) h2) else (B_X9_total_15 x0 x1 x0 (0 : Int32) h2)
theorem vB_X9_total_79 {K : CT} (F : Fr K cX9_total RX9 (some .int) [] 1 0) (hm : mxL K = 4) (rc41 : Option Nat → Int32 → Int32 → Int32 → MH → Res) (hrc41 : ∀ x0 x1 x2 x3 h, V K 41 [(0, vR x0), (1, vI x1), (2, vI x2), (3, vI x3)] [] h (rc41 x0 x1 x2 x3 h)) (x0 : Option Nat) (x1 : Int32) (x3 : Int32) (s0 : Int32) (s1 : Int32) (h : MH) : V K 79 [(0, vR x0), (1, vI x1), (3, vI x3)] [vI s1, vI s0] h (B_X9_total_79 rc41 x0 x1 x3 s0 s1 h) := by
  unfold B_X9_total_79
  refine V_iadd (pc := 79) F dX9_total_79 ?_
  intro z11
  refine V_istore_n (pc := 80) F [(2, vI z11), (0, vR x0), (1, vI x1), (3, vI x3)] dX9_total_80 (lt_mx hm (by decide)) rfl ?_
  refine V_iinc (pc := 81) F (fun z12 => [(3, vI z12), (2, vI z11), (0, vR x0), (1, vI x1)]) dX9_total_81 (lt_mx hm (by decide)) 3 rfl (dx := (1 : Int32)) (by decide) (fun _ => rfl) ?_
  intro z12
  refine V_goto (pc := 84) F 41 dX9_total_84 (by decide) ?_
  refine V_sub [2, 3, 1, 0] (L' := [(0, vR x0), (1, vI x1), (2, vI z11), (3, vI z12)]) rfl ?_
  exact hrc41 x0 x1 z11 z12 h
theorem vB_X9_total_41 {K : CT} (F : Fr K cX9_total RX9 (some .int) [] 1 0) (hm : mxL K = 4) (rc41 : Option Nat → Int32 → Int32 → Int32 → MH → Res) (hrc41 : ∀ x0 x1 x2 x3 h, V K 41 [(0, vR x0), (1, vI x1), (2, vI x2), (3, vI x3)] [] h (rc41 x0 x1 x2 x3 h)) (x0 : Option Nat) (x1 : Int32) (x2 : Int32) (x3 : Int32) (h : MH) : V K 41 [(0, vR x0), (1, vI x1), (2, vI x2), (3, vI x3)] [] h (B_X9_total_41 rc41 x0 x1 x2 x3 h) := by
  unfold B_X9_total_41
  refine V_iload_n (pc := 41) F dX9_total_41 3 rfl ?_
  refine V_bipush (pc := 42) F (x := (120 : Int32)) dX9_total_42 (by decide) ?_
  refine V_icmp_ge (pc := 44) F 87 dX9_total_44 (by decide) ?_ ?_
  · refine V_iload_n (pc := 87) F dX9_total_87 2 rfl ?_
    exact V_iret (pc := 88) F (Or.inl rfl) dX9_total_88
  · refine V_aload_n (pc := 47) F dX9_total_47 0 rfl ?_
    refine V_getI (pc := 48) F 9 0 (by decide) (by decide) rfl g_fl_RX9_96 dX9_total_48 ?_
    intro z6
    refine V_if_ne (pc := 51) F 87 dX9_total_51 (by decide) ?_ ?_
    · refine V_iload_n (pc := 87) F dX9_total_87 2 rfl ?_
      exact V_iret (pc := 88) F (Or.inl rfl) dX9_total_88
    · refine V_iload_n (pc := 54) F dX9_total_54 1 rfl ?_
      refine V_iconst (pc := 55) F (x := (2 : Int32)) dX9_total_55 (by decide) ?_
      refine V_icmp_ge (pc := 56) F 87 dX9_total_56 (by decide) ?_ ?_
      · refine V_iload_n (pc := 87) F dX9_total_87 2 rfl ?_
        exact V_iret (pc := 88) F (Or.inl rfl) dX9_total_88
      · refine V_iload_n (pc := 59) F dX9_total_59 2 rfl ?_
        refine V_iload_n (pc := 60) F dX9_total_60 1 rfl ?_
        refine V_if_ne (pc := 61) F 73 dX9_total_61 (by decide) ?_ ?_
        · refine V_aload_n (pc := 73) F dX9_total_73 0 rfl ?_
          refine V_getR (pc := 74) F 9 7 (by decide) (by decide) rfl g_fl_RX9_23 dX9_total_74 ?_
          intro r7
          refine V_iload_n (pc := 77) F dX9_total_77 3 rfl ?_
          refine V_iald (pc := 78) F dX9_total_78 ?_
          intro z8
          refine V_sub [0, 1, 3] (L' := [(0, vR x0), (1, vI x1), (3, vI x3)]) rfl ?_
          exact vB_X9_total_79 F hm rc41 hrc41 x0 x1 x3 x2 z8 h
        · refine V_aload_n (pc := 64) F dX9_total_64 0 rfl ?_
          refine V_getR (pc := 65) F 9 6 (by decide) (by decide) rfl g_fl_RX9_20 dX9_total_65 ?_
          intro r9
          refine V_iload_n (pc := 68) F dX9_total_68 3 rfl ?_
          refine V_iald (pc := 69) F dX9_total_69 ?_
          intro z10
          refine V_goto (pc := 70) F 79 dX9_total_70 (by decide) ?_
          refine V_sub [0, 1, 3] (L' := [(0, vR x0), (1, vI x1), (3, vI x3)]) rfl ?_
          exact vB_X9_total_79 F hm rc41 hrc41 x0 x1 x3 x2 z10 h
theorem vL_X9_total_41 {K : CT} (F : Fr K cX9_total RX9 (some .int) [] 1 0) (hm : mxL K = 4) (n : Nat) : ∀ x0 x1 x2 x3 h, V K 41 [(0, vR x0), (1, vI x1), (2, vI x2), (3, vI x3)] [] h (L_X9_total_41 n x0 x1 x2 x3 h) := by
  induction n with
  | zero => intros; exact V_none
  | succ n ih => intro x0 x1 x2 x3 h; exact vB_X9_total_41 F hm _ ih x0 x1 x2 x3 h
theorem vB_X9_total_38 {K : CT} (F : Fr K cX9_total RX9 (some .int) [] 1 0) (hm : mxL K = 4) (x0 : Option Nat) (x1 : Int32) (s0 : Int32) (h : MH) : V K 38 [(0, vR x0), (1, vI x1)] [vI s0] h (B_X9_total_38 x0 x1 s0 h) := by
  unfold B_X9_total_38
  refine V_istore_n (pc := 38) F [(2, vI s0), (0, vR x0), (1, vI x1)] dX9_total_38 (lt_mx hm (by decide)) rfl ?_
  refine V_iconst (pc := 39) F (x := (0 : Int32)) dX9_total_39 (by decide) ?_
  refine V_istore_n (pc := 40) F [(3, vI (0 : Int32)), (2, vI s0), (0, vR x0), (1, vI x1)] dX9_total_40 (lt_mx hm (by decide)) rfl ?_
  refine V_sub [2, 3, 1, 0] (L' := [(0, vR x0), (1, vI x1), (2, vI s0), (3, vI (0 : Int32))]) rfl ?_
  exact vL_X9_total_41 F hm fuel x0 x1 s0 (0 : Int32) h
theorem vB_X9_total_37 {K : CT} (F : Fr K cX9_total RX9 (some .int) [] 1 0) (hm : mxL K = 4) (x0 : Option Nat) (x1 : Int32) (h : MH) : V K 37 [(0, vR x0), (1, vI x1)] [] h (B_X9_total_37 x0 x1 h) := by
  unfold B_X9_total_37
  refine V_iconst (pc := 37) F (x := (0 : Int32)) dX9_total_37 (by decide) ?_
  exact vB_X9_total_38 F hm x0 x1 (0 : Int32) h
theorem vB_X9_total_15 {K : CT} (F : Fr K cX9_total RX9 (some .int) [] 1 0) (hm : mxL K = 4) (x0 : Option Nat) (x1 : Int32) (s0 : Option Nat) (s1 : Int32) (h : MH) : V K 15 [(0, vR x0), (1, vI x1)] [vI s1, vR s0] h (B_X9_total_15 x0 x1 s0 s1 h) := by
  unfold B_X9_total_15
  refine V_putI (pc := 15) F 9 0 (by decide) (by decide) rfl rfl g_fl_RX9_96 dX9_total_15 ?_
  intro h3
  refine V_aload_n (pc := 18) F dX9_total_18 0 rfl ?_
  refine V_getI (pc := 19) F 9 0 (by decide) (by decide) rfl g_fl_RX9_96 dX9_total_19 ?_
  intro z4
  refine V_if_ne (pc := 22) F 37 dX9_total_22 (by decide) ?_ ?_
  · exact vB_X9_total_37 F hm x0 x1 h3
  · refine V_iload_n (pc := 25) F dX9_total_25 1 rfl ?_
    refine V_iconst (pc := 26) F (x := (2 : Int32)) dX9_total_26 (by decide) ?_
    refine V_icmp_ne (pc := 27) F 37 dX9_total_27 (by decide) ?_ ?_
    · exact vB_X9_total_37 F hm x0 x1 h3
    · refine V_aload_n (pc := 30) F dX9_total_30 0 rfl ?_
      refine V_getI (pc := 31) F 9 2 (by decide) (by decide) rfl g_fl_RX9_130 dX9_total_31 ?_
      intro z5
      refine V_goto (pc := 34) F 38 dX9_total_34 (by decide) ?_
      exact vB_X9_total_38 F hm x0 x1 z5 h3
theorem vM_X9_total {K : CT} (F : Fr K cX9_total RX9 (some .int) [] 1 0) (hm : mxL K = 4) (x0 : Option Nat) (x1 : Int32) (h : MH) : V K 0 [(0, vR x0), (1, vI x1)] [] h (M_X9_total x0 x1 h) := by
  unfold M_X9_total
  refine V_aload_n (pc := 0) F dX9_total_0 0 rfl ?_
  refine V_iload_n (pc := 1) F dX9_total_1 1 rfl ?_
  refine V_iconst (pc := 2) F (x := (0 : Int32)) dX9_total_2 (by decide) ?_
  refine V_iconst (pc := 3) F (x := (2 : Int32)) dX9_total_3 (by decide) ?_
  refine V_cSM (pc := 4) F (as := [vI x1, vI (0 : Int32), vI (2 : Int32)]) (C_X9_in x1 (0 : Int32) (2 : Int32) h) w_X9_in g_st_X9_in g_ml_RX9_99 (by decide) (rest := [vR x0]) rfl rfl (Nat.le_of_ble_eq_true rfl) dX9_total_4 (k_I fun z1 h2 => ?_)
  refine V_if_eq (pc := 7) F 14 dX9_total_7 (by decide) ?_ ?_
  · refine V_iconst (pc := 14) F (x := (1 : Int32)) dX9_total_14 (by decide) ?_
    exact vB_X9_total_15 F hm x0 x1 x0 (1 : Int32) h2
  · refine V_iconst (pc := 10) F (x := (0 : Int32)) dX9_total_10 (by decide) ?_
    refine V_goto (pc := 11) F 15 dX9_total_11 (by decide) ?_
    exact vB_X9_total_15 F hm x0 x1 x0 (0 : Int32) h2
theorem C_X9_total (x0 : Option Nat) (x1 : Int32) (h : MH) : CtrM yX9_total (WSm yX9_total cX9_total 4 (some .int)) 1 [vR x0, vI x1] h (M_X9_total x0 x1 h) :=
  CtrM_of (by decide) (Nat.le_of_ble_eq_true rfl) (fun K F hm hi => vM_X9_total F hm x0 x1 h)
def B_X9_ofFloat_70 (rc44 : Option Nat → Int32 → Int32 → Int32 → Int32 → MH → Res) (x0 : Option Nat) (x1 : Int32) (x2 : Int32) (x4 : Int32) (s0 : Int32) (s1 : Int32) (h : MH) : Res := bnd (s0 + s1) fun z18 => bnd (x4 + (1)) fun z19 => rc44 x0 x1 x2 z18 z19 h
def B_X9_ofFloat_44 (rc44 : Option Nat → Int32 → Int32 → Int32 → Int32 → MH → Res) (x0 : Option Nat) (x1 : Int32) (x2 : Int32) (x3 : Int32) (x4 : Int32) (h : MH) : Res := gfI h x0 9 23 fun z7 => if z7 ≤ x4 then (if x2 ≠ 0 then (if x2 ≠ (1 : Int32) then (if x2 ≠ (2 : Int32) then (if x2 ≠ (3 : Int32) then (rtI x3 h) else (gfR h x0 9 16 fun r8 => rdI h r8 20 x1 fun z9 => rtI z9 h)) else (gfR h x0 9 14 fun r10 => rdI h r10 20 x1 fun z11 => rtI z11 h)) else (gfR h x0 9 13 fun r12 => rdI h r12 20 x1 fun z13 => rtI z13 h)) else (gfR h x0 9 11 fun r14 => rdI h r14 20 x1 fun z15 => rtI z15 h)) else (gfR h x0 9 27 fun r16 => rdI h r16 20 x4 fun z17 => if z17 ≠ x1 then (B_X9_ofFloat_70 rc44 x0 x1 x2 x4 x3 (0 : Int32) h) else (B_X9_ofFloat_70 rc44 x0 x1 x2 x4 x3 (1 : Int32) h))
def L_X9_ofFloat_44 : Nat → Option Nat → Int32 → Int32 → Int32 → Int32 → MH → Res
  | 0 => fun _ _ _ _ _ _ => none
  | n + 1 => B_X9_ofFloat_44 (L_X9_ofFloat_44 n)
def B_X9_ofFloat_27 (x0 : Option Nat) (x1 : Int32) (x2 : Int32) (s0 : Option Nat) (s1 : Int32) (h : MH) : Res := pfI h s0 9 0 s1 fun h5 => gfI h5 x0 9 0 fun z6 => if z6 ≤ 0 then (L_X9_ofFloat_44 fuel x0 x1 x2 (0 : Int32) (0 : Int32) h5) else (rtI (0 : Int32) h5)
def M_X9_ofFloat (x0 : Option Nat) (x1 : Int32) (x2 : Int32) (h : MH) : Res := chk h x0 9 <| calI (M_X9_isFloat x0 x1 h) fun z1 h2 => if z1 ≠ 0 then (calI (M_X9_in x2 (0 : Int32) (4 : Int32) h2) fun z3 h4 => if z3 ≠ 0 then (B_X9_ofFloat_27 x0 x1 x2 x0 (0 : Int32) h4) else (B_X9_ofFloat_27 x0 x1 x2 x0 (2 : Int32) h4)) else (B_X9_ofFloat_27 x0 x1 x2 x0 (1 : Int32) h2)
theorem vB_X9_ofFloat_70 {K : CT} (F : Fr K cX9_ofFloat RX9 (some .int) [] 2 0) (hm : mxL K = 5) (rc44 : Option Nat → Int32 → Int32 → Int32 → Int32 → MH → Res) (hrc44 : ∀ x0 x1 x2 x3 x4 h, V K 44 [(0, vR x0), (1, vI x1), (2, vI x2), (3, vI x3), (4, vI x4)] [] h (rc44 x0 x1 x2 x3 x4 h)) (x0 : Option Nat) (x1 : Int32) (x2 : Int32) (x4 : Int32) (s0 : Int32) (s1 : Int32) (h : MH) : V K 70 [(0, vR x0), (1, vI x1), (2, vI x2), (4, vI x4)] [vI s1, vI s0] h (B_X9_ofFloat_70 rc44 x0 x1 x2 x4 s0 s1 h) := by
  unfold B_X9_ofFloat_70
  refine V_iadd (pc := 70) F dX9_ofFloat_70 ?_
  intro z18
  refine V_istore_n (pc := 71) F [(3, vI z18), (0, vR x0), (1, vI x1), (2, vI x2), (4, vI x4)] dX9_ofFloat_71 (lt_mx hm (by decide)) rfl ?_
  refine V_iinc (pc := 72) F (fun z19 => [(4, vI z19), (3, vI z18), (0, vR x0), (1, vI x1), (2, vI x2)]) dX9_ofFloat_72 (lt_mx hm (by decide)) 4 rfl (dx := (1 : Int32)) (by decide) (fun _ => rfl) ?_
  intro z19
  refine V_goto (pc := 75) F 44 dX9_ofFloat_75 (by decide) ?_
  refine V_sub [2, 3, 4, 1, 0] (L' := [(0, vR x0), (1, vI x1), (2, vI x2), (3, vI z18), (4, vI z19)]) rfl ?_
  exact hrc44 x0 x1 x2 z18 z19 h
theorem vB_X9_ofFloat_44 {K : CT} (F : Fr K cX9_ofFloat RX9 (some .int) [] 2 0) (hm : mxL K = 5) (rc44 : Option Nat → Int32 → Int32 → Int32 → Int32 → MH → Res) (hrc44 : ∀ x0 x1 x2 x3 x4 h, V K 44 [(0, vR x0), (1, vI x1), (2, vI x2), (3, vI x3), (4, vI x4)] [] h (rc44 x0 x1 x2 x3 x4 h)) (x0 : Option Nat) (x1 : Int32) (x2 : Int32) (x3 : Int32) (x4 : Int32) (h : MH) : V K 44 [(0, vR x0), (1, vI x1), (2, vI x2), (3, vI x3), (4, vI x4)] [] h (B_X9_ofFloat_44 rc44 x0 x1 x2 x3 x4 h) := by
  unfold B_X9_ofFloat_44
  refine V_iload (pc := 44) F dX9_ofFloat_44 4 rfl ?_
  refine V_aload_n (pc := 46) F dX9_ofFloat_46 0 rfl ?_
  refine V_getI (pc := 47) F 9 23 (by decide) (by decide) rfl g_fl_RX9_106 dX9_ofFloat_47 ?_
  intro z7
  refine V_icmp_ge (pc := 50) F 78 dX9_ofFloat_50 (by decide) ?_ ?_
  · refine V_iload_n (pc := 78) F dX9_ofFloat_78 2 rfl ?_
    refine V_if_ne (pc := 79) F 91 dX9_ofFloat_79 (by decide) ?_ ?_
    · refine V_iload_n (pc := 91) F dX9_ofFloat_91 2 rfl ?_
      refine V_iconst (pc := 92) F (x := (1 : Int32)) dX9_ofFloat_92 (by decide) ?_
      refine V_icmp_ne (pc := 93) F 105 dX9_ofFloat_93 (by decide) ?_ ?_
      · refine V_iload_n (pc := 105) F dX9_ofFloat_105 2 rfl ?_
        refine V_iconst (pc := 106) F (x := (2 : Int32)) dX9_ofFloat_106 (by decide) ?_
        refine V_icmp_ne (pc := 107) F 119 dX9_ofFloat_107 (by decide) ?_ ?_
        · refine V_iload_n (pc := 119) F dX9_ofFloat_119 2 rfl ?_
          refine V_iconst (pc := 120) F (x := (3 : Int32)) dX9_ofFloat_120 (by decide) ?_
          refine V_icmp_ne (pc := 121) F 133 dX9_ofFloat_121 (by decide) ?_ ?_
          · refine V_iload_n (pc := 133) F dX9_ofFloat_133 3 rfl ?_
            exact V_iret (pc := 134) F (Or.inl rfl) dX9_ofFloat_134
          · refine V_aload_n (pc := 124) F dX9_ofFloat_124 0 rfl ?_
            refine V_getR (pc := 125) F 9 16 (by decide) (by decide) rfl g_fl_RX9_47 dX9_ofFloat_125 ?_
            intro r8
            refine V_iload_n (pc := 128) F dX9_ofFloat_128 1 rfl ?_
            refine V_iald (pc := 129) F dX9_ofFloat_129 ?_
            intro z9
            refine V_goto (pc := 130) F 134 dX9_ofFloat_130 (by decide) ?_
            exact V_iret (pc := 134) F (Or.inl rfl) dX9_ofFloat_134
        · refine V_aload_n (pc := 110) F dX9_ofFloat_110 0 rfl ?_
          refine V_getR (pc := 111) F 9 14 (by decide) (by decide) rfl g_fl_RX9_41 dX9_ofFloat_111 ?_
          intro r10
          refine V_iload_n (pc := 114) F dX9_ofFloat_114 1 rfl ?_
          refine V_iald (pc := 115) F dX9_ofFloat_115 ?_
          intro z11
          refine V_goto (pc := 116) F 134 dX9_ofFloat_116 (by decide) ?_
          exact V_iret (pc := 134) F (Or.inl rfl) dX9_ofFloat_134
      · refine V_aload_n (pc := 96) F dX9_ofFloat_96 0 rfl ?_
        refine V_getR (pc := 97) F 9 13 (by decide) (by decide) rfl g_fl_RX9_38 dX9_ofFloat_97 ?_
        intro r12
        refine V_iload_n (pc := 100) F dX9_ofFloat_100 1 rfl ?_
        refine V_iald (pc := 101) F dX9_ofFloat_101 ?_
        intro z13
        refine V_goto (pc := 102) F 134 dX9_ofFloat_102 (by decide) ?_
        exact V_iret (pc := 134) F (Or.inl rfl) dX9_ofFloat_134
    · refine V_aload_n (pc := 82) F dX9_ofFloat_82 0 rfl ?_
      refine V_getR (pc := 83) F 9 11 (by decide) (by decide) rfl g_fl_RX9_32 dX9_ofFloat_83 ?_
      intro r14
      refine V_iload_n (pc := 86) F dX9_ofFloat_86 1 rfl ?_
      refine V_iald (pc := 87) F dX9_ofFloat_87 ?_
      intro z15
      refine V_goto (pc := 88) F 134 dX9_ofFloat_88 (by decide) ?_
      exact V_iret (pc := 134) F (Or.inl rfl) dX9_ofFloat_134
  · refine V_iload_n (pc := 53) F dX9_ofFloat_53 3 rfl ?_
    refine V_aload_n (pc := 54) F dX9_ofFloat_54 0 rfl ?_
    refine V_getR (pc := 55) F 9 27 (by decide) (by decide) rfl g_fl_RX9_71 dX9_ofFloat_55 ?_
    intro r16
    refine V_iload (pc := 58) F dX9_ofFloat_58 4 rfl ?_
    refine V_iald (pc := 60) F dX9_ofFloat_60 ?_
    intro z17
    refine V_iload_n (pc := 61) F dX9_ofFloat_61 1 rfl ?_
    refine V_icmp_ne (pc := 62) F 69 dX9_ofFloat_62 (by decide) ?_ ?_
    · refine V_iconst (pc := 69) F (x := (0 : Int32)) dX9_ofFloat_69 (by decide) ?_
      refine V_sub [0, 1, 2, 4] (L' := [(0, vR x0), (1, vI x1), (2, vI x2), (4, vI x4)]) rfl ?_
      exact vB_X9_ofFloat_70 F hm rc44 hrc44 x0 x1 x2 x4 x3 (0 : Int32) h
    · refine V_iconst (pc := 65) F (x := (1 : Int32)) dX9_ofFloat_65 (by decide) ?_
      refine V_goto (pc := 66) F 70 dX9_ofFloat_66 (by decide) ?_
      refine V_sub [0, 1, 2, 4] (L' := [(0, vR x0), (1, vI x1), (2, vI x2), (4, vI x4)]) rfl ?_
      exact vB_X9_ofFloat_70 F hm rc44 hrc44 x0 x1 x2 x4 x3 (1 : Int32) h
theorem vL_X9_ofFloat_44 {K : CT} (F : Fr K cX9_ofFloat RX9 (some .int) [] 2 0) (hm : mxL K = 5) (n : Nat) : ∀ x0 x1 x2 x3 x4 h, V K 44 [(0, vR x0), (1, vI x1), (2, vI x2), (3, vI x3), (4, vI x4)] [] h (L_X9_ofFloat_44 n x0 x1 x2 x3 x4 h) := by
  induction n with
  | zero => intros; exact V_none
  | succ n ih => intro x0 x1 x2 x3 x4 h; exact vB_X9_ofFloat_44 F hm _ ih x0 x1 x2 x3 x4 h
theorem vB_X9_ofFloat_27 {K : CT} (F : Fr K cX9_ofFloat RX9 (some .int) [] 2 0) (hm : mxL K = 5) (x0 : Option Nat) (x1 : Int32) (x2 : Int32) (s0 : Option Nat) (s1 : Int32) (h : MH) : V K 27 [(0, vR x0), (1, vI x1), (2, vI x2)] [vI s1, vR s0] h (B_X9_ofFloat_27 x0 x1 x2 s0 s1 h) := by
  unfold B_X9_ofFloat_27
  refine V_putI (pc := 27) F 9 0 (by decide) (by decide) rfl rfl g_fl_RX9_96 dX9_ofFloat_27 ?_
  intro h5
  refine V_aload_n (pc := 30) F dX9_ofFloat_30 0 rfl ?_
  refine V_getI (pc := 31) F 9 0 (by decide) (by decide) rfl g_fl_RX9_96 dX9_ofFloat_31 ?_
  intro z6
  refine V_if_le (pc := 34) F 39 dX9_ofFloat_34 (by decide) ?_ ?_
  · refine V_iconst (pc := 39) F (x := (0 : Int32)) dX9_ofFloat_39 (by decide) ?_
    refine V_istore_n (pc := 40) F [(3, vI (0 : Int32)), (0, vR x0), (1, vI x1), (2, vI x2)] dX9_ofFloat_40 (lt_mx hm (by decide)) rfl ?_
    refine V_iconst (pc := 41) F (x := (0 : Int32)) dX9_ofFloat_41 (by decide) ?_
    refine V_istore (pc := 42) F [(4, vI (0 : Int32)), (3, vI (0 : Int32)), (0, vR x0), (1, vI x1), (2, vI x2)] dX9_ofFloat_42 (lt_mx hm (by decide)) rfl ?_
    refine V_sub [2, 3, 4, 1, 0] (L' := [(0, vR x0), (1, vI x1), (2, vI x2), (3, vI (0 : Int32)), (4, vI (0 : Int32))]) rfl ?_
    exact vL_X9_ofFloat_44 F hm fuel x0 x1 x2 (0 : Int32) (0 : Int32) h5
  · refine V_iconst (pc := 37) F (x := (0 : Int32)) dX9_ofFloat_37 (by decide) ?_
    exact V_iret (pc := 38) F (Or.inl rfl) dX9_ofFloat_38
theorem vM_X9_ofFloat {K : CT} (F : Fr K cX9_ofFloat RX9 (some .int) [] 2 0) (hm : mxL K = 5) (x0 : Option Nat) (x1 : Int32) (x2 : Int32) (h : MH) : V K 0 [(0, vR x0), (1, vI x1), (2, vI x2)] [] h (M_X9_ofFloat x0 x1 x2 h) := by
  unfold M_X9_ofFloat
  refine V_aload_n (pc := 0) F dX9_ofFloat_0 0 rfl ?_
  refine V_aload_n (pc := 1) F dX9_ofFloat_1 0 rfl ?_
  refine V_iload_n (pc := 2) F dX9_ofFloat_2 1 rfl ?_
  refine V_cVM (pc := 3) F 9 (by decide) (as := [vI x1]) (C_X9_isFloat x0 x1 h) w_X9_isFloat g_in_X9_isFloat g_se_X9_isFloat g_ml_RX9_164 (by decide) (rest := [vR x0]) rfl rfl (Nat.le_of_ble_eq_true rfl) dX9_ofFloat_3 (k_I fun z1 h2 => ?_)
  refine V_if_ne (pc := 6) F 13 dX9_ofFloat_6 (by decide) ?_ ?_
  · refine V_iload_n (pc := 13) F dX9_ofFloat_13 2 rfl ?_
    refine V_iconst (pc := 14) F (x := (0 : Int32)) dX9_ofFloat_14 (by decide) ?_
    refine V_iconst (pc := 15) F (x := (4 : Int32)) dX9_ofFloat_15 (by decide) ?_
    refine V_cSM (pc := 16) F (as := [vI x2, vI (0 : Int32), vI (4 : Int32)]) (C_X9_in x2 (0 : Int32) (4 : Int32) h2) w_X9_in g_st_X9_in g_ml_RX9_99 (by decide) (rest := [vR x0]) rfl rfl (Nat.le_of_ble_eq_true rfl) dX9_ofFloat_16 (k_I fun z3 h4 => ?_)
    refine V_if_ne (pc := 19) F 26 dX9_ofFloat_19 (by decide) ?_ ?_
    · refine V_iconst (pc := 26) F (x := (0 : Int32)) dX9_ofFloat_26 (by decide) ?_
      exact vB_X9_ofFloat_27 F hm x0 x1 x2 x0 (0 : Int32) h4
    · refine V_iconst (pc := 22) F (x := (2 : Int32)) dX9_ofFloat_22 (by decide) ?_
      refine V_goto (pc := 23) F 27 dX9_ofFloat_23 (by decide) ?_
      exact vB_X9_ofFloat_27 F hm x0 x1 x2 x0 (2 : Int32) h4
  · refine V_iconst (pc := 9) F (x := (1 : Int32)) dX9_ofFloat_9 (by decide) ?_
    refine V_goto (pc := 10) F 27 dX9_ofFloat_10 (by decide) ?_
    exact vB_X9_ofFloat_27 F hm x0 x1 x2 x0 (1 : Int32) h2
theorem C_X9_ofFloat (x0 : Option Nat) (x1 : Int32) (x2 : Int32) (h : MH) : CtrM yX9_ofFloat (WSm yX9_ofFloat cX9_ofFloat 5 (some .int)) 2 [vR x0, vI x1, vI x2] h (M_X9_ofFloat x0 x1 x2 h) :=
  CtrM_of (by decide) (Nat.le_of_ble_eq_true rfl) (fun K F hm hi => vM_X9_ofFloat F hm x0 x1 x2 h)
def M_X9_stations (x0 : Option Nat) (h : MH) : Res := pfI h x0 9 0 (0 : Int32) fun h1 => gfI h1 x0 9 17 fun z2 => rtI z2 h1
theorem vM_X9_stations {K : CT} (F : Fr K cX9_stations RX9 (some .int) [] 0 0) (hm : mxL K = 1) (x0 : Option Nat) (h : MH) : V K 0 [(0, vR x0)] [] h (M_X9_stations x0 h) := by
  unfold M_X9_stations
  refine V_aload_n (pc := 0) F dX9_stations_0 0 rfl ?_
  refine V_iconst (pc := 1) F (x := (0 : Int32)) dX9_stations_1 (by decide) ?_
  refine V_putI (pc := 2) F 9 0 (by decide) (by decide) rfl rfl g_fl_RX9_96 dX9_stations_2 ?_
  intro h1
  refine V_aload_n (pc := 5) F dX9_stations_5 0 rfl ?_
  refine V_getI (pc := 6) F 9 17 (by decide) (by decide) rfl g_fl_RX9_123 dX9_stations_6 ?_
  intro z2
  exact V_iret (pc := 9) F (Or.inl rfl) dX9_stations_9
theorem C_X9_stations (x0 : Option Nat) (h : MH) : CtrM yX9_stations (WSm yX9_stations cX9_stations 1 (some .int)) 0 [vR x0] h (M_X9_stations x0 h) :=
  CtrM_of (by decide) (Nat.le_of_ble_eq_true rfl) (fun K F hm hi => vM_X9_stations F hm x0 h)
def M_X9_readings (x0 : Option Nat) (h : MH) : Res := pfI h x0 9 0 (0 : Int32) fun h1 => gfI h1 x0 9 23 fun z2 => rtI z2 h1
theorem vM_X9_readings {K : CT} (F : Fr K cX9_readings RX9 (some .int) [] 0 0) (hm : mxL K = 1) (x0 : Option Nat) (h : MH) : V K 0 [(0, vR x0)] [] h (M_X9_readings x0 h) := by
  unfold M_X9_readings
  refine V_aload_n (pc := 0) F dX9_readings_0 0 rfl ?_
  refine V_iconst (pc := 1) F (x := (0 : Int32)) dX9_readings_1 (by decide) ?_
  refine V_putI (pc := 2) F 9 0 (by decide) (by decide) rfl rfl g_fl_RX9_96 dX9_readings_2 ?_
  intro h1
  refine V_aload_n (pc := 5) F dX9_readings_5 0 rfl ?_
  refine V_getI (pc := 6) F 9 23 (by decide) (by decide) rfl g_fl_RX9_106 dX9_readings_6 ?_
  intro z2
  exact V_iret (pc := 9) F (Or.inl rfl) dX9_readings_9
theorem C_X9_readings (x0 : Option Nat) (h : MH) : CtrM yX9_readings (WSm yX9_readings cX9_readings 1 (some .int)) 0 [vR x0] h (M_X9_readings x0 h) :=
  CtrM_of (by decide) (Nat.le_of_ble_eq_true rfl) (fun K F hm hi => vM_X9_readings F hm x0 h)
def B_X9_ofReading_27 (x0 : Option Nat) (x1 : Int32) (x2 : Int32) (s0 : Option Nat) (s1 : Int32) (h : MH) : Res := pfI h s0 9 0 s1 fun h5 => gfI h5 x0 9 0 fun z6 => if z6 ≤ 0 then (if x2 ≠ 0 then (if x2 ≠ (1 : Int32) then (if x2 ≠ (2 : Int32) then (if x2 ≠ (3 : Int32) then (if x2 ≠ (4 : Int32) then (gfR h5 x0 9 27 fun r7 => rdI h5 r7 20 x1 fun z8 => rtI z8 h5) else (chk h5 x0 9 <| calI (M_X9_flagOf x0 x1 h5) fun z9 h10 => rtI z9 h10)) else (chk h5 x0 9 <| calI (M_X9_corrected x0 x1 h5) fun z11 h12 => rtI z11 h12)) else (gfR h5 x0 9 26 fun r13 => rdI h5 r13 20 x1 fun z14 => rtI z14 h5)) else (gfR h5 x0 9 25 fun r15 => rdI h5 r15 20 x1 fun z16 => rtI z16 h5)) else (gfR h5 x0 9 24 fun r17 => rdI h5 r17 20 x1 fun z18 => rtI z18 h5)) else (rtI (0 : Int32) h5)
def M_X9_ofReading (x0 : Option Nat) (x1 : Int32) (x2 : Int32) (h : MH) : Res := chk h x0 9 <| calI (M_X9_isReading x0 x1 h) fun z1 h2 => if z1 ≠ 0 then (calI (M_X9_in x2 (0 : Int32) (5 : Int32) h2) fun z3 h4 => if z3 ≠ 0 then (B_X9_ofReading_27 x0 x1 x2 x0 (0 : Int32) h4) else (B_X9_ofReading_27 x0 x1 x2 x0 (2 : Int32) h4)) else (B_X9_ofReading_27 x0 x1 x2 x0 (1 : Int32) h2)
theorem vB_X9_ofReading_27 {K : CT} (F : Fr K cX9_ofReading RX9 (some .int) [] 2 0) (hm : mxL K = 3) (x0 : Option Nat) (x1 : Int32) (x2 : Int32) (s0 : Option Nat) (s1 : Int32) (h : MH) : V K 27 [(0, vR x0), (1, vI x1), (2, vI x2)] [vI s1, vR s0] h (B_X9_ofReading_27 x0 x1 x2 s0 s1 h) := by
  unfold B_X9_ofReading_27
  refine V_putI (pc := 27) F 9 0 (by decide) (by decide) rfl rfl g_fl_RX9_96 dX9_ofReading_27 ?_
  intro h5
  refine V_aload_n (pc := 30) F dX9_ofReading_30 0 rfl ?_
  refine V_getI (pc := 31) F 9 0 (by decide) (by decide) rfl g_fl_RX9_96 dX9_ofReading_31 ?_
  intro z6
  refine V_if_le (pc := 34) F 39 dX9_ofReading_34 (by decide) ?_ ?_
  · refine V_iload_n (pc := 39) F dX9_ofReading_39 2 rfl ?_
    refine V_if_ne (pc := 40) F 52 dX9_ofReading_40 (by decide) ?_ ?_
    · refine V_iload_n (pc := 52) F dX9_ofReading_52 2 rfl ?_
      refine V_iconst (pc := 53) F (x := (1 : Int32)) dX9_ofReading_53 (by decide) ?_
      refine V_icmp_ne (pc := 54) F 66 dX9_ofReading_54 (by decide) ?_ ?_
      · refine V_iload_n (pc := 66) F dX9_ofReading_66 2 rfl ?_
        refine V_iconst (pc := 67) F (x := (2 : Int32)) dX9_ofReading_67 (by decide) ?_
        refine V_icmp_ne (pc := 68) F 80 dX9_ofReading_68 (by decide) ?_ ?_
        · refine V_iload_n (pc := 80) F dX9_ofReading_80 2 rfl ?_
          refine V_iconst (pc := 81) F (x := (3 : Int32)) dX9_ofReading_81 (by decide) ?_
          refine V_icmp_ne (pc := 82) F 93 dX9_ofReading_82 (by decide) ?_ ?_
          · refine V_iload_n (pc := 93) F dX9_ofReading_93 2 rfl ?_
            refine V_iconst (pc := 94) F (x := (4 : Int32)) dX9_ofReading_94 (by decide) ?_
            refine V_icmp_ne (pc := 95) F 106 dX9_ofReading_95 (by decide) ?_ ?_
            · refine V_aload_n (pc := 106) F dX9_ofReading_106 0 rfl ?_
              refine V_getR (pc := 107) F 9 27 (by decide) (by decide) rfl g_fl_RX9_71 dX9_ofReading_107 ?_
              intro r7
              refine V_iload_n (pc := 110) F dX9_ofReading_110 1 rfl ?_
              refine V_iald (pc := 111) F dX9_ofReading_111 ?_
              intro z8
              exact V_iret (pc := 112) F (Or.inl rfl) dX9_ofReading_112
            · refine V_aload_n (pc := 98) F dX9_ofReading_98 0 rfl ?_
              refine V_iload_n (pc := 99) F dX9_ofReading_99 1 rfl ?_
              refine V_cVM (pc := 100) F 9 (by decide) (as := [vI x1]) (C_X9_flagOf x0 x1 h5) w_X9_flagOf g_in_X9_flagOf g_se_X9_flagOf g_ml_RX9_176 (by decide) (rest := []) rfl rfl (Nat.le_of_ble_eq_true rfl) dX9_ofReading_100 (k_I fun z9 h10 => ?_)
              refine V_goto (pc := 103) F 112 dX9_ofReading_103 (by decide) ?_
              exact V_iret (pc := 112) F (Or.inl rfl) dX9_ofReading_112
          · refine V_aload_n (pc := 85) F dX9_ofReading_85 0 rfl ?_
            refine V_iload_n (pc := 86) F dX9_ofReading_86 1 rfl ?_
            refine V_cVM (pc := 87) F 9 (by decide) (as := [vI x1]) (C_X9_corrected x0 x1 h5) w_X9_corrected g_in_X9_corrected g_se_X9_corrected g_ml_RX9_170 (by decide) (rest := []) rfl rfl (Nat.le_of_ble_eq_true rfl) dX9_ofReading_87 (k_I fun z11 h12 => ?_)
            refine V_goto (pc := 90) F 112 dX9_ofReading_90 (by decide) ?_
            exact V_iret (pc := 112) F (Or.inl rfl) dX9_ofReading_112
        · refine V_aload_n (pc := 71) F dX9_ofReading_71 0 rfl ?_
          refine V_getR (pc := 72) F 9 26 (by decide) (by decide) rfl g_fl_RX9_68 dX9_ofReading_72 ?_
          intro r13
          refine V_iload_n (pc := 75) F dX9_ofReading_75 1 rfl ?_
          refine V_iald (pc := 76) F dX9_ofReading_76 ?_
          intro z14
          refine V_goto (pc := 77) F 112 dX9_ofReading_77 (by decide) ?_
          exact V_iret (pc := 112) F (Or.inl rfl) dX9_ofReading_112
      · refine V_aload_n (pc := 57) F dX9_ofReading_57 0 rfl ?_
        refine V_getR (pc := 58) F 9 25 (by decide) (by decide) rfl g_fl_RX9_65 dX9_ofReading_58 ?_
        intro r15
        refine V_iload_n (pc := 61) F dX9_ofReading_61 1 rfl ?_
        refine V_iald (pc := 62) F dX9_ofReading_62 ?_
        intro z16
        refine V_goto (pc := 63) F 112 dX9_ofReading_63 (by decide) ?_
        exact V_iret (pc := 112) F (Or.inl rfl) dX9_ofReading_112
    · refine V_aload_n (pc := 43) F dX9_ofReading_43 0 rfl ?_
      refine V_getR (pc := 44) F 9 24 (by decide) (by decide) rfl g_fl_RX9_62 dX9_ofReading_44 ?_
      intro r17
      refine V_iload_n (pc := 47) F dX9_ofReading_47 1 rfl ?_
      refine V_iald (pc := 48) F dX9_ofReading_48 ?_
      intro z18
      refine V_goto (pc := 49) F 112 dX9_ofReading_49 (by decide) ?_
      exact V_iret (pc := 112) F (Or.inl rfl) dX9_ofReading_112
  · refine V_iconst (pc := 37) F (x := (0 : Int32)) dX9_ofReading_37 (by decide) ?_
    exact V_iret (pc := 38) F (Or.inl rfl) dX9_ofReading_38
theorem vM_X9_ofReading {K : CT} (F : Fr K cX9_ofReading RX9 (some .int) [] 2 0) (hm : mxL K = 3) (x0 : Option Nat) (x1 : Int32) (x2 : Int32) (h : MH) : V K 0 [(0, vR x0), (1, vI x1), (2, vI x2)] [] h (M_X9_ofReading x0 x1 x2 h) := by
  unfold M_X9_ofReading
  refine V_aload_n (pc := 0) F dX9_ofReading_0 0 rfl ?_
  refine V_aload_n (pc := 1) F dX9_ofReading_1 0 rfl ?_
  refine V_iload_n (pc := 2) F dX9_ofReading_2 1 rfl ?_
  refine V_cVM (pc := 3) F 9 (by decide) (as := [vI x1]) (C_X9_isReading x0 x1 h) w_X9_isReading g_in_X9_isReading g_se_X9_isReading g_ml_RX9_173 (by decide) (rest := [vR x0]) rfl rfl (Nat.le_of_ble_eq_true rfl) dX9_ofReading_3 (k_I fun z1 h2 => ?_)
  refine V_if_ne (pc := 6) F 13 dX9_ofReading_6 (by decide) ?_ ?_
  · refine V_iload_n (pc := 13) F dX9_ofReading_13 2 rfl ?_
    refine V_iconst (pc := 14) F (x := (0 : Int32)) dX9_ofReading_14 (by decide) ?_
    refine V_iconst (pc := 15) F (x := (5 : Int32)) dX9_ofReading_15 (by decide) ?_
    refine V_cSM (pc := 16) F (as := [vI x2, vI (0 : Int32), vI (5 : Int32)]) (C_X9_in x2 (0 : Int32) (5 : Int32) h2) w_X9_in g_st_X9_in g_ml_RX9_99 (by decide) (rest := [vR x0]) rfl rfl (Nat.le_of_ble_eq_true rfl) dX9_ofReading_16 (k_I fun z3 h4 => ?_)
    refine V_if_ne (pc := 19) F 26 dX9_ofReading_19 (by decide) ?_ ?_
    · refine V_iconst (pc := 26) F (x := (0 : Int32)) dX9_ofReading_26 (by decide) ?_
      exact vB_X9_ofReading_27 F hm x0 x1 x2 x0 (0 : Int32) h4
    · refine V_iconst (pc := 22) F (x := (2 : Int32)) dX9_ofReading_22 (by decide) ?_
      refine V_goto (pc := 23) F 27 dX9_ofReading_23 (by decide) ?_
      exact vB_X9_ofReading_27 F hm x0 x1 x2 x0 (2 : Int32) h4
  · refine V_iconst (pc := 9) F (x := (1 : Int32)) dX9_ofReading_9 (by decide) ?_
    refine V_goto (pc := 10) F 27 dX9_ofReading_10 (by decide) ?_
    exact vB_X9_ofReading_27 F hm x0 x1 x2 x0 (1 : Int32) h2
theorem C_X9_ofReading (x0 : Option Nat) (x1 : Int32) (x2 : Int32) (h : MH) : CtrM yX9_ofReading (WSm yX9_ofReading cX9_ofReading 3 (some .int)) 2 [vR x0, vI x1, vI x2] h (M_X9_ofReading x0 x1 x2 h) :=
  CtrM_of (by decide) (Nat.le_of_ble_eq_true rfl) (fun K F hm hi => vM_X9_ofReading F hm x0 x1 x2 h)
def B_X9_misses_33 (h : MH) : Res := rtI (2 : Int32) h
def M_X9_misses (x0 : Option Nat) (x1 : Int32) (x2 : Int32) (x3 : Int32) (h : MH) : Res := calI (M_X9_isCell x1 h) fun z1 h2 => if z1 ≠ 0 then (calI (M_X9_in x2 (0 : Int32) (1000 : Int32) h2) fun z3 h4 => if z3 = 0 then (B_X9_misses_33 h4) else (calI (M_X9_in x3 (0 : Int32) (1000 : Int32) h4) fun z5 h6 => if z5 ≠ 0 then (gfR h6 x0 9 3 fun r7 => rdI h6 r7 21 x1 fun z8 => if z8 = 0 then (rtI (0 : Int32) h6) else (rtI (3 : Int32) h6)) else (B_X9_misses_33 h6))) else (rtI (1 : Int32) h2)
theorem vB_X9_misses_33 {K : CT} (F : Fr K cX9_misses RX9 (some .int) [] 2 0) (hm : mxL K = 4) (h : MH) : V K 33 [] [] h (B_X9_misses_33 h) := by
  unfold B_X9_misses_33
  refine V_iconst (pc := 33) F (x := (2 : Int32)) dX9_misses_33 (by decide) ?_
  refine V_goto (pc := 34) F 51 dX9_misses_34 (by decide) ?_
  exact V_iret (pc := 51) F (Or.inl rfl) dX9_misses_51
theorem vM_X9_misses {K : CT} (F : Fr K cX9_misses RX9 (some .int) [] 2 0) (hm : mxL K = 4) (x0 : Option Nat) (x1 : Int32) (x2 : Int32) (x3 : Int32) (h : MH) : V K 0 [(0, vR x0), (1, vI x1), (2, vI x2), (3, vI x3)] [] h (M_X9_misses x0 x1 x2 x3 h) := by
  unfold M_X9_misses
  refine V_iload_n (pc := 0) F dX9_misses_0 1 rfl ?_
  refine V_cSM (pc := 1) F (as := [vI x1]) (C_X9_isCell x1 h) w_X9_isCell g_st_X9_isCell g_ml_RX9_116 (by decide) (rest := []) rfl rfl (Nat.le_of_ble_eq_true rfl) dX9_misses_1 (k_I fun z1 h2 => ?_)
  refine V_if_ne (pc := 4) F 11 dX9_misses_4 (by decide) ?_ ?_
  · refine V_iload_n (pc := 11) F dX9_misses_11 2 rfl ?_
    refine V_iconst (pc := 12) F (x := (0 : Int32)) dX9_misses_12 (by decide) ?_
    refine V_sipush (pc := 13) F (x := (1000 : Int32)) dX9_misses_13 (by decide) ?_
    refine V_cSM (pc := 16) F (as := [vI x2, vI (0 : Int32), vI (1000 : Int32)]) (C_X9_in x2 (0 : Int32) (1000 : Int32) h2) w_X9_in g_st_X9_in g_ml_RX9_99 (by decide) (rest := []) rfl rfl (Nat.le_of_ble_eq_true rfl) dX9_misses_16 (k_I fun z3 h4 => ?_)
    refine V_if_eq (pc := 19) F 33 dX9_misses_19 (by decide) ?_ ?_
    · refine V_sub [] (L' := []) rfl ?_
      exact vB_X9_misses_33 F hm h4
    · refine V_iload_n (pc := 22) F dX9_misses_22 3 rfl ?_
      refine V_iconst (pc := 23) F (x := (0 : Int32)) dX9_misses_23 (by decide) ?_
      refine V_sipush (pc := 24) F (x := (1000 : Int32)) dX9_misses_24 (by decide) ?_
      refine V_cSM (pc := 27) F (as := [vI x3, vI (0 : Int32), vI (1000 : Int32)]) (C_X9_in x3 (0 : Int32) (1000 : Int32) h4) w_X9_in g_st_X9_in g_ml_RX9_99 (by decide) (rest := []) rfl rfl (Nat.le_of_ble_eq_true rfl) dX9_misses_27 (k_I fun z5 h6 => ?_)
      refine V_if_ne (pc := 30) F 37 dX9_misses_30 (by decide) ?_ ?_
      · refine V_aload_n (pc := 37) F dX9_misses_37 0 rfl ?_
        refine V_getR (pc := 38) F 9 3 (by decide) (by decide) rfl g_fl_RX9_7 dX9_misses_38 ?_
        intro r7
        refine V_iload_n (pc := 41) F dX9_misses_41 1 rfl ?_
        refine V_zald (pc := 42) F dX9_misses_42 ?_
        intro z8
        refine V_if_eq (pc := 43) F 50 dX9_misses_43 (by decide) ?_ ?_
        · refine V_iconst (pc := 50) F (x := (0 : Int32)) dX9_misses_50 (by decide) ?_
          exact V_iret (pc := 51) F (Or.inl rfl) dX9_misses_51
        · refine V_iconst (pc := 46) F (x := (3 : Int32)) dX9_misses_46 (by decide) ?_
          refine V_goto (pc := 47) F 51 dX9_misses_47 (by decide) ?_
          exact V_iret (pc := 51) F (Or.inl rfl) dX9_misses_51
      · refine V_sub [] (L' := []) rfl ?_
        exact vB_X9_misses_33 F hm h6
  · refine V_iconst (pc := 7) F (x := (1 : Int32)) dX9_misses_7 (by decide) ?_
    refine V_goto (pc := 8) F 51 dX9_misses_8 (by decide) ?_
    exact V_iret (pc := 51) F (Or.inl rfl) dX9_misses_51
theorem C_X9_misses (x0 : Option Nat) (x1 : Int32) (x2 : Int32) (x3 : Int32) (h : MH) : CtrM yX9_misses (WSm yX9_misses cX9_misses 4 (some .int)) 2 [vR x0, vI x1, vI x2, vI x3] h (M_X9_misses x0 x1 x2 x3 h) :=
  CtrM_of (by decide) (Nat.le_of_ble_eq_true rfl) (fun K F hm hi => vM_X9_misses F hm x0 x1 x2 x3 h)
def M_X9_weight (x0 : Option Nat) (x1 : Int32) (x2 : Int32) (x3 : Int32) (x4 : Int32) (h : MH) : Res := gfR h x0 9 25 fun r1 => rdI h r1 20 x1 fun z2 => rmI z2 (10 : Int32) fun z3 => rmI x2 (10 : Int32) fun z4 => bnd (z3 - z4) fun z5 => calI (M_X9_size z5 h) fun z6 h7 => gfR h7 x0 9 25 fun r8 => rdI h7 r8 20 x1 fun z9 => dvI z9 (10 : Int32) fun z10 => dvI x2 (10 : Int32) fun z11 => bnd (z10 - z11) fun z12 => calI (M_X9_size z12 h7) fun z13 h14 => bnd (z6 + z13) fun z15 => if (8 : Int32) ≤ z15 then (rtI (0 : Int32) h14) else (gfR h14 x0 9 24 fun r16 => rdI h14 r16 20 x1 fun z17 => bnd (z17 - x3) fun z18 => calI (M_X9_size z18 h14) fun z19 h20 => if x4 < z19 then (rtI (0 : Int32) h20) else (chk h20 x0 9 <| calI (M_X9_flagOf x0 x1 h20) fun z21 h22 => if z21 ≠ 0 then (rtI (0 : Int32) h22) else (bnd ((8 : Int32) - z15) fun z23 => rtI z23 h22)))
theorem vM_X9_weight {K : CT} (F : Fr K cX9_weight RX9 (some .int) [] 2 0) (hm : mxL K = 6) (x0 : Option Nat) (x1 : Int32) (x2 : Int32) (x3 : Int32) (x4 : Int32) (h : MH) : V K 0 [(0, vR x0), (1, vI x1), (2, vI x2), (3, vI x3), (4, vI x4)] [] h (M_X9_weight x0 x1 x2 x3 x4 h) := by
  unfold M_X9_weight
  refine V_aload_n (pc := 0) F dX9_weight_0 0 rfl ?_
  refine V_getR (pc := 1) F 9 25 (by decide) (by decide) rfl g_fl_RX9_65 dX9_weight_1 ?_
  intro r1
  refine V_iload_n (pc := 4) F dX9_weight_4 1 rfl ?_
  refine V_iald (pc := 5) F dX9_weight_5 ?_
  intro z2
  refine V_bipush (pc := 6) F (x := (10 : Int32)) dX9_weight_6 (by decide) ?_
  refine V_irem (pc := 8) F dX9_weight_8 ?_
  intro z3
  refine V_iload_n (pc := 9) F dX9_weight_9 2 rfl ?_
  refine V_bipush (pc := 10) F (x := (10 : Int32)) dX9_weight_10 (by decide) ?_
  refine V_irem (pc := 12) F dX9_weight_12 ?_
  intro z4
  refine V_isub (pc := 13) F dX9_weight_13 ?_
  intro z5
  refine V_cSM (pc := 14) F (as := [vI z5]) (C_X9_size z5 h) w_X9_size g_st_X9_size g_ml_RX9_161 (by decide) (rest := []) rfl rfl (Nat.le_of_ble_eq_true rfl) dX9_weight_14 (k_I fun z6 h7 => ?_)
  refine V_aload_n (pc := 17) F dX9_weight_17 0 rfl ?_
  refine V_getR (pc := 18) F 9 25 (by decide) (by decide) rfl g_fl_RX9_65 dX9_weight_18 ?_
  intro r8
  refine V_iload_n (pc := 21) F dX9_weight_21 1 rfl ?_
  refine V_iald (pc := 22) F dX9_weight_22 ?_
  intro z9
  refine V_bipush (pc := 23) F (x := (10 : Int32)) dX9_weight_23 (by decide) ?_
  refine V_idiv (pc := 25) F dX9_weight_25 ?_
  intro z10
  refine V_iload_n (pc := 26) F dX9_weight_26 2 rfl ?_
  refine V_bipush (pc := 27) F (x := (10 : Int32)) dX9_weight_27 (by decide) ?_
  refine V_idiv (pc := 29) F dX9_weight_29 ?_
  intro z11
  refine V_isub (pc := 30) F dX9_weight_30 ?_
  intro z12
  refine V_cSM (pc := 31) F (as := [vI z12]) (C_X9_size z12 h7) w_X9_size g_st_X9_size g_ml_RX9_161 (by decide) (rest := [vI z6]) rfl rfl (Nat.le_of_ble_eq_true rfl) dX9_weight_31 (k_I fun z13 h14 => ?_)
  refine V_iadd (pc := 34) F dX9_weight_34 ?_
  intro z15
  refine V_istore (pc := 35) F [(5, vI z15), (0, vR x0), (1, vI x1), (2, vI x2), (3, vI x3), (4, vI x4)] dX9_weight_35 (lt_mx hm (by decide)) rfl ?_
  refine V_iload (pc := 37) F dX9_weight_37 0 rfl ?_
  refine V_bipush (pc := 39) F (x := (8 : Int32)) dX9_weight_39 (by decide) ?_
  refine V_icmp_ge (pc := 41) F 76 dX9_weight_41 (by decide) ?_ ?_
  · refine V_iconst (pc := 76) F (x := (0 : Int32)) dX9_weight_76 (by decide) ?_
    exact V_iret (pc := 77) F (Or.inl rfl) dX9_weight_77
  · refine V_aload_n (pc := 44) F dX9_weight_44 1 rfl ?_
    refine V_getR (pc := 45) F 9 24 (by decide) (by decide) rfl g_fl_RX9_62 dX9_weight_45 ?_
    intro r16
    refine V_iload_n (pc := 48) F dX9_weight_48 2 rfl ?_
    refine V_iald (pc := 49) F dX9_weight_49 ?_
    intro z17
    refine V_iload_n (pc := 50) F dX9_weight_50 4 rfl ?_
    refine V_isub (pc := 51) F dX9_weight_51 ?_
    intro z18
    refine V_cSM (pc := 52) F (as := [vI z18]) (C_X9_size z18 h14) w_X9_size g_st_X9_size g_ml_RX9_161 (by decide) (rest := []) rfl rfl (Nat.le_of_ble_eq_true rfl) dX9_weight_52 (k_I fun z19 h20 => ?_)
    refine V_iload (pc := 55) F dX9_weight_55 5 rfl ?_
    refine V_icmp_gt (pc := 57) F 76 dX9_weight_57 (by decide) ?_ ?_
    · refine V_iconst (pc := 76) F (x := (0 : Int32)) dX9_weight_76 (by decide) ?_
      exact V_iret (pc := 77) F (Or.inl rfl) dX9_weight_77
    · refine V_aload_n (pc := 60) F dX9_weight_60 1 rfl ?_
      refine V_iload_n (pc := 61) F dX9_weight_61 2 rfl ?_
      refine V_cVM (pc := 62) F 9 (by decide) (as := [vI x1]) (C_X9_flagOf x0 x1 h20) w_X9_flagOf g_in_X9_flagOf g_se_X9_flagOf g_ml_RX9_176 (by decide) (rest := []) rfl rfl (Nat.le_of_ble_eq_true rfl) dX9_weight_62 (k_I fun z21 h22 => ?_)
      refine V_if_ne (pc := 65) F 76 dX9_weight_65 (by decide) ?_ ?_
      · refine V_iconst (pc := 76) F (x := (0 : Int32)) dX9_weight_76 (by decide) ?_
        exact V_iret (pc := 77) F (Or.inl rfl) dX9_weight_77
      · refine V_bipush (pc := 68) F (x := (8 : Int32)) dX9_weight_68 (by decide) ?_
        refine V_iload (pc := 70) F dX9_weight_70 0 rfl ?_
        refine V_isub (pc := 72) F dX9_weight_72 ?_
        intro z23
        refine V_goto (pc := 73) F 77 dX9_weight_73 (by decide) ?_
        exact V_iret (pc := 77) F (Or.inl rfl) dX9_weight_77
theorem C_X9_weight (x0 : Option Nat) (x1 : Int32) (x2 : Int32) (x3 : Int32) (x4 : Int32) (h : MH) : CtrM yX9_weight (WSm yX9_weight cX9_weight 6 (some .int)) 2 [vR x0, vI x1, vI x2, vI x3, vI x4] h (M_X9_weight x0 x1 x2 x3 x4 h) :=
  CtrM_of (by decide) (Nat.le_of_ble_eq_true rfl) (fun K F hm hi => vM_X9_weight F hm x0 x1 x2 x3 x4 h)
def B_X9_weights_37 (rc6 : Option Nat → Int32 → Int32 → Int32 → Int32 → Int32 → Int32 → MH → Res) (x0 : Option Nat) (x1 : Int32) (x2 : Int32) (x3 : Int32) (x4 : Int32) (x6 : Int32) (s0 : Int32) (s1 : Int32) (h : MH) : Res := bnd (s0 + s1) fun z4 => bnd (x6 + (1)) fun z5 => rc6 x0 x1 x2 x3 x4 z4 z5 h
def B_X9_weights_6 (rc6 : Option Nat → Int32 → Int32 → Int32 → Int32 → Int32 → Int32 → MH → Res) (x0 : Option Nat) (x1 : Int32) (x2 : Int32) (x3 : Int32) (x4 : Int32) (x5 : Int32) (x6 : Int32) (h : MH) : Res := gfI h x0 9 23 fun z1 => if z1 ≤ x6 then (rtI x5 h) else (if x6 ≠ x4 then (chk h x0 9 <| calI (M_X9_weight x0 x6 x1 x2 x3 h) fun z2 h3 => B_X9_weights_37 rc6 x0 x1 x2 x3 x4 x6 x5 z2 h3) else (B_X9_weights_37 rc6 x0 x1 x2 x3 x4 x6 x5 (0 : Int32) h))
def L_X9_weights_6 : Nat → Option Nat → Int32 → Int32 → Int32 → Int32 → Int32 → Int32 → MH → Res
  | 0 => fun _ _ _ _ _ _ _ _ => none
  | n + 1 => B_X9_weights_6 (L_X9_weights_6 n)
def M_X9_weights (x0 : Option Nat) (x1 : Int32) (x2 : Int32) (x3 : Int32) (x4 : Int32) (h : MH) : Res := L_X9_weights_6 fuel x0 x1 x2 x3 x4 (0 : Int32) (0 : Int32) h
theorem vB_X9_weights_37 {K : CT} (F : Fr K cX9_weights RX9 (some .int) [] 3 0) (hm : mxL K = 7) (rc6 : Option Nat → Int32 → Int32 → Int32 → Int32 → Int32 → Int32 → MH → Res) (hrc6 : ∀ x0 x1 x2 x3 x4 x5 x6 h, V K 6 [(0, vR x0), (1, vI x1), (2, vI x2), (3, vI x3), (4, vI x4), (5, vI x5), (6, vI x6)] [] h (rc6 x0 x1 x2 x3 x4 x5 x6 h)) (x0 : Option Nat) (x1 : Int32) (x2 : Int32) (x3 : Int32) (x4 : Int32) (x6 : Int32) (s0 : Int32) (s1 : Int32) (h : MH) : V K 37 [(0, vR x0), (1, vI x1), (2, vI x2), (3, vI x3), (4, vI x4), (6, vI x6)] [vI s1, vI s0] h (B_X9_weights_37 rc6 x0 x1 x2 x3 x4 x6 s0 s1 h) := by
  unfold B_X9_weights_37
  refine V_iadd (pc := 37) F dX9_weights_37 ?_
  intro z4
  refine V_istore (pc := 38) F [(5, vI z4), (0, vR x0), (1, vI x1), (2, vI x2), (3, vI x3), (4, vI x4), (6, vI x6)] dX9_weights_38 (lt_mx hm (by decide)) rfl ?_
  refine V_iinc (pc := 40) F (fun z5 => [(6, vI z5), (5, vI z4), (0, vR x0), (1, vI x1), (2, vI x2), (3, vI x3), (4, vI x4)]) dX9_weights_40 (lt_mx hm (by decide)) 6 rfl (dx := (1 : Int32)) (by decide) (fun _ => rfl) ?_
  intro z5
  refine V_goto (pc := 43) F 6 dX9_weights_43 (by decide) ?_
  refine V_sub [2, 3, 4, 5, 6, 1, 0] (L' := [(0, vR x0), (1, vI x1), (2, vI x2), (3, vI x3), (4, vI x4), (5, vI z4), (6, vI z5)]) rfl ?_
  exact hrc6 x0 x1 x2 x3 x4 z4 z5 h
theorem vB_X9_weights_6 {K : CT} (F : Fr K cX9_weights RX9 (some .int) [] 3 0) (hm : mxL K = 7) (rc6 : Option Nat → Int32 → Int32 → Int32 → Int32 → Int32 → Int32 → MH → Res) (hrc6 : ∀ x0 x1 x2 x3 x4 x5 x6 h, V K 6 [(0, vR x0), (1, vI x1), (2, vI x2), (3, vI x3), (4, vI x4), (5, vI x5), (6, vI x6)] [] h (rc6 x0 x1 x2 x3 x4 x5 x6 h)) (x0 : Option Nat) (x1 : Int32) (x2 : Int32) (x3 : Int32) (x4 : Int32) (x5 : Int32) (x6 : Int32) (h : MH) : V K 6 [(0, vR x0), (1, vI x1), (2, vI x2), (3, vI x3), (4, vI x4), (5, vI x5), (6, vI x6)] [] h (B_X9_weights_6 rc6 x0 x1 x2 x3 x4 x5 x6 h) := by
  unfold B_X9_weights_6
  refine V_iload (pc := 6) F dX9_weights_6 6 rfl ?_
  refine V_aload_n (pc := 8) F dX9_weights_8 0 rfl ?_
  refine V_getI (pc := 9) F 9 23 (by decide) (by decide) rfl g_fl_RX9_106 dX9_weights_9 ?_
  intro z1
  refine V_icmp_ge (pc := 12) F 46 dX9_weights_12 (by decide) ?_ ?_
  · refine V_iload (pc := 46) F dX9_weights_46 5 rfl ?_
    exact V_iret (pc := 48) F (Or.inl rfl) dX9_weights_48
  · refine V_iload (pc := 15) F dX9_weights_15 5 rfl ?_
    refine V_iload (pc := 17) F dX9_weights_17 6 rfl ?_
    refine V_iload (pc := 19) F dX9_weights_19 4 rfl ?_
    refine V_icmp_ne (pc := 21) F 28 dX9_weights_21 (by decide) ?_ ?_
    · refine V_aload_n (pc := 28) F dX9_weights_28 0 rfl ?_
      refine V_iload (pc := 29) F dX9_weights_29 6 rfl ?_
      refine V_iload_n (pc := 31) F dX9_weights_31 1 rfl ?_
      refine V_iload_n (pc := 32) F dX9_weights_32 2 rfl ?_
      refine V_iload_n (pc := 33) F dX9_weights_33 3 rfl ?_
      refine V_cVM (pc := 34) F 9 (by decide) (as := [vI x6, vI x1, vI x2, vI x3]) (C_X9_weight x0 x6 x1 x2 x3 h) w_X9_weight g_in_X9_weight g_se_X9_weight g_ml_RX9_185 (by decide) (rest := [vI x5]) rfl rfl (Nat.le_of_ble_eq_true rfl) dX9_weights_34 (k_I fun z2 h3 => ?_)
      refine V_sub [0, 1, 2, 3, 4, 6] (L' := [(0, vR x0), (1, vI x1), (2, vI x2), (3, vI x3), (4, vI x4), (6, vI x6)]) rfl ?_
      exact vB_X9_weights_37 F hm rc6 hrc6 x0 x1 x2 x3 x4 x6 x5 z2 h3
    · refine V_iconst (pc := 24) F (x := (0 : Int32)) dX9_weights_24 (by decide) ?_
      refine V_goto (pc := 25) F 37 dX9_weights_25 (by decide) ?_
      refine V_sub [0, 1, 2, 3, 4, 6] (L' := [(0, vR x0), (1, vI x1), (2, vI x2), (3, vI x3), (4, vI x4), (6, vI x6)]) rfl ?_
      exact vB_X9_weights_37 F hm rc6 hrc6 x0 x1 x2 x3 x4 x6 x5 (0 : Int32) h
theorem vL_X9_weights_6 {K : CT} (F : Fr K cX9_weights RX9 (some .int) [] 3 0) (hm : mxL K = 7) (n : Nat) : ∀ x0 x1 x2 x3 x4 x5 x6 h, V K 6 [(0, vR x0), (1, vI x1), (2, vI x2), (3, vI x3), (4, vI x4), (5, vI x5), (6, vI x6)] [] h (L_X9_weights_6 n x0 x1 x2 x3 x4 x5 x6 h) := by
  induction n with
  | zero => intros; exact V_none
  | succ n ih => intro x0 x1 x2 x3 x4 x5 x6 h; exact vB_X9_weights_6 F hm _ ih x0 x1 x2 x3 x4 x5 x6 h
theorem vM_X9_weights {K : CT} (F : Fr K cX9_weights RX9 (some .int) [] 3 0) (hm : mxL K = 7) (x0 : Option Nat) (x1 : Int32) (x2 : Int32) (x3 : Int32) (x4 : Int32) (h : MH) : V K 0 [(0, vR x0), (1, vI x1), (2, vI x2), (3, vI x3), (4, vI x4)] [] h (M_X9_weights x0 x1 x2 x3 x4 h) := by
  unfold M_X9_weights
  refine V_iconst (pc := 0) F (x := (0 : Int32)) dX9_weights_0 (by decide) ?_
  refine V_istore (pc := 1) F [(5, vI (0 : Int32)), (0, vR x0), (1, vI x1), (2, vI x2), (3, vI x3), (4, vI x4)] dX9_weights_1 (lt_mx hm (by decide)) rfl ?_
  refine V_iconst (pc := 3) F (x := (0 : Int32)) dX9_weights_3 (by decide) ?_
  refine V_istore (pc := 4) F [(6, vI (0 : Int32)), (5, vI (0 : Int32)), (0, vR x0), (1, vI x1), (2, vI x2), (3, vI x3), (4, vI x4)] dX9_weights_4 (lt_mx hm (by decide)) rfl ?_
  refine V_sub [2, 3, 4, 5, 6, 1, 0] (L' := [(0, vR x0), (1, vI x1), (2, vI x2), (3, vI x3), (4, vI x4), (5, vI (0 : Int32)), (6, vI (0 : Int32))]) rfl ?_
  exact vL_X9_weights_6 F hm fuel x0 x1 x2 x3 x4 (0 : Int32) (0 : Int32) h
theorem C_X9_weights (x0 : Option Nat) (x1 : Int32) (x2 : Int32) (x3 : Int32) (x4 : Int32) (h : MH) : CtrM yX9_weights (WSm yX9_weights cX9_weights 7 (some .int)) 3 [vR x0, vI x1, vI x2, vI x3, vI x4] h (M_X9_weights x0 x1 x2 x3 x4 h) :=
  CtrM_of (by decide) (Nat.le_of_ble_eq_true rfl) (fun K F hm hi => vM_X9_weights F hm x0 x1 x2 x3 x4 h)
def B_X9_meanOf_46 (rc6 : Option Nat → Int32 → Int32 → Int32 → Int32 → Int64 → Int32 → MH → Res) (x0 : Option Nat) (x1 : Int32) (x2 : Int32) (x3 : Int32) (x4 : Int32) (x7 : Int32) (s0 : Int64) (s1 : Int64) (h : MH) : Res := bnd (s0 + s1) fun z14 => bnd (x7 + (1)) fun z15 => rc6 x0 x1 x2 x3 x4 z14 z15 h
def B_X9_meanOf_6 (rc6 : Option Nat → Int32 → Int32 → Int32 → Int32 → Int64 → Int32 → MH → Res) (x0 : Option Nat) (x1 : Int32) (x2 : Int32) (x3 : Int32) (x4 : Int32) (x5 : Int64) (x7 : Int32) (h : MH) : Res := gfI h x0 9 23 fun z1 => if z1 ≤ x7 then (chk h x0 9 <| calI (M_X9_weights x0 x1 x2 x3 x4 h) fun z2 h3 => bnd (Int32.toInt64 z2) fun z4 => dvL x5 z4 fun z5 => bnd (Int64.toInt32 z5) fun z6 => rtI z6 h3) else (if x7 ≠ x4 then (chk h x0 9 <| calI (M_X9_weight x0 x7 x1 x2 x3 h) fun z7 h8 => bnd (Int32.toInt64 z7) fun z9 => chk h8 x0 9 <| calI (M_X9_corrected x0 x7 h8) fun z10 h11 => bnd (Int32.toInt64 z10) fun z12 => bnd (z9 * z12) fun z13 => B_X9_meanOf_46 rc6 x0 x1 x2 x3 x4 x7 x5 z13 h11) else (B_X9_meanOf_46 rc6 x0 x1 x2 x3 x4 x7 x5 (0 : Int64) h))
def L_X9_meanOf_6 : Nat → Option Nat → Int32 → Int32 → Int32 → Int32 → Int64 → Int32 → MH → Res
  | 0 => fun _ _ _ _ _ _ _ _ => none
  | n + 1 => B_X9_meanOf_6 (L_X9_meanOf_6 n)
def M_X9_meanOf (x0 : Option Nat) (x1 : Int32) (x2 : Int32) (x3 : Int32) (x4 : Int32) (h : MH) : Res := L_X9_meanOf_6 fuel x0 x1 x2 x3 x4 (0 : Int64) (0 : Int32) h
theorem vB_X9_meanOf_46 {K : CT} (F : Fr K cX9_meanOf RX9 (some .int) [] 4 0) (hm : mxL K = 8) (rc6 : Option Nat → Int32 → Int32 → Int32 → Int32 → Int64 → Int32 → MH → Res) (hrc6 : ∀ x0 x1 x2 x3 x4 x5 x7 h, V K 6 [(0, vR x0), (1, vI x1), (2, vI x2), (3, vI x3), (4, vI x4), (5, vL x5), (7, vI x7)] [] h (rc6 x0 x1 x2 x3 x4 x5 x7 h)) (x0 : Option Nat) (x1 : Int32) (x2 : Int32) (x3 : Int32) (x4 : Int32) (x7 : Int32) (s0 : Int64) (s1 : Int64) (h : MH) : V K 46 [(0, vR x0), (1, vI x1), (2, vI x2), (3, vI x3), (4, vI x4), (7, vI x7)] [vL s1, vL s0] h (B_X9_meanOf_46 rc6 x0 x1 x2 x3 x4 x7 s0 s1 h) := by
  unfold B_X9_meanOf_46
  refine V_ladd (pc := 46) F dX9_meanOf_46 ?_
  intro z14
  refine V_lstore (pc := 47) F [(5, vL z14), (0, vR x0), (1, vI x1), (2, vI x2), (3, vI x3), (4, vI x4), (7, vI x7)] dX9_meanOf_47 (lt_mx hm (by decide)) rfl ?_
  refine V_iinc (pc := 49) F (fun z15 => [(7, vI z15), (5, vL z14), (0, vR x0), (1, vI x1), (2, vI x2), (3, vI x3), (4, vI x4)]) dX9_meanOf_49 (lt_mx hm (by decide)) 6 rfl (dx := (1 : Int32)) (by decide) (fun _ => rfl) ?_
  intro z15
  refine V_goto (pc := 52) F 6 dX9_meanOf_52 (by decide) ?_
  refine V_sub [2, 3, 4, 5, 6, 1, 0] (L' := [(0, vR x0), (1, vI x1), (2, vI x2), (3, vI x3), (4, vI x4), (5, vL z14), (7, vI z15)]) rfl ?_
  exact hrc6 x0 x1 x2 x3 x4 z14 z15 h
theorem vB_X9_meanOf_6 {K : CT} (F : Fr K cX9_meanOf RX9 (some .int) [] 4 0) (hm : mxL K = 8) (rc6 : Option Nat → Int32 → Int32 → Int32 → Int32 → Int64 → Int32 → MH → Res) (hrc6 : ∀ x0 x1 x2 x3 x4 x5 x7 h, V K 6 [(0, vR x0), (1, vI x1), (2, vI x2), (3, vI x3), (4, vI x4), (5, vL x5), (7, vI x7)] [] h (rc6 x0 x1 x2 x3 x4 x5 x7 h)) (x0 : Option Nat) (x1 : Int32) (x2 : Int32) (x3 : Int32) (x4 : Int32) (x5 : Int64) (x7 : Int32) (h : MH) : V K 6 [(0, vR x0), (1, vI x1), (2, vI x2), (3, vI x3), (4, vI x4), (5, vL x5), (7, vI x7)] [] h (B_X9_meanOf_6 rc6 x0 x1 x2 x3 x4 x5 x7 h) := by
  unfold B_X9_meanOf_6
  refine V_iload (pc := 6) F dX9_meanOf_6 6 rfl ?_
  refine V_aload_n (pc := 8) F dX9_meanOf_8 0 rfl ?_
  refine V_getI (pc := 9) F 9 23 (by decide) (by decide) rfl g_fl_RX9_106 dX9_meanOf_9 ?_
  intro z1
  refine V_icmp_ge (pc := 12) F 55 dX9_meanOf_12 (by decide) ?_ ?_
  · refine V_lload (pc := 55) F dX9_meanOf_55 5 rfl ?_
    refine V_aload_n (pc := 57) F dX9_meanOf_57 0 rfl ?_
    refine V_iload_n (pc := 58) F dX9_meanOf_58 1 rfl ?_
    refine V_iload_n (pc := 59) F dX9_meanOf_59 2 rfl ?_
    refine V_iload_n (pc := 60) F dX9_meanOf_60 3 rfl ?_
    refine V_iload (pc := 61) F dX9_meanOf_61 4 rfl ?_
    refine V_cVM (pc := 63) F 9 (by decide) (as := [vI x1, vI x2, vI x3, vI x4]) (C_X9_weights x0 x1 x2 x3 x4 h) w_X9_weights g_in_X9_weights g_se_X9_weights g_ml_RX9_189 (by decide) (rest := [vL x5]) rfl rfl (Nat.le_of_ble_eq_true rfl) dX9_meanOf_63 (k_I fun z2 h3 => ?_)
    refine V_i2l (pc := 66) F dX9_meanOf_66 ?_
    intro z4
    refine V_ldiv (pc := 67) F dX9_meanOf_67 ?_
    intro z5
    refine V_l2i (pc := 68) F dX9_meanOf_68 ?_
    intro z6
    exact V_iret (pc := 69) F (Or.inl rfl) dX9_meanOf_69
  · refine V_lload (pc := 15) F dX9_meanOf_15 5 rfl ?_
    refine V_iload (pc := 17) F dX9_meanOf_17 6 rfl ?_
    refine V_iload (pc := 19) F dX9_meanOf_19 4 rfl ?_
    refine V_icmp_ne (pc := 21) F 28 dX9_meanOf_21 (by decide) ?_ ?_
    · refine V_aload_n (pc := 28) F dX9_meanOf_28 0 rfl ?_
      refine V_iload (pc := 29) F dX9_meanOf_29 6 rfl ?_
      refine V_iload_n (pc := 31) F dX9_meanOf_31 1 rfl ?_
      refine V_iload_n (pc := 32) F dX9_meanOf_32 2 rfl ?_
      refine V_iload_n (pc := 33) F dX9_meanOf_33 3 rfl ?_
      refine V_cVM (pc := 34) F 9 (by decide) (as := [vI x7, vI x1, vI x2, vI x3]) (C_X9_weight x0 x7 x1 x2 x3 h) w_X9_weight g_in_X9_weight g_se_X9_weight g_ml_RX9_185 (by decide) (rest := [vL x5]) rfl rfl (Nat.le_of_ble_eq_true rfl) dX9_meanOf_34 (k_I fun z7 h8 => ?_)
      refine V_i2l (pc := 37) F dX9_meanOf_37 ?_
      intro z9
      refine V_aload_n (pc := 38) F dX9_meanOf_38 0 rfl ?_
      refine V_iload (pc := 39) F dX9_meanOf_39 6 rfl ?_
      refine V_cVM (pc := 41) F 9 (by decide) (as := [vI x7]) (C_X9_corrected x0 x7 h8) w_X9_corrected g_in_X9_corrected g_se_X9_corrected g_ml_RX9_170 (by decide) (rest := [vL z9, vL x5]) rfl rfl (Nat.le_of_ble_eq_true rfl) dX9_meanOf_41 (k_I fun z10 h11 => ?_)
      refine V_i2l (pc := 44) F dX9_meanOf_44 ?_
      intro z12
      refine V_lmul (pc := 45) F dX9_meanOf_45 ?_
      intro z13
      refine V_sub [0, 1, 2, 3, 4, 6] (L' := [(0, vR x0), (1, vI x1), (2, vI x2), (3, vI x3), (4, vI x4), (7, vI x7)]) rfl ?_
      exact vB_X9_meanOf_46 F hm rc6 hrc6 x0 x1 x2 x3 x4 x7 x5 z13 h11
    · refine V_lconst (pc := 24) F (x := (0 : Int64)) dX9_meanOf_24 (by decide) ?_
      refine V_goto (pc := 25) F 46 dX9_meanOf_25 (by decide) ?_
      refine V_sub [0, 1, 2, 3, 4, 6] (L' := [(0, vR x0), (1, vI x1), (2, vI x2), (3, vI x3), (4, vI x4), (7, vI x7)]) rfl ?_
      exact vB_X9_meanOf_46 F hm rc6 hrc6 x0 x1 x2 x3 x4 x7 x5 (0 : Int64) h
theorem vL_X9_meanOf_6 {K : CT} (F : Fr K cX9_meanOf RX9 (some .int) [] 4 0) (hm : mxL K = 8) (n : Nat) : ∀ x0 x1 x2 x3 x4 x5 x7 h, V K 6 [(0, vR x0), (1, vI x1), (2, vI x2), (3, vI x3), (4, vI x4), (5, vL x5), (7, vI x7)] [] h (L_X9_meanOf_6 n x0 x1 x2 x3 x4 x5 x7 h) := by
  induction n with
  | zero => intros; exact V_none
  | succ n ih => intro x0 x1 x2 x3 x4 x5 x7 h; exact vB_X9_meanOf_6 F hm _ ih x0 x1 x2 x3 x4 x5 x7 h
theorem vM_X9_meanOf {K : CT} (F : Fr K cX9_meanOf RX9 (some .int) [] 4 0) (hm : mxL K = 8) (x0 : Option Nat) (x1 : Int32) (x2 : Int32) (x3 : Int32) (x4 : Int32) (h : MH) : V K 0 [(0, vR x0), (1, vI x1), (2, vI x2), (3, vI x3), (4, vI x4)] [] h (M_X9_meanOf x0 x1 x2 x3 x4 h) := by
  unfold M_X9_meanOf
  refine V_lconst (pc := 0) F (x := (0 : Int64)) dX9_meanOf_0 (by decide) ?_
  refine V_lstore (pc := 1) F [(5, vL (0 : Int64)), (0, vR x0), (1, vI x1), (2, vI x2), (3, vI x3), (4, vI x4)] dX9_meanOf_1 (lt_mx hm (by decide)) rfl ?_
  refine V_iconst (pc := 3) F (x := (0 : Int32)) dX9_meanOf_3 (by decide) ?_
  refine V_istore (pc := 4) F [(7, vI (0 : Int32)), (5, vL (0 : Int64)), (0, vR x0), (1, vI x1), (2, vI x2), (3, vI x3), (4, vI x4)] dX9_meanOf_4 (lt_mx hm (by decide)) rfl ?_
  refine V_sub [2, 3, 4, 5, 6, 1, 0] (L' := [(0, vR x0), (1, vI x1), (2, vI x2), (3, vI x3), (4, vI x4), (5, vL (0 : Int64)), (7, vI (0 : Int32))]) rfl ?_
  exact vL_X9_meanOf_6 F hm fuel x0 x1 x2 x3 x4 (0 : Int64) (0 : Int32) h
theorem C_X9_meanOf (x0 : Option Nat) (x1 : Int32) (x2 : Int32) (x3 : Int32) (x4 : Int32) (h : MH) : CtrM yX9_meanOf (WSm yX9_meanOf cX9_meanOf 8 (some .int)) 4 [vR x0, vI x1, vI x2, vI x3, vI x4] h (M_X9_meanOf x0 x1 x2 x3 x4 h) :=
  CtrM_of (by decide) (Nat.le_of_ble_eq_true rfl) (fun K F hm hi => vM_X9_meanOf F hm x0 x1 x2 x3 x4 h)
def B_X9_mean_38 (x0 : Option Nat) (x1 : Int32) (x2 : Int32) (x3 : Int32) (s0 : Option Nat) (s1 : Int32) (h : MH) : Res := pfI h s0 9 0 s1 fun h8 => gfI h8 x0 9 0 fun z9 => if z9 ≤ 0 then (chk h8 x0 9 <| calI (M_X9_meanOf x0 x1 x2 x3 (-1 : Int32) h8) fun z10 h11 => rtI z10 h11) else (rtI (0 : Int32) h8)
def B_X9_mean_34 (x0 : Option Nat) (x1 : Int32) (x2 : Int32) (x3 : Int32) (s0 : Option Nat) (h : MH) : Res := gfI h x0 9 0 fun z7 => B_X9_mean_38 x0 x1 x2 x3 s0 z7 h
def M_X9_mean (x0 : Option Nat) (x1 : Int32) (x2 : Int32) (x3 : Int32) (h : MH) : Res := chk h x0 9 <| calI (M_X9_misses x0 x1 x2 x3 h) fun z1 h2 => pfI h2 x0 9 0 z1 fun h3 => gfI h3 x0 9 0 fun z4 => if z4 ≠ 0 then (B_X9_mean_34 x0 x1 x2 x3 x0 h3) else (chk h3 x0 9 <| calI (M_X9_weights x0 x1 x2 x3 (-1 : Int32) h3) fun z5 h6 => if z5 ≠ 0 then (B_X9_mean_34 x0 x1 x2 x3 x0 h6) else (B_X9_mean_38 x0 x1 x2 x3 x0 (3 : Int32) h6))
theorem vB_X9_mean_38 {K : CT} (F : Fr K cX9_mean RX9 (some .int) [] 5 0) (hm : mxL K = 4) (x0 : Option Nat) (x1 : Int32) (x2 : Int32) (x3 : Int32) (s0 : Option Nat) (s1 : Int32) (h : MH) : V K 38 [(0, vR x0), (1, vI x1), (2, vI x2), (3, vI x3)] [vI s1, vR s0] h (B_X9_mean_38 x0 x1 x2 x3 s0 s1 h) := by
  unfold B_X9_mean_38
  refine V_putI (pc := 38) F 9 0 (by decide) (by decide) rfl rfl g_fl_RX9_96 dX9_mean_38 ?_
  intro h8
  refine V_aload_n (pc := 41) F dX9_mean_41 0 rfl ?_
  refine V_getI (pc := 42) F 9 0 (by decide) (by decide) rfl g_fl_RX9_96 dX9_mean_42 ?_
  intro z9
  refine V_if_le (pc := 45) F 52 dX9_mean_45 (by decide) ?_ ?_
  · refine V_aload_n (pc := 52) F dX9_mean_52 0 rfl ?_
    refine V_iload_n (pc := 53) F dX9_mean_53 1 rfl ?_
    refine V_iload_n (pc := 54) F dX9_mean_54 2 rfl ?_
    refine V_iload_n (pc := 55) F dX9_mean_55 3 rfl ?_
    refine V_iconst (pc := 56) F (x := (-1 : Int32)) dX9_mean_56 (by decide) ?_
    refine V_cVM (pc := 57) F 9 (by decide) (as := [vI x1, vI x2, vI x3, vI (-1 : Int32)]) (C_X9_meanOf x0 x1 x2 x3 (-1 : Int32) h8) w_X9_meanOf g_in_X9_meanOf g_se_X9_meanOf g_ml_RX9_196 (by decide) (rest := []) rfl rfl (Nat.le_of_ble_eq_true rfl) dX9_mean_57 (k_I fun z10 h11 => ?_)
    exact V_iret (pc := 60) F (Or.inl rfl) dX9_mean_60
  · refine V_iconst (pc := 48) F (x := (0 : Int32)) dX9_mean_48 (by decide) ?_
    refine V_goto (pc := 49) F 60 dX9_mean_49 (by decide) ?_
    exact V_iret (pc := 60) F (Or.inl rfl) dX9_mean_60
theorem vB_X9_mean_34 {K : CT} (F : Fr K cX9_mean RX9 (some .int) [] 5 0) (hm : mxL K = 4) (x0 : Option Nat) (x1 : Int32) (x2 : Int32) (x3 : Int32) (s0 : Option Nat) (h : MH) : V K 34 [(0, vR x0), (1, vI x1), (2, vI x2), (3, vI x3)] [vR s0] h (B_X9_mean_34 x0 x1 x2 x3 s0 h) := by
  unfold B_X9_mean_34
  refine V_aload_n (pc := 34) F dX9_mean_34 0 rfl ?_
  refine V_getI (pc := 35) F 9 0 (by decide) (by decide) rfl g_fl_RX9_96 dX9_mean_35 ?_
  intro z7
  exact vB_X9_mean_38 F hm x0 x1 x2 x3 s0 z7 h
theorem vM_X9_mean {K : CT} (F : Fr K cX9_mean RX9 (some .int) [] 5 0) (hm : mxL K = 4) (x0 : Option Nat) (x1 : Int32) (x2 : Int32) (x3 : Int32) (h : MH) : V K 0 [(0, vR x0), (1, vI x1), (2, vI x2), (3, vI x3)] [] h (M_X9_mean x0 x1 x2 x3 h) := by
  unfold M_X9_mean
  refine V_aload_n (pc := 0) F dX9_mean_0 0 rfl ?_
  refine V_aload_n (pc := 1) F dX9_mean_1 0 rfl ?_
  refine V_iload_n (pc := 2) F dX9_mean_2 1 rfl ?_
  refine V_iload_n (pc := 3) F dX9_mean_3 2 rfl ?_
  refine V_iload_n (pc := 4) F dX9_mean_4 3 rfl ?_
  refine V_cVM (pc := 5) F 9 (by decide) (as := [vI x1, vI x2, vI x3]) (C_X9_misses x0 x1 x2 x3 h) w_X9_misses g_in_X9_misses g_se_X9_misses g_ml_RX9_192 (by decide) (rest := [vR x0]) rfl rfl (Nat.le_of_ble_eq_true rfl) dX9_mean_5 (k_I fun z1 h2 => ?_)
  refine V_putI (pc := 8) F 9 0 (by decide) (by decide) rfl rfl g_fl_RX9_96 dX9_mean_8 ?_
  intro h3
  refine V_aload_n (pc := 11) F dX9_mean_11 0 rfl ?_
  refine V_aload_n (pc := 12) F dX9_mean_12 0 rfl ?_
  refine V_getI (pc := 13) F 9 0 (by decide) (by decide) rfl g_fl_RX9_96 dX9_mean_13 ?_
  intro z4
  refine V_if_ne (pc := 16) F 34 dX9_mean_16 (by decide) ?_ ?_
  · exact vB_X9_mean_34 F hm x0 x1 x2 x3 x0 h3
  · refine V_aload_n (pc := 19) F dX9_mean_19 0 rfl ?_
    refine V_iload_n (pc := 20) F dX9_mean_20 1 rfl ?_
    refine V_iload_n (pc := 21) F dX9_mean_21 2 rfl ?_
    refine V_iload_n (pc := 22) F dX9_mean_22 3 rfl ?_
    refine V_iconst (pc := 23) F (x := (-1 : Int32)) dX9_mean_23 (by decide) ?_
    refine V_cVM (pc := 24) F 9 (by decide) (as := [vI x1, vI x2, vI x3, vI (-1 : Int32)]) (C_X9_weights x0 x1 x2 x3 (-1 : Int32) h3) w_X9_weights g_in_X9_weights g_se_X9_weights g_ml_RX9_189 (by decide) (rest := [vR x0]) rfl rfl (Nat.le_of_ble_eq_true rfl) dX9_mean_24 (k_I fun z5 h6 => ?_)
    refine V_if_ne (pc := 27) F 34 dX9_mean_27 (by decide) ?_ ?_
    · exact vB_X9_mean_34 F hm x0 x1 x2 x3 x0 h6
    · refine V_iconst (pc := 30) F (x := (3 : Int32)) dX9_mean_30 (by decide) ?_
      refine V_goto (pc := 31) F 38 dX9_mean_31 (by decide) ?_
      exact vB_X9_mean_38 F hm x0 x1 x2 x3 x0 (3 : Int32) h6
theorem C_X9_mean (x0 : Option Nat) (x1 : Int32) (x2 : Int32) (x3 : Int32) (h : MH) : CtrM yX9_mean (WSm yX9_mean cX9_mean 4 (some .int)) 5 [vR x0, vI x1, vI x2, vI x3] h (M_X9_mean x0 x1 x2 x3 h) :=
  CtrM_of (by decide) (Nat.le_of_ble_eq_true rfl) (fun K F hm hi => vM_X9_mean F hm x0 x1 x2 x3 h)
def M_X9_error (x0 : Option Nat) (x1 : Int32) (x2 : Int32) (x3 : Int32) (h : MH) : Res := chk h x0 9 <| calI (M_X9_misses x0 x1 x2 x3 h) fun z1 h2 => pfI h2 x0 9 0 z1 fun h3 => gfI h3 x0 9 0 fun z4 => if z4 ≤ 0 then (chk h3 x0 9 <| calI (M_X9_weights x0 x1 x2 x3 (-1 : Int32) h3) fun z5 h6 => bnd ((1 : Int32) + z5) fun z7 => dvI (1000 : Int32) z7 fun z8 => rtI z8 h6) else (rtI (0 : Int32) h3)
theorem vM_X9_error {K : CT} (F : Fr K cX9_error RX9 (some .int) [] 4 0) (hm : mxL K = 4) (x0 : Option Nat) (x1 : Int32) (x2 : Int32) (x3 : Int32) (h : MH) : V K 0 [(0, vR x0), (1, vI x1), (2, vI x2), (3, vI x3)] [] h (M_X9_error x0 x1 x2 x3 h) := by
  unfold M_X9_error
  refine V_aload_n (pc := 0) F dX9_error_0 0 rfl ?_
  refine V_aload_n (pc := 1) F dX9_error_1 0 rfl ?_
  refine V_iload_n (pc := 2) F dX9_error_2 1 rfl ?_
  refine V_iload_n (pc := 3) F dX9_error_3 2 rfl ?_
  refine V_iload_n (pc := 4) F dX9_error_4 3 rfl ?_
  refine V_cVM (pc := 5) F 9 (by decide) (as := [vI x1, vI x2, vI x3]) (C_X9_misses x0 x1 x2 x3 h) w_X9_misses g_in_X9_misses g_se_X9_misses g_ml_RX9_192 (by decide) (rest := [vR x0]) rfl rfl (Nat.le_of_ble_eq_true rfl) dX9_error_5 (k_I fun z1 h2 => ?_)
  refine V_putI (pc := 8) F 9 0 (by decide) (by decide) rfl rfl g_fl_RX9_96 dX9_error_8 ?_
  intro h3
  refine V_aload_n (pc := 11) F dX9_error_11 0 rfl ?_
  refine V_getI (pc := 12) F 9 0 (by decide) (by decide) rfl g_fl_RX9_96 dX9_error_12 ?_
  intro z4
  refine V_if_le (pc := 15) F 22 dX9_error_15 (by decide) ?_ ?_
  · refine V_sipush (pc := 22) F (x := (1000 : Int32)) dX9_error_22 (by decide) ?_
    refine V_iconst (pc := 25) F (x := (1 : Int32)) dX9_error_25 (by decide) ?_
    refine V_aload_n (pc := 26) F dX9_error_26 0 rfl ?_
    refine V_iload_n (pc := 27) F dX9_error_27 1 rfl ?_
    refine V_iload_n (pc := 28) F dX9_error_28 2 rfl ?_
    refine V_iload_n (pc := 29) F dX9_error_29 3 rfl ?_
    refine V_iconst (pc := 30) F (x := (-1 : Int32)) dX9_error_30 (by decide) ?_
    refine V_cVM (pc := 31) F 9 (by decide) (as := [vI x1, vI x2, vI x3, vI (-1 : Int32)]) (C_X9_weights x0 x1 x2 x3 (-1 : Int32) h3) w_X9_weights g_in_X9_weights g_se_X9_weights g_ml_RX9_189 (by decide) (rest := [vI (1 : Int32), vI (1000 : Int32)]) rfl rfl (Nat.le_of_ble_eq_true rfl) dX9_error_31 (k_I fun z5 h6 => ?_)
    refine V_iadd (pc := 34) F dX9_error_34 ?_
    intro z7
    refine V_idiv (pc := 35) F dX9_error_35 ?_
    intro z8
    exact V_iret (pc := 36) F (Or.inl rfl) dX9_error_36
  · refine V_iconst (pc := 18) F (x := (0 : Int32)) dX9_error_18 (by decide) ?_
    refine V_goto (pc := 19) F 36 dX9_error_19 (by decide) ?_
    exact V_iret (pc := 36) F (Or.inl rfl) dX9_error_36
theorem C_X9_error (x0 : Option Nat) (x1 : Int32) (x2 : Int32) (x3 : Int32) (h : MH) : CtrM yX9_error (WSm yX9_error cX9_error 4 (some .int)) 4 [vR x0, vI x1, vI x2, vI x3] h (M_X9_error x0 x1 x2 x3 h) :=
  CtrM_of (by decide) (Nat.le_of_ble_eq_true rfl) (fun K F hm hi => vM_X9_error F hm x0 x1 x2 x3 h)
def B_X9_residual_69 (x0 : Option Nat) (x1 : Int32) (x2 : Int32) (s0 : Option Nat) (s1 : Int32) (h : MH) : Res := pfI h s0 9 0 s1 fun h14 => gfI h14 x0 9 0 fun z15 => if z15 ≤ 0 then (chk h14 x0 9 <| calI (M_X9_corrected x0 x1 h14) fun z16 h17 => gfR h17 x0 9 25 fun r18 => rdI h17 r18 20 x1 fun z19 => gfR h17 x0 9 24 fun r20 => rdI h17 r20 20 x1 fun z21 => chk h17 x0 9 <| calI (M_X9_meanOf x0 z19 z21 x2 x1 h17) fun z22 h23 => bnd (z16 - z22) fun z24 => rtI z24 h23) else (rtI (0 : Int32) h14)
def B_X9_residual_65 (x0 : Option Nat) (x1 : Int32) (x2 : Int32) (s0 : Option Nat) (h : MH) : Res := gfI h x0 9 0 fun z13 => B_X9_residual_69 x0 x1 x2 s0 z13 h
def B_X9_residual_29 (x0 : Option Nat) (x1 : Int32) (x2 : Int32) (s0 : Option Nat) (s1 : Int32) (h : MH) : Res := pfI h s0 9 0 s1 fun h5 => gfI h5 x0 9 0 fun z6 => if z6 ≠ 0 then (B_X9_residual_65 x0 x1 x2 x0 h5) else (gfR h5 x0 9 25 fun r7 => rdI h5 r7 20 x1 fun z8 => gfR h5 x0 9 24 fun r9 => rdI h5 r9 20 x1 fun z10 => chk h5 x0 9 <| calI (M_X9_weights x0 z8 z10 x2 x1 h5) fun z11 h12 => if z11 ≠ 0 then (B_X9_residual_65 x0 x1 x2 x0 h12) else (B_X9_residual_69 x0 x1 x2 x0 (3 : Int32) h12))
def M_X9_residual (x0 : Option Nat) (x1 : Int32) (x2 : Int32) (h : MH) : Res := chk h x0 9 <| calI (M_X9_isReading x0 x1 h) fun z1 h2 => if z1 ≠ 0 then (calI (M_X9_in x2 (0 : Int32) (1000 : Int32) h2) fun z3 h4 => if z3 ≠ 0 then (B_X9_residual_29 x0 x1 x2 x0 (0 : Int32) h4) else (B_X9_residual_29 x0 x1 x2 x0 (2 : Int32) h4)) else (B_X9_residual_29 x0 x1 x2 x0 (1 : Int32) h2)
theorem vB_X9_residual_69 {K : CT} (F : Fr K cX9_residual RX9 (some .int) [] 5 0) (hm : mxL K = 3) (x0 : Option Nat) (x1 : Int32) (x2 : Int32) (s0 : Option Nat) (s1 : Int32) (h : MH) : V K 69 [(0, vR x0), (1, vI x1), (2, vI x2)] [vI s1, vR s0] h (B_X9_residual_69 x0 x1 x2 s0 s1 h) := by
  unfold B_X9_residual_69
  refine V_putI (pc := 69) F 9 0 (by decide) (by decide) rfl rfl g_fl_RX9_96 dX9_residual_69 ?_
  intro h14
  refine V_aload_n (pc := 72) F dX9_residual_72 0 rfl ?_
  refine V_getI (pc := 73) F 9 0 (by decide) (by decide) rfl g_fl_RX9_96 dX9_residual_73 ?_
  intro z15
  refine V_if_le (pc := 76) F 83 dX9_residual_76 (by decide) ?_ ?_
  · refine V_aload_n (pc := 83) F dX9_residual_83 0 rfl ?_
    refine V_iload_n (pc := 84) F dX9_residual_84 1 rfl ?_
    refine V_cVM (pc := 85) F 9 (by decide) (as := [vI x1]) (C_X9_corrected x0 x1 h14) w_X9_corrected g_in_X9_corrected g_se_X9_corrected g_ml_RX9_170 (by decide) (rest := []) rfl rfl (Nat.le_of_ble_eq_true rfl) dX9_residual_85 (k_I fun z16 h17 => ?_)
    refine V_aload_n (pc := 88) F dX9_residual_88 0 rfl ?_
    refine V_aload_n (pc := 89) F dX9_residual_89 0 rfl ?_
    refine V_getR (pc := 90) F 9 25 (by decide) (by decide) rfl g_fl_RX9_65 dX9_residual_90 ?_
    intro r18
    refine V_iload_n (pc := 93) F dX9_residual_93 1 rfl ?_
    refine V_iald (pc := 94) F dX9_residual_94 ?_
    intro z19
    refine V_aload_n (pc := 95) F dX9_residual_95 0 rfl ?_
    refine V_getR (pc := 96) F 9 24 (by decide) (by decide) rfl g_fl_RX9_62 dX9_residual_96 ?_
    intro r20
    refine V_iload_n (pc := 99) F dX9_residual_99 1 rfl ?_
    refine V_iald (pc := 100) F dX9_residual_100 ?_
    intro z21
    refine V_iload_n (pc := 101) F dX9_residual_101 2 rfl ?_
    refine V_iload_n (pc := 102) F dX9_residual_102 1 rfl ?_
    refine V_cVM (pc := 103) F 9 (by decide) (as := [vI z19, vI z21, vI x2, vI x1]) (C_X9_meanOf x0 z19 z21 x2 x1 h17) w_X9_meanOf g_in_X9_meanOf g_se_X9_meanOf g_ml_RX9_196 (by decide) (rest := [vI z16]) rfl rfl (Nat.le_of_ble_eq_true rfl) dX9_residual_103 (k_I fun z22 h23 => ?_)
    refine V_isub (pc := 106) F dX9_residual_106 ?_
    intro z24
    exact V_iret (pc := 107) F (Or.inl rfl) dX9_residual_107
  · refine V_iconst (pc := 79) F (x := (0 : Int32)) dX9_residual_79 (by decide) ?_
    refine V_goto (pc := 80) F 107 dX9_residual_80 (by decide) ?_
    exact V_iret (pc := 107) F (Or.inl rfl) dX9_residual_107
theorem vB_X9_residual_65 {K : CT} (F : Fr K cX9_residual RX9 (some .int) [] 5 0) (hm : mxL K = 3) (x0 : Option Nat) (x1 : Int32) (x2 : Int32) (s0 : Option Nat) (h : MH) : V K 65 [(0, vR x0), (1, vI x1), (2, vI x2)] [vR s0] h (B_X9_residual_65 x0 x1 x2 s0 h) := by
  unfold B_X9_residual_65
  refine V_aload_n (pc := 65) F dX9_residual_65 0 rfl ?_
  refine V_getI (pc := 66) F 9 0 (by decide) (by decide) rfl g_fl_RX9_96 dX9_residual_66 ?_
  intro z13
  exact vB_X9_residual_69 F hm x0 x1 x2 s0 z13 h
theorem vB_X9_residual_29 {K : CT} (F : Fr K cX9_residual RX9 (some .int) [] 5 0) (hm : mxL K = 3) (x0 : Option Nat) (x1 : Int32) (x2 : Int32) (s0 : Option Nat) (s1 : Int32) (h : MH) : V K 29 [(0, vR x0), (1, vI x1), (2, vI x2)] [vI s1, vR s0] h (B_X9_residual_29 x0 x1 x2 s0 s1 h) := by
  unfold B_X9_residual_29
  refine V_putI (pc := 29) F 9 0 (by decide) (by decide) rfl rfl g_fl_RX9_96 dX9_residual_29 ?_
  intro h5
  refine V_aload_n (pc := 32) F dX9_residual_32 0 rfl ?_
  refine V_aload_n (pc := 33) F dX9_residual_33 0 rfl ?_
  refine V_getI (pc := 34) F 9 0 (by decide) (by decide) rfl g_fl_RX9_96 dX9_residual_34 ?_
  intro z6
  refine V_if_ne (pc := 37) F 65 dX9_residual_37 (by decide) ?_ ?_
  · exact vB_X9_residual_65 F hm x0 x1 x2 x0 h5
  · refine V_aload_n (pc := 40) F dX9_residual_40 0 rfl ?_
    refine V_aload_n (pc := 41) F dX9_residual_41 0 rfl ?_
    refine V_getR (pc := 42) F 9 25 (by decide) (by decide) rfl g_fl_RX9_65 dX9_residual_42 ?_
    intro r7
    refine V_iload_n (pc := 45) F dX9_residual_45 1 rfl ?_
    refine V_iald (pc := 46) F dX9_residual_46 ?_
    intro z8
    refine V_aload_n (pc := 47) F dX9_residual_47 0 rfl ?_
    refine V_getR (pc := 48) F 9 24 (by decide) (by decide) rfl g_fl_RX9_62 dX9_residual_48 ?_
    intro r9
    refine V_iload_n (pc := 51) F dX9_residual_51 1 rfl ?_
    refine V_iald (pc := 52) F dX9_residual_52 ?_
    intro z10
    refine V_iload_n (pc := 53) F dX9_residual_53 2 rfl ?_
    refine V_iload_n (pc := 54) F dX9_residual_54 1 rfl ?_
    refine V_cVM (pc := 55) F 9 (by decide) (as := [vI z8, vI z10, vI x2, vI x1]) (C_X9_weights x0 z8 z10 x2 x1 h5) w_X9_weights g_in_X9_weights g_se_X9_weights g_ml_RX9_189 (by decide) (rest := [vR x0]) rfl rfl (Nat.le_of_ble_eq_true rfl) dX9_residual_55 (k_I fun z11 h12 => ?_)
    refine V_if_ne (pc := 58) F 65 dX9_residual_58 (by decide) ?_ ?_
    · exact vB_X9_residual_65 F hm x0 x1 x2 x0 h12
    · refine V_iconst (pc := 61) F (x := (3 : Int32)) dX9_residual_61 (by decide) ?_
      refine V_goto (pc := 62) F 69 dX9_residual_62 (by decide) ?_
      exact vB_X9_residual_69 F hm x0 x1 x2 x0 (3 : Int32) h12
theorem vM_X9_residual {K : CT} (F : Fr K cX9_residual RX9 (some .int) [] 5 0) (hm : mxL K = 3) (x0 : Option Nat) (x1 : Int32) (x2 : Int32) (h : MH) : V K 0 [(0, vR x0), (1, vI x1), (2, vI x2)] [] h (M_X9_residual x0 x1 x2 h) := by
  unfold M_X9_residual
  refine V_aload_n (pc := 0) F dX9_residual_0 0 rfl ?_
  refine V_aload_n (pc := 1) F dX9_residual_1 0 rfl ?_
  refine V_iload_n (pc := 2) F dX9_residual_2 1 rfl ?_
  refine V_cVM (pc := 3) F 9 (by decide) (as := [vI x1]) (C_X9_isReading x0 x1 h) w_X9_isReading g_in_X9_isReading g_se_X9_isReading g_ml_RX9_173 (by decide) (rest := [vR x0]) rfl rfl (Nat.le_of_ble_eq_true rfl) dX9_residual_3 (k_I fun z1 h2 => ?_)
  refine V_if_ne (pc := 6) F 13 dX9_residual_6 (by decide) ?_ ?_
  · refine V_iload_n (pc := 13) F dX9_residual_13 2 rfl ?_
    refine V_iconst (pc := 14) F (x := (0 : Int32)) dX9_residual_14 (by decide) ?_
    refine V_sipush (pc := 15) F (x := (1000 : Int32)) dX9_residual_15 (by decide) ?_
    refine V_cSM (pc := 18) F (as := [vI x2, vI (0 : Int32), vI (1000 : Int32)]) (C_X9_in x2 (0 : Int32) (1000 : Int32) h2) w_X9_in g_st_X9_in g_ml_RX9_99 (by decide) (rest := [vR x0]) rfl rfl (Nat.le_of_ble_eq_true rfl) dX9_residual_18 (k_I fun z3 h4 => ?_)
    refine V_if_ne (pc := 21) F 28 dX9_residual_21 (by decide) ?_ ?_
    · refine V_iconst (pc := 28) F (x := (0 : Int32)) dX9_residual_28 (by decide) ?_
      exact vB_X9_residual_29 F hm x0 x1 x2 x0 (0 : Int32) h4
    · refine V_iconst (pc := 24) F (x := (2 : Int32)) dX9_residual_24 (by decide) ?_
      refine V_goto (pc := 25) F 29 dX9_residual_25 (by decide) ?_
      exact vB_X9_residual_29 F hm x0 x1 x2 x0 (2 : Int32) h4
  · refine V_iconst (pc := 9) F (x := (1 : Int32)) dX9_residual_9 (by decide) ?_
    refine V_goto (pc := 10) F 29 dX9_residual_10 (by decide) ?_
    exact vB_X9_residual_29 F hm x0 x1 x2 x0 (1 : Int32) h2
theorem C_X9_residual (x0 : Option Nat) (x1 : Int32) (x2 : Int32) (h : MH) : CtrM yX9_residual (WSm yX9_residual cX9_residual 3 (some .int)) 5 [vR x0, vI x1, vI x2] h (M_X9_residual x0 x1 x2 h) :=
  CtrM_of (by decide) (Nat.le_of_ble_eq_true rfl) (fun K F hm hi => vM_X9_residual F hm x0 x1 x2 h)
def B_X9_chance_21 (x0 : Option Nat) (x1 : Int32) (x2 : Int32) (s0 : Option Nat) (s1 : Int32) (h : MH) : Res := pfI h s0 9 0 s1 fun h5 => gfI h5 x0 9 0 fun z6 => if z6 ≤ 0 then (gfR h5 x0 9 32 fun r7 => bnd ((60 : Int32) * x1) fun z8 => bnd (z8 + x2) fun z9 => rdI h5 r7 20 z9 fun z10 => rtI z10 h5) else (rtI (0 : Int32) h5)
def B_X9_chance_20 (x0 : Option Nat) (x1 : Int32) (x2 : Int32) (s0 : Option Nat) (h : MH) : Res := B_X9_chance_21 x0 x1 x2 s0 (1 : Int32) h
def M_X9_chance (x0 : Option Nat) (x1 : Int32) (x2 : Int32) (h : MH) : Res := chk h x0 9 <| calI (M_X9_isSearch x0 x1 h) fun z1 h2 => if z1 = 0 then (B_X9_chance_20 x0 x1 x2 x0 h2) else (calI (M_X9_isCell x2 h2) fun z3 h4 => if z3 = 0 then (B_X9_chance_20 x0 x1 x2 x0 h4) else (B_X9_chance_21 x0 x1 x2 x0 (0 : Int32) h4))
theorem vB_X9_chance_21 {K : CT} (F : Fr K cX9_chance RX9 (some .int) [] 2 0) (hm : mxL K = 3) (x0 : Option Nat) (x1 : Int32) (x2 : Int32) (s0 : Option Nat) (s1 : Int32) (h : MH) : V K 21 [(0, vR x0), (1, vI x1), (2, vI x2)] [vI s1, vR s0] h (B_X9_chance_21 x0 x1 x2 s0 s1 h) := by
  unfold B_X9_chance_21
  refine V_putI (pc := 21) F 9 0 (by decide) (by decide) rfl rfl g_fl_RX9_96 dX9_chance_21 ?_
  intro h5
  refine V_aload_n (pc := 24) F dX9_chance_24 0 rfl ?_
  refine V_getI (pc := 25) F 9 0 (by decide) (by decide) rfl g_fl_RX9_96 dX9_chance_25 ?_
  intro z6
  refine V_if_le (pc := 28) F 35 dX9_chance_28 (by decide) ?_ ?_
  · refine V_aload_n (pc := 35) F dX9_chance_35 0 rfl ?_
    refine V_getR (pc := 36) F 9 32 (by decide) (by decide) rfl g_fl_RX9_84 dX9_chance_36 ?_
    intro r7
    refine V_bipush (pc := 39) F (x := (60 : Int32)) dX9_chance_39 (by decide) ?_
    refine V_iload_n (pc := 41) F dX9_chance_41 1 rfl ?_
    refine V_imul (pc := 42) F dX9_chance_42 ?_
    intro z8
    refine V_iload_n (pc := 43) F dX9_chance_43 2 rfl ?_
    refine V_iadd (pc := 44) F dX9_chance_44 ?_
    intro z9
    refine V_iald (pc := 45) F dX9_chance_45 ?_
    intro z10
    exact V_iret (pc := 46) F (Or.inl rfl) dX9_chance_46
  · refine V_iconst (pc := 31) F (x := (0 : Int32)) dX9_chance_31 (by decide) ?_
    refine V_goto (pc := 32) F 46 dX9_chance_32 (by decide) ?_
    exact V_iret (pc := 46) F (Or.inl rfl) dX9_chance_46
theorem vB_X9_chance_20 {K : CT} (F : Fr K cX9_chance RX9 (some .int) [] 2 0) (hm : mxL K = 3) (x0 : Option Nat) (x1 : Int32) (x2 : Int32) (s0 : Option Nat) (h : MH) : V K 20 [(0, vR x0), (1, vI x1), (2, vI x2)] [vR s0] h (B_X9_chance_20 x0 x1 x2 s0 h) := by
  unfold B_X9_chance_20
  refine V_iconst (pc := 20) F (x := (1 : Int32)) dX9_chance_20 (by decide) ?_
  exact vB_X9_chance_21 F hm x0 x1 x2 s0 (1 : Int32) h
theorem vM_X9_chance {K : CT} (F : Fr K cX9_chance RX9 (some .int) [] 2 0) (hm : mxL K = 3) (x0 : Option Nat) (x1 : Int32) (x2 : Int32) (h : MH) : V K 0 [(0, vR x0), (1, vI x1), (2, vI x2)] [] h (M_X9_chance x0 x1 x2 h) := by
  unfold M_X9_chance
  refine V_aload_n (pc := 0) F dX9_chance_0 0 rfl ?_
  refine V_aload_n (pc := 1) F dX9_chance_1 0 rfl ?_
  refine V_iload_n (pc := 2) F dX9_chance_2 1 rfl ?_
  refine V_cVM (pc := 3) F 9 (by decide) (as := [vI x1]) (C_X9_isSearch x0 x1 h) w_X9_isSearch g_in_X9_isSearch g_se_X9_isSearch g_ml_RX9_179 (by decide) (rest := [vR x0]) rfl rfl (Nat.le_of_ble_eq_true rfl) dX9_chance_3 (k_I fun z1 h2 => ?_)
  refine V_if_eq (pc := 6) F 20 dX9_chance_6 (by decide) ?_ ?_
  · exact vB_X9_chance_20 F hm x0 x1 x2 x0 h2
  · refine V_iload_n (pc := 9) F dX9_chance_9 2 rfl ?_
    refine V_cSM (pc := 10) F (as := [vI x2]) (C_X9_isCell x2 h2) w_X9_isCell g_st_X9_isCell g_ml_RX9_116 (by decide) (rest := [vR x0]) rfl rfl (Nat.le_of_ble_eq_true rfl) dX9_chance_10 (k_I fun z3 h4 => ?_)
    refine V_if_eq (pc := 13) F 20 dX9_chance_13 (by decide) ?_ ?_
    · exact vB_X9_chance_20 F hm x0 x1 x2 x0 h4
    · refine V_iconst (pc := 16) F (x := (0 : Int32)) dX9_chance_16 (by decide) ?_
      refine V_goto (pc := 17) F 21 dX9_chance_17 (by decide) ?_
      exact vB_X9_chance_21 F hm x0 x1 x2 x0 (0 : Int32) h4
theorem C_X9_chance (x0 : Option Nat) (x1 : Int32) (x2 : Int32) (h : MH) : CtrM yX9_chance (WSm yX9_chance cX9_chance 3 (some .int)) 2 [vR x0, vI x1, vI x2] h (M_X9_chance x0 x1 x2 h) :=
  CtrM_of (by decide) (Nat.le_of_ble_eq_true rfl) (fun K F hm hi => vM_X9_chance F hm x0 x1 x2 h)
def B_X9_bestOf_40 (rc4 : Option Nat → Int32 → Int32 → Int32 → MH → Res) (x0 : Option Nat) (x1 : Int32) (x3 : Int32) (s0 : Int32) (h : MH) : Res := bnd (x3 + (1)) fun z9 => rc4 x0 x1 s0 z9 h
def B_X9_bestOf_4 (rc4 : Option Nat → Int32 → Int32 → Int32 → MH → Res) (x0 : Option Nat) (x1 : Int32) (x2 : Int32) (x3 : Int32) (h : MH) : Res := if (60 : Int32) ≤ x3 then (rtI x2 h) else (gfR h x0 9 32 fun r1 => bnd ((60 : Int32) * x1) fun z2 => bnd (z2 + x3) fun z3 => rdI h r1 20 z3 fun z4 => gfR h x0 9 32 fun r5 => bnd ((60 : Int32) * x1) fun z6 => bnd (z6 + x2) fun z7 => rdI h r5 20 z7 fun z8 => if z4 ≤ z8 then (B_X9_bestOf_40 rc4 x0 x1 x3 x2 h) else (B_X9_bestOf_40 rc4 x0 x1 x3 x3 h))
def L_X9_bestOf_4 : Nat → Option Nat → Int32 → Int32 → Int32 → MH → Res
  | 0 => fun _ _ _ _ _ => none
  | n + 1 => B_X9_bestOf_4 (L_X9_bestOf_4 n)
def M_X9_bestOf (x0 : Option Nat) (x1 : Int32) (h : MH) : Res := L_X9_bestOf_4 fuel x0 x1 (0 : Int32) (1 : Int32) h
theorem vB_X9_bestOf_40 {K : CT} (F : Fr K cX9_bestOf RX9 (some .int) [] 0 0) (hm : mxL K = 4) (rc4 : Option Nat → Int32 → Int32 → Int32 → MH → Res) (hrc4 : ∀ x0 x1 x2 x3 h, V K 4 [(0, vR x0), (1, vI x1), (2, vI x2), (3, vI x3)] [] h (rc4 x0 x1 x2 x3 h)) (x0 : Option Nat) (x1 : Int32) (x3 : Int32) (s0 : Int32) (h : MH) : V K 40 [(0, vR x0), (1, vI x1), (3, vI x3)] [vI s0] h (B_X9_bestOf_40 rc4 x0 x1 x3 s0 h) := by
  unfold B_X9_bestOf_40
  refine V_istore_n (pc := 40) F [(2, vI s0), (0, vR x0), (1, vI x1), (3, vI x3)] dX9_bestOf_40 (lt_mx hm (by decide)) rfl ?_
  refine V_iinc (pc := 41) F (fun z9 => [(3, vI z9), (2, vI s0), (0, vR x0), (1, vI x1)]) dX9_bestOf_41 (lt_mx hm (by decide)) 3 rfl (dx := (1 : Int32)) (by decide) (fun _ => rfl) ?_
  intro z9
  refine V_goto (pc := 44) F 4 dX9_bestOf_44 (by decide) ?_
  refine V_sub [2, 3, 1, 0] (L' := [(0, vR x0), (1, vI x1), (2, vI s0), (3, vI z9)]) rfl ?_
  exact hrc4 x0 x1 s0 z9 h
theorem vB_X9_bestOf_4 {K : CT} (F : Fr K cX9_bestOf RX9 (some .int) [] 0 0) (hm : mxL K = 4) (rc4 : Option Nat → Int32 → Int32 → Int32 → MH → Res) (hrc4 : ∀ x0 x1 x2 x3 h, V K 4 [(0, vR x0), (1, vI x1), (2, vI x2), (3, vI x3)] [] h (rc4 x0 x1 x2 x3 h)) (x0 : Option Nat) (x1 : Int32) (x2 : Int32) (x3 : Int32) (h : MH) : V K 4 [(0, vR x0), (1, vI x1), (2, vI x2), (3, vI x3)] [] h (B_X9_bestOf_4 rc4 x0 x1 x2 x3 h) := by
  unfold B_X9_bestOf_4
  refine V_iload_n (pc := 4) F dX9_bestOf_4 3 rfl ?_
  refine V_bipush (pc := 5) F (x := (60 : Int32)) dX9_bestOf_5 (by decide) ?_
  refine V_icmp_ge (pc := 7) F 47 dX9_bestOf_7 (by decide) ?_ ?_
  · refine V_iload_n (pc := 47) F dX9_bestOf_47 2 rfl ?_
    exact V_iret (pc := 48) F (Or.inl rfl) dX9_bestOf_48
  · refine V_aload_n (pc := 10) F dX9_bestOf_10 0 rfl ?_
    refine V_getR (pc := 11) F 9 32 (by decide) (by decide) rfl g_fl_RX9_84 dX9_bestOf_11 ?_
    intro r1
    refine V_bipush (pc := 14) F (x := (60 : Int32)) dX9_bestOf_14 (by decide) ?_
    refine V_iload_n (pc := 16) F dX9_bestOf_16 1 rfl ?_
    refine V_imul (pc := 17) F dX9_bestOf_17 ?_
    intro z2
    refine V_iload_n (pc := 18) F dX9_bestOf_18 3 rfl ?_
    refine V_iadd (pc := 19) F dX9_bestOf_19 ?_
    intro z3
    refine V_iald (pc := 20) F dX9_bestOf_20 ?_
    intro z4
    refine V_aload_n (pc := 21) F dX9_bestOf_21 0 rfl ?_
    refine V_getR (pc := 22) F 9 32 (by decide) (by decide) rfl g_fl_RX9_84 dX9_bestOf_22 ?_
    intro r5
    refine V_bipush (pc := 25) F (x := (60 : Int32)) dX9_bestOf_25 (by decide) ?_
    refine V_iload_n (pc := 27) F dX9_bestOf_27 1 rfl ?_
    refine V_imul (pc := 28) F dX9_bestOf_28 ?_
    intro z6
    refine V_iload_n (pc := 29) F dX9_bestOf_29 2 rfl ?_
    refine V_iadd (pc := 30) F dX9_bestOf_30 ?_
    intro z7
    refine V_iald (pc := 31) F dX9_bestOf_31 ?_
    intro z8
    refine V_icmp_le (pc := 32) F 39 dX9_bestOf_32 (by decide) ?_ ?_
    · refine V_iload_n (pc := 39) F dX9_bestOf_39 2 rfl ?_
      refine V_sub [0, 1, 3] (L' := [(0, vR x0), (1, vI x1), (3, vI x3)]) rfl ?_
      exact vB_X9_bestOf_40 F hm rc4 hrc4 x0 x1 x3 x2 h
    · refine V_iload_n (pc := 35) F dX9_bestOf_35 3 rfl ?_
      refine V_goto (pc := 36) F 40 dX9_bestOf_36 (by decide) ?_
      refine V_sub [0, 1, 3] (L' := [(0, vR x0), (1, vI x1), (3, vI x3)]) rfl ?_
      exact vB_X9_bestOf_40 F hm rc4 hrc4 x0 x1 x3 x3 h
theorem vL_X9_bestOf_4 {K : CT} (F : Fr K cX9_bestOf RX9 (some .int) [] 0 0) (hm : mxL K = 4) (n : Nat) : ∀ x0 x1 x2 x3 h, V K 4 [(0, vR x0), (1, vI x1), (2, vI x2), (3, vI x3)] [] h (L_X9_bestOf_4 n x0 x1 x2 x3 h) := by
  induction n with
  | zero => intros; exact V_none
  | succ n ih => intro x0 x1 x2 x3 h; exact vB_X9_bestOf_4 F hm _ ih x0 x1 x2 x3 h
theorem vM_X9_bestOf {K : CT} (F : Fr K cX9_bestOf RX9 (some .int) [] 0 0) (hm : mxL K = 4) (x0 : Option Nat) (x1 : Int32) (h : MH) : V K 0 [(0, vR x0), (1, vI x1)] [] h (M_X9_bestOf x0 x1 h) := by
  unfold M_X9_bestOf
  refine V_iconst (pc := 0) F (x := (0 : Int32)) dX9_bestOf_0 (by decide) ?_
  refine V_istore_n (pc := 1) F [(2, vI (0 : Int32)), (0, vR x0), (1, vI x1)] dX9_bestOf_1 (lt_mx hm (by decide)) rfl ?_
  refine V_iconst (pc := 2) F (x := (1 : Int32)) dX9_bestOf_2 (by decide) ?_
  refine V_istore_n (pc := 3) F [(3, vI (1 : Int32)), (2, vI (0 : Int32)), (0, vR x0), (1, vI x1)] dX9_bestOf_3 (lt_mx hm (by decide)) rfl ?_
  refine V_sub [2, 3, 1, 0] (L' := [(0, vR x0), (1, vI x1), (2, vI (0 : Int32)), (3, vI (1 : Int32))]) rfl ?_
  exact vL_X9_bestOf_4 F hm fuel x0 x1 (0 : Int32) (1 : Int32) h
theorem C_X9_bestOf (x0 : Option Nat) (x1 : Int32) (h : MH) : CtrM yX9_bestOf (WSm yX9_bestOf cX9_bestOf 4 (some .int)) 0 [vR x0, vI x1] h (M_X9_bestOf x0 x1 h) :=
  CtrM_of (by decide) (Nat.le_of_ble_eq_true rfl) (fun K F hm hi => vM_X9_bestOf F hm x0 x1 h)
def B_X9_best_14 (x0 : Option Nat) (x1 : Int32) (s0 : Option Nat) (s1 : Int32) (h : MH) : Res := pfI h s0 9 0 s1 fun h3 => gfI h3 x0 9 0 fun z4 => if z4 ≤ 0 then (chk h3 x0 9 <| calI (M_X9_bestOf x0 x1 h3) fun z5 h6 => rtI z5 h6) else (rtI (0 : Int32) h3)
def M_X9_best (x0 : Option Nat) (x1 : Int32) (h : MH) : Res := chk h x0 9 <| calI (M_X9_isSearch x0 x1 h) fun z1 h2 => if z1 = 0 then (B_X9_best_14 x0 x1 x0 (1 : Int32) h2) else (B_X9_best_14 x0 x1 x0 (0 : Int32) h2)
theorem vB_X9_best_14 {K : CT} (F : Fr K cX9_best RX9 (some .int) [] 2 0) (hm : mxL K = 2) (x0 : Option Nat) (x1 : Int32) (s0 : Option Nat) (s1 : Int32) (h : MH) : V K 14 [(0, vR x0), (1, vI x1)] [vI s1, vR s0] h (B_X9_best_14 x0 x1 s0 s1 h) := by
  unfold B_X9_best_14
  refine V_putI (pc := 14) F 9 0 (by decide) (by decide) rfl rfl g_fl_RX9_96 dX9_best_14 ?_
  intro h3
  refine V_aload_n (pc := 17) F dX9_best_17 0 rfl ?_
  refine V_getI (pc := 18) F 9 0 (by decide) (by decide) rfl g_fl_RX9_96 dX9_best_18 ?_
  intro z4
  refine V_if_le (pc := 21) F 28 dX9_best_21 (by decide) ?_ ?_
  · refine V_aload_n (pc := 28) F dX9_best_28 0 rfl ?_
    refine V_iload_n (pc := 29) F dX9_best_29 1 rfl ?_
    refine V_cVM (pc := 30) F 9 (by decide) (as := [vI x1]) (C_X9_bestOf x0 x1 h3) w_X9_bestOf g_in_X9_bestOf g_se_X9_bestOf g_ml_RX9_199 (by decide) (rest := []) rfl rfl (Nat.le_of_ble_eq_true rfl) dX9_best_30 (k_I fun z5 h6 => ?_)
    exact V_iret (pc := 33) F (Or.inl rfl) dX9_best_33
  · refine V_iconst (pc := 24) F (x := (0 : Int32)) dX9_best_24 (by decide) ?_
    refine V_goto (pc := 25) F 33 dX9_best_25 (by decide) ?_
    exact V_iret (pc := 33) F (Or.inl rfl) dX9_best_33
theorem vM_X9_best {K : CT} (F : Fr K cX9_best RX9 (some .int) [] 2 0) (hm : mxL K = 2) (x0 : Option Nat) (x1 : Int32) (h : MH) : V K 0 [(0, vR x0), (1, vI x1)] [] h (M_X9_best x0 x1 h) := by
  unfold M_X9_best
  refine V_aload_n (pc := 0) F dX9_best_0 0 rfl ?_
  refine V_aload_n (pc := 1) F dX9_best_1 0 rfl ?_
  refine V_iload_n (pc := 2) F dX9_best_2 1 rfl ?_
  refine V_cVM (pc := 3) F 9 (by decide) (as := [vI x1]) (C_X9_isSearch x0 x1 h) w_X9_isSearch g_in_X9_isSearch g_se_X9_isSearch g_ml_RX9_179 (by decide) (rest := [vR x0]) rfl rfl (Nat.le_of_ble_eq_true rfl) dX9_best_3 (k_I fun z1 h2 => ?_)
  refine V_if_eq (pc := 6) F 13 dX9_best_6 (by decide) ?_ ?_
  · refine V_iconst (pc := 13) F (x := (1 : Int32)) dX9_best_13 (by decide) ?_
    exact vB_X9_best_14 F hm x0 x1 x0 (1 : Int32) h2
  · refine V_iconst (pc := 9) F (x := (0 : Int32)) dX9_best_9 (by decide) ?_
    refine V_goto (pc := 10) F 14 dX9_best_10 (by decide) ?_
    exact vB_X9_best_14 F hm x0 x1 x0 (0 : Int32) h2
theorem C_X9_best (x0 : Option Nat) (x1 : Int32) (h : MH) : CtrM yX9_best (WSm yX9_best cX9_best 2 (some .int)) 2 [vR x0, vI x1] h (M_X9_best x0 x1 h) :=
  CtrM_of (by decide) (Nat.le_of_ble_eq_true rfl) (fun K F hm hi => vM_X9_best F hm x0 x1 h)
def B_X9_plan_95 (rc95 : Option Nat → Int32 → Int32 → Int32 → Int32 → MH → Res) (x0 : Option Nat) (x2 : Int32) (x3 : Int32) (x4 : Int32) (x5 : Int32) (h : MH) : Res := if x2 ≤ x5 then (rtI x4 h) else (chk h x0 9 <| calI (M_X9_bestOf x0 (4 : Int32) h) fun z17 h18 => bnd ((240 : Int32) + z17) fun z19 => gfR h18 x0 9 32 fun r20 => rdI h18 r20 20 z19 fun z21 => bnd (z21 * x3) fun z22 => dvI z22 (100 : Int32) fun z23 => gfR h18 x0 9 32 fun r24 => rdI h18 r24 20 z19 fun z25 => bnd (z25 - z23) fun z26 => wrI h18 r24 20 z19 z26 fun h27 => bnd (x4 + z23) fun z28 => bnd (x5 + (1)) fun z29 => rc95 x0 x2 x3 z28 z29 h27)
def L_X9_plan_95 : Nat → Option Nat → Int32 → Int32 → Int32 → Int32 → MH → Res
  | 0 => fun _ _ _ _ _ _ => none
  | n + 1 => B_X9_plan_95 (L_X9_plan_95 n)
def B_X9_plan_53 (rc53 : Option Nat → Int32 → Int32 → Int32 → Int32 → MH → Res) (x0 : Option Nat) (x1 : Int32) (x2 : Int32) (x3 : Int32) (x4 : Int32) (h : MH) : Res := if (60 : Int32) ≤ x4 then (L_X9_plan_95 fuel x0 x2 x3 (0 : Int32) (0 : Int32) h) else (gfR h x0 9 32 fun r9 => bnd ((240 : Int32) + x4) fun z10 => gfR h x0 9 32 fun r11 => bnd ((60 : Int32) * x1) fun z12 => bnd (z12 + x4) fun z13 => rdI h r11 20 z13 fun z14 => wrI h r9 20 z10 z14 fun h15 => bnd (x4 + (1)) fun z16 => rc53 x0 x1 x2 x3 z16 h15)
def L_X9_plan_53 : Nat → Option Nat → Int32 → Int32 → Int32 → Int32 → MH → Res
  | 0 => fun _ _ _ _ _ _ => none
  | n + 1 => B_X9_plan_53 (L_X9_plan_53 n)
def B_X9_plan_38 (x0 : Option Nat) (x1 : Int32) (x2 : Int32) (x3 : Int32) (s0 : Option Nat) (s1 : Int32) (h : MH) : Res := pfI h s0 9 0 s1 fun h7 => gfI h7 x0 9 0 fun z8 => if z8 ≤ 0 then (L_X9_plan_53 fuel x0 x1 x2 x3 (0 : Int32) h7) else (rtI (0 : Int32) h7)
def B_X9_plan_33 (x0 : Option Nat) (x1 : Int32) (x2 : Int32) (x3 : Int32) (s0 : Option Nat) (h : MH) : Res := B_X9_plan_38 x0 x1 x2 x3 s0 (2 : Int32) h
def M_X9_plan (x0 : Option Nat) (x1 : Int32) (x2 : Int32) (x3 : Int32) (h : MH) : Res := chk h x0 9 <| calI (M_X9_isSearch x0 x1 h) fun z1 h2 => if z1 ≠ 0 then (calI (M_X9_in x2 (1 : Int32) (20 : Int32) h2) fun z3 h4 => if z3 = 0 then (B_X9_plan_33 x0 x1 x2 x3 x0 h4) else (calI (M_X9_in x3 (1 : Int32) (100 : Int32) h4) fun z5 h6 => if z5 ≠ 0 then (B_X9_plan_38 x0 x1 x2 x3 x0 (0 : Int32) h6) else (B_X9_plan_33 x0 x1 x2 x3 x0 h6))) else (B_X9_plan_38 x0 x1 x2 x3 x0 (1 : Int32) h2)
theorem vB_X9_plan_95 {K : CT} (F : Fr K cX9_plan RX9 (some .int) [] 2 0) (hm : mxL K = 8) (rc95 : Option Nat → Int32 → Int32 → Int32 → Int32 → MH → Res) (hrc95 : ∀ x0 x2 x3 x4 x5 h, V K 95 [(0, vR x0), (2, vI x2), (3, vI x3), (4, vI x4), (5, vI x5)] [] h (rc95 x0 x2 x3 x4 x5 h)) (x0 : Option Nat) (x2 : Int32) (x3 : Int32) (x4 : Int32) (x5 : Int32) (h : MH) : V K 95 [(0, vR x0), (2, vI x2), (3, vI x3), (4, vI x4), (5, vI x5)] [] h (B_X9_plan_95 rc95 x0 x2 x3 x4 x5 h) := by
  unfold B_X9_plan_95
  refine V_iload (pc := 95) F dX9_plan_95 4 rfl ?_
  refine V_iload_n (pc := 97) F dX9_plan_97 1 rfl ?_
  refine V_icmp_ge (pc := 98) F 151 dX9_plan_98 (by decide) ?_ ?_
  · refine V_iload (pc := 151) F dX9_plan_151 3 rfl ?_
    exact V_iret (pc := 153) F (Or.inl rfl) dX9_plan_153
  · refine V_sipush (pc := 101) F (x := (240 : Int32)) dX9_plan_101 (by decide) ?_
    refine V_aload_n (pc := 104) F dX9_plan_104 0 rfl ?_
    refine V_iconst (pc := 105) F (x := (4 : Int32)) dX9_plan_105 (by decide) ?_
    refine V_cVM (pc := 106) F 9 (by decide) (as := [vI (4 : Int32)]) (C_X9_bestOf x0 (4 : Int32) h) w_X9_bestOf g_in_X9_bestOf g_se_X9_bestOf g_ml_RX9_199 (by decide) (rest := [vI (240 : Int32)]) rfl rfl (Nat.le_of_ble_eq_true rfl) dX9_plan_106 (k_I fun z17 h18 => ?_)
    refine V_iadd (pc := 109) F dX9_plan_109 ?_
    intro z19
    refine V_istore (pc := 110) F [(6, vI z19), (0, vR x0), (2, vI x2), (3, vI x3), (4, vI x4), (5, vI x5)] dX9_plan_110 (lt_mx hm (by decide)) rfl ?_
    refine V_aload_n (pc := 112) F dX9_plan_112 1 rfl ?_
    refine V_getR (pc := 113) F 9 32 (by decide) (by decide) rfl g_fl_RX9_84 dX9_plan_113 ?_
    intro r20
    refine V_iload (pc := 116) F dX9_plan_116 0 rfl ?_
    refine V_iald (pc := 118) F dX9_plan_118 ?_
    intro z21
    refine V_iload_n (pc := 119) F dX9_plan_119 3 rfl ?_
    refine V_imul (pc := 120) F dX9_plan_120 ?_
    intro z22
    refine V_bipush (pc := 121) F (x := (100 : Int32)) dX9_plan_121 (by decide) ?_
    refine V_idiv (pc := 123) F dX9_plan_123 ?_
    intro z23
    refine V_istore (pc := 124) F [(7, vI z23), (6, vI z19), (0, vR x0), (2, vI x2), (3, vI x3), (4, vI x4), (5, vI x5)] dX9_plan_124 (lt_mx hm (by decide)) rfl ?_
    refine V_aload_n (pc := 126) F dX9_plan_126 2 rfl ?_
    refine V_getR (pc := 127) F 9 32 (by decide) (by decide) rfl g_fl_RX9_84 dX9_plan_127 ?_
    intro r24
    refine V_iload (pc := 130) F dX9_plan_130 1 rfl ?_
    refine V_dup2 (pc := 132) F dX9_plan_132 rfl rfl ?_
    refine V_iald (pc := 133) F dX9_plan_133 ?_
    intro z25
    refine V_iload (pc := 134) F dX9_plan_134 0 rfl ?_
    refine V_isub (pc := 136) F dX9_plan_136 ?_
    intro z26
    refine V_iast (pc := 137) F dX9_plan_137 ?_
    intro h27
    refine V_iload (pc := 138) F dX9_plan_138 5 rfl ?_
    refine V_iload (pc := 140) F dX9_plan_140 0 rfl ?_
    refine V_iadd (pc := 142) F dX9_plan_142 ?_
    intro z28
    refine V_istore (pc := 143) F [(4, vI z28), (7, vI z23), (6, vI z19), (0, vR x0), (2, vI x2), (3, vI x3), (5, vI x5)] dX9_plan_143 (lt_mx hm (by decide)) rfl ?_
    refine V_iinc (pc := 145) F (fun z29 => [(5, vI z29), (4, vI z28), (7, vI z23), (6, vI z19), (0, vR x0), (2, vI x2), (3, vI x3)]) dX9_plan_145 (lt_mx hm (by decide)) 6 rfl (dx := (1 : Int32)) (by decide) (fun _ => rfl) ?_
    intro z29
    refine V_goto (pc := 148) F 95 dX9_plan_148 (by decide) ?_
    refine V_sub [4, 5, 6, 1, 0] (L' := [(0, vR x0), (2, vI x2), (3, vI x3), (4, vI z28), (5, vI z29)]) rfl ?_
    exact hrc95 x0 x2 x3 z28 z29 h27
theorem vL_X9_plan_95 {K : CT} (F : Fr K cX9_plan RX9 (some .int) [] 2 0) (hm : mxL K = 8) (n : Nat) : ∀ x0 x2 x3 x4 x5 h, V K 95 [(0, vR x0), (2, vI x2), (3, vI x3), (4, vI x4), (5, vI x5)] [] h (L_X9_plan_95 n x0 x2 x3 x4 x5 h) := by
  induction n with
  | zero => intros; exact V_none
  | succ n ih => intro x0 x2 x3 x4 x5 h; exact vB_X9_plan_95 F hm _ ih x0 x2 x3 x4 x5 h
theorem vB_X9_plan_53 {K : CT} (F : Fr K cX9_plan RX9 (some .int) [] 2 0) (hm : mxL K = 8) (rc53 : Option Nat → Int32 → Int32 → Int32 → Int32 → MH → Res) (hrc53 : ∀ x0 x1 x2 x3 x4 h, V K 53 [(0, vR x0), (1, vI x1), (2, vI x2), (3, vI x3), (4, vI x4)] [] h (rc53 x0 x1 x2 x3 x4 h)) (x0 : Option Nat) (x1 : Int32) (x2 : Int32) (x3 : Int32) (x4 : Int32) (h : MH) : V K 53 [(0, vR x0), (1, vI x1), (2, vI x2), (3, vI x3), (4, vI x4)] [] h (B_X9_plan_53 rc53 x0 x1 x2 x3 x4 h) := by
  unfold B_X9_plan_53
  refine V_iload (pc := 53) F dX9_plan_53 4 rfl ?_
  refine V_bipush (pc := 55) F (x := (60 : Int32)) dX9_plan_55 (by decide) ?_
  refine V_icmp_ge (pc := 57) F 89 dX9_plan_57 (by decide) ?_ ?_
  · refine V_iconst (pc := 89) F (x := (0 : Int32)) dX9_plan_89 (by decide) ?_
    refine V_istore (pc := 90) F [(4, vI (0 : Int32)), (0, vR x0), (1, vI x1), (2, vI x2), (3, vI x3)] dX9_plan_90 (lt_mx hm (by decide)) rfl ?_
    refine V_iconst (pc := 92) F (x := (0 : Int32)) dX9_plan_92 (by decide) ?_
    refine V_istore (pc := 93) F [(5, vI (0 : Int32)), (4, vI (0 : Int32)), (0, vR x0), (1, vI x1), (2, vI x2), (3, vI x3)] dX9_plan_93 (lt_mx hm (by decide)) rfl ?_
    refine V_sub [2, 4, 5, 1, 0] (L' := [(0, vR x0), (2, vI x2), (3, vI x3), (4, vI (0 : Int32)), (5, vI (0 : Int32))]) rfl ?_
    exact vL_X9_plan_95 F hm fuel x0 x2 x3 (0 : Int32) (0 : Int32) h
  · refine V_aload_n (pc := 60) F dX9_plan_60 0 rfl ?_
    refine V_getR (pc := 61) F 9 32 (by decide) (by decide) rfl g_fl_RX9_84 dX9_plan_61 ?_
    intro r9
    refine V_sipush (pc := 64) F (x := (240 : Int32)) dX9_plan_64 (by decide) ?_
    refine V_iload (pc := 67) F dX9_plan_67 4 rfl ?_
    refine V_iadd (pc := 69) F dX9_plan_69 ?_
    intro z10
    refine V_aload_n (pc := 70) F dX9_plan_70 0 rfl ?_
    refine V_getR (pc := 71) F 9 32 (by decide) (by decide) rfl g_fl_RX9_84 dX9_plan_71 ?_
    intro r11
    refine V_bipush (pc := 74) F (x := (60 : Int32)) dX9_plan_74 (by decide) ?_
    refine V_iload_n (pc := 76) F dX9_plan_76 1 rfl ?_
    refine V_imul (pc := 77) F dX9_plan_77 ?_
    intro z12
    refine V_iload (pc := 78) F dX9_plan_78 4 rfl ?_
    refine V_iadd (pc := 80) F dX9_plan_80 ?_
    intro z13
    refine V_iald (pc := 81) F dX9_plan_81 ?_
    intro z14
    refine V_iast (pc := 82) F dX9_plan_82 ?_
    intro h15
    refine V_iinc (pc := 83) F (fun z16 => [(4, vI z16), (0, vR x0), (1, vI x1), (2, vI x2), (3, vI x3)]) dX9_plan_83 (lt_mx hm (by decide)) 4 rfl (dx := (1 : Int32)) (by decide) (fun _ => rfl) ?_
    intro z16
    refine V_goto (pc := 86) F 53 dX9_plan_86 (by decide) ?_
    refine V_sub [1, 2, 3, 4, 0] (L' := [(0, vR x0), (1, vI x1), (2, vI x2), (3, vI x3), (4, vI z16)]) rfl ?_
    exact hrc53 x0 x1 x2 x3 z16 h15
theorem vL_X9_plan_53 {K : CT} (F : Fr K cX9_plan RX9 (some .int) [] 2 0) (hm : mxL K = 8) (n : Nat) : ∀ x0 x1 x2 x3 x4 h, V K 53 [(0, vR x0), (1, vI x1), (2, vI x2), (3, vI x3), (4, vI x4)] [] h (L_X9_plan_53 n x0 x1 x2 x3 x4 h) := by
  induction n with
  | zero => intros; exact V_none
  | succ n ih => intro x0 x1 x2 x3 x4 h; exact vB_X9_plan_53 F hm _ ih x0 x1 x2 x3 x4 h
theorem vB_X9_plan_38 {K : CT} (F : Fr K cX9_plan RX9 (some .int) [] 2 0) (hm : mxL K = 8) (x0 : Option Nat) (x1 : Int32) (x2 : Int32) (x3 : Int32) (s0 : Option Nat) (s1 : Int32) (h : MH) : V K 38 [(0, vR x0), (1, vI x1), (2, vI x2), (3, vI x3)] [vI s1, vR s0] h (B_X9_plan_38 x0 x1 x2 x3 s0 s1 h) := by
  unfold B_X9_plan_38
  refine V_putI (pc := 38) F 9 0 (by decide) (by decide) rfl rfl g_fl_RX9_96 dX9_plan_38 ?_
  intro h7
  refine V_aload_n (pc := 41) F dX9_plan_41 0 rfl ?_
  refine V_getI (pc := 42) F 9 0 (by decide) (by decide) rfl g_fl_RX9_96 dX9_plan_42 ?_
  intro z8
  refine V_if_le (pc := 45) F 50 dX9_plan_45 (by decide) ?_ ?_
  · refine V_iconst (pc := 50) F (x := (0 : Int32)) dX9_plan_50 (by decide) ?_
    refine V_istore (pc := 51) F [(4, vI (0 : Int32)), (0, vR x0), (1, vI x1), (2, vI x2), (3, vI x3)] dX9_plan_51 (lt_mx hm (by decide)) rfl ?_
    refine V_sub [1, 2, 3, 4, 0] (L' := [(0, vR x0), (1, vI x1), (2, vI x2), (3, vI x3), (4, vI (0 : Int32))]) rfl ?_
    exact vL_X9_plan_53 F hm fuel x0 x1 x2 x3 (0 : Int32) h7
  · refine V_iconst (pc := 48) F (x := (0 : Int32)) dX9_plan_48 (by decide) ?_
    exact V_iret (pc := 49) F (Or.inl rfl) dX9_plan_49
theorem vB_X9_plan_33 {K : CT} (F : Fr K cX9_plan RX9 (some .int) [] 2 0) (hm : mxL K = 8) (x0 : Option Nat) (x1 : Int32) (x2 : Int32) (x3 : Int32) (s0 : Option Nat) (h : MH) : V K 33 [(0, vR x0), (1, vI x1), (2, vI x2), (3, vI x3)] [vR s0] h (B_X9_plan_33 x0 x1 x2 x3 s0 h) := by
  unfold B_X9_plan_33
  refine V_iconst (pc := 33) F (x := (2 : Int32)) dX9_plan_33 (by decide) ?_
  refine V_goto (pc := 34) F 38 dX9_plan_34 (by decide) ?_
  exact vB_X9_plan_38 F hm x0 x1 x2 x3 s0 (2 : Int32) h
theorem vM_X9_plan {K : CT} (F : Fr K cX9_plan RX9 (some .int) [] 2 0) (hm : mxL K = 8) (x0 : Option Nat) (x1 : Int32) (x2 : Int32) (x3 : Int32) (h : MH) : V K 0 [(0, vR x0), (1, vI x1), (2, vI x2), (3, vI x3)] [] h (M_X9_plan x0 x1 x2 x3 h) := by
  unfold M_X9_plan
  refine V_aload_n (pc := 0) F dX9_plan_0 0 rfl ?_
  refine V_aload_n (pc := 1) F dX9_plan_1 0 rfl ?_
  refine V_iload_n (pc := 2) F dX9_plan_2 1 rfl ?_
  refine V_cVM (pc := 3) F 9 (by decide) (as := [vI x1]) (C_X9_isSearch x0 x1 h) w_X9_isSearch g_in_X9_isSearch g_se_X9_isSearch g_ml_RX9_179 (by decide) (rest := [vR x0]) rfl rfl (Nat.le_of_ble_eq_true rfl) dX9_plan_3 (k_I fun z1 h2 => ?_)
  refine V_if_ne (pc := 6) F 13 dX9_plan_6 (by decide) ?_ ?_
  · refine V_iload_n (pc := 13) F dX9_plan_13 2 rfl ?_
    refine V_iconst (pc := 14) F (x := (1 : Int32)) dX9_plan_14 (by decide) ?_
    refine V_bipush (pc := 15) F (x := (20 : Int32)) dX9_plan_15 (by decide) ?_
    refine V_cSM (pc := 17) F (as := [vI x2, vI (1 : Int32), vI (20 : Int32)]) (C_X9_in x2 (1 : Int32) (20 : Int32) h2) w_X9_in g_st_X9_in g_ml_RX9_99 (by decide) (rest := [vR x0]) rfl rfl (Nat.le_of_ble_eq_true rfl) dX9_plan_17 (k_I fun z3 h4 => ?_)
    refine V_if_eq (pc := 20) F 33 dX9_plan_20 (by decide) ?_ ?_
    · exact vB_X9_plan_33 F hm x0 x1 x2 x3 x0 h4
    · refine V_iload_n (pc := 23) F dX9_plan_23 3 rfl ?_
      refine V_iconst (pc := 24) F (x := (1 : Int32)) dX9_plan_24 (by decide) ?_
      refine V_bipush (pc := 25) F (x := (100 : Int32)) dX9_plan_25 (by decide) ?_
      refine V_cSM (pc := 27) F (as := [vI x3, vI (1 : Int32), vI (100 : Int32)]) (C_X9_in x3 (1 : Int32) (100 : Int32) h4) w_X9_in g_st_X9_in g_ml_RX9_99 (by decide) (rest := [vR x0]) rfl rfl (Nat.le_of_ble_eq_true rfl) dX9_plan_27 (k_I fun z5 h6 => ?_)
      refine V_if_ne (pc := 30) F 37 dX9_plan_30 (by decide) ?_ ?_
      · refine V_iconst (pc := 37) F (x := (0 : Int32)) dX9_plan_37 (by decide) ?_
        exact vB_X9_plan_38 F hm x0 x1 x2 x3 x0 (0 : Int32) h6
      · exact vB_X9_plan_33 F hm x0 x1 x2 x3 x0 h6
  · refine V_iconst (pc := 9) F (x := (1 : Int32)) dX9_plan_9 (by decide) ?_
    refine V_goto (pc := 10) F 38 dX9_plan_10 (by decide) ?_
    exact vB_X9_plan_38 F hm x0 x1 x2 x3 x0 (1 : Int32) h2
theorem C_X9_plan (x0 : Option Nat) (x1 : Int32) (x2 : Int32) (x3 : Int32) (h : MH) : CtrM yX9_plan (WSm yX9_plan cX9_plan 8 (some .int)) 2 [vR x0, vI x1, vI x2, vI x3] h (M_X9_plan x0 x1 x2 x3 h) :=
  CtrM_of (by decide) (Nat.le_of_ble_eq_true rfl) (fun K F hm hi => vM_X9_plan F hm x0 x1 x2 x3 h)
def B_X9_tideAt_4 (rc4 : Option Nat → Int32 → Int32 → Int32 → MH → Res) (x0 : Option Nat) (x1 : Int32) (x2 : Int32) (x3 : Int32) (h : MH) : Res := gfI h x0 9 33 fun z1 => if z1 ≤ x3 then (rtI x2 h) else (gfR h x0 9 36 fun r2 => rdI h r2 20 x3 fun z3 => bnd (x1 + z3) fun z4 => gfR h x0 9 34 fun r5 => rdI h r5 20 x3 fun z6 => rmI z4 z6 fun z7 => gfR h x0 9 35 fun r8 => rdI h r8 20 x3 fun z9 => bnd ((2 : Int32) * z7) fun z10 => gfR h x0 9 34 fun r11 => rdI h r11 20 x3 fun z12 => bnd (z10 - z12) fun z13 => calI (M_X9_size z13 h) fun z14 h15 => bnd ((2 : Int32) * z14) fun z16 => gfR h15 x0 9 34 fun r17 => rdI h15 r17 20 x3 fun z18 => bnd (z16 - z18) fun z19 => bnd (z9 * z19) fun z20 => gfR h15 x0 9 34 fun r21 => rdI h15 r21 20 x3 fun z22 => dvI z20 z22 fun z23 => bnd (x2 + z23) fun z24 => bnd (x3 + (1)) fun z25 => rc4 x0 x1 z24 z25 h15)
def L_X9_tideAt_4 : Nat → Option Nat → Int32 → Int32 → Int32 → MH → Res
  | 0 => fun _ _ _ _ _ => none
  | n + 1 => B_X9_tideAt_4 (L_X9_tideAt_4 n)
def M_X9_tideAt (x0 : Option Nat) (x1 : Int32) (h : MH) : Res := L_X9_tideAt_4 fuel x0 x1 (0 : Int32) (0 : Int32) h
theorem vB_X9_tideAt_4 {K : CT} (F : Fr K cX9_tideAt RX9 (some .int) [] 1 0) (hm : mxL K = 5) (rc4 : Option Nat → Int32 → Int32 → Int32 → MH → Res) (hrc4 : ∀ x0 x1 x2 x3 h, V K 4 [(0, vR x0), (1, vI x1), (2, vI x2), (3, vI x3)] [] h (rc4 x0 x1 x2 x3 h)) (x0 : Option Nat) (x1 : Int32) (x2 : Int32) (x3 : Int32) (h : MH) : V K 4 [(0, vR x0), (1, vI x1), (2, vI x2), (3, vI x3)] [] h (B_X9_tideAt_4 rc4 x0 x1 x2 x3 h) := by
  unfold B_X9_tideAt_4
  refine V_iload_n (pc := 4) F dX9_tideAt_4 3 rfl ?_
  refine V_aload_n (pc := 5) F dX9_tideAt_5 0 rfl ?_
  refine V_getI (pc := 6) F 9 33 (by decide) (by decide) rfl g_fl_RX9_182 dX9_tideAt_6 ?_
  intro z1
  refine V_icmp_ge (pc := 9) F 75 dX9_tideAt_9 (by decide) ?_ ?_
  · refine V_iload_n (pc := 75) F dX9_tideAt_75 2 rfl ?_
    exact V_iret (pc := 76) F (Or.inl rfl) dX9_tideAt_76
  · refine V_iload_n (pc := 12) F dX9_tideAt_12 1 rfl ?_
    refine V_aload_n (pc := 13) F dX9_tideAt_13 0 rfl ?_
    refine V_getR (pc := 14) F 9 36 (by decide) (by decide) rfl g_fl_RX9_93 dX9_tideAt_14 ?_
    intro r2
    refine V_iload_n (pc := 17) F dX9_tideAt_17 3 rfl ?_
    refine V_iald (pc := 18) F dX9_tideAt_18 ?_
    intro z3
    refine V_iadd (pc := 19) F dX9_tideAt_19 ?_
    intro z4
    refine V_aload_n (pc := 20) F dX9_tideAt_20 0 rfl ?_
    refine V_getR (pc := 21) F 9 34 (by decide) (by decide) rfl g_fl_RX9_87 dX9_tideAt_21 ?_
    intro r5
    refine V_iload_n (pc := 24) F dX9_tideAt_24 3 rfl ?_
    refine V_iald (pc := 25) F dX9_tideAt_25 ?_
    intro z6
    refine V_irem (pc := 26) F dX9_tideAt_26 ?_
    intro z7
    refine V_istore (pc := 27) F [(4, vI z7), (0, vR x0), (1, vI x1), (2, vI x2), (3, vI x3)] dX9_tideAt_27 (lt_mx hm (by decide)) rfl ?_
    refine V_iload_n (pc := 29) F dX9_tideAt_29 3 rfl ?_
    refine V_aload_n (pc := 30) F dX9_tideAt_30 1 rfl ?_
    refine V_getR (pc := 31) F 9 35 (by decide) (by decide) rfl g_fl_RX9_90 dX9_tideAt_31 ?_
    intro r8
    refine V_iload_n (pc := 34) F dX9_tideAt_34 4 rfl ?_
    refine V_iald (pc := 35) F dX9_tideAt_35 ?_
    intro z9
    refine V_iconst (pc := 36) F (x := (2 : Int32)) dX9_tideAt_36 (by decide) ?_
    refine V_iconst (pc := 37) F (x := (2 : Int32)) dX9_tideAt_37 (by decide) ?_
    refine V_iload (pc := 38) F dX9_tideAt_38 0 rfl ?_
    refine V_imul (pc := 40) F dX9_tideAt_40 ?_
    intro z10
    refine V_aload_n (pc := 41) F dX9_tideAt_41 1 rfl ?_
    refine V_getR (pc := 42) F 9 34 (by decide) (by decide) rfl g_fl_RX9_87 dX9_tideAt_42 ?_
    intro r11
    refine V_iload_n (pc := 45) F dX9_tideAt_45 4 rfl ?_
    refine V_iald (pc := 46) F dX9_tideAt_46 ?_
    intro z12
    refine V_isub (pc := 47) F dX9_tideAt_47 ?_
    intro z13
    refine V_cSM (pc := 48) F (as := [vI z13]) (C_X9_size z13 h) w_X9_size g_st_X9_size g_ml_RX9_161 (by decide) (rest := [vI (2 : Int32), vI z9, vI x2]) rfl rfl (Nat.le_of_ble_eq_true rfl) dX9_tideAt_48 (k_I fun z14 h15 => ?_)
    refine V_imul (pc := 51) F dX9_tideAt_51 ?_
    intro z16
    refine V_aload_n (pc := 52) F dX9_tideAt_52 1 rfl ?_
    refine V_getR (pc := 53) F 9 34 (by decide) (by decide) rfl g_fl_RX9_87 dX9_tideAt_53 ?_
    intro r17
    refine V_iload_n (pc := 56) F dX9_tideAt_56 4 rfl ?_
    refine V_iald (pc := 57) F dX9_tideAt_57 ?_
    intro z18
    refine V_isub (pc := 58) F dX9_tideAt_58 ?_
    intro z19
    refine V_imul (pc := 59) F dX9_tideAt_59 ?_
    intro z20
    refine V_aload_n (pc := 60) F dX9_tideAt_60 1 rfl ?_
    refine V_getR (pc := 61) F 9 34 (by decide) (by decide) rfl g_fl_RX9_87 dX9_tideAt_61 ?_
    intro r21
    refine V_iload_n (pc := 64) F dX9_tideAt_64 4 rfl ?_
    refine V_iald (pc := 65) F dX9_tideAt_65 ?_
    intro z22
    refine V_idiv (pc := 66) F dX9_tideAt_66 ?_
    intro z23
    refine V_iadd (pc := 67) F dX9_tideAt_67 ?_
    intro z24
    refine V_istore_n (pc := 68) F [(2, vI z24), (4, vI z7), (0, vR x0), (1, vI x1), (3, vI x3)] dX9_tideAt_68 (lt_mx hm (by decide)) rfl ?_
    refine V_iinc (pc := 69) F (fun z25 => [(3, vI z25), (2, vI z24), (4, vI z7), (0, vR x0), (1, vI x1)]) dX9_tideAt_69 (lt_mx hm (by decide)) 4 rfl (dx := (1 : Int32)) (by decide) (fun _ => rfl) ?_
    intro z25
    refine V_goto (pc := 72) F 4 dX9_tideAt_72 (by decide) ?_
    refine V_sub [3, 4, 1, 0] (L' := [(0, vR x0), (1, vI x1), (2, vI z24), (3, vI z25)]) rfl ?_
    exact hrc4 x0 x1 z24 z25 h15
theorem vL_X9_tideAt_4 {K : CT} (F : Fr K cX9_tideAt RX9 (some .int) [] 1 0) (hm : mxL K = 5) (n : Nat) : ∀ x0 x1 x2 x3 h, V K 4 [(0, vR x0), (1, vI x1), (2, vI x2), (3, vI x3)] [] h (L_X9_tideAt_4 n x0 x1 x2 x3 h) := by
  induction n with
  | zero => intros; exact V_none
  | succ n ih => intro x0 x1 x2 x3 h; exact vB_X9_tideAt_4 F hm _ ih x0 x1 x2 x3 h
theorem vM_X9_tideAt {K : CT} (F : Fr K cX9_tideAt RX9 (some .int) [] 1 0) (hm : mxL K = 5) (x0 : Option Nat) (x1 : Int32) (h : MH) : V K 0 [(0, vR x0), (1, vI x1)] [] h (M_X9_tideAt x0 x1 h) := by
  unfold M_X9_tideAt
  refine V_iconst (pc := 0) F (x := (0 : Int32)) dX9_tideAt_0 (by decide) ?_
  refine V_istore_n (pc := 1) F [(2, vI (0 : Int32)), (0, vR x0), (1, vI x1)] dX9_tideAt_1 (lt_mx hm (by decide)) rfl ?_
  refine V_iconst (pc := 2) F (x := (0 : Int32)) dX9_tideAt_2 (by decide) ?_
  refine V_istore_n (pc := 3) F [(3, vI (0 : Int32)), (2, vI (0 : Int32)), (0, vR x0), (1, vI x1)] dX9_tideAt_3 (lt_mx hm (by decide)) rfl ?_
  refine V_sub [2, 3, 1, 0] (L' := [(0, vR x0), (1, vI x1), (2, vI (0 : Int32)), (3, vI (0 : Int32))]) rfl ?_
  exact vL_X9_tideAt_4 F hm fuel x0 x1 (0 : Int32) (0 : Int32) h
theorem C_X9_tideAt (x0 : Option Nat) (x1 : Int32) (h : MH) : CtrM yX9_tideAt (WSm yX9_tideAt cX9_tideAt 5 (some .int)) 1 [vR x0, vI x1] h (M_X9_tideAt x0 x1 h) :=
  CtrM_of (by decide) (Nat.le_of_ble_eq_true rfl) (fun K F hm hi => vM_X9_tideAt F hm x0 x1 h)
def B_X9_tide_16 (x0 : Option Nat) (x1 : Int32) (s0 : Option Nat) (s1 : Int32) (h : MH) : Res := pfI h s0 9 0 s1 fun h3 => gfI h3 x0 9 0 fun z4 => if z4 ≤ 0 then (chk h3 x0 9 <| calI (M_X9_tideAt x0 x1 h3) fun z5 h6 => rtI z5 h6) else (rtI (0 : Int32) h3)
def M_X9_tide (x0 : Option Nat) (x1 : Int32) (h : MH) : Res := calI (M_X9_in x1 (0 : Int32) (100000 : Int32) h) fun z1 h2 => if z1 = 0 then (B_X9_tide_16 x0 x1 x0 (1 : Int32) h2) else (B_X9_tide_16 x0 x1 x0 (0 : Int32) h2)
theorem vB_X9_tide_16 {K : CT} (F : Fr K cX9_tide RX9 (some .int) [] 2 0) (hm : mxL K = 2) (x0 : Option Nat) (x1 : Int32) (s0 : Option Nat) (s1 : Int32) (h : MH) : V K 16 [(0, vR x0), (1, vI x1)] [vI s1, vR s0] h (B_X9_tide_16 x0 x1 s0 s1 h) := by
  unfold B_X9_tide_16
  refine V_putI (pc := 16) F 9 0 (by decide) (by decide) rfl rfl g_fl_RX9_96 dX9_tide_16 ?_
  intro h3
  refine V_aload_n (pc := 19) F dX9_tide_19 0 rfl ?_
  refine V_getI (pc := 20) F 9 0 (by decide) (by decide) rfl g_fl_RX9_96 dX9_tide_20 ?_
  intro z4
  refine V_if_le (pc := 23) F 30 dX9_tide_23 (by decide) ?_ ?_
  · refine V_aload_n (pc := 30) F dX9_tide_30 0 rfl ?_
    refine V_iload_n (pc := 31) F dX9_tide_31 1 rfl ?_
    refine V_cVM (pc := 32) F 9 (by decide) (as := [vI x1]) (C_X9_tideAt x0 x1 h3) w_X9_tideAt g_in_X9_tideAt g_se_X9_tideAt g_ml_RX9_203 (by decide) (rest := []) rfl rfl (Nat.le_of_ble_eq_true rfl) dX9_tide_32 (k_I fun z5 h6 => ?_)
    exact V_iret (pc := 35) F (Or.inl rfl) dX9_tide_35
  · refine V_iconst (pc := 26) F (x := (0 : Int32)) dX9_tide_26 (by decide) ?_
    refine V_goto (pc := 27) F 35 dX9_tide_27 (by decide) ?_
    exact V_iret (pc := 35) F (Or.inl rfl) dX9_tide_35
theorem vM_X9_tide {K : CT} (F : Fr K cX9_tide RX9 (some .int) [] 2 0) (hm : mxL K = 2) (x0 : Option Nat) (x1 : Int32) (h : MH) : V K 0 [(0, vR x0), (1, vI x1)] [] h (M_X9_tide x0 x1 h) := by
  unfold M_X9_tide
  refine V_aload_n (pc := 0) F dX9_tide_0 0 rfl ?_
  refine V_iload_n (pc := 1) F dX9_tide_1 1 rfl ?_
  refine V_iconst (pc := 2) F (x := (0 : Int32)) dX9_tide_2 (by decide) ?_
  refine V_ldc (pc := 3) F (x := (100000 : Int32)) g_co_RX9_202 dX9_tide_3 ?_
  refine V_cSM (pc := 5) F (as := [vI x1, vI (0 : Int32), vI (100000 : Int32)]) (C_X9_in x1 (0 : Int32) (100000 : Int32) h) w_X9_in g_st_X9_in g_ml_RX9_99 (by decide) (rest := [vR x0]) rfl rfl (Nat.le_of_ble_eq_true rfl) dX9_tide_5 (k_I fun z1 h2 => ?_)
  refine V_if_eq (pc := 8) F 15 dX9_tide_8 (by decide) ?_ ?_
  · refine V_iconst (pc := 15) F (x := (1 : Int32)) dX9_tide_15 (by decide) ?_
    exact vB_X9_tide_16 F hm x0 x1 x0 (1 : Int32) h2
  · refine V_iconst (pc := 11) F (x := (0 : Int32)) dX9_tide_11 (by decide) ?_
    refine V_goto (pc := 12) F 16 dX9_tide_12 (by decide) ?_
    exact vB_X9_tide_16 F hm x0 x1 x0 (0 : Int32) h2
theorem C_X9_tide (x0 : Option Nat) (x1 : Int32) (h : MH) : CtrM yX9_tide (WSm yX9_tide cX9_tide 2 (some .int)) 2 [vR x0, vI x1] h (M_X9_tide x0 x1 h) :=
  CtrM_of (by decide) (Nat.le_of_ble_eq_true rfl) (fun K F hm hi => vM_X9_tide F hm x0 x1 h)
def B_X9_highest_89 (rc63 : Option Nat → Int32 → Int32 → Int32 → MH → Res) (x0 : Option Nat) (x2 : Int32) (x4 : Int32) (s0 : Int32) (h : MH) : Res := bnd (x4 + (1)) fun z14 => rc63 x0 x2 s0 z14 h
def B_X9_highest_63 (rc63 : Option Nat → Int32 → Int32 → Int32 → MH → Res) (x0 : Option Nat) (x2 : Int32) (x3 : Int32) (x4 : Int32) (h : MH) : Res := if x2 < x4 then (rtI x3 h) else (chk h x0 9 <| calI (M_X9_tideAt x0 x4 h) fun z10 h11 => chk h11 x0 9 <| calI (M_X9_tideAt x0 x3 h11) fun z12 h13 => if z10 ≤ z12 then (B_X9_highest_89 rc63 x0 x2 x4 x3 h13) else (B_X9_highest_89 rc63 x0 x2 x4 x4 h13))
def L_X9_highest_63 : Nat → Option Nat → Int32 → Int32 → Int32 → MH → Res
  | 0 => fun _ _ _ _ _ => none
  | n + 1 => B_X9_highest_63 (L_X9_highest_63 n)
def B_X9_highest_44 (x0 : Option Nat) (x1 : Int32) (x2 : Int32) (s0 : Option Nat) (s1 : Int32) (h : MH) : Res := pfI h s0 9 0 s1 fun h7 => gfI h7 x0 9 0 fun z8 => if z8 ≤ 0 then (bnd (x1 + (1 : Int32)) fun z9 => L_X9_highest_63 fuel x0 x2 x1 z9 h7) else (rtI (0 : Int32) h7)
def B_X9_highest_39 (x0 : Option Nat) (x1 : Int32) (x2 : Int32) (s0 : Option Nat) (h : MH) : Res := B_X9_highest_44 x0 x1 x2 s0 (1 : Int32) h
def B_X9_highest_33 (x0 : Option Nat) (x1 : Int32) (x2 : Int32) (s0 : Option Nat) (s1 : Int32) (s2 : Int32) (s3 : Int32) (h : MH) : Res := calI (M_X9_in s1 s2 s3 h) fun z5 h6 => if z5 ≠ 0 then (B_X9_highest_44 x0 x1 x2 s0 (0 : Int32) h6) else (B_X9_highest_39 x0 x1 x2 s0 h6)
def M_X9_highest (x0 : Option Nat) (x1 : Int32) (x2 : Int32) (h : MH) : Res := calI (M_X9_in x1 (0 : Int32) (100000 : Int32) h) fun z1 h2 => if z1 = 0 then (B_X9_highest_39 x0 x1 x2 x0 h2) else (bnd (x1 + (500 : Int32)) fun z3 => if z3 ≤ (100000 : Int32) then (bnd (x1 + (500 : Int32)) fun z4 => B_X9_highest_33 x0 x1 x2 x0 x2 x1 z4 h2) else (B_X9_highest_33 x0 x1 x2 x0 x2 x1 (100000 : Int32) h2))
theorem vB_X9_highest_89 {K : CT} (F : Fr K cX9_highest RX9 (some .int) [] 2 0) (hm : mxL K = 5) (rc63 : Option Nat → Int32 → Int32 → Int32 → MH → Res) (hrc63 : ∀ x0 x2 x3 x4 h, V K 63 [(0, vR x0), (2, vI x2), (3, vI x3), (4, vI x4)] [] h (rc63 x0 x2 x3 x4 h)) (x0 : Option Nat) (x2 : Int32) (x4 : Int32) (s0 : Int32) (h : MH) : V K 89 [(0, vR x0), (2, vI x2), (4, vI x4)] [vI s0] h (B_X9_highest_89 rc63 x0 x2 x4 s0 h) := by
  unfold B_X9_highest_89
  refine V_istore_n (pc := 89) F [(3, vI s0), (0, vR x0), (2, vI x2), (4, vI x4)] dX9_highest_89 (lt_mx hm (by decide)) rfl ?_
  refine V_iinc (pc := 90) F (fun z14 => [(4, vI z14), (3, vI s0), (0, vR x0), (2, vI x2)]) dX9_highest_90 (lt_mx hm (by decide)) 3 rfl (dx := (1 : Int32)) (by decide) (fun _ => rfl) ?_
  intro z14
  refine V_goto (pc := 93) F 63 dX9_highest_93 (by decide) ?_
  refine V_sub [2, 3, 1, 0] (L' := [(0, vR x0), (2, vI x2), (3, vI s0), (4, vI z14)]) rfl ?_
  exact hrc63 x0 x2 s0 z14 h
theorem vB_X9_highest_63 {K : CT} (F : Fr K cX9_highest RX9 (some .int) [] 2 0) (hm : mxL K = 5) (rc63 : Option Nat → Int32 → Int32 → Int32 → MH → Res) (hrc63 : ∀ x0 x2 x3 x4 h, V K 63 [(0, vR x0), (2, vI x2), (3, vI x3), (4, vI x4)] [] h (rc63 x0 x2 x3 x4 h)) (x0 : Option Nat) (x2 : Int32) (x3 : Int32) (x4 : Int32) (h : MH) : V K 63 [(0, vR x0), (2, vI x2), (3, vI x3), (4, vI x4)] [] h (B_X9_highest_63 rc63 x0 x2 x3 x4 h) := by
  unfold B_X9_highest_63
  refine V_iload (pc := 63) F dX9_highest_63 3 rfl ?_
  refine V_iload_n (pc := 65) F dX9_highest_65 1 rfl ?_
  refine V_icmp_gt (pc := 66) F 96 dX9_highest_66 (by decide) ?_ ?_
  · refine V_iload_n (pc := 96) F dX9_highest_96 2 rfl ?_
    exact V_iret (pc := 97) F (Or.inl rfl) dX9_highest_97
  · refine V_aload_n (pc := 69) F dX9_highest_69 0 rfl ?_
    refine V_iload (pc := 70) F dX9_highest_70 3 rfl ?_
    refine V_cVM (pc := 72) F 9 (by decide) (as := [vI x4]) (C_X9_tideAt x0 x4 h) w_X9_tideAt g_in_X9_tideAt g_se_X9_tideAt g_ml_RX9_203 (by decide) (rest := []) rfl rfl (Nat.le_of_ble_eq_true rfl) dX9_highest_72 (k_I fun z10 h11 => ?_)
    refine V_aload_n (pc := 75) F dX9_highest_75 0 rfl ?_
    refine V_iload_n (pc := 76) F dX9_highest_76 2 rfl ?_
    refine V_cVM (pc := 77) F 9 (by decide) (as := [vI x3]) (C_X9_tideAt x0 x3 h11) w_X9_tideAt g_in_X9_tideAt g_se_X9_tideAt g_ml_RX9_203 (by decide) (rest := [vI z10]) rfl rfl (Nat.le_of_ble_eq_true rfl) dX9_highest_77 (k_I fun z12 h13 => ?_)
    refine V_icmp_le (pc := 80) F 88 dX9_highest_80 (by decide) ?_ ?_
    · refine V_iload_n (pc := 88) F dX9_highest_88 2 rfl ?_
      refine V_sub [0, 1, 3] (L' := [(0, vR x0), (2, vI x2), (4, vI x4)]) rfl ?_
      exact vB_X9_highest_89 F hm rc63 hrc63 x0 x2 x4 x3 h13
    · refine V_iload (pc := 83) F dX9_highest_83 3 rfl ?_
      refine V_goto (pc := 85) F 89 dX9_highest_85 (by decide) ?_
      refine V_sub [0, 1, 3] (L' := [(0, vR x0), (2, vI x2), (4, vI x4)]) rfl ?_
      exact vB_X9_highest_89 F hm rc63 hrc63 x0 x2 x4 x4 h13
theorem vL_X9_highest_63 {K : CT} (F : Fr K cX9_highest RX9 (some .int) [] 2 0) (hm : mxL K = 5) (n : Nat) : ∀ x0 x2 x3 x4 h, V K 63 [(0, vR x0), (2, vI x2), (3, vI x3), (4, vI x4)] [] h (L_X9_highest_63 n x0 x2 x3 x4 h) := by
  induction n with
  | zero => intros; exact V_none
  | succ n ih => intro x0 x2 x3 x4 h; exact vB_X9_highest_63 F hm _ ih x0 x2 x3 x4 h
theorem vB_X9_highest_44 {K : CT} (F : Fr K cX9_highest RX9 (some .int) [] 2 0) (hm : mxL K = 5) (x0 : Option Nat) (x1 : Int32) (x2 : Int32) (s0 : Option Nat) (s1 : Int32) (h : MH) : V K 44 [(0, vR x0), (1, vI x1), (2, vI x2)] [vI s1, vR s0] h (B_X9_highest_44 x0 x1 x2 s0 s1 h) := by
  unfold B_X9_highest_44
  refine V_putI (pc := 44) F 9 0 (by decide) (by decide) rfl rfl g_fl_RX9_96 dX9_highest_44 ?_
  intro h7
  refine V_aload_n (pc := 47) F dX9_highest_47 0 rfl ?_
  refine V_getI (pc := 48) F 9 0 (by decide) (by decide) rfl g_fl_RX9_96 dX9_highest_48 ?_
  intro z8
  refine V_if_le (pc := 51) F 56 dX9_highest_51 (by decide) ?_ ?_
  · refine V_iload_n (pc := 56) F dX9_highest_56 1 rfl ?_
    refine V_istore_n (pc := 57) F [(3, vI x1), (0, vR x0), (1, vI x1), (2, vI x2)] dX9_highest_57 (lt_mx hm (by decide)) rfl ?_
    refine V_iload_n (pc := 58) F dX9_highest_58 2 rfl ?_
    refine V_iconst (pc := 59) F (x := (1 : Int32)) dX9_highest_59 (by decide) ?_
    refine V_iadd (pc := 60) F dX9_highest_60 ?_
    intro z9
    refine V_istore (pc := 61) F [(4, vI z9), (3, vI x1), (0, vR x0), (1, vI x1), (2, vI x2)] dX9_highest_61 (lt_mx hm (by decide)) rfl ?_
    refine V_sub [2, 4, 1, 0] (L' := [(0, vR x0), (2, vI x2), (3, vI x1), (4, vI z9)]) rfl ?_
    exact vL_X9_highest_63 F hm fuel x0 x2 x1 z9 h7
  · refine V_iconst (pc := 54) F (x := (0 : Int32)) dX9_highest_54 (by decide) ?_
    exact V_iret (pc := 55) F (Or.inl rfl) dX9_highest_55
theorem vB_X9_highest_39 {K : CT} (F : Fr K cX9_highest RX9 (some .int) [] 2 0) (hm : mxL K = 5) (x0 : Option Nat) (x1 : Int32) (x2 : Int32) (s0 : Option Nat) (h : MH) : V K 39 [(0, vR x0), (1, vI x1), (2, vI x2)] [vR s0] h (B_X9_highest_39 x0 x1 x2 s0 h) := by
  unfold B_X9_highest_39
  refine V_iconst (pc := 39) F (x := (1 : Int32)) dX9_highest_39 (by decide) ?_
  refine V_goto (pc := 40) F 44 dX9_highest_40 (by decide) ?_
  exact vB_X9_highest_44 F hm x0 x1 x2 s0 (1 : Int32) h
theorem vB_X9_highest_33 {K : CT} (F : Fr K cX9_highest RX9 (some .int) [] 2 0) (hm : mxL K = 5) (x0 : Option Nat) (x1 : Int32) (x2 : Int32) (s0 : Option Nat) (s1 : Int32) (s2 : Int32) (s3 : Int32) (h : MH) : V K 33 [(0, vR x0), (1, vI x1), (2, vI x2)] [vI s3, vI s2, vI s1, vR s0] h (B_X9_highest_33 x0 x1 x2 s0 s1 s2 s3 h) := by
  unfold B_X9_highest_33
  refine V_cSM (pc := 33) F (as := [vI s1, vI s2, vI s3]) (C_X9_in s1 s2 s3 h) w_X9_in g_st_X9_in g_ml_RX9_99 (by decide) (rest := [vR s0]) rfl rfl (Nat.le_of_ble_eq_true rfl) dX9_highest_33 (k_I fun z5 h6 => ?_)
  refine V_if_ne (pc := 36) F 43 dX9_highest_36 (by decide) ?_ ?_
  · refine V_iconst (pc := 43) F (x := (0 : Int32)) dX9_highest_43 (by decide) ?_
    exact vB_X9_highest_44 F hm x0 x1 x2 s0 (0 : Int32) h6
  · exact vB_X9_highest_39 F hm x0 x1 x2 s0 h6
theorem vM_X9_highest {K : CT} (F : Fr K cX9_highest RX9 (some .int) [] 2 0) (hm : mxL K = 5) (x0 : Option Nat) (x1 : Int32) (x2 : Int32) (h : MH) : V K 0 [(0, vR x0), (1, vI x1), (2, vI x2)] [] h (M_X9_highest x0 x1 x2 h) := by
  unfold M_X9_highest
  refine V_aload_n (pc := 0) F dX9_highest_0 0 rfl ?_
  refine V_iload_n (pc := 1) F dX9_highest_1 1 rfl ?_
  refine V_iconst (pc := 2) F (x := (0 : Int32)) dX9_highest_2 (by decide) ?_
  refine V_ldc (pc := 3) F (x := (100000 : Int32)) g_co_RX9_202 dX9_highest_3 ?_
  refine V_cSM (pc := 5) F (as := [vI x1, vI (0 : Int32), vI (100000 : Int32)]) (C_X9_in x1 (0 : Int32) (100000 : Int32) h) w_X9_in g_st_X9_in g_ml_RX9_99 (by decide) (rest := [vR x0]) rfl rfl (Nat.le_of_ble_eq_true rfl) dX9_highest_5 (k_I fun z1 h2 => ?_)
  refine V_if_eq (pc := 8) F 39 dX9_highest_8 (by decide) ?_ ?_
  · exact vB_X9_highest_39 F hm x0 x1 x2 x0 h2
  · refine V_iload_n (pc := 11) F dX9_highest_11 2 rfl ?_
    refine V_iload_n (pc := 12) F dX9_highest_12 1 rfl ?_
    refine V_iload_n (pc := 13) F dX9_highest_13 1 rfl ?_
    refine V_sipush (pc := 14) F (x := (500 : Int32)) dX9_highest_14 (by decide) ?_
    refine V_iadd (pc := 17) F dX9_highest_17 ?_
    intro z3
    refine V_ldc (pc := 18) F (x := (100000 : Int32)) g_co_RX9_202 dX9_highest_18 ?_
    refine V_icmp_le (pc := 20) F 28 dX9_highest_20 (by decide) ?_ ?_
    · refine V_iload_n (pc := 28) F dX9_highest_28 1 rfl ?_
      refine V_sipush (pc := 29) F (x := (500 : Int32)) dX9_highest_29 (by decide) ?_
      refine V_iadd (pc := 32) F dX9_highest_32 ?_
      intro z4
      exact vB_X9_highest_33 F hm x0 x1 x2 x0 x2 x1 z4 h2
    · refine V_ldc (pc := 23) F (x := (100000 : Int32)) g_co_RX9_202 dX9_highest_23 ?_
      refine V_goto (pc := 25) F 33 dX9_highest_25 (by decide) ?_
      exact vB_X9_highest_33 F hm x0 x1 x2 x0 x2 x1 (100000 : Int32) h2
theorem C_X9_highest (x0 : Option Nat) (x1 : Int32) (x2 : Int32) (h : MH) : CtrM yX9_highest (WSm yX9_highest cX9_highest 5 (some .int)) 2 [vR x0, vI x1, vI x2] h (M_X9_highest x0 x1 x2 h) :=
  CtrM_of (by decide) (Nat.le_of_ble_eq_true rfl) (fun K F hm hi => vM_X9_highest F hm x0 x1 x2 h)
