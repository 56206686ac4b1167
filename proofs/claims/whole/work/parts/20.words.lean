def fuel : Nat := 1000
def calNI (res : Res) (k : Int32 → MH → Res) : Res := calG res (toI k) (fun _ _ => none)
theorem lt_mx {K : CT} {i n : Nat} (hm : mxL K = n) (h : i < n) : i < mxL K := by rw [hm]; exact h
theorem g_ml_RX1_3 : Cond.methodLink RX1 3 objectInit ∈ GW := GW_of (List.mem_of_getElem? (i := 76) (by decide +kernel)) rfl
theorem g_in_obj : Cond.instanceMethod objectInit ∈ GW := GW_of (List.mem_of_getElem? (i := 63) (by decide +kernel)) rfl
theorem g_cw_obj : Cond.code objectInit ⟨#[0xb1]⟩ 1 none ∈ GW := GW_of (List.mem_of_getElem? (i := 64) (by decide +kernel)) rfl
theorem g_arr_20 : Cond.arrayClass (tyK 20) ∈ GW := GW_of (List.mem_of_getElem? (i := 91) (by decide +kernel)) rfl
theorem g_fl_RX1_9 : Cond.fieldLink RX1 9 ((TN 1) 0).1 ((TN 1) 0).2.1 ((TN 1) 0).2.2.1 ∈ GW := GW_of (List.mem_of_getElem? (i := 80) (by decide +kernel)) rfl
theorem g_fl_RX1_15 : Cond.fieldLink RX1 15 ((TN 1) 1).1 ((TN 1) 1).2.1 ((TN 1) 1).2.2.1 ∈ GW := GW_of (List.mem_of_getElem? (i := 83) (by decide +kernel)) rfl
theorem g_cw_J7_fill_53178 : Cond.code yJ7_fill_53178 cJ7_fill_53178 4 none ∈ GW := GW_of (List.mem_of_getElem? (i := 79) (by decide +kernel)) rfl
theorem g_ini_java_util_Arrays : Cond.initialized RJ7 ∈ GW := GW_of (List.mem_of_getElem? (i := 41) (by decide +kernel)) rfl
theorem w_J7_fill_53178 : CWm yJ7_fill_53178 cJ7_fill_53178 4 none 2 := ⟨g_cw_J7_fill_53178, g_ini_java_util_Arrays, ⟨by decide +kernel, by decide +kernel, by decide +kernel⟩, by decide⟩
theorem g_ml_RX1_18 : Cond.methodLink RX1 18 yJ7_fill_53178 ∈ GW := GW_of (List.mem_of_getElem? (i := 77) (by decide +kernel)) rfl
theorem g_st_J7_fill_53178 : Cond.static yJ7_fill_53178 ∈ GW := GW_of (List.mem_of_getElem? (i := 78) (by decide +kernel)) rfl
theorem g_ml_RX5_3 : Cond.methodLink RX5 3 objectInit ∈ GW := GW_of (List.mem_of_getElem? (i := 70) (by decide +kernel)) rfl
theorem g_inst_1 : Cond.instantiable (RN 1) (nF 1) ∈ GW := GW_of (List.mem_of_getElem? (i := 72) (by decide +kernel)) rfl
theorem g_iniN_1 : Cond.initialized (RN 1) ∈ GW := GW_of (List.mem_of_getElem? (i := 40) (by decide +kernel)) rfl
theorem g_clN_RX5_9 : Cond.classLink RX5 9 (RN 1) ∈ GW := GW_of (List.mem_of_getElem? (i := 71) (by decide +kernel)) rfl
theorem g_cw_X1_init : Cond.code yX1_init cX1_init 3 none ∈ GW := GW_of (List.mem_of_getElem? (i := 75) (by decide +kernel)) rfl
theorem g_ini_GyreWatch_Layer : Cond.initialized RX1 ∈ GW := GW_of (List.mem_of_getElem? (i := 40) (by decide +kernel)) rfl
theorem w_X1_init : CWm yX1_init cX1_init 3 none 2 := ⟨g_cw_X1_init, g_ini_GyreWatch_Layer, ⟨by decide +kernel, by decide +kernel, by decide +kernel⟩, by decide⟩
theorem g_in_X1_init : Cond.instanceMethod yX1_init ∈ GW := GW_of (List.mem_of_getElem? (i := 74) (by decide +kernel)) rfl
theorem g_ml_RX5_11 : Cond.methodLink RX5 11 yX1_init ∈ GW := GW_of (List.mem_of_getElem? (i := 73) (by decide +kernel)) rfl
theorem g_fl_RX5_14 : Cond.fieldLink RX5 14 ((TN 5) 0).1 ((TN 5) 0).2.1 ((TN 5) 0).2.2.1 ∈ GW := GW_of (List.mem_of_getElem? (i := 92) (by decide +kernel)) rfl
theorem g_fl_RX5_20 : Cond.fieldLink RX5 20 ((TN 5) 1).1 ((TN 5) 1).2.1 ((TN 5) 1).2.2.1 ∈ GW := GW_of (List.mem_of_getElem? (i := 94) (by decide +kernel)) rfl
theorem g_fl_RX5_23 : Cond.fieldLink RX5 23 ((TN 5) 2).1 ((TN 5) 2).2.1 ((TN 5) 2).2.2.1 ∈ GW := GW_of (List.mem_of_getElem? (i := 96) (by decide +kernel)) rfl
theorem g_fl_RX5_27 : Cond.fieldLink RX5 27 ((TN 5) 3).1 ((TN 5) 3).2.1 ((TN 5) 3).2.2.1 ∈ GW := GW_of (List.mem_of_getElem? (i := 98) (by decide +kernel)) rfl
theorem g_arr_21 : Cond.arrayClass (tyK 21) ∈ GW := GW_of (List.mem_of_getElem? (i := 122) (by decide +kernel)) rfl
theorem g_fl_RX5_30 : Cond.fieldLink RX5 30 ((TN 5) 5).1 ((TN 5) 5).2.1 ((TN 5) 5).2.2.1 ∈ GW := GW_of (List.mem_of_getElem? (i := 102) (by decide +kernel)) rfl
theorem g_fl_RX5_34 : Cond.fieldLink RX5 34 ((TN 5) 6).1 ((TN 5) 6).2.1 ((TN 5) 6).2.2.1 ∈ GW := GW_of (List.mem_of_getElem? (i := 103) (by decide +kernel)) rfl
theorem g_ml_RX2_3 : Cond.methodLink RX2 3 objectInit ∈ GW := GW_of (List.mem_of_getElem? (i := 130) (by decide +kernel)) rfl
theorem g_clA_RX2_9 : Cond.classLink RX2 9 (RN (coK 24)) ∈ GW := GW_of (List.mem_of_getElem? (i := 131) (by decide +kernel)) rfl
theorem g_fl_RX2_11 : Cond.fieldLink RX2 11 ((TN 2) 0).1 ((TN 2) 0).2.1 ((TN 2) 0).2.2.1 ∈ GW := GW_of (List.mem_of_getElem? (i := 133) (by decide +kernel)) rfl
theorem g_fl_RX2_17 : Cond.fieldLink RX2 17 ((TN 2) 2).1 ((TN 2) 2).2.1 ((TN 2) 2).2.2.1 ∈ GW := GW_of (List.mem_of_getElem? (i := 137) (by decide +kernel)) rfl
theorem g_ml_RX7_3 : Cond.methodLink RX7 3 objectInit ∈ GW := GW_of (List.mem_of_getElem? (i := 151) (by decide +kernel)) rfl
theorem g_fl_RX7_9 : Cond.fieldLink RX7 9 ((TN 7) 1).1 ((TN 7) 1).2.1 ((TN 7) 1).2.2.1 ∈ GW := GW_of (List.mem_of_getElem? (i := 154) (by decide +kernel)) rfl
theorem g_fl_RX7_15 : Cond.fieldLink RX7 15 ((TN 7) 2).1 ((TN 7) 2).2.1 ((TN 7) 2).2.2.1 ∈ GW := GW_of (List.mem_of_getElem? (i := 155) (by decide +kernel)) rfl
theorem g_fl_RX7_18 : Cond.fieldLink RX7 18 ((TN 7) 3).1 ((TN 7) 3).2.1 ((TN 7) 3).2.2.1 ∈ GW := GW_of (List.mem_of_getElem? (i := 156) (by decide +kernel)) rfl
theorem g_ml_RX8_3 : Cond.methodLink RX8 3 objectInit ∈ GW := GW_of (List.mem_of_getElem? (i := 62) (by decide +kernel)) rfl
theorem g_inst_5 : Cond.instantiable (RN 5) (nF 5) ∈ GW := GW_of (List.mem_of_getElem? (i := 66) (by decide +kernel)) rfl
theorem g_iniN_5 : Cond.initialized (RN 5) ∈ GW := GW_of (List.mem_of_getElem? (i := 39) (by decide +kernel)) rfl
theorem g_clN_RX8_9 : Cond.classLink RX8 9 (RN 5) ∈ GW := GW_of (List.mem_of_getElem? (i := 65) (by decide +kernel)) rfl
theorem g_cw_X5_init : Cond.code yX5_init cX5_init 1 none ∈ GW := GW_of (List.mem_of_getElem? (i := 69) (by decide +kernel)) rfl
theorem g_ini_GyreWatch_Sea : Cond.initialized RX5 ∈ GW := GW_of (List.mem_of_getElem? (i := 39) (by decide +kernel)) rfl
theorem w_X5_init : CWm yX5_init cX5_init 1 none 0 := ⟨g_cw_X5_init, g_ini_GyreWatch_Sea, ⟨by decide +kernel, by decide +kernel, by decide +kernel⟩, by decide⟩
theorem g_in_X5_init : Cond.instanceMethod yX5_init ∈ GW := GW_of (List.mem_of_getElem? (i := 68) (by decide +kernel)) rfl
theorem g_fl_RX8_12 : Cond.fieldLink RX8 12 ((TN 8) 0).1 ((TN 8) 0).2.1 ((TN 8) 0).2.2.1 ∈ GW := GW_of (List.mem_of_getElem? (i := 173) (by decide +kernel)) rfl
theorem g_clA_RX8_16 : Cond.classLink RX8 16 (RN (coK 22)) ∈ GW := GW_of (List.mem_of_getElem? (i := 123) (by decide +kernel)) rfl
theorem g_fl_RX8_18 : Cond.fieldLink RX8 18 ((TN 8) 1).1 ((TN 8) 1).2.1 ((TN 8) 1).2.2.1 ∈ GW := GW_of (List.mem_of_getElem? (i := 174) (by decide +kernel)) rfl
theorem g_inst_2 : Cond.instantiable (RN 2) (nF 2) ∈ GW := GW_of (List.mem_of_getElem? (i := 126) (by decide +kernel)) rfl
theorem g_iniN_2 : Cond.initialized (RN 2) ∈ GW := GW_of (List.mem_of_getElem? (i := 42) (by decide +kernel)) rfl
theorem g_clN_RX8_22 : Cond.classLink RX8 22 (RN 2) ∈ GW := GW_of (List.mem_of_getElem? (i := 125) (by decide +kernel)) rfl
theorem g_cw_X2_init : Cond.code yX2_init cX2_init 1 none ∈ GW := GW_of (List.mem_of_getElem? (i := 129) (by decide +kernel)) rfl
theorem g_ini_GyreWatch_Log : Cond.initialized RX2 ∈ GW := GW_of (List.mem_of_getElem? (i := 42) (by decide +kernel)) rfl
theorem w_X2_init : CWm yX2_init cX2_init 1 none 0 := ⟨g_cw_X2_init, g_ini_GyreWatch_Log, ⟨by decide +kernel, by decide +kernel, by decide +kernel⟩, by decide⟩
theorem g_in_X2_init : Cond.instanceMethod yX2_init ∈ GW := GW_of (List.mem_of_getElem? (i := 128) (by decide +kernel)) rfl
theorem g_fl_RX8_25 : Cond.fieldLink RX8 25 ((TN 8) 2).1 ((TN 8) 2).2.1 ((TN 8) 2).2.2.1 ∈ GW := GW_of (List.mem_of_getElem? (i := 175) (by decide +kernel)) rfl
theorem g_inst_7 : Cond.instantiable (RN 7) (nF 7) ∈ GW := GW_of (List.mem_of_getElem? (i := 147) (by decide +kernel)) rfl
theorem g_iniN_7 : Cond.initialized (RN 7) ∈ GW := GW_of (List.mem_of_getElem? (i := 43) (by decide +kernel)) rfl
theorem g_clN_RX8_29 : Cond.classLink RX8 29 (RN 7) ∈ GW := GW_of (List.mem_of_getElem? (i := 146) (by decide +kernel)) rfl
theorem g_cw_X7_init : Cond.code yX7_init cX7_init 1 none ∈ GW := GW_of (List.mem_of_getElem? (i := 150) (by decide +kernel)) rfl
theorem g_ini_GyreWatch_Ships : Cond.initialized RX7 ∈ GW := GW_of (List.mem_of_getElem? (i := 43) (by decide +kernel)) rfl
theorem w_X7_init : CWm yX7_init cX7_init 1 none 0 := ⟨g_cw_X7_init, g_ini_GyreWatch_Ships, ⟨by decide +kernel, by decide +kernel, by decide +kernel⟩, by decide⟩
theorem g_in_X7_init : Cond.instanceMethod yX7_init ∈ GW := GW_of (List.mem_of_getElem? (i := 149) (by decide +kernel)) rfl
theorem g_fl_RX8_32 : Cond.fieldLink RX8 32 ((TN 8) 3).1 ((TN 8) 3).2.1 ((TN 8) 3).2.2.1 ∈ GW := GW_of (List.mem_of_getElem? (i := 176) (by decide +kernel)) rfl
theorem g_clA_RX8_36 : Cond.classLink RX8 36 (RN (coK 25)) ∈ GW := GW_of (List.mem_of_getElem? (i := 169) (by decide +kernel)) rfl
theorem g_fl_RX8_38 : Cond.fieldLink RX8 38 ((TN 8) 4).1 ((TN 8) 4).2.1 ((TN 8) 4).2.2.1 ∈ GW := GW_of (List.mem_of_getElem? (i := 177) (by decide +kernel)) rfl
theorem g_clA_RX8_42 : Cond.classLink RX8 42 (RN (coK 23)) ∈ GW := GW_of (List.mem_of_getElem? (i := 171) (by decide +kernel)) rfl
theorem g_fl_RX8_44 : Cond.fieldLink RX8 44 ((TN 8) 5).1 ((TN 8) 5).2.1 ((TN 8) 5).2.2.1 ∈ GW := GW_of (List.mem_of_getElem? (i := 178) (by decide +kernel)) rfl
theorem g_ml_RX9_1 : Cond.methodLink RX9 1 objectInit ∈ GW := GW_of (List.mem_of_getElem? (i := 881) (by decide +kernel)) rfl
theorem g_fl_RX9_7 : Cond.fieldLink RX9 7 ((TN 9) 3).1 ((TN 9) 3).2.1 ((TN 9) 3).2.2.1 ∈ GW := GW_of (List.mem_of_getElem? (i := 885) (by decide +kernel)) rfl
theorem g_fl_RX9_13 : Cond.fieldLink RX9 13 ((TN 9) 4).1 ((TN 9) 4).2.1 ((TN 9) 4).2.2.1 ∈ GW := GW_of (List.mem_of_getElem? (i := 886) (by decide +kernel)) rfl
theorem g_fl_RX9_17 : Cond.fieldLink RX9 17 ((TN 9) 5).1 ((TN 9) 5).2.1 ((TN 9) 5).2.2.1 ∈ GW := GW_of (List.mem_of_getElem? (i := 887) (by decide +kernel)) rfl
theorem g_fl_RX9_20 : Cond.fieldLink RX9 20 ((TN 9) 6).1 ((TN 9) 6).2.1 ((TN 9) 6).2.2.1 ∈ GW := GW_of (List.mem_of_getElem? (i := 888) (by decide +kernel)) rfl
theorem g_fl_RX9_23 : Cond.fieldLink RX9 23 ((TN 9) 7).1 ((TN 9) 7).2.1 ((TN 9) 7).2.2.1 ∈ GW := GW_of (List.mem_of_getElem? (i := 889) (by decide +kernel)) rfl
theorem g_fl_RX9_26 : Cond.fieldLink RX9 26 ((TN 9) 8).1 ((TN 9) 8).2.1 ((TN 9) 8).2.2.1 ∈ GW := GW_of (List.mem_of_getElem? (i := 890) (by decide +kernel)) rfl
theorem g_fl_RX9_29 : Cond.fieldLink RX9 29 ((TN 9) 9).1 ((TN 9) 9).2.1 ((TN 9) 9).2.2.1 ∈ GW := GW_of (List.mem_of_getElem? (i := 891) (by decide +kernel)) rfl
theorem g_fl_RX9_32 : Cond.fieldLink RX9 32 ((TN 9) 11).1 ((TN 9) 11).2.1 ((TN 9) 11).2.2.1 ∈ GW := GW_of (List.mem_of_getElem? (i := 893) (by decide +kernel)) rfl
theorem g_fl_RX9_35 : Cond.fieldLink RX9 35 ((TN 9) 12).1 ((TN 9) 12).2.1 ((TN 9) 12).2.2.1 ∈ GW := GW_of (List.mem_of_getElem? (i := 894) (by decide +kernel)) rfl
theorem g_fl_RX9_38 : Cond.fieldLink RX9 38 ((TN 9) 13).1 ((TN 9) 13).2.1 ((TN 9) 13).2.2.1 ∈ GW := GW_of (List.mem_of_getElem? (i := 895) (by decide +kernel)) rfl
theorem g_fl_RX9_41 : Cond.fieldLink RX9 41 ((TN 9) 14).1 ((TN 9) 14).2.1 ((TN 9) 14).2.2.1 ∈ GW := GW_of (List.mem_of_getElem? (i := 896) (by decide +kernel)) rfl
theorem g_fl_RX9_44 : Cond.fieldLink RX9 44 ((TN 9) 15).1 ((TN 9) 15).2.1 ((TN 9) 15).2.2.1 ∈ GW := GW_of (List.mem_of_getElem? (i := 897) (by decide +kernel)) rfl
theorem g_fl_RX9_47 : Cond.fieldLink RX9 47 ((TN 9) 16).1 ((TN 9) 16).2.1 ((TN 9) 16).2.2.1 ∈ GW := GW_of (List.mem_of_getElem? (i := 898) (by decide +kernel)) rfl
theorem g_fl_RX9_50 : Cond.fieldLink RX9 50 ((TN 9) 18).1 ((TN 9) 18).2.1 ((TN 9) 18).2.2.1 ∈ GW := GW_of (List.mem_of_getElem? (i := 900) (by decide +kernel)) rfl
theorem g_fl_RX9_53 : Cond.fieldLink RX9 53 ((TN 9) 19).1 ((TN 9) 19).2.1 ((TN 9) 19).2.2.1 ∈ GW := GW_of (List.mem_of_getElem? (i := 901) (by decide +kernel)) rfl
theorem g_fl_RX9_56 : Cond.fieldLink RX9 56 ((TN 9) 21).1 ((TN 9) 21).2.1 ((TN 9) 21).2.2.1 ∈ GW := GW_of (List.mem_of_getElem? (i := 903) (by decide +kernel)) rfl
theorem g_fl_RX9_59 : Cond.fieldLink RX9 59 ((TN 9) 22).1 ((TN 9) 22).2.1 ((TN 9) 22).2.2.1 ∈ GW := GW_of (List.mem_of_getElem? (i := 904) (by decide +kernel)) rfl
theorem g_fl_RX9_62 : Cond.fieldLink RX9 62 ((TN 9) 24).1 ((TN 9) 24).2.1 ((TN 9) 24).2.2.1 ∈ GW := GW_of (List.mem_of_getElem? (i := 906) (by decide +kernel)) rfl
theorem g_fl_RX9_65 : Cond.fieldLink RX9 65 ((TN 9) 25).1 ((TN 9) 25).2.1 ((TN 9) 25).2.2.1 ∈ GW := GW_of (List.mem_of_getElem? (i := 907) (by decide +kernel)) rfl
theorem g_fl_RX9_68 : Cond.fieldLink RX9 68 ((TN 9) 26).1 ((TN 9) 26).2.1 ((TN 9) 26).2.2.1 ∈ GW := GW_of (List.mem_of_getElem? (i := 908) (by decide +kernel)) rfl
theorem g_fl_RX9_71 : Cond.fieldLink RX9 71 ((TN 9) 27).1 ((TN 9) 27).2.1 ((TN 9) 27).2.2.1 ∈ GW := GW_of (List.mem_of_getElem? (i := 909) (by decide +kernel)) rfl
theorem g_fl_RX9_74 : Cond.fieldLink RX9 74 ((TN 9) 28).1 ((TN 9) 28).2.1 ((TN 9) 28).2.2.1 ∈ GW := GW_of (List.mem_of_getElem? (i := 910) (by decide +kernel)) rfl
theorem g_fl_RX9_77 : Cond.fieldLink RX9 77 ((TN 9) 29).1 ((TN 9) 29).2.1 ((TN 9) 29).2.2.1 ∈ GW := GW_of (List.mem_of_getElem? (i := 911) (by decide +kernel)) rfl
theorem g_fl_RX9_81 : Cond.fieldLink RX9 81 ((TN 9) 31).1 ((TN 9) 31).2.1 ((TN 9) 31).2.2.1 ∈ GW := GW_of (List.mem_of_getElem? (i := 913) (by decide +kernel)) rfl
theorem g_fl_RX9_84 : Cond.fieldLink RX9 84 ((TN 9) 32).1 ((TN 9) 32).2.1 ((TN 9) 32).2.2.1 ∈ GW := GW_of (List.mem_of_getElem? (i := 914) (by decide +kernel)) rfl
theorem g_fl_RX9_87 : Cond.fieldLink RX9 87 ((TN 9) 34).1 ((TN 9) 34).2.1 ((TN 9) 34).2.2.1 ∈ GW := GW_of (List.mem_of_getElem? (i := 916) (by decide +kernel)) rfl
theorem g_fl_RX9_90 : Cond.fieldLink RX9 90 ((TN 9) 35).1 ((TN 9) 35).2.1 ((TN 9) 35).2.2.1 ∈ GW := GW_of (List.mem_of_getElem? (i := 917) (by decide +kernel)) rfl
theorem g_fl_RX9_93 : Cond.fieldLink RX9 93 ((TN 9) 36).1 ((TN 9) 36).2.1 ((TN 9) 36).2.2.1 ∈ GW := GW_of (List.mem_of_getElem? (i := 918) (by decide +kernel)) rfl
theorem g_cw_X8_isCell : Cond.code yX8_isCell cX8_isCell 1 (some .boolean) ∈ GW := GW_of (List.mem_of_getElem? (i := 230) (by decide +kernel)) rfl
theorem g_ini_GyreWatch : Cond.initialized RX8 ∈ GW := GW_of (List.mem_of_getElem? (i := 38) (by decide +kernel)) rfl
theorem w_X8_isCell : CWm yX8_isCell cX8_isCell 1 (some .boolean) 1 := ⟨g_cw_X8_isCell, g_ini_GyreWatch, ⟨by decide +kernel, by decide +kernel, by decide +kernel⟩, by decide⟩
theorem g_ml_RX8_276 : Cond.methodLink RX8 276 yX8_isCell ∈ GW := GW_of (List.mem_of_getElem? (i := 228) (by decide +kernel)) rfl
theorem g_st_X8_isCell : Cond.static yX8_isCell ∈ GW := GW_of (List.mem_of_getElem? (i := 229) (by decide +kernel)) rfl
theorem g_ata_RX8_283_279 : ∀ w ∈ (vx_atS RX8 283 (exN 1) XNm).filter goodWord, w ∈ lw_tbl := by decide +kernel
theorem g_atb_RX8_283_279 : ∀ w ∈ (vx_atS RX8 283 (exN 1) XNm).filter (fun w => !goodWord w), w ∈ Cond.castable (exN 1) (exN 1) :: NDL.map Cond.declares := by decide +kernel
theorem g_atc_RX8_283_279 : ∀ w ∈ Cond.classLink RX8 279 (exN 1) :: Cond.initialized (exN 1) :: vx_atS RX8 283 (exN 1) XNm, vx_ot w = true := by decide +kernel
theorem g_cl_RX8_279 : Cond.classLink RX8 279 (exN 1) ∈ GW := GW_of (List.mem_of_getElem? (i := 231) (by decide +kernel)) rfl
theorem g_ini_java_lang_IndexOutOfBoundsException : Cond.initialized (exN 1) ∈ GW := GW_of (List.mem_of_getElem? (i := 48) (by decide +kernel)) rfl
theorem g_cw_X8_isIndex : Cond.code yX8_isIndex cX8_isIndex 2 (some .boolean) ∈ GW := GW_of (List.mem_of_getElem? (i := 318) (by decide +kernel)) rfl
theorem w_X8_isIndex : CWm yX8_isIndex cX8_isIndex 2 (some .boolean) 2 := ⟨g_cw_X8_isIndex, g_ini_GyreWatch, ⟨by decide +kernel, by decide +kernel, by decide +kernel⟩, by decide⟩
theorem g_st_X8_isIndex : Cond.static yX8_isIndex ∈ GW := GW_of (List.mem_of_getElem? (i := 317) (by decide +kernel)) rfl
theorem g_fl_RX7_29 : Cond.fieldLink RX7 29 ((TN 7) 0).1 ((TN 7) 0).2.1 ((TN 7) 0).2.2.1 ∈ GW := GW_of (List.mem_of_getElem? (i := 152) (by decide +kernel)) rfl
theorem g_cw_X7_cellOf : Cond.code yX7_cellOf cX7_cellOf 2 (some .int) ∈ GW := GW_of (List.mem_of_getElem? (i := 315) (by decide +kernel)) rfl
theorem w_X7_cellOf : CWm yX7_cellOf cX7_cellOf 2 (some .int) 1 := ⟨g_cw_X7_cellOf, g_ini_GyreWatch_Ships, ⟨by decide +kernel, by decide +kernel, by decide +kernel⟩, by decide⟩
theorem g_in_X7_cellOf : Cond.instanceMethod yX7_cellOf ∈ GW := GW_of (List.mem_of_getElem? (i := 313) (by decide +kernel)) rfl
theorem g_se_X7_cellOf : Cond.selects (RN 7) yX7_cellOf yX7_cellOf ∈ GW := GW_of (List.mem_of_getElem? (i := 314) (by decide +kernel)) rfl
theorem g_ml_RX7_33 : Cond.methodLink RX7 33 yX7_cellOf ∈ GW := GW_of (List.mem_of_getElem? (i := 312) (by decide +kernel)) rfl
theorem g_fl_RX8_215 : Cond.fieldLink RX8 215 ((TN 0) 3).1 ((TN 0) 3).2.1 ((TN 0) 3).2.2.1 ∈ GW := GW_of (List.mem_of_getElem? (i := 541) (by decide +kernel)) rfl
theorem g_cw_X7_hasStationIn : Cond.code yX7_hasStationIn cX7_hasStationIn 3 (some .boolean) ∈ GW := GW_of (List.mem_of_getElem? (i := 311) (by decide +kernel)) rfl
theorem w_X7_hasStationIn : CWm yX7_hasStationIn cX7_hasStationIn 3 (some .boolean) 1 := ⟨g_cw_X7_hasStationIn, g_ini_GyreWatch_Ships, ⟨by decide +kernel, by decide +kernel, by decide +kernel⟩, by decide⟩
theorem g_in_X7_hasStationIn : Cond.instanceMethod yX7_hasStationIn ∈ GW := GW_of (List.mem_of_getElem? (i := 309) (by decide +kernel)) rfl
theorem g_se_X7_hasStationIn : Cond.selects (RN 7) yX7_hasStationIn yX7_hasStationIn ∈ GW := GW_of (List.mem_of_getElem? (i := 310) (by decide +kernel)) rfl
theorem g_ml_RX8_304 : Cond.methodLink RX8 304 yX7_hasStationIn ∈ GW := GW_of (List.mem_of_getElem? (i := 308) (by decide +kernel)) rfl
theorem g_fl_RX8_301 : Cond.fieldLink RX8 301 ((TN 6) 0).1 ((TN 6) 0).2.1 ((TN 6) 0).2.2.1 ∈ GW := GW_of (List.mem_of_getElem? (i := 685) (by decide +kernel)) rfl
theorem g_fl_RX5_44 : Cond.fieldLink RX5 44 ((TN 5) 7).1 ((TN 5) 7).2.1 ((TN 5) 7).2.2.1 ∈ GW := GW_of (List.mem_of_getElem? (i := 104) (by decide +kernel)) rfl
theorem g_cw_X1_emptyAt : Cond.code yX1_emptyAt cX1_emptyAt 2 none ∈ GW := GW_of (List.mem_of_getElem? (i := 342) (by decide +kernel)) rfl
theorem w_X1_emptyAt : CWm yX1_emptyAt cX1_emptyAt 2 none 1 := ⟨g_cw_X1_emptyAt, g_ini_GyreWatch_Layer, ⟨by decide +kernel, by decide +kernel, by decide +kernel⟩, by decide⟩
theorem g_in_X1_emptyAt : Cond.instanceMethod yX1_emptyAt ∈ GW := GW_of (List.mem_of_getElem? (i := 340) (by decide +kernel)) rfl
theorem g_se_X1_emptyAt : Cond.selects (RN 1) yX1_emptyAt yX1_emptyAt ∈ GW := GW_of (List.mem_of_getElem? (i := 341) (by decide +kernel)) rfl
theorem g_ml_RX5_48 : Cond.methodLink RX5 48 yX1_emptyAt ∈ GW := GW_of (List.mem_of_getElem? (i := 339) (by decide +kernel)) rfl
theorem g_cw_X8_needCell : Cond.code yX8_needCell cX8_needCell 1 none ∈ GW := GW_of (List.mem_of_getElem? (i := 227) (by decide +kernel)) rfl
theorem w_X8_needCell : CWm yX8_needCell cX8_needCell 1 none 1 := ⟨g_cw_X8_needCell, g_ini_GyreWatch, ⟨by decide +kernel, by decide +kernel, by decide +kernel⟩, by decide⟩
theorem g_ml_RX8_48 : Cond.methodLink RX8 48 yX8_needCell ∈ GW := GW_of (List.mem_of_getElem? (i := 225) (by decide +kernel)) rfl
theorem g_st_X8_needCell : Cond.static yX8_needCell ∈ GW := GW_of (List.mem_of_getElem? (i := 226) (by decide +kernel)) rfl
theorem g_fl_RX8_52 : Cond.fieldLink RX8 52 ((TN 8) 9).1 ((TN 8) 9).2.1 ((TN 8) 9).2.2.1 ∈ GW := GW_of (List.mem_of_getElem? (i := 182) (by decide +kernel)) rfl
theorem g_ata_RX8_67_63 : ∀ w ∈ (vx_atS RX8 67 (exN 3) XNm).filter goodWord, w ∈ lw_tbl := by decide +kernel
theorem g_atb_RX8_67_63 : ∀ w ∈ (vx_atS RX8 67 (exN 3) XNm).filter (fun w => !goodWord w), w ∈ Cond.castable (exN 3) (exN 3) :: NDL.map Cond.declares := by decide +kernel
theorem g_atc_RX8_67_63 : ∀ w ∈ Cond.classLink RX8 63 (exN 3) :: Cond.initialized (exN 3) :: vx_atS RX8 67 (exN 3) XNm, vx_ot w = true := by decide +kernel
theorem g_cl_RX8_63 : Cond.classLink RX8 63 (exN 3) ∈ GW := GW_of (List.mem_of_getElem? (i := 319) (by decide +kernel)) rfl
theorem g_ini_java_lang_IllegalStateException : Cond.initialized (exN 3) ∈ GW := GW_of (List.mem_of_getElem? (i := 49) (by decide +kernel)) rfl
theorem g_cw_X5_isLand : Cond.code yX5_isLand cX5_isLand 2 (some .boolean) ∈ GW := GW_of (List.mem_of_getElem? (i := 302) (by decide +kernel)) rfl
theorem w_X5_isLand : CWm yX5_isLand cX5_isLand 2 (some .boolean) 1 := ⟨g_cw_X5_isLand, g_ini_GyreWatch_Sea, ⟨by decide +kernel, by decide +kernel, by decide +kernel⟩, by decide⟩
theorem g_in_X5_isLand : Cond.instanceMethod yX5_isLand ∈ GW := GW_of (List.mem_of_getElem? (i := 300) (by decide +kernel)) rfl
theorem g_se_X5_isLand : Cond.selects (RN 5) yX5_isLand yX5_isLand ∈ GW := GW_of (List.mem_of_getElem? (i := 301) (by decide +kernel)) rfl
theorem g_ml_RX8_56 : Cond.methodLink RX8 56 yX5_isLand ∈ GW := GW_of (List.mem_of_getElem? (i := 299) (by decide +kernel)) rfl
theorem g_cw_X8_isTaken : Cond.code yX8_isTaken cX8_isTaken 6 (some .boolean) ∈ GW := GW_of (List.mem_of_getElem? (i := 307) (by decide +kernel)) rfl
theorem w_X8_isTaken : CWm yX8_isTaken cX8_isTaken 6 (some .boolean) 1 := ⟨g_cw_X8_isTaken, g_ini_GyreWatch, ⟨by decide +kernel, by decide +kernel, by decide +kernel⟩, by decide⟩
theorem g_in_X8_isTaken : Cond.instanceMethod yX8_isTaken ∈ GW := GW_of (List.mem_of_getElem? (i := 306) (by decide +kernel)) rfl
theorem g_se_X8_isTaken : Cond.selects (RN 8) yX8_isTaken yX8_isTaken ∈ GW := GW_of (List.mem_of_getElem? (i := 1) (by decide +kernel)) rfl
theorem g_ml_RX8_60 : Cond.methodLink RX8 60 yX8_isTaken ∈ GW := GW_of (List.mem_of_getElem? (i := 304) (by decide +kernel)) rfl
theorem g_cw_X5_makeLand : Cond.code yX5_makeLand cX5_makeLand 2 (some .int) ∈ GW := GW_of (List.mem_of_getElem? (i := 338) (by decide +kernel)) rfl
theorem w_X5_makeLand : CWm yX5_makeLand cX5_makeLand 2 (some .int) 1 := ⟨g_cw_X5_makeLand, g_ini_GyreWatch_Sea, ⟨by decide +kernel, by decide +kernel, by decide +kernel⟩, by decide⟩
theorem g_in_X5_makeLand : Cond.instanceMethod yX5_makeLand ∈ GW := GW_of (List.mem_of_getElem? (i := 336) (by decide +kernel)) rfl
theorem g_se_X5_makeLand : Cond.selects (RN 5) yX5_makeLand yX5_makeLand ∈ GW := GW_of (List.mem_of_getElem? (i := 337) (by decide +kernel)) rfl
theorem g_ml_RX8_70 : Cond.methodLink RX8 70 yX5_makeLand ∈ GW := GW_of (List.mem_of_getElem? (i := 335) (by decide +kernel)) rfl
theorem g_cw_X8_land : Cond.code yX8_land cX8_land 2 (some .int) ∈ GW := GW_of (List.mem_of_getElem? (i := 224) (by decide +kernel)) rfl
theorem w_X8_land : CWm yX8_land cX8_land 2 (some .int) 1 := ⟨g_cw_X8_land, g_ini_GyreWatch, ⟨by decide +kernel, by decide +kernel, by decide +kernel⟩, by decide⟩
theorem g_in_X8_land : Cond.instanceMethod yX8_land ∈ GW := GW_of (List.mem_of_getElem? (i := 222) (by decide +kernel)) rfl
theorem g_se_X8_land : Cond.selects (RN 8) yX8_land yX8_land ∈ GW := GW_of (List.mem_of_getElem? (i := 223) (by decide +kernel)) rfl
theorem g_ml_RL_7 : Cond.methodLink RL 7 yX8_land ∈ GW := GW_of (List.mem_of_getElem? (i := 221) (by decide +kernel)) rfl
theorem g_cl_RL_13 : Cond.classLink RL 13 (exN 1) ∈ GW := GW_of (List.mem_of_getElem? (i := 219) (by decide +kernel)) rfl
theorem g_cl_RL_15 : Cond.classLink RL 15 (exN 3) ∈ GW := GW_of (List.mem_of_getElem? (i := 220) (by decide +kernel)) rfl
theorem g_cw_X9_in : Cond.code yX9_in cX9_in 3 (some .boolean) ∈ GW := GW_of (List.mem_of_getElem? (i := 1007) (by decide +kernel)) rfl
theorem g_ini_GyreWatchModel : Cond.initialized RX9 ∈ GW := GW_of (List.mem_of_getElem? (i := 44) (by decide +kernel)) rfl
theorem w_X9_in : CWm yX9_in cX9_in 3 (some .boolean) 3 := ⟨g_cw_X9_in, g_ini_GyreWatchModel, ⟨by decide +kernel, by decide +kernel, by decide +kernel⟩, by decide⟩
theorem g_ml_RX9_99 : Cond.methodLink RX9 99 yX9_in ∈ GW := GW_of (List.mem_of_getElem? (i := 1005) (by decide +kernel)) rfl
theorem g_st_X9_in : Cond.static yX9_in ∈ GW := GW_of (List.mem_of_getElem? (i := 1006) (by decide +kernel)) rfl
theorem g_cw_X9_isCell : Cond.code yX9_isCell cX9_isCell 1 (some .boolean) ∈ GW := GW_of (List.mem_of_getElem? (i := 1004) (by decide +kernel)) rfl
theorem w_X9_isCell : CWm yX9_isCell cX9_isCell 1 (some .boolean) 1 := ⟨g_cw_X9_isCell, g_ini_GyreWatchModel, ⟨by decide +kernel, by decide +kernel, by decide +kernel⟩, by decide⟩
theorem g_ml_RX9_116 : Cond.methodLink RX9 116 yX9_isCell ∈ GW := GW_of (List.mem_of_getElem? (i := 1002) (by decide +kernel)) rfl
theorem g_st_X9_isCell : Cond.static yX9_isCell ∈ GW := GW_of (List.mem_of_getElem? (i := 1003) (by decide +kernel)) rfl
theorem g_fl_RX9_120 : Cond.fieldLink RX9 120 ((TN 9) 1).1 ((TN 9) 1).2.1 ((TN 9) 1).2.2.1 ∈ GW := GW_of (List.mem_of_getElem? (i := 883) (by decide +kernel)) rfl
theorem g_fl_RX9_96 : Cond.fieldLink RX9 96 ((TN 9) 0).1 ((TN 9) 0).2.1 ((TN 9) 0).2.2.1 ∈ GW := GW_of (List.mem_of_getElem? (i := 882) (by decide +kernel)) rfl
theorem g_fl_RX9_103 : Cond.fieldLink RX9 103 ((TN 9) 10).1 ((TN 9) 10).2.1 ((TN 9) 10).2.2.1 ∈ GW := GW_of (List.mem_of_getElem? (i := 892) (by decide +kernel)) rfl
theorem g_fl_RX9_123 : Cond.fieldLink RX9 123 ((TN 9) 17).1 ((TN 9) 17).2.1 ((TN 9) 17).2.2.1 ∈ GW := GW_of (List.mem_of_getElem? (i := 899) (by decide +kernel)) rfl
theorem g_fl_RX9_109 : Cond.fieldLink RX9 109 ((TN 9) 30).1 ((TN 9) 30).2.1 ((TN 9) 30).2.2.1 ∈ GW := GW_of (List.mem_of_getElem? (i := 912) (by decide +kernel)) rfl
theorem g_ata_RX8_288_284 : ∀ w ∈ (vx_atS RX8 288 (exN 2) XNm).filter goodWord, w ∈ lw_tbl := by decide +kernel
theorem g_atb_RX8_288_284 : ∀ w ∈ (vx_atS RX8 288 (exN 2) XNm).filter (fun w => !goodWord w), w ∈ Cond.castable (exN 2) (exN 2) :: NDL.map Cond.declares := by decide +kernel
theorem g_atc_RX8_288_284 : ∀ w ∈ Cond.classLink RX8 284 (exN 2) :: Cond.initialized (exN 2) :: vx_atS RX8 288 (exN 2) XNm, vx_ot w = true := by decide +kernel
theorem g_cl_RX8_284 : Cond.classLink RX8 284 (exN 2) ∈ GW := GW_of (List.mem_of_getElem? (i := 355) (by decide +kernel)) rfl
theorem g_ini_java_lang_IllegalArgumentException : Cond.initialized (exN 2) ∈ GW := GW_of (List.mem_of_getElem? (i := 50) (by decide +kernel)) rfl
theorem g_cw_X8_needRange : Cond.code yX8_needRange cX8_needRange 3 none ∈ GW := GW_of (List.mem_of_getElem? (i := 354) (by decide +kernel)) rfl
theorem w_X8_needRange : CWm yX8_needRange cX8_needRange 3 none 3 := ⟨g_cw_X8_needRange, g_ini_GyreWatch, ⟨by decide +kernel, by decide +kernel, by decide +kernel⟩, by decide⟩
theorem g_ml_RX8_74 : Cond.methodLink RX8 74 yX8_needRange ∈ GW := GW_of (List.mem_of_getElem? (i := 352) (by decide +kernel)) rfl
theorem g_st_X8_needRange : Cond.static yX8_needRange ∈ GW := GW_of (List.mem_of_getElem? (i := 353) (by decide +kernel)) rfl
theorem g_fl_RX8_78 : Cond.fieldLink RX8 78 ((TN 5) 2).1 ((TN 5) 2).2.1 ((TN 5) 2).2.2.1 ∈ GW := GW_of (List.mem_of_getElem? (i := 97) (by decide +kernel)) rfl
theorem g_cw_X8_current : Cond.code yX8_current cX8_current 4 (some .int) ∈ GW := GW_of (List.mem_of_getElem? (i := 351) (by decide +kernel)) rfl
theorem w_X8_current : CWm yX8_current cX8_current 4 (some .int) 2 := ⟨g_cw_X8_current, g_ini_GyreWatch, ⟨by decide +kernel, by decide +kernel, by decide +kernel⟩, by decide⟩
theorem g_in_X8_current : Cond.instanceMethod yX8_current ∈ GW := GW_of (List.mem_of_getElem? (i := 349) (by decide +kernel)) rfl
theorem g_se_X8_current : Cond.selects (RN 8) yX8_current yX8_current ∈ GW := GW_of (List.mem_of_getElem? (i := 350) (by decide +kernel)) rfl
theorem g_ml_RL_17 : Cond.methodLink RL 17 yX8_current ∈ GW := GW_of (List.mem_of_getElem? (i := 348) (by decide +kernel)) rfl
theorem g_cl_RL_21 : Cond.classLink RL 21 (exN 2) ∈ GW := GW_of (List.mem_of_getElem? (i := 347) (by decide +kernel)) rfl
theorem g_fl_RX8_82 : Cond.fieldLink RX8 82 ((TN 5) 3).1 ((TN 5) 3).2.1 ((TN 5) 3).2.2.1 ∈ GW := GW_of (List.mem_of_getElem? (i := 99) (by decide +kernel)) rfl
theorem g_cw_X8_sun : Cond.code yX8_sun cX8_sun 4 (some .int) ∈ GW := GW_of (List.mem_of_getElem? (i := 377) (by decide +kernel)) rfl
theorem w_X8_sun : CWm yX8_sun cX8_sun 4 (some .int) 2 := ⟨g_cw_X8_sun, g_ini_GyreWatch, ⟨by decide +kernel, by decide +kernel, by decide +kernel⟩, by decide⟩
theorem g_in_X8_sun : Cond.instanceMethod yX8_sun ∈ GW := GW_of (List.mem_of_getElem? (i := 375) (by decide +kernel)) rfl
theorem g_se_X8_sun : Cond.selects (RN 8) yX8_sun yX8_sun ∈ GW := GW_of (List.mem_of_getElem? (i := 376) (by decide +kernel)) rfl
theorem g_ml_RL_23 : Cond.methodLink RL 23 yX8_sun ∈ GW := GW_of (List.mem_of_getElem? (i := 374) (by decide +kernel)) rfl
theorem g_cw_X5_seaBeside : Cond.code yX5_seaBeside cX5_seaBeside 6 (some .int) ∈ GW := GW_of (List.mem_of_getElem? (i := 411) (by decide +kernel)) rfl
theorem w_X5_seaBeside : CWm yX5_seaBeside cX5_seaBeside 6 (some .int) 2 := ⟨g_cw_X5_seaBeside, g_ini_GyreWatch_Sea, ⟨by decide +kernel, by decide +kernel, by decide +kernel⟩, by decide⟩
theorem g_in_X5_seaBeside : Cond.instanceMethod yX5_seaBeside ∈ GW := GW_of (List.mem_of_getElem? (i := 409) (by decide +kernel)) rfl
theorem g_se_X5_seaBeside : Cond.selects (RN 5) yX5_seaBeside yX5_seaBeside ∈ GW := GW_of (List.mem_of_getElem? (i := 410) (by decide +kernel)) rfl
theorem g_ml_RX5_56 : Cond.methodLink RX5 56 yX5_seaBeside ∈ GW := GW_of (List.mem_of_getElem? (i := 408) (by decide +kernel)) rfl
theorem g_ml_RX5_67 : Cond.methodLink RX5 67 Lib.Math.min.name ∈ GW := GW_of (List.mem_of_getElem? (i := 398) (by decide +kernel)) rfl
theorem g_st_math_min : Cond.static Lib.Math.min.name ∈ GW := GW_of (List.mem_of_getElem? (i := 399) (by decide +kernel)) rfl
theorem g_ini_math : Cond.initialized "java/lang/Math" ∈ GW := GW_of (List.mem_of_getElem? (i := 51) (by decide +kernel)) rfl
theorem g_cw_math_min : Cond.code Lib.Math.min.name Lib.Math.min.code 2 (some .int) ∈ GW := GW_of (List.mem_of_getElem? (i := 400) (by decide +kernel)) rfl
theorem g_ml_RX5_72 : Cond.methodLink RX5 72 arraycopyName ∈ GW := GW_of (List.mem_of_getElem? (i := 401) (by decide +kernel)) rfl
theorem g_nat_cpy : Cond.native arraycopyName ∈ GW := GW_of (List.mem_of_getElem? (i := 403) (by decide +kernel)) rfl
theorem g_st_arraycopy : Cond.static arraycopyName ∈ GW := GW_of (List.mem_of_getElem? (i := 402) (by decide +kernel)) rfl
theorem g_ini_sys : Cond.initialized "java/lang/System" ∈ GW := GW_of (List.mem_of_getElem? (i := 52) (by decide +kernel)) rfl
theorem g_cw_X5_leadsTo : Cond.code yX5_leadsTo cX5_leadsTo 2 (some .int) ∈ GW := GW_of (List.mem_of_getElem? (i := 407) (by decide +kernel)) rfl
theorem w_X5_leadsTo : CWm yX5_leadsTo cX5_leadsTo 2 (some .int) 1 := ⟨g_cw_X5_leadsTo, g_ini_GyreWatch_Sea, ⟨by decide +kernel, by decide +kernel, by decide +kernel⟩, by decide⟩
theorem g_in_X5_leadsTo : Cond.instanceMethod yX5_leadsTo ∈ GW := GW_of (List.mem_of_getElem? (i := 405) (by decide +kernel)) rfl
theorem g_se_X5_leadsTo : Cond.selects (RN 5) yX5_leadsTo yX5_leadsTo ∈ GW := GW_of (List.mem_of_getElem? (i := 406) (by decide +kernel)) rfl
theorem g_ml_RX5_78 : Cond.methodLink RX5 78 yX5_leadsTo ∈ GW := GW_of (List.mem_of_getElem? (i := 404) (by decide +kernel)) rfl
theorem g_fl_RX5_41 : Cond.fieldLink RX5 41 ((TN 1) 0).1 ((TN 1) 0).2.1 ((TN 1) 0).2.2.1 ∈ GW := GW_of (List.mem_of_getElem? (i := 81) (by decide +kernel)) rfl
theorem g_cw_X5_carry : Cond.code yX5_carry cX5_carry 6 none ∈ GW := GW_of (List.mem_of_getElem? (i := 397) (by decide +kernel)) rfl
theorem w_X5_carry : CWm yX5_carry cX5_carry 6 none 1 := ⟨g_cw_X5_carry, g_ini_GyreWatch_Sea, ⟨by decide +kernel, by decide +kernel, by decide +kernel⟩, by decide⟩
theorem g_in_X5_carry : Cond.instanceMethod yX5_carry ∈ GW := GW_of (List.mem_of_getElem? (i := 396) (by decide +kernel)) rfl
theorem g_se_X5_carry : Cond.selects (RN 5) yX5_carry yX5_carry ∈ GW := GW_of (List.mem_of_getElem? (i := 3) (by decide +kernel)) rfl
theorem g_ml_RX5_60 : Cond.methodLink RX5 60 yX5_carry ∈ GW := GW_of (List.mem_of_getElem? (i := 394) (by decide +kernel)) rfl
theorem g_fl_RX5_64 : Cond.fieldLink RX5 64 ((TN 1) 1).1 ((TN 1) 1).2.1 ((TN 1) 1).2.2.1 ∈ GW := GW_of (List.mem_of_getElem? (i := 84) (by decide +kernel)) rfl
theorem g_ml_RX5_82 : Cond.methodLink RX5 82 Lib.Math.max.name ∈ GW := GW_of (List.mem_of_getElem? (i := 417) (by decide +kernel)) rfl
theorem g_st_math_max : Cond.static Lib.Math.max.name ∈ GW := GW_of (List.mem_of_getElem? (i := 418) (by decide +kernel)) rfl
theorem g_cw_math_max : Cond.code Lib.Math.max.name Lib.Math.max.code 2 (some .int) ∈ GW := GW_of (List.mem_of_getElem? (i := 419) (by decide +kernel)) rfl
theorem g_fl_RX5_85 : Cond.fieldLink RX5 85 ((TN 5) 4).1 ((TN 5) 4).2.1 ((TN 5) 4).2.2.1 ∈ GW := GW_of (List.mem_of_getElem? (i := 100) (by decide +kernel)) rfl
theorem g_cw_X1_weightAt : Cond.code yX1_weightAt cX1_weightAt 2 (some .int) ∈ GW := GW_of (List.mem_of_getElem? (i := 427) (by decide +kernel)) rfl
theorem w_X1_weightAt : CWm yX1_weightAt cX1_weightAt 2 (some .int) 1 := ⟨g_cw_X1_weightAt, g_ini_GyreWatch_Layer, ⟨by decide +kernel, by decide +kernel, by decide +kernel⟩, by decide⟩
theorem g_in_X1_weightAt : Cond.instanceMethod yX1_weightAt ∈ GW := GW_of (List.mem_of_getElem? (i := 425) (by decide +kernel)) rfl
theorem g_se_X1_weightAt : Cond.selects (RN 1) yX1_weightAt yX1_weightAt ∈ GW := GW_of (List.mem_of_getElem? (i := 426) (by decide +kernel)) rfl
theorem g_ml_RX5_88 : Cond.methodLink RX5 88 yX1_weightAt ∈ GW := GW_of (List.mem_of_getElem? (i := 424) (by decide +kernel)) rfl
theorem g_cw_X5_share : Cond.code yX5_share cX5_share 4 none ∈ GW := GW_of (List.mem_of_getElem? (i := 430) (by decide +kernel)) rfl
theorem w_X5_share : CWm yX5_share cX5_share 4 none 3 := ⟨g_cw_X5_share, g_ini_GyreWatch_Sea, ⟨by decide +kernel, by decide +kernel, by decide +kernel⟩, by decide⟩
theorem g_ml_RX5_91 : Cond.methodLink RX5 91 yX5_share ∈ GW := GW_of (List.mem_of_getElem? (i := 428) (by decide +kernel)) rfl
theorem g_st_X5_share : Cond.static yX5_share ∈ GW := GW_of (List.mem_of_getElem? (i := 429) (by decide +kernel)) rfl
theorem g_ml_RX4_3 : Cond.methodLink RX4 3 objectInit ∈ GW := GW_of (List.mem_of_getElem? (i := 449) (by decide +kernel)) rfl
theorem g_fl_RX4_9 : Cond.fieldLink RX4 9 ((TN 4) 4).1 ((TN 4) 4).2.1 ((TN 4) 4).2.2.1 ∈ GW := GW_of (List.mem_of_getElem? (i := 461) (by decide +kernel)) rfl
theorem g_fl_RX4_15 : Cond.fieldLink RX4 15 ((TN 4) 0).1 ((TN 4) 0).2.1 ((TN 4) 0).2.2.1 ∈ GW := GW_of (List.mem_of_getElem? (i := 450) (by decide +kernel)) rfl
theorem g_fl_RX4_18 : Cond.fieldLink RX4 18 ((TN 4) 1).1 ((TN 4) 1).2.1 ((TN 4) 1).2.2.1 ∈ GW := GW_of (List.mem_of_getElem? (i := 453) (by decide +kernel)) rfl
theorem g_fl_RX4_21 : Cond.fieldLink RX4 21 ((TN 4) 2).1 ((TN 4) 2).2.1 ((TN 4) 2).2.2.1 ∈ GW := GW_of (List.mem_of_getElem? (i := 456) (by decide +kernel)) rfl
theorem g_fl_RX4_24 : Cond.fieldLink RX4 24 ((TN 4) 3).1 ((TN 4) 3).2.1 ((TN 4) 3).2.2.1 ∈ GW := GW_of (List.mem_of_getElem? (i := 458) (by decide +kernel)) rfl
theorem g_fl_RX2_35 : Cond.fieldLink RX2 35 ((TN 0) 8).1 ((TN 0) 8).2.1 ((TN 0) 8).2.2.1 ∈ GW := GW_of (List.mem_of_getElem? (i := 550) (by decide +kernel)) rfl
theorem g_fl_RX2_41 : Cond.fieldLink RX2 41 ((TN 4) 5).1 ((TN 4) 5).2.1 ((TN 4) 5).2.2.1 ∈ GW := GW_of (List.mem_of_getElem? (i := 463) (by decide +kernel)) rfl
theorem g_fl_RX2_44 : Cond.fieldLink RX2 44 ((TN 4) 6).1 ((TN 4) 6).2.1 ((TN 4) 6).2.2.1 ∈ GW := GW_of (List.mem_of_getElem? (i := 466) (by decide +kernel)) rfl
theorem g_fl_RX2_47 : Cond.fieldLink RX2 47 ((TN 0) 7).1 ((TN 0) 7).2.1 ((TN 0) 7).2.2.1 ∈ GW := GW_of (List.mem_of_getElem? (i := 548) (by decide +kernel)) rfl
theorem g_fl_RX2_21 : Cond.fieldLink RX2 21 ((TN 2) 1).1 ((TN 2) 1).2.1 ((TN 2) 1).2.2.1 ∈ GW := GW_of (List.mem_of_getElem? (i := 135) (by decide +kernel)) rfl
theorem g_inst_4 : Cond.instantiable (RN 4) (nF 4) ∈ GW := GW_of (List.mem_of_getElem? (i := 445) (by decide +kernel)) rfl
theorem g_iniN_4 : Cond.initialized (RN 4) ∈ GW := GW_of (List.mem_of_getElem? (i := 53) (by decide +kernel)) rfl
theorem g_clN_RX2_9 : Cond.classLink RX2 9 (RN 4) ∈ GW := GW_of (List.mem_of_getElem? (i := 131) (by decide +kernel)) rfl
theorem g_cw_X4_init : Cond.code yX4_init cX4_init 5 none ∈ GW := GW_of (List.mem_of_getElem? (i := 448) (by decide +kernel)) rfl
theorem g_ini_GyreWatch_Reading : Cond.initialized RX4 ∈ GW := GW_of (List.mem_of_getElem? (i := 53) (by decide +kernel)) rfl
theorem w_X4_init : CWm yX4_init cX4_init 5 none 4 := ⟨g_cw_X4_init, g_ini_GyreWatch_Reading, ⟨by decide +kernel, by decide +kernel, by decide +kernel⟩, by decide⟩
theorem g_in_X4_init : Cond.instanceMethod yX4_init ∈ GW := GW_of (List.mem_of_getElem? (i := 447) (by decide +kernel)) rfl
theorem g_ml_RX2_28 : Cond.methodLink RX2 28 yX4_init ∈ GW := GW_of (List.mem_of_getElem? (i := 446) (by decide +kernel)) rfl
theorem g_cw_X2_chain : Cond.code yX2_chain cX2_chain 2 none ∈ GW := GW_of (List.mem_of_getElem? (i := 485) (by decide +kernel)) rfl
theorem w_X2_chain : CWm yX2_chain cX2_chain 2 none 2 := ⟨g_cw_X2_chain, g_ini_GyreWatch_Log, ⟨by decide +kernel, by decide +kernel, by decide +kernel⟩, by decide⟩
theorem g_ml_RX2_31 : Cond.methodLink RX2 31 yX2_chain ∈ GW := GW_of (List.mem_of_getElem? (i := 483) (by decide +kernel)) rfl
theorem g_st_X2_chain : Cond.static yX2_chain ∈ GW := GW_of (List.mem_of_getElem? (i := 484) (by decide +kernel)) rfl
theorem g_fl_RX8_218 : Cond.fieldLink RX8 218 ((TN 0) 4).1 ((TN 0) 4).2.1 ((TN 0) 4).2.2.1 ∈ GW := GW_of (List.mem_of_getElem? (i := 543) (by decide +kernel)) rfl
theorem g_ml_RX8_336 : Cond.methodLink RX8 336 yX5_leadsTo ∈ GW := GW_of (List.mem_of_getElem? (i := 435) (by decide +kernel)) rfl
theorem g_cw_X5_upperHeat : Cond.code yX5_upperHeat cX5_upperHeat 2 (some .int) ∈ GW := GW_of (List.mem_of_getElem? (i := 439) (by decide +kernel)) rfl
theorem w_X5_upperHeat : CWm yX5_upperHeat cX5_upperHeat 2 (some .int) 1 := ⟨g_cw_X5_upperHeat, g_ini_GyreWatch_Sea, ⟨by decide +kernel, by decide +kernel, by decide +kernel⟩, by decide⟩
theorem g_in_X5_upperHeat : Cond.instanceMethod yX5_upperHeat ∈ GW := GW_of (List.mem_of_getElem? (i := 437) (by decide +kernel)) rfl
theorem g_se_X5_upperHeat : Cond.selects (RN 5) yX5_upperHeat yX5_upperHeat ∈ GW := GW_of (List.mem_of_getElem? (i := 438) (by decide +kernel)) rfl
theorem g_ml_RX8_339 : Cond.methodLink RX8 339 yX5_upperHeat ∈ GW := GW_of (List.mem_of_getElem? (i := 436) (by decide +kernel)) rfl
theorem g_fl_RX8_342 : Cond.fieldLink RX8 342 ((TN 0) 2).1 ((TN 0) 2).2.1 ((TN 0) 2).2.2.1 ∈ GW := GW_of (List.mem_of_getElem? (i := 539) (by decide +kernel)) rfl
theorem g_cw_X2_keep : Cond.code yX2_keep cX2_keep 6 none ∈ GW := GW_of (List.mem_of_getElem? (i := 443) (by decide +kernel)) rfl
theorem w_X2_keep : CWm yX2_keep cX2_keep 6 none 4 := ⟨g_cw_X2_keep, g_ini_GyreWatch_Log, ⟨by decide +kernel, by decide +kernel, by decide +kernel⟩, by decide⟩
theorem g_in_X2_keep : Cond.instanceMethod yX2_keep ∈ GW := GW_of (List.mem_of_getElem? (i := 441) (by decide +kernel)) rfl
theorem g_se_X2_keep : Cond.selects (RN 2) yX2_keep yX2_keep ∈ GW := GW_of (List.mem_of_getElem? (i := 442) (by decide +kernel)) rfl
theorem g_ml_RX8_345 : Cond.methodLink RX8 345 yX2_keep ∈ GW := GW_of (List.mem_of_getElem? (i := 440) (by decide +kernel)) rfl
theorem g_fl_RX8_221 : Cond.fieldLink RX8 221 ((TN 0) 5).1 ((TN 0) 5).2.1 ((TN 0) 5).2.2.1 ∈ GW := GW_of (List.mem_of_getElem? (i := 545) (by decide +kernel)) rfl
theorem g_fl_RX8_349 : Cond.fieldLink RX8 349 ((TN 0) 1).1 ((TN 0) 1).2.1 ((TN 0) 1).2.2.1 ∈ GW := GW_of (List.mem_of_getElem? (i := 537) (by decide +kernel)) rfl
theorem g_fl_RX6_9 : Cond.fieldLink RX6 9 ((TN 6) 1).1 ((TN 6) 1).2.1 ((TN 6) 1).2.2.1 ∈ GW := GW_of (List.mem_of_getElem? (i := 686) (by decide +kernel)) rfl
theorem g_fl_RX6_15 : Cond.fieldLink RX6 15 ((TN 6) 2).1 ((TN 6) 2).2.1 ((TN 6) 2).2.2.1 ∈ GW := GW_of (List.mem_of_getElem? (i := 688) (by decide +kernel)) rfl
theorem g_ml_RX6_26 : Cond.methodLink RX6 26 arraycopyName ∈ GW := GW_of (List.mem_of_getElem? (i := 490) (by decide +kernel)) rfl
theorem g_ml_RX6_42 : Cond.methodLink RX6 42 yX5_leadsTo ∈ GW := GW_of (List.mem_of_getElem? (i := 498) (by decide +kernel)) rfl
theorem g_cw_X6_give : Cond.code yX6_give cX6_give 4 none ∈ GW := GW_of (List.mem_of_getElem? (i := 496) (by decide +kernel)) rfl
theorem g_ini_GyreWatch_Search : Cond.initialized RX6 ∈ GW := GW_of (List.mem_of_getElem? (i := 55) (by decide +kernel)) rfl
theorem w_X6_give : CWm yX6_give cX6_give 4 none 3 := ⟨g_cw_X6_give, g_ini_GyreWatch_Search, ⟨by decide +kernel, by decide +kernel, by decide +kernel⟩, by decide⟩
theorem g_in_X6_give : Cond.instanceMethod yX6_give ∈ GW := GW_of (List.mem_of_getElem? (i := 494) (by decide +kernel)) rfl
theorem g_se_X6_give : Cond.selects (RN 6) yX6_give yX6_give ∈ GW := GW_of (List.mem_of_getElem? (i := 5) (by decide +kernel)) rfl
theorem g_ml_RX6_38 : Cond.methodLink RX6 38 yX6_give ∈ GW := GW_of (List.mem_of_getElem? (i := 492) (by decide +kernel)) rfl
theorem g_ml_RX6_32 : Cond.methodLink RX6 32 yX5_seaBeside ∈ GW := GW_of (List.mem_of_getElem? (i := 491) (by decide +kernel)) rfl
theorem g_fl_RX7_50 : Cond.fieldLink RX7 50 ((TN 7) 4).1 ((TN 7) 4).2.1 ((TN 7) 4).2.2.1 ∈ GW := GW_of (List.mem_of_getElem? (i := 157) (by decide +kernel)) rfl
theorem g_cw_X7_dayOf : Cond.code yX7_dayOf cX7_dayOf 1 (some .int) ∈ GW := GW_of (List.mem_of_getElem? (i := 513) (by decide +kernel)) rfl
theorem w_X7_dayOf : CWm yX7_dayOf cX7_dayOf 1 (some .int) 1 := ⟨g_cw_X7_dayOf, g_ini_GyreWatch_Ships, ⟨by decide +kernel, by decide +kernel, by decide +kernel⟩, by decide⟩
theorem g_ml_RX7_41 : Cond.methodLink RX7 41 yX7_dayOf ∈ GW := GW_of (List.mem_of_getElem? (i := 511) (by decide +kernel)) rfl
theorem g_st_X7_dayOf : Cond.static yX7_dayOf ∈ GW := GW_of (List.mem_of_getElem? (i := 512) (by decide +kernel)) rfl
theorem g_ml_RX7_44 : Cond.methodLink RX7 44 arraycopyName ∈ GW := GW_of (List.mem_of_getElem? (i := 519) (by decide +kernel)) rfl
theorem g_cw_X7_hasStorm : Cond.code yX7_hasStorm cX7_hasStorm 3 (some .boolean) ∈ GW := GW_of (List.mem_of_getElem? (i := 506) (by decide +kernel)) rfl
theorem w_X7_hasStorm : CWm yX7_hasStorm cX7_hasStorm 3 (some .boolean) 1 := ⟨g_cw_X7_hasStorm, g_ini_GyreWatch_Ships, ⟨by decide +kernel, by decide +kernel, by decide +kernel⟩, by decide⟩
theorem g_in_X7_hasStorm : Cond.instanceMethod yX7_hasStorm ∈ GW := GW_of (List.mem_of_getElem? (i := 504) (by decide +kernel)) rfl
theorem g_se_X7_hasStorm : Cond.selects (RN 7) yX7_hasStorm yX7_hasStorm ∈ GW := GW_of (List.mem_of_getElem? (i := 505) (by decide +kernel)) rfl
theorem g_ml_RX8_352 : Cond.methodLink RX8 352 yX7_hasStorm ∈ GW := GW_of (List.mem_of_getElem? (i := 503) (by decide +kernel)) rfl
theorem g_cw_X7_countDue : Cond.code yX7_countDue cX7_countDue 3 (some .int) ∈ GW := GW_of (List.mem_of_getElem? (i := 510) (by decide +kernel)) rfl
theorem w_X7_countDue : CWm yX7_countDue cX7_countDue 3 (some .int) 1 := ⟨g_cw_X7_countDue, g_ini_GyreWatch_Ships, ⟨by decide +kernel, by decide +kernel, by decide +kernel⟩, by decide⟩
theorem g_in_X7_countDue : Cond.instanceMethod yX7_countDue ∈ GW := GW_of (List.mem_of_getElem? (i := 508) (by decide +kernel)) rfl
theorem g_se_X7_countDue : Cond.selects (RN 7) yX7_countDue yX7_countDue ∈ GW := GW_of (List.mem_of_getElem? (i := 509) (by decide +kernel)) rfl
theorem g_ml_RX8_355 : Cond.methodLink RX8 355 yX7_countDue ∈ GW := GW_of (List.mem_of_getElem? (i := 507) (by decide +kernel)) rfl
theorem g_ml_RX8_358 : Cond.methodLink RX8 358 yX7_cellOf ∈ GW := GW_of (List.mem_of_getElem? (i := 514) (by decide +kernel)) rfl
theorem g_cw_X7_dropFirst : Cond.code yX7_dropFirst cX7_dropFirst 2 none ∈ GW := GW_of (List.mem_of_getElem? (i := 518) (by decide +kernel)) rfl
theorem w_X7_dropFirst : CWm yX7_dropFirst cX7_dropFirst 2 none 1 := ⟨g_cw_X7_dropFirst, g_ini_GyreWatch_Ships, ⟨by decide +kernel, by decide +kernel, by decide +kernel⟩, by decide⟩
theorem g_in_X7_dropFirst : Cond.instanceMethod yX7_dropFirst ∈ GW := GW_of (List.mem_of_getElem? (i := 516) (by decide +kernel)) rfl
theorem g_se_X7_dropFirst : Cond.selects (RN 7) yX7_dropFirst yX7_dropFirst ∈ GW := GW_of (List.mem_of_getElem? (i := 517) (by decide +kernel)) rfl
theorem g_ml_RX8_361 : Cond.methodLink RX8 361 yX7_dropFirst ∈ GW := GW_of (List.mem_of_getElem? (i := 515) (by decide +kernel)) rfl
theorem g_cw_X5_flow : Cond.code yX5_flow cX5_flow 1 none ∈ GW := GW_of (List.mem_of_getElem? (i := 393) (by decide +kernel)) rfl
theorem w_X5_flow : CWm yX5_flow cX5_flow 1 none 0 := ⟨g_cw_X5_flow, g_ini_GyreWatch_Sea, ⟨by decide +kernel, by decide +kernel, by decide +kernel⟩, by decide⟩
theorem g_in_X5_flow : Cond.instanceMethod yX5_flow ∈ GW := GW_of (List.mem_of_getElem? (i := 391) (by decide +kernel)) rfl
theorem g_se_X5_flow : Cond.selects (RN 5) yX5_flow yX5_flow ∈ GW := GW_of (List.mem_of_getElem? (i := 392) (by decide +kernel)) rfl
theorem g_ml_RX8_316 : Cond.methodLink RX8 316 yX5_flow ∈ GW := GW_of (List.mem_of_getElem? (i := 390) (by decide +kernel)) rfl
theorem g_cw_X5_shine : Cond.code yX5_shine cX5_shine 3 none ∈ GW := GW_of (List.mem_of_getElem? (i := 416) (by decide +kernel)) rfl
theorem w_X5_shine : CWm yX5_shine cX5_shine 3 none 0 := ⟨g_cw_X5_shine, g_ini_GyreWatch_Sea, ⟨by decide +kernel, by decide +kernel, by decide +kernel⟩, by decide⟩
theorem g_in_X5_shine : Cond.instanceMethod yX5_shine ∈ GW := GW_of (List.mem_of_getElem? (i := 414) (by decide +kernel)) rfl
theorem g_se_X5_shine : Cond.selects (RN 5) yX5_shine yX5_shine ∈ GW := GW_of (List.mem_of_getElem? (i := 415) (by decide +kernel)) rfl
theorem g_ml_RX8_319 : Cond.methodLink RX8 319 yX5_shine ∈ GW := GW_of (List.mem_of_getElem? (i := 413) (by decide +kernel)) rfl
theorem g_cw_X5_turnOver : Cond.code yX5_turnOver cX5_turnOver 2 none ∈ GW := GW_of (List.mem_of_getElem? (i := 423) (by decide +kernel)) rfl
theorem w_X5_turnOver : CWm yX5_turnOver cX5_turnOver 2 none 0 := ⟨g_cw_X5_turnOver, g_ini_GyreWatch_Sea, ⟨by decide +kernel, by decide +kernel, by decide +kernel⟩, by decide⟩
theorem g_in_X5_turnOver : Cond.instanceMethod yX5_turnOver ∈ GW := GW_of (List.mem_of_getElem? (i := 421) (by decide +kernel)) rfl
theorem g_se_X5_turnOver : Cond.selects (RN 5) yX5_turnOver yX5_turnOver ∈ GW := GW_of (List.mem_of_getElem? (i := 422) (by decide +kernel)) rfl
theorem g_ml_RX8_322 : Cond.methodLink RX8 322 yX5_turnOver ∈ GW := GW_of (List.mem_of_getElem? (i := 420) (by decide +kernel)) rfl
theorem g_cw_X8_letDrift : Cond.code yX8_letDrift cX8_letDrift 3 none ∈ GW := GW_of (List.mem_of_getElem? (i := 434) (by decide +kernel)) rfl
theorem w_X8_letDrift : CWm yX8_letDrift cX8_letDrift 3 none 1 := ⟨g_cw_X8_letDrift, g_ini_GyreWatch, ⟨by decide +kernel, by decide +kernel, by decide +kernel⟩, by decide⟩
theorem g_in_X8_letDrift : Cond.instanceMethod yX8_letDrift ∈ GW := GW_of (List.mem_of_getElem? (i := 433) (by decide +kernel)) rfl
theorem g_se_X8_letDrift : Cond.selects (RN 8) yX8_letDrift yX8_letDrift ∈ GW := GW_of (List.mem_of_getElem? (i := 4) (by decide +kernel)) rfl
theorem g_ml_RX8_325 : Cond.methodLink RX8 325 yX8_letDrift ∈ GW := GW_of (List.mem_of_getElem? (i := 431) (by decide +kernel)) rfl
theorem g_cw_X8_readAtStations : Cond.code yX8_readAtStations cX8_readAtStations 5 none ∈ GW := GW_of (List.mem_of_getElem? (i := 502) (by decide +kernel)) rfl
theorem w_X8_readAtStations : CWm yX8_readAtStations cX8_readAtStations 5 none 0 := ⟨g_cw_X8_readAtStations, g_ini_GyreWatch, ⟨by decide +kernel, by decide +kernel, by decide +kernel⟩, by decide⟩
theorem g_in_X8_readAtStations : Cond.instanceMethod yX8_readAtStations ∈ GW := GW_of (List.mem_of_getElem? (i := 501) (by decide +kernel)) rfl
theorem g_se_X8_readAtStations : Cond.selects (RN 8) yX8_readAtStations yX8_readAtStations ∈ GW := GW_of (List.mem_of_getElem? (i := 6) (by decide +kernel)) rfl
theorem g_ml_RX8_333 : Cond.methodLink RX8 333 yX8_readAtStations ∈ GW := GW_of (List.mem_of_getElem? (i := 499) (by decide +kernel)) rfl
theorem g_cw_X6_goOn : Cond.code yX6_goOn cX6_goOn 5 none ∈ GW := GW_of (List.mem_of_getElem? (i := 489) (by decide +kernel)) rfl
theorem w_X6_goOn : CWm yX6_goOn cX6_goOn 5 none 1 := ⟨g_cw_X6_goOn, g_ini_GyreWatch_Search, ⟨by decide +kernel, by decide +kernel, by decide +kernel⟩, by decide⟩
theorem g_in_X6_goOn : Cond.instanceMethod yX6_goOn ∈ GW := GW_of (List.mem_of_getElem? (i := 487) (by decide +kernel)) rfl
theorem g_se_X6_goOn : Cond.selects (RN 6) yX6_goOn yX6_goOn ∈ GW := GW_of (List.mem_of_getElem? (i := 488) (by decide +kernel)) rfl
theorem g_ml_RX8_329 : Cond.methodLink RX8 329 yX6_goOn ∈ GW := GW_of (List.mem_of_getElem? (i := 486) (by decide +kernel)) rfl
theorem g_cw_X8_passOneDay : Cond.code yX8_passOneDay cX8_passOneDay 5 none ∈ GW := GW_of (List.mem_of_getElem? (i := 389) (by decide +kernel)) rfl
theorem w_X8_passOneDay : CWm yX8_passOneDay cX8_passOneDay 5 none 0 := ⟨g_cw_X8_passOneDay, g_ini_GyreWatch, ⟨by decide +kernel, by decide +kernel, by decide +kernel⟩, by decide⟩
theorem g_in_X8_passOneDay : Cond.instanceMethod yX8_passOneDay ∈ GW := GW_of (List.mem_of_getElem? (i := 388) (by decide +kernel)) rfl
theorem g_se_X8_passOneDay : Cond.selects (RN 8) yX8_passOneDay yX8_passOneDay ∈ GW := GW_of (List.mem_of_getElem? (i := 2) (by decide +kernel)) rfl
theorem g_ml_RX8_87 : Cond.methodLink RX8 87 yX8_passOneDay ∈ GW := GW_of (List.mem_of_getElem? (i := 386) (by decide +kernel)) rfl
theorem g_cw_X8_pass : Cond.code yX8_pass cX8_pass 3 (some .int) ∈ GW := GW_of (List.mem_of_getElem? (i := 384) (by decide +kernel)) rfl
theorem w_X8_pass : CWm yX8_pass cX8_pass 3 (some .int) 1 := ⟨g_cw_X8_pass, g_ini_GyreWatch, ⟨by decide +kernel, by decide +kernel, by decide +kernel⟩, by decide⟩
theorem g_in_X8_pass : Cond.instanceMethod yX8_pass ∈ GW := GW_of (List.mem_of_getElem? (i := 382) (by decide +kernel)) rfl
theorem g_se_X8_pass : Cond.selects (RN 8) yX8_pass yX8_pass ∈ GW := GW_of (List.mem_of_getElem? (i := 383) (by decide +kernel)) rfl
theorem g_ml_RL_26 : Cond.methodLink RL 26 yX8_pass ∈ GW := GW_of (List.mem_of_getElem? (i := 381) (by decide +kernel)) rfl
theorem g_cw_X9_beside : Cond.code yX9_beside cX9_beside 5 (some .int) ∈ GW := GW_of (List.mem_of_getElem? (i := 1031) (by decide +kernel)) rfl
theorem w_X9_beside : CWm yX9_beside cX9_beside 5 (some .int) 2 := ⟨g_cw_X9_beside, g_ini_GyreWatchModel, ⟨by decide +kernel, by decide +kernel, by decide +kernel⟩, by decide⟩
theorem g_in_X9_beside : Cond.instanceMethod yX9_beside ∈ GW := GW_of (List.mem_of_getElem? (i := 1030) (by decide +kernel)) rfl
theorem g_se_X9_beside : Cond.selects (RN 9) yX9_beside yX9_beside ∈ GW := GW_of (List.mem_of_getElem? (i := 17) (by decide +kernel)) rfl
theorem g_ml_RX9_112 : Cond.methodLink RX9 112 yX9_beside ∈ GW := GW_of (List.mem_of_getElem? (i := 1028) (by decide +kernel)) rfl
theorem g_cw_X9_leads : Cond.code yX9_leads cX9_leads 2 (some .int) ∈ GW := GW_of (List.mem_of_getElem? (i := 1027) (by decide +kernel)) rfl
theorem w_X9_leads : CWm yX9_leads cX9_leads 2 (some .int) 1 := ⟨g_cw_X9_leads, g_ini_GyreWatchModel, ⟨by decide +kernel, by decide +kernel, by decide +kernel⟩, by decide⟩
theorem g_in_X9_leads : Cond.instanceMethod yX9_leads ∈ GW := GW_of (List.mem_of_getElem? (i := 1026) (by decide +kernel)) rfl
theorem g_se_X9_leads : Cond.selects (RN 9) yX9_leads yX9_leads ∈ GW := GW_of (List.mem_of_getElem? (i := 16) (by decide +kernel)) rfl
theorem g_ml_RX9_126 : Cond.methodLink RX9 126 yX9_leads ∈ GW := GW_of (List.mem_of_getElem? (i := 1024) (by decide +kernel)) rfl
theorem g_fl_RX9_130 : Cond.fieldLink RX9 130 ((TN 9) 2).1 ((TN 9) 2).2.1 ((TN 9) 2).2.2.1 ∈ GW := GW_of (List.mem_of_getElem? (i := 884) (by decide +kernel)) rfl
theorem g_fl_RX9_106 : Cond.fieldLink RX9 106 ((TN 9) 23).1 ((TN 9) 23).2.1 ((TN 9) 23).2.2.1 ∈ GW := GW_of (List.mem_of_getElem? (i := 905) (by decide +kernel)) rfl
theorem g_cw_X9_reads : Cond.code yX9_reads cX9_reads 4 none ∈ GW := GW_of (List.mem_of_getElem? (i := 1043) (by decide +kernel)) rfl
theorem w_X9_reads : CWm yX9_reads cX9_reads 4 none 3 := ⟨g_cw_X9_reads, g_ini_GyreWatchModel, ⟨by decide +kernel, by decide +kernel, by decide +kernel⟩, by decide⟩
theorem g_in_X9_reads : Cond.instanceMethod yX9_reads ∈ GW := GW_of (List.mem_of_getElem? (i := 1042) (by decide +kernel)) rfl
theorem g_se_X9_reads : Cond.selects (RN 9) yX9_reads yX9_reads ∈ GW := GW_of (List.mem_of_getElem? (i := 20) (by decide +kernel)) rfl
theorem g_ml_RX9_133 : Cond.methodLink RX9 133 yX9_reads ∈ GW := GW_of (List.mem_of_getElem? (i := 1040) (by decide +kernel)) rfl
theorem g_fl_RX9_137 : Cond.fieldLink RX9 137 ((TN 9) 20).1 ((TN 9) 20).2.1 ((TN 9) 20).2.2.1 ∈ GW := GW_of (List.mem_of_getElem? (i := 902) (by decide +kernel)) rfl
theorem g_cw_X9_stationOf : Cond.code yX9_stationOf cX9_stationOf 5 (some .int) ∈ GW := GW_of (List.mem_of_getElem? (i := 1055) (by decide +kernel)) rfl
theorem w_X9_stationOf : CWm yX9_stationOf cX9_stationOf 5 (some .int) 2 := ⟨g_cw_X9_stationOf, g_ini_GyreWatchModel, ⟨by decide +kernel, by decide +kernel, by decide +kernel⟩, by decide⟩
theorem g_in_X9_stationOf : Cond.instanceMethod yX9_stationOf ∈ GW := GW_of (List.mem_of_getElem? (i := 1054) (by decide +kernel)) rfl
theorem g_se_X9_stationOf : Cond.selects (RN 9) yX9_stationOf yX9_stationOf ∈ GW := GW_of (List.mem_of_getElem? (i := 23) (by decide +kernel)) rfl
theorem g_ml_RX9_140 : Cond.methodLink RX9 140 yX9_stationOf ∈ GW := GW_of (List.mem_of_getElem? (i := 1052) (by decide +kernel)) rfl
theorem g_cw_X9_isStorm : Cond.code yX9_isStorm cX9_isStorm 4 (some .boolean) ∈ GW := GW_of (List.mem_of_getElem? (i := 1059) (by decide +kernel)) rfl
theorem w_X9_isStorm : CWm yX9_isStorm cX9_isStorm 4 (some .boolean) 1 := ⟨g_cw_X9_isStorm, g_ini_GyreWatchModel, ⟨by decide +kernel, by decide +kernel, by decide +kernel⟩, by decide⟩
theorem g_in_X9_isStorm : Cond.instanceMethod yX9_isStorm ∈ GW := GW_of (List.mem_of_getElem? (i := 1058) (by decide +kernel)) rfl
theorem g_se_X9_isStorm : Cond.selects (RN 9) yX9_isStorm yX9_isStorm ∈ GW := GW_of (List.mem_of_getElem? (i := 24) (by decide +kernel)) rfl
theorem g_ml_RX9_143 : Cond.methodLink RX9 143 yX9_isStorm ∈ GW := GW_of (List.mem_of_getElem? (i := 1056) (by decide +kernel)) rfl
theorem g_cw_X9_flows : Cond.code yX9_flows cX9_flows 3 none ∈ GW := GW_of (List.mem_of_getElem? (i := 1023) (by decide +kernel)) rfl
theorem w_X9_flows : CWm yX9_flows cX9_flows 3 none 0 := ⟨g_cw_X9_flows, g_ini_GyreWatchModel, ⟨by decide +kernel, by decide +kernel, by decide +kernel⟩, by decide⟩
theorem g_in_X9_flows : Cond.instanceMethod yX9_flows ∈ GW := GW_of (List.mem_of_getElem? (i := 1022) (by decide +kernel)) rfl
theorem g_se_X9_flows : Cond.selects (RN 9) yX9_flows yX9_flows ∈ GW := GW_of (List.mem_of_getElem? (i := 15) (by decide +kernel)) rfl
theorem g_ml_RX9_146 : Cond.methodLink RX9 146 yX9_flows ∈ GW := GW_of (List.mem_of_getElem? (i := 1020) (by decide +kernel)) rfl
theorem g_cw_X9_warmsAndTurns : Cond.code yX9_warmsAndTurns cX9_warmsAndTurns 5 none ∈ GW := GW_of (List.mem_of_getElem? (i := 1035) (by decide +kernel)) rfl
theorem w_X9_warmsAndTurns : CWm yX9_warmsAndTurns cX9_warmsAndTurns 5 none 1 := ⟨g_cw_X9_warmsAndTurns, g_ini_GyreWatchModel, ⟨by decide +kernel, by decide +kernel, by decide +kernel⟩, by decide⟩
theorem g_in_X9_warmsAndTurns : Cond.instanceMethod yX9_warmsAndTurns ∈ GW := GW_of (List.mem_of_getElem? (i := 1034) (by decide +kernel)) rfl
theorem g_se_X9_warmsAndTurns : Cond.selects (RN 9) yX9_warmsAndTurns yX9_warmsAndTurns ∈ GW := GW_of (List.mem_of_getElem? (i := 18) (by decide +kernel)) rfl
theorem g_ml_RX9_149 : Cond.methodLink RX9 149 yX9_warmsAndTurns ∈ GW := GW_of (List.mem_of_getElem? (i := 1032) (by decide +kernel)) rfl
theorem g_cw_X9_parks : Cond.code yX9_parks cX9_parks 3 none ∈ GW := GW_of (List.mem_of_getElem? (i := 1039) (by decide +kernel)) rfl
theorem w_X9_parks : CWm yX9_parks cX9_parks 3 none 1 := ⟨g_cw_X9_parks, g_ini_GyreWatchModel, ⟨by decide +kernel, by decide +kernel, by decide +kernel⟩, by decide⟩
theorem g_in_X9_parks : Cond.instanceMethod yX9_parks ∈ GW := GW_of (List.mem_of_getElem? (i := 1038) (by decide +kernel)) rfl
theorem g_se_X9_parks : Cond.selects (RN 9) yX9_parks yX9_parks ∈ GW := GW_of (List.mem_of_getElem? (i := 19) (by decide +kernel)) rfl
theorem g_ml_RX9_153 : Cond.methodLink RX9 153 yX9_parks ∈ GW := GW_of (List.mem_of_getElem? (i := 1036) (by decide +kernel)) rfl
theorem g_cw_X9_ships : Cond.code yX9_ships cX9_ships 3 none ∈ GW := GW_of (List.mem_of_getElem? (i := 1051) (by decide +kernel)) rfl
theorem w_X9_ships : CWm yX9_ships cX9_ships 3 none 0 := ⟨g_cw_X9_ships, g_ini_GyreWatchModel, ⟨by decide +kernel, by decide +kernel, by decide +kernel⟩, by decide⟩
theorem g_in_X9_ships : Cond.instanceMethod yX9_ships ∈ GW := GW_of (List.mem_of_getElem? (i := 1050) (by decide +kernel)) rfl
theorem g_se_X9_ships : Cond.selects (RN 9) yX9_ships yX9_ships ∈ GW := GW_of (List.mem_of_getElem? (i := 22) (by decide +kernel)) rfl
theorem g_ml_RX9_158 : Cond.methodLink RX9 158 yX9_ships ∈ GW := GW_of (List.mem_of_getElem? (i := 1048) (by decide +kernel)) rfl
theorem g_cw_X9_drifts : Cond.code yX9_drifts cX9_drifts 7 none ∈ GW := GW_of (List.mem_of_getElem? (i := 1047) (by decide +kernel)) rfl
theorem w_X9_drifts : CWm yX9_drifts cX9_drifts 7 none 1 := ⟨g_cw_X9_drifts, g_ini_GyreWatchModel, ⟨by decide +kernel, by decide +kernel, by decide +kernel⟩, by decide⟩
theorem g_in_X9_drifts : Cond.instanceMethod yX9_drifts ∈ GW := GW_of (List.mem_of_getElem? (i := 1046) (by decide +kernel)) rfl
theorem g_se_X9_drifts : Cond.selects (RN 9) yX9_drifts yX9_drifts ∈ GW := GW_of (List.mem_of_getElem? (i := 21) (by decide +kernel)) rfl
theorem g_ml_RX9_155 : Cond.methodLink RX9 155 yX9_drifts ∈ GW := GW_of (List.mem_of_getElem? (i := 1044) (by decide +kernel)) rfl
theorem g_ml_RX0_1 : Cond.methodLink RX0 1 objectInit ∈ GW := GW_of (List.mem_of_getElem? (i := 533) (by decide +kernel)) rfl
theorem g_fl_RX0_7 : Cond.fieldLink RX0 7 ((TN 0) 0).1 ((TN 0) 0).2.1 ((TN 0) 0).2.2.1 ∈ GW := GW_of (List.mem_of_getElem? (i := 534) (by decide +kernel)) rfl
theorem g_fl_RX0_13 : Cond.fieldLink RX0 13 ((TN 0) 3).1 ((TN 0) 3).2.1 ((TN 0) 3).2.2.1 ∈ GW := GW_of (List.mem_of_getElem? (i := 540) (by decide +kernel)) rfl
theorem g_fl_RX0_16 : Cond.fieldLink RX0 16 ((TN 0) 1).1 ((TN 0) 1).2.1 ((TN 0) 1).2.2.1 ∈ GW := GW_of (List.mem_of_getElem? (i := 536) (by decide +kernel)) rfl
theorem g_fl_RX0_19 : Cond.fieldLink RX0 19 ((TN 0) 4).1 ((TN 0) 4).2.1 ((TN 0) 4).2.2.1 ∈ GW := GW_of (List.mem_of_getElem? (i := 542) (by decide +kernel)) rfl
theorem g_fl_RX0_22 : Cond.fieldLink RX0 22 ((TN 0) 5).1 ((TN 0) 5).2.1 ((TN 0) 5).2.2.1 ∈ GW := GW_of (List.mem_of_getElem? (i := 544) (by decide +kernel)) rfl
theorem g_fl_RX0_25 : Cond.fieldLink RX0 25 ((TN 0) 2).1 ((TN 0) 2).2.1 ((TN 0) 2).2.2.1 ∈ GW := GW_of (List.mem_of_getElem? (i := 538) (by decide +kernel)) rfl
theorem g_fl_RX8_90 : Cond.fieldLink RX8 90 ((TN 8) 6).1 ((TN 8) 6).2.1 ((TN 8) 6).2.2.1 ∈ GW := GW_of (List.mem_of_getElem? (i := 179) (by decide +kernel)) rfl
theorem g_ml_RX8_93 : Cond.methodLink RX8 93 yX8_isIndex ∈ GW := GW_of (List.mem_of_getElem? (i := 527) (by decide +kernel)) rfl
theorem g_inst_0 : Cond.instantiable (RN 0) (nF 0) ∈ GW := GW_of (List.mem_of_getElem? (i := 529) (by decide +kernel)) rfl
theorem g_iniN_0 : Cond.initialized (RN 0) ∈ GW := GW_of (List.mem_of_getElem? (i := 54) (by decide +kernel)) rfl
theorem g_clN_RX8_16 : Cond.classLink RX8 16 (RN 0) ∈ GW := GW_of (List.mem_of_getElem? (i := 123) (by decide +kernel)) rfl
theorem g_cw_X0_init : Cond.code yX0_init cX0_init 6 none ∈ GW := GW_of (List.mem_of_getElem? (i := 532) (by decide +kernel)) rfl
theorem g_ini_GyreWatch_Buoy : Cond.initialized RX0 ∈ GW := GW_of (List.mem_of_getElem? (i := 54) (by decide +kernel)) rfl
theorem w_X0_init : CWm yX0_init cX0_init 6 none 5 := ⟨g_cw_X0_init, g_ini_GyreWatch_Buoy, ⟨by decide +kernel, by decide +kernel, by decide +kernel⟩, by decide⟩
theorem g_in_X0_init : Cond.instanceMethod yX0_init ∈ GW := GW_of (List.mem_of_getElem? (i := 531) (by decide +kernel)) rfl
theorem g_ml_RX8_99 : Cond.methodLink RX8 99 yX0_init ∈ GW := GW_of (List.mem_of_getElem? (i := 530) (by decide +kernel)) rfl
theorem g_cw_X8_lay : Cond.code yX8_lay cX8_lay 6 (some .int) ∈ GW := GW_of (List.mem_of_getElem? (i := 526) (by decide +kernel)) rfl
theorem w_X8_lay : CWm yX8_lay cX8_lay 6 (some .int) 4 := ⟨g_cw_X8_lay, g_ini_GyreWatch, ⟨by decide +kernel, by decide +kernel, by decide +kernel⟩, by decide⟩
theorem g_in_X8_lay : Cond.instanceMethod yX8_lay ∈ GW := GW_of (List.mem_of_getElem? (i := 524) (by decide +kernel)) rfl
theorem g_se_X8_lay : Cond.selects (RN 8) yX8_lay yX8_lay ∈ GW := GW_of (List.mem_of_getElem? (i := 525) (by decide +kernel)) rfl
theorem g_ml_RL_29 : Cond.methodLink RL 29 yX8_lay ∈ GW := GW_of (List.mem_of_getElem? (i := 523) (by decide +kernel)) rfl
theorem g_cw_X7_stationOf : Cond.code yX7_stationOf cX7_stationOf 2 (some .int) ∈ GW := GW_of (List.mem_of_getElem? (i := 584) (by decide +kernel)) rfl
theorem w_X7_stationOf : CWm yX7_stationOf cX7_stationOf 2 (some .int) 2 := ⟨g_cw_X7_stationOf, g_ini_GyreWatch_Ships, ⟨by decide +kernel, by decide +kernel, by decide +kernel⟩, by decide⟩
theorem g_ml_RX7_25 : Cond.methodLink RX7 25 yX7_stationOf ∈ GW := GW_of (List.mem_of_getElem? (i := 582) (by decide +kernel)) rfl
theorem g_st_X7_stationOf : Cond.static yX7_stationOf ∈ GW := GW_of (List.mem_of_getElem? (i := 583) (by decide +kernel)) rfl
theorem g_cw_X7_areAllStationsTold : Cond.code yX7_areAllStationsTold cX7_areAllStationsTold 1 (some .boolean) ∈ GW := GW_of (List.mem_of_getElem? (i := 588) (by decide +kernel)) rfl
theorem w_X7_areAllStationsTold : CWm yX7_areAllStationsTold cX7_areAllStationsTold 1 (some .boolean) 0 := ⟨g_cw_X7_areAllStationsTold, g_ini_GyreWatch_Ships, ⟨by decide +kernel, by decide +kernel, by decide +kernel⟩, by decide⟩
theorem g_in_X7_areAllStationsTold : Cond.instanceMethod yX7_areAllStationsTold ∈ GW := GW_of (List.mem_of_getElem? (i := 586) (by decide +kernel)) rfl
theorem g_se_X7_areAllStationsTold : Cond.selects (RN 7) yX7_areAllStationsTold yX7_areAllStationsTold ∈ GW := GW_of (List.mem_of_getElem? (i := 587) (by decide +kernel)) rfl
theorem g_ml_RX7_37 : Cond.methodLink RX7 37 yX7_areAllStationsTold ∈ GW := GW_of (List.mem_of_getElem? (i := 594) (by decide +kernel)) rfl
theorem g_cw_X7_hasStation : Cond.code yX7_hasStation cX7_hasStation 5 (some .boolean) ∈ GW := GW_of (List.mem_of_getElem? (i := 581) (by decide +kernel)) rfl
theorem w_X7_hasStation : CWm yX7_hasStation cX7_hasStation 5 (some .boolean) 2 := ⟨g_cw_X7_hasStation, g_ini_GyreWatch_Ships, ⟨by decide +kernel, by decide +kernel, by decide +kernel⟩, by decide⟩
theorem g_in_X7_hasStation : Cond.instanceMethod yX7_hasStation ∈ GW := GW_of (List.mem_of_getElem? (i := 579) (by decide +kernel)) rfl
theorem g_se_X7_hasStation : Cond.selects (RN 7) yX7_hasStation yX7_hasStation ∈ GW := GW_of (List.mem_of_getElem? (i := 580) (by decide +kernel)) rfl
theorem g_ml_RX8_102 : Cond.methodLink RX8 102 yX7_hasStation ∈ GW := GW_of (List.mem_of_getElem? (i := 578) (by decide +kernel)) rfl
theorem g_ml_RX8_105 : Cond.methodLink RX8 105 yX7_areAllStationsTold ∈ GW := GW_of (List.mem_of_getElem? (i := 585) (by decide +kernel)) rfl
theorem g_cw_X7_tellStation : Cond.code yX7_tellStation cX7_tellStation 5 (some .int) ∈ GW := GW_of (List.mem_of_getElem? (i := 593) (by decide +kernel)) rfl
theorem w_X7_tellStation : CWm yX7_tellStation cX7_tellStation 5 (some .int) 2 := ⟨g_cw_X7_tellStation, g_ini_GyreWatch_Ships, ⟨by decide +kernel, by decide +kernel, by decide +kernel⟩, by decide⟩
theorem g_in_X7_tellStation : Cond.instanceMethod yX7_tellStation ∈ GW := GW_of (List.mem_of_getElem? (i := 591) (by decide +kernel)) rfl
theorem g_se_X7_tellStation : Cond.selects (RN 7) yX7_tellStation yX7_tellStation ∈ GW := GW_of (List.mem_of_getElem? (i := 592) (by decide +kernel)) rfl
theorem g_ml_RX8_111 : Cond.methodLink RX8 111 yX7_tellStation ∈ GW := GW_of (List.mem_of_getElem? (i := 590) (by decide +kernel)) rfl
theorem g_cw_X8_station : Cond.code yX8_station cX8_station 3 (some .int) ∈ GW := GW_of (List.mem_of_getElem? (i := 577) (by decide +kernel)) rfl
theorem w_X8_station : CWm yX8_station cX8_station 3 (some .int) 2 := ⟨g_cw_X8_station, g_ini_GyreWatch, ⟨by decide +kernel, by decide +kernel, by decide +kernel⟩, by decide⟩
theorem g_in_X8_station : Cond.instanceMethod yX8_station ∈ GW := GW_of (List.mem_of_getElem? (i := 575) (by decide +kernel)) rfl
theorem g_se_X8_station : Cond.selects (RN 8) yX8_station yX8_station ∈ GW := GW_of (List.mem_of_getElem? (i := 576) (by decide +kernel)) rfl
theorem g_ml_RL_33 : Cond.methodLink RL 33 yX8_station ∈ GW := GW_of (List.mem_of_getElem? (i := 574) (by decide +kernel)) rfl
theorem g_ml_RX7_56 : Cond.methodLink RX7 56 yX7_hasStorm ∈ GW := GW_of (List.mem_of_getElem? (i := 611) (by decide +kernel)) rfl
theorem g_cw_X7_areAllStormsTold : Cond.code yX7_areAllStormsTold cX7_areAllStormsTold 1 (some .boolean) ∈ GW := GW_of (List.mem_of_getElem? (i := 605) (by decide +kernel)) rfl
theorem w_X7_areAllStormsTold : CWm yX7_areAllStormsTold cX7_areAllStormsTold 1 (some .boolean) 0 := ⟨g_cw_X7_areAllStormsTold, g_ini_GyreWatch_Ships, ⟨by decide +kernel, by decide +kernel, by decide +kernel⟩, by decide⟩
theorem g_in_X7_areAllStormsTold : Cond.instanceMethod yX7_areAllStormsTold ∈ GW := GW_of (List.mem_of_getElem? (i := 603) (by decide +kernel)) rfl
theorem g_se_X7_areAllStormsTold : Cond.selects (RN 7) yX7_areAllStormsTold yX7_areAllStormsTold ∈ GW := GW_of (List.mem_of_getElem? (i := 604) (by decide +kernel)) rfl
theorem g_ml_RX7_53 : Cond.methodLink RX7 53 yX7_areAllStormsTold ∈ GW := GW_of (List.mem_of_getElem? (i := 616) (by decide +kernel)) rfl
theorem g_ml_RX8_115 : Cond.methodLink RX8 115 yX7_areAllStormsTold ∈ GW := GW_of (List.mem_of_getElem? (i := 602) (by decide +kernel)) rfl
theorem g_cw_X7_calmStations : Cond.code yX7_calmStations cX7_calmStations 6 (some .int) ∈ GW := GW_of (List.mem_of_getElem? (i := 610) (by decide +kernel)) rfl
theorem w_X7_calmStations : CWm yX7_calmStations cX7_calmStations 6 (some .int) 2 := ⟨g_cw_X7_calmStations, g_ini_GyreWatch_Ships, ⟨by decide +kernel, by decide +kernel, by decide +kernel⟩, by decide⟩
theorem g_in_X7_calmStations : Cond.instanceMethod yX7_calmStations ∈ GW := GW_of (List.mem_of_getElem? (i := 608) (by decide +kernel)) rfl
theorem g_se_X7_calmStations : Cond.selects (RN 7) yX7_calmStations yX7_calmStations ∈ GW := GW_of (List.mem_of_getElem? (i := 609) (by decide +kernel)) rfl
theorem g_ml_RX8_120 : Cond.methodLink RX8 120 yX7_calmStations ∈ GW := GW_of (List.mem_of_getElem? (i := 607) (by decide +kernel)) rfl
theorem g_cw_X7_tellStorm : Cond.code yX7_tellStorm cX7_tellStorm 3 none ∈ GW := GW_of (List.mem_of_getElem? (i := 615) (by decide +kernel)) rfl
theorem w_X7_tellStorm : CWm yX7_tellStorm cX7_tellStorm 3 none 2 := ⟨g_cw_X7_tellStorm, g_ini_GyreWatch_Ships, ⟨by decide +kernel, by decide +kernel, by decide +kernel⟩, by decide⟩
theorem g_in_X7_tellStorm : Cond.instanceMethod yX7_tellStorm ∈ GW := GW_of (List.mem_of_getElem? (i := 613) (by decide +kernel)) rfl
theorem g_se_X7_tellStorm : Cond.selects (RN 7) yX7_tellStorm yX7_tellStorm ∈ GW := GW_of (List.mem_of_getElem? (i := 614) (by decide +kernel)) rfl
theorem g_ml_RX8_123 : Cond.methodLink RX8 123 yX7_tellStorm ∈ GW := GW_of (List.mem_of_getElem? (i := 612) (by decide +kernel)) rfl
theorem g_cw_X8_storm : Cond.code yX8_storm cX8_storm 4 (some .int) ∈ GW := GW_of (List.mem_of_getElem? (i := 601) (by decide +kernel)) rfl
theorem w_X8_storm : CWm yX8_storm cX8_storm 4 (some .int) 2 := ⟨g_cw_X8_storm, g_ini_GyreWatch, ⟨by decide +kernel, by decide +kernel, by decide +kernel⟩, by decide⟩
theorem g_in_X8_storm : Cond.instanceMethod yX8_storm ∈ GW := GW_of (List.mem_of_getElem? (i := 599) (by decide +kernel)) rfl
theorem g_se_X8_storm : Cond.selects (RN 8) yX8_storm yX8_storm ∈ GW := GW_of (List.mem_of_getElem? (i := 600) (by decide +kernel)) rfl
theorem g_ml_RL_36 : Cond.methodLink RL 36 yX8_storm ∈ GW := GW_of (List.mem_of_getElem? (i := 598) (by decide +kernel)) rfl
theorem g_ml_RX4_48 : Cond.methodLink RX4 48 Lib.Math.abs.name ∈ GW := GW_of (List.mem_of_getElem? (i := 637) (by decide +kernel)) rfl
theorem g_st_math_abs : Cond.static Lib.Math.abs.name ∈ GW := GW_of (List.mem_of_getElem? (i := 638) (by decide +kernel)) rfl
theorem g_cw_math_abs : Cond.code Lib.Math.abs.name Lib.Math.abs.code 1 (some .int) ∈ GW := GW_of (List.mem_of_getElem? (i := 639) (by decide +kernel)) rfl
theorem g_fl_RX2_50 : Cond.fieldLink RX2 50 ((TN 4) 3).1 ((TN 4) 3).2.1 ((TN 4) 3).2.2.1 ∈ GW := GW_of (List.mem_of_getElem? (i := 459) (by decide +kernel)) rfl
theorem g_fl_RX2_54 : Cond.fieldLink RX2 54 ((TN 4) 1).1 ((TN 4) 1).2.1 ((TN 4) 1).2.2.1 ∈ GW := GW_of (List.mem_of_getElem? (i := 454) (by decide +kernel)) rfl
theorem g_fl_RX2_57 : Cond.fieldLink RX2 57 ((TN 4) 0).1 ((TN 4) 0).2.1 ((TN 4) 0).2.2.1 ∈ GW := GW_of (List.mem_of_getElem? (i := 451) (by decide +kernel)) rfl
theorem g_cw_X4_daysFrom : Cond.code yX4_daysFrom cX4_daysFrom 2 (some .int) ∈ GW := GW_of (List.mem_of_getElem? (i := 636) (by decide +kernel)) rfl
theorem w_X4_daysFrom : CWm yX4_daysFrom cX4_daysFrom 2 (some .int) 1 := ⟨g_cw_X4_daysFrom, g_ini_GyreWatch_Reading, ⟨by decide +kernel, by decide +kernel, by decide +kernel⟩, by decide⟩
theorem g_in_X4_daysFrom : Cond.instanceMethod yX4_daysFrom ∈ GW := GW_of (List.mem_of_getElem? (i := 634) (by decide +kernel)) rfl
theorem g_se_X4_daysFrom : Cond.selects (RN 4) yX4_daysFrom yX4_daysFrom ∈ GW := GW_of (List.mem_of_getElem? (i := 635) (by decide +kernel)) rfl
theorem g_ml_RX2_60 : Cond.methodLink RX2 60 yX4_daysFrom ∈ GW := GW_of (List.mem_of_getElem? (i := 633) (by decide +kernel)) rfl
theorem g_cw_X8_buoyNumbered : Cond.code yX8_buoyNumbered cX8_buoyNumbered 3 (some (.object "GyreWatch$Buoy")) ∈ GW := GW_of (List.mem_of_getElem? (i := 627) (by decide +kernel)) rfl
theorem w_X8_buoyNumbered : CWm yX8_buoyNumbered cX8_buoyNumbered 3 (some (.object "GyreWatch$Buoy")) 1 := ⟨g_cw_X8_buoyNumbered, g_ini_GyreWatch, ⟨by decide +kernel, by decide +kernel, by decide +kernel⟩, by decide⟩
theorem g_in_X8_buoyNumbered : Cond.instanceMethod yX8_buoyNumbered ∈ GW := GW_of (List.mem_of_getElem? (i := 626) (by decide +kernel)) rfl
theorem g_se_X8_buoyNumbered : Cond.selects (RN 8) yX8_buoyNumbered yX8_buoyNumbered ∈ GW := GW_of (List.mem_of_getElem? (i := 7) (by decide +kernel)) rfl
theorem g_ml_RX8_127 : Cond.methodLink RX8 127 yX8_buoyNumbered ∈ GW := GW_of (List.mem_of_getElem? (i := 624) (by decide +kernel)) rfl
theorem g_fl_RX8_131 : Cond.fieldLink RX8 131 ((TN 0) 8).1 ((TN 0) 8).2.1 ((TN 0) 8).2.2.1 ∈ GW := GW_of (List.mem_of_getElem? (i := 551) (by decide +kernel)) rfl
theorem g_cw_X2_nearestOfShip : Cond.code yX2_nearestOfShip cX2_nearestOfShip 8 (some (.object "GyreWatch$Reading")) ∈ GW := GW_of (List.mem_of_getElem? (i := 632) (by decide +kernel)) rfl
theorem w_X2_nearestOfShip : CWm yX2_nearestOfShip cX2_nearestOfShip 8 (some (.object "GyreWatch$Reading")) 1 := ⟨g_cw_X2_nearestOfShip, g_ini_GyreWatch_Log, ⟨by decide +kernel, by decide +kernel, by decide +kernel⟩, by decide⟩
theorem g_in_X2_nearestOfShip : Cond.instanceMethod yX2_nearestOfShip ∈ GW := GW_of (List.mem_of_getElem? (i := 630) (by decide +kernel)) rfl
theorem g_se_X2_nearestOfShip : Cond.selects (RN 2) yX2_nearestOfShip yX2_nearestOfShip ∈ GW := GW_of (List.mem_of_getElem? (i := 631) (by decide +kernel)) rfl
theorem g_ml_RX8_135 : Cond.methodLink RX8 135 yX2_nearestOfShip ∈ GW := GW_of (List.mem_of_getElem? (i := 629) (by decide +kernel)) rfl
theorem g_fl_RX8_147 : Cond.fieldLink RX8 147 ((TN 4) 5).1 ((TN 4) 5).2.1 ((TN 4) 5).2.2.1 ∈ GW := GW_of (List.mem_of_getElem? (i := 465) (by decide +kernel)) rfl
theorem g_fl_RX8_139 : Cond.fieldLink RX8 139 ((TN 4) 2).1 ((TN 4) 2).2.1 ((TN 4) 2).2.2.1 ∈ GW := GW_of (List.mem_of_getElem? (i := 457) (by decide +kernel)) rfl
theorem g_fl_RX8_144 : Cond.fieldLink RX8 144 ((TN 0) 6).1 ((TN 0) 6).2.1 ((TN 0) 6).2.2.1 ∈ GW := GW_of (List.mem_of_getElem? (i := 547) (by decide +kernel)) rfl
theorem g_cw_X8_calibrate : Cond.code yX8_calibrate cX8_calibrate 5 (some .int) ∈ GW := GW_of (List.mem_of_getElem? (i := 623) (by decide +kernel)) rfl
theorem w_X8_calibrate : CWm yX8_calibrate cX8_calibrate 5 (some .int) 1 := ⟨g_cw_X8_calibrate, g_ini_GyreWatch, ⟨by decide +kernel, by decide +kernel, by decide +kernel⟩, by decide⟩
theorem g_in_X8_calibrate : Cond.instanceMethod yX8_calibrate ∈ GW := GW_of (List.mem_of_getElem? (i := 621) (by decide +kernel)) rfl
theorem g_se_X8_calibrate : Cond.selects (RN 8) yX8_calibrate yX8_calibrate ∈ GW := GW_of (List.mem_of_getElem? (i := 622) (by decide +kernel)) rfl
theorem g_ml_RL_39 : Cond.methodLink RL 39 yX8_calibrate ∈ GW := GW_of (List.mem_of_getElem? (i := 620) (by decide +kernel)) rfl
theorem g_cw_X9_size : Cond.code yX9_size cX9_size 1 (some .int) ∈ GW := GW_of (List.mem_of_getElem? (i := 1086) (by decide +kernel)) rfl
theorem w_X9_size : CWm yX9_size cX9_size 1 (some .int) 1 := ⟨g_cw_X9_size, g_ini_GyreWatchModel, ⟨by decide +kernel, by decide +kernel, by decide +kernel⟩, by decide⟩
theorem g_ml_RX9_161 : Cond.methodLink RX9 161 yX9_size ∈ GW := GW_of (List.mem_of_getElem? (i := 1084) (by decide +kernel)) rfl
theorem g_st_X9_size : Cond.static yX9_size ∈ GW := GW_of (List.mem_of_getElem? (i := 1085) (by decide +kernel)) rfl
theorem g_cw_X9_isFloat : Cond.code yX9_isFloat cX9_isFloat 2 (some .boolean) ∈ GW := GW_of (List.mem_of_getElem? (i := 1079) (by decide +kernel)) rfl
theorem w_X9_isFloat : CWm yX9_isFloat cX9_isFloat 2 (some .boolean) 1 := ⟨g_cw_X9_isFloat, g_ini_GyreWatchModel, ⟨by decide +kernel, by decide +kernel, by decide +kernel⟩, by decide⟩
theorem g_in_X9_isFloat : Cond.instanceMethod yX9_isFloat ∈ GW := GW_of (List.mem_of_getElem? (i := 1078) (by decide +kernel)) rfl
theorem g_se_X9_isFloat : Cond.selects (RN 9) yX9_isFloat yX9_isFloat ∈ GW := GW_of (List.mem_of_getElem? (i := 25) (by decide +kernel)) rfl
theorem g_ml_RX9_164 : Cond.methodLink RX9 164 yX9_isFloat ∈ GW := GW_of (List.mem_of_getElem? (i := 1076) (by decide +kernel)) rfl
theorem g_cw_X9_shipFor : Cond.code yX9_shipFor cX9_shipFor 6 (some .int) ∈ GW := GW_of (List.mem_of_getElem? (i := 1083) (by decide +kernel)) rfl
theorem w_X9_shipFor : CWm yX9_shipFor cX9_shipFor 6 (some .int) 1 := ⟨g_cw_X9_shipFor, g_ini_GyreWatchModel, ⟨by decide +kernel, by decide +kernel, by decide +kernel⟩, by decide⟩
theorem g_in_X9_shipFor : Cond.instanceMethod yX9_shipFor ∈ GW := GW_of (List.mem_of_getElem? (i := 1082) (by decide +kernel)) rfl
theorem g_se_X9_shipFor : Cond.selects (RN 9) yX9_shipFor yX9_shipFor ∈ GW := GW_of (List.mem_of_getElem? (i := 26) (by decide +kernel)) rfl
theorem g_ml_RX9_167 : Cond.methodLink RX9 167 yX9_shipFor ∈ GW := GW_of (List.mem_of_getElem? (i := 1080) (by decide +kernel)) rfl
theorem g_fl_RX8_293 : Cond.fieldLink RX8 293 ((TN 2) 0).1 ((TN 2) 0).2.1 ((TN 2) 0).2.2.1 ∈ GW := GW_of (List.mem_of_getElem? (i := 134) (by decide +kernel)) rfl
theorem g_fl_RX4_28 : Cond.fieldLink RX4 28 ((TN 0) 6).1 ((TN 0) 6).2.1 ((TN 0) 6).2.2.1 ∈ GW := GW_of (List.mem_of_getElem? (i := 546) (by decide +kernel)) rfl
theorem g_fl_RX4_37 : Cond.fieldLink RX4 37 ((TN 4) 5).1 ((TN 4) 5).2.1 ((TN 4) 5).2.2.1 ∈ GW := GW_of (List.mem_of_getElem? (i := 464) (by decide +kernel)) rfl
theorem g_fl_RX4_41 : Cond.fieldLink RX4 41 ((TN 4) 6).1 ((TN 4) 6).2.1 ((TN 4) 6).2.2.1 ∈ GW := GW_of (List.mem_of_getElem? (i := 467) (by decide +kernel)) rfl
theorem g_cw_X4_corrected : Cond.code yX4_corrected cX4_corrected 1 (some .int) ∈ GW := GW_of (List.mem_of_getElem? (i := 664) (by decide +kernel)) rfl
theorem w_X4_corrected : CWm yX4_corrected cX4_corrected 1 (some .int) 0 := ⟨g_cw_X4_corrected, g_ini_GyreWatch_Reading, ⟨by decide +kernel, by decide +kernel, by decide +kernel⟩, by decide⟩
theorem g_in_X4_corrected : Cond.instanceMethod yX4_corrected ∈ GW := GW_of (List.mem_of_getElem? (i := 662) (by decide +kernel)) rfl
theorem g_se_X4_corrected : Cond.selects (RN 4) yX4_corrected yX4_corrected ∈ GW := GW_of (List.mem_of_getElem? (i := 663) (by decide +kernel)) rfl
theorem g_ml_RX4_44 : Cond.methodLink RX4 44 yX4_corrected ∈ GW := GW_of (List.mem_of_getElem? (i := 661) (by decide +kernel)) rfl
theorem g_cw_X4_isSpike : Cond.code yX4_isSpike cX4_isSpike 4 (some .boolean) ∈ GW := GW_of (List.mem_of_getElem? (i := 660) (by decide +kernel)) rfl
theorem w_X4_isSpike : CWm yX4_isSpike cX4_isSpike 4 (some .boolean) 1 := ⟨g_cw_X4_isSpike, g_ini_GyreWatch_Reading, ⟨by decide +kernel, by decide +kernel, by decide +kernel⟩, by decide⟩
theorem g_in_X4_isSpike : Cond.instanceMethod yX4_isSpike ∈ GW := GW_of (List.mem_of_getElem? (i := 659) (by decide +kernel)) rfl
theorem g_se_X4_isSpike : Cond.selects (RN 4) yX4_isSpike yX4_isSpike ∈ GW := GW_of (List.mem_of_getElem? (i := 9) (by decide +kernel)) rfl
theorem g_ml_RX4_33 : Cond.methodLink RX4 33 yX4_isSpike ∈ GW := GW_of (List.mem_of_getElem? (i := 657) (by decide +kernel)) rfl
theorem g_cw_X8_readingNumbered : Cond.code yX8_readingNumbered cX8_readingNumbered 3 (some (.object "GyreWatch$Reading")) ∈ GW := GW_of (List.mem_of_getElem? (i := 651) (by decide +kernel)) rfl
theorem w_X8_readingNumbered : CWm yX8_readingNumbered cX8_readingNumbered 3 (some (.object "GyreWatch$Reading")) 1 := ⟨g_cw_X8_readingNumbered, g_ini_GyreWatch, ⟨by decide +kernel, by decide +kernel, by decide +kernel⟩, by decide⟩
theorem g_in_X8_readingNumbered : Cond.instanceMethod yX8_readingNumbered ∈ GW := GW_of (List.mem_of_getElem? (i := 650) (by decide +kernel)) rfl
theorem g_se_X8_readingNumbered : Cond.selects (RN 8) yX8_readingNumbered yX8_readingNumbered ∈ GW := GW_of (List.mem_of_getElem? (i := 8) (by decide +kernel)) rfl
theorem g_ml_RX8_152 : Cond.methodLink RX8 152 yX8_readingNumbered ∈ GW := GW_of (List.mem_of_getElem? (i := 648) (by decide +kernel)) rfl
theorem g_fl_RX8_156 : Cond.fieldLink RX8 156 ((TN 2) 2).1 ((TN 2) 2).2.1 ((TN 2) 2).2.2.1 ∈ GW := GW_of (List.mem_of_getElem? (i := 138) (by decide +kernel)) rfl
theorem g_cw_X4_flagBy : Cond.code yX4_flagBy cX4_flagBy 2 (some .int) ∈ GW := GW_of (List.mem_of_getElem? (i := 656) (by decide +kernel)) rfl
theorem w_X4_flagBy : CWm yX4_flagBy cX4_flagBy 2 (some .int) 1 := ⟨g_cw_X4_flagBy, g_ini_GyreWatch_Reading, ⟨by decide +kernel, by decide +kernel, by decide +kernel⟩, by decide⟩
theorem g_in_X4_flagBy : Cond.instanceMethod yX4_flagBy ∈ GW := GW_of (List.mem_of_getElem? (i := 654) (by decide +kernel)) rfl
theorem g_se_X4_flagBy : Cond.selects (RN 4) yX4_flagBy yX4_flagBy ∈ GW := GW_of (List.mem_of_getElem? (i := 655) (by decide +kernel)) rfl
theorem g_ml_RX8_159 : Cond.methodLink RX8 159 yX4_flagBy ∈ GW := GW_of (List.mem_of_getElem? (i := 653) (by decide +kernel)) rfl
theorem g_fl_RX8_162 : Cond.fieldLink RX8 162 ((TN 4) 4).1 ((TN 4) 4).2.1 ((TN 4) 4).2.2.1 ∈ GW := GW_of (List.mem_of_getElem? (i := 462) (by decide +kernel)) rfl
theorem g_cw_X8_flag : Cond.code yX8_flag cX8_flag 5 (some .int) ∈ GW := GW_of (List.mem_of_getElem? (i := 647) (by decide +kernel)) rfl
theorem w_X8_flag : CWm yX8_flag cX8_flag 5 (some .int) 2 := ⟨g_cw_X8_flag, g_ini_GyreWatch, ⟨by decide +kernel, by decide +kernel, by decide +kernel⟩, by decide⟩
theorem g_in_X8_flag : Cond.instanceMethod yX8_flag ∈ GW := GW_of (List.mem_of_getElem? (i := 645) (by decide +kernel)) rfl
theorem g_se_X8_flag : Cond.selects (RN 8) yX8_flag yX8_flag ∈ GW := GW_of (List.mem_of_getElem? (i := 646) (by decide +kernel)) rfl
theorem g_ml_RL_42 : Cond.methodLink RL 42 yX8_flag ∈ GW := GW_of (List.mem_of_getElem? (i := 644) (by decide +kernel)) rfl
theorem g_cw_X9_corrected : Cond.code yX9_corrected cX9_corrected 2 (some .int) ∈ GW := GW_of (List.mem_of_getElem? (i := 1102) (by decide +kernel)) rfl
theorem w_X9_corrected : CWm yX9_corrected cX9_corrected 2 (some .int) 1 := ⟨g_cw_X9_corrected, g_ini_GyreWatchModel, ⟨by decide +kernel, by decide +kernel, by decide +kernel⟩, by decide⟩
theorem g_in_X9_corrected : Cond.instanceMethod yX9_corrected ∈ GW := GW_of (List.mem_of_getElem? (i := 1101) (by decide +kernel)) rfl
theorem g_se_X9_corrected : Cond.selects (RN 9) yX9_corrected yX9_corrected ∈ GW := GW_of (List.mem_of_getElem? (i := 29) (by decide +kernel)) rfl
theorem g_ml_RX9_170 : Cond.methodLink RX9 170 yX9_corrected ∈ GW := GW_of (List.mem_of_getElem? (i := 1099) (by decide +kernel)) rfl
theorem g_cw_X9_isReading : Cond.code yX9_isReading cX9_isReading 2 (some .boolean) ∈ GW := GW_of (List.mem_of_getElem? (i := 1094) (by decide +kernel)) rfl
theorem w_X9_isReading : CWm yX9_isReading cX9_isReading 2 (some .boolean) 1 := ⟨g_cw_X9_isReading, g_ini_GyreWatchModel, ⟨by decide +kernel, by decide +kernel, by decide +kernel⟩, by decide⟩
theorem g_in_X9_isReading : Cond.instanceMethod yX9_isReading ∈ GW := GW_of (List.mem_of_getElem? (i := 1093) (by decide +kernel)) rfl
theorem g_se_X9_isReading : Cond.selects (RN 9) yX9_isReading yX9_isReading ∈ GW := GW_of (List.mem_of_getElem? (i := 27) (by decide +kernel)) rfl
theorem g_ml_RX9_173 : Cond.methodLink RX9 173 yX9_isReading ∈ GW := GW_of (List.mem_of_getElem? (i := 1091) (by decide +kernel)) rfl
theorem g_cw_X9_flagOf : Cond.code yX9_flagOf cX9_flagOf 6 (some .int) ∈ GW := GW_of (List.mem_of_getElem? (i := 1098) (by decide +kernel)) rfl
theorem w_X9_flagOf : CWm yX9_flagOf cX9_flagOf 6 (some .int) 1 := ⟨g_cw_X9_flagOf, g_ini_GyreWatchModel, ⟨by decide +kernel, by decide +kernel, by decide +kernel⟩, by decide⟩
theorem g_in_X9_flagOf : Cond.instanceMethod yX9_flagOf ∈ GW := GW_of (List.mem_of_getElem? (i := 1097) (by decide +kernel)) rfl
theorem g_se_X9_flagOf : Cond.selects (RN 9) yX9_flagOf yX9_flagOf ∈ GW := GW_of (List.mem_of_getElem? (i := 28) (by decide +kernel)) rfl
theorem g_ml_RX9_176 : Cond.methodLink RX9 176 yX9_flagOf ∈ GW := GW_of (List.mem_of_getElem? (i := 1095) (by decide +kernel)) rfl
theorem g_cw_X8_bound : Cond.code yX8_bound cX8_bound 3 (some .int) ∈ GW := GW_of (List.mem_of_getElem? (i := 671) (by decide +kernel)) rfl
theorem w_X8_bound : CWm yX8_bound cX8_bound 3 (some .int) 1 := ⟨g_cw_X8_bound, g_ini_GyreWatch, ⟨by decide +kernel, by decide +kernel, by decide +kernel⟩, by decide⟩
theorem g_in_X8_bound : Cond.instanceMethod yX8_bound ∈ GW := GW_of (List.mem_of_getElem? (i := 669) (by decide +kernel)) rfl
theorem g_se_X8_bound : Cond.selects (RN 8) yX8_bound yX8_bound ∈ GW := GW_of (List.mem_of_getElem? (i := 670) (by decide +kernel)) rfl
theorem g_ml_RL_45 : Cond.methodLink RL 45 yX8_bound ∈ GW := GW_of (List.mem_of_getElem? (i := 668) (by decide +kernel)) rfl
theorem g_ml_RX6_3 : Cond.methodLink RX6 3 objectInit ∈ GW := GW_of (List.mem_of_getElem? (i := 683) (by decide +kernel)) rfl
theorem g_fl_RX6_18 : Cond.fieldLink RX6 18 ((TN 6) 0).1 ((TN 6) 0).2.1 ((TN 6) 0).2.2.1 ∈ GW := GW_of (List.mem_of_getElem? (i := 684) (by decide +kernel)) rfl
theorem g_fl_RX8_165 : Cond.fieldLink RX8 165 ((TN 8) 7).1 ((TN 8) 7).2.1 ((TN 8) 7).2.2.1 ∈ GW := GW_of (List.mem_of_getElem? (i := 180) (by decide +kernel)) rfl
theorem g_inst_6 : Cond.instantiable (RN 6) (nF 6) ∈ GW := GW_of (List.mem_of_getElem? (i := 495) (by decide +kernel)) rfl
theorem g_iniN_6 : Cond.initialized (RN 6) ∈ GW := GW_of (List.mem_of_getElem? (i := 55) (by decide +kernel)) rfl
theorem g_clN_RX8_36 : Cond.classLink RX8 36 (RN 6) ∈ GW := GW_of (List.mem_of_getElem? (i := 169) (by decide +kernel)) rfl
theorem g_cw_X6_init : Cond.code yX6_init cX6_init 2 none ∈ GW := GW_of (List.mem_of_getElem? (i := 682) (by decide +kernel)) rfl
theorem w_X6_init : CWm yX6_init cX6_init 2 none 1 := ⟨g_cw_X6_init, g_ini_GyreWatch_Search, ⟨by decide +kernel, by decide +kernel, by decide +kernel⟩, by decide⟩
theorem g_in_X6_init : Cond.instanceMethod yX6_init ∈ GW := GW_of (List.mem_of_getElem? (i := 681) (by decide +kernel)) rfl
theorem g_ml_RX8_170 : Cond.methodLink RX8 170 yX6_init ∈ GW := GW_of (List.mem_of_getElem? (i := 680) (by decide +kernel)) rfl
theorem g_cw_X8_search : Cond.code yX8_search cX8_search 3 (some .int) ∈ GW := GW_of (List.mem_of_getElem? (i := 678) (by decide +kernel)) rfl
theorem w_X8_search : CWm yX8_search cX8_search 3 (some .int) 1 := ⟨g_cw_X8_search, g_ini_GyreWatch, ⟨by decide +kernel, by decide +kernel, by decide +kernel⟩, by decide⟩
theorem g_in_X8_search : Cond.instanceMethod yX8_search ∈ GW := GW_of (List.mem_of_getElem? (i := 676) (by decide +kernel)) rfl
theorem g_se_X8_search : Cond.selects (RN 8) yX8_search yX8_search ∈ GW := GW_of (List.mem_of_getElem? (i := 677) (by decide +kernel)) rfl
theorem g_ml_RL_48 : Cond.methodLink RL 48 yX8_search ∈ GW := GW_of (List.mem_of_getElem? (i := 675) (by decide +kernel)) rfl
theorem g_cw_X8_searchNumbered : Cond.code yX8_searchNumbered cX8_searchNumbered 3 (some (.object "GyreWatch$Search")) ∈ GW := GW_of (List.mem_of_getElem? (i := 706) (by decide +kernel)) rfl
theorem w_X8_searchNumbered : CWm yX8_searchNumbered cX8_searchNumbered 3 (some (.object "GyreWatch$Search")) 1 := ⟨g_cw_X8_searchNumbered, g_ini_GyreWatch, ⟨by decide +kernel, by decide +kernel, by decide +kernel⟩, by decide⟩
theorem g_in_X8_searchNumbered : Cond.instanceMethod yX8_searchNumbered ∈ GW := GW_of (List.mem_of_getElem? (i := 705) (by decide +kernel)) rfl
theorem g_se_X8_searchNumbered : Cond.selects (RN 8) yX8_searchNumbered yX8_searchNumbered ∈ GW := GW_of (List.mem_of_getElem? (i := 10) (by decide +kernel)) rfl
theorem g_ml_RX8_172 : Cond.methodLink RX8 172 yX8_searchNumbered ∈ GW := GW_of (List.mem_of_getElem? (i := 703) (by decide +kernel)) rfl
theorem g_fl_RX8_176 : Cond.fieldLink RX8 176 ((TN 6) 1).1 ((TN 6) 1).2.1 ((TN 6) 1).2.2.1 ∈ GW := GW_of (List.mem_of_getElem? (i := 687) (by decide +kernel)) rfl
theorem g_cw_X6_lookAt : Cond.code yX6_lookAt cX6_lookAt 4 (some .int) ∈ GW := GW_of (List.mem_of_getElem? (i := 710) (by decide +kernel)) rfl
theorem w_X6_lookAt : CWm yX6_lookAt cX6_lookAt 4 (some .int) 3 := ⟨g_cw_X6_lookAt, g_ini_GyreWatch_Search, ⟨by decide +kernel, by decide +kernel, by decide +kernel⟩, by decide⟩
theorem g_ml_RX8_179 : Cond.methodLink RX8 179 yX6_lookAt ∈ GW := GW_of (List.mem_of_getElem? (i := 708) (by decide +kernel)) rfl
theorem g_st_X6_lookAt : Cond.static yX6_lookAt ∈ GW := GW_of (List.mem_of_getElem? (i := 709) (by decide +kernel)) rfl
theorem g_cw_X8_leg : Cond.code yX8_leg cX8_leg 5 (some .int) ∈ GW := GW_of (List.mem_of_getElem? (i := 702) (by decide +kernel)) rfl
theorem w_X8_leg : CWm yX8_leg cX8_leg 5 (some .int) 3 := ⟨g_cw_X8_leg, g_ini_GyreWatch, ⟨by decide +kernel, by decide +kernel, by decide +kernel⟩, by decide⟩
theorem g_in_X8_leg : Cond.instanceMethod yX8_leg ∈ GW := GW_of (List.mem_of_getElem? (i := 700) (by decide +kernel)) rfl
theorem g_se_X8_leg : Cond.selects (RN 8) yX8_leg yX8_leg ∈ GW := GW_of (List.mem_of_getElem? (i := 701) (by decide +kernel)) rfl
theorem g_ml_RL_51 : Cond.methodLink RL 51 yX8_leg ∈ GW := GW_of (List.mem_of_getElem? (i := 699) (by decide +kernel)) rfl
theorem g_cw_X9_isSearch : Cond.code yX9_isSearch cX9_isSearch 2 (some .boolean) ∈ GW := GW_of (List.mem_of_getElem? (i := 1118) (by decide +kernel)) rfl
theorem w_X9_isSearch : CWm yX9_isSearch cX9_isSearch 2 (some .boolean) 1 := ⟨g_cw_X9_isSearch, g_ini_GyreWatchModel, ⟨by decide +kernel, by decide +kernel, by decide +kernel⟩, by decide⟩
theorem g_in_X9_isSearch : Cond.instanceMethod yX9_isSearch ∈ GW := GW_of (List.mem_of_getElem? (i := 1117) (by decide +kernel)) rfl
theorem g_se_X9_isSearch : Cond.selects (RN 9) yX9_isSearch yX9_isSearch ∈ GW := GW_of (List.mem_of_getElem? (i := 30) (by decide +kernel)) rfl
theorem g_ml_RX9_179 : Cond.methodLink RX9 179 yX9_isSearch ∈ GW := GW_of (List.mem_of_getElem? (i := 1115) (by decide +kernel)) rfl
theorem g_ml_RX3_1 : Cond.methodLink RX3 1 objectInit ∈ GW := GW_of (List.mem_of_getElem? (i := 724) (by decide +kernel)) rfl
theorem g_fl_RX3_7 : Cond.fieldLink RX3 7 ((TN 3) 0).1 ((TN 3) 0).2.1 ((TN 3) 0).2.2.1 ∈ GW := GW_of (List.mem_of_getElem? (i := 725) (by decide +kernel)) rfl
theorem g_fl_RX3_13 : Cond.fieldLink RX3 13 ((TN 3) 1).1 ((TN 3) 1).2.1 ((TN 3) 1).2.2.1 ∈ GW := GW_of (List.mem_of_getElem? (i := 726) (by decide +kernel)) rfl
theorem g_fl_RX3_16 : Cond.fieldLink RX3 16 ((TN 3) 2).1 ((TN 3) 2).2.1 ((TN 3) 2).2.2.1 ∈ GW := GW_of (List.mem_of_getElem? (i := 727) (by decide +kernel)) rfl
theorem g_fl_RX8_183 : Cond.fieldLink RX8 183 ((TN 8) 8).1 ((TN 8) 8).2.1 ((TN 8) 8).2.2.1 ∈ GW := GW_of (List.mem_of_getElem? (i := 181) (by decide +kernel)) rfl
theorem g_inst_3 : Cond.instantiable (RN 3) (nF 3) ∈ GW := GW_of (List.mem_of_getElem? (i := 720) (by decide +kernel)) rfl
theorem g_iniN_3 : Cond.initialized (RN 3) ∈ GW := GW_of (List.mem_of_getElem? (i := 56) (by decide +kernel)) rfl
theorem g_clN_RX8_42 : Cond.classLink RX8 42 (RN 3) ∈ GW := GW_of (List.mem_of_getElem? (i := 171) (by decide +kernel)) rfl
theorem g_cw_X3_init : Cond.code yX3_init cX3_init 4 none ∈ GW := GW_of (List.mem_of_getElem? (i := 723) (by decide +kernel)) rfl
theorem g_ini_GyreWatch_Part : Cond.initialized RX3 ∈ GW := GW_of (List.mem_of_getElem? (i := 56) (by decide +kernel)) rfl
theorem w_X3_init : CWm yX3_init cX3_init 4 none 3 := ⟨g_cw_X3_init, g_ini_GyreWatch_Part, ⟨by decide +kernel, by decide +kernel, by decide +kernel⟩, by decide⟩
theorem g_in_X3_init : Cond.instanceMethod yX3_init ∈ GW := GW_of (List.mem_of_getElem? (i := 722) (by decide +kernel)) rfl
theorem g_ml_RX8_188 : Cond.methodLink RX8 188 yX3_init ∈ GW := GW_of (List.mem_of_getElem? (i := 721) (by decide +kernel)) rfl
theorem g_cw_X8_part : Cond.code yX8_part cX8_part 5 (some .int) ∈ GW := GW_of (List.mem_of_getElem? (i := 718) (by decide +kernel)) rfl
theorem w_X8_part : CWm yX8_part cX8_part 5 (some .int) 3 := ⟨g_cw_X8_part, g_ini_GyreWatch, ⟨by decide +kernel, by decide +kernel, by decide +kernel⟩, by decide⟩
theorem g_in_X8_part : Cond.instanceMethod yX8_part ∈ GW := GW_of (List.mem_of_getElem? (i := 716) (by decide +kernel)) rfl
theorem g_se_X8_part : Cond.selects (RN 8) yX8_part yX8_part ∈ GW := GW_of (List.mem_of_getElem? (i := 717) (by decide +kernel)) rfl
theorem g_ml_RL_55 : Cond.methodLink RL 55 yX8_part ∈ GW := GW_of (List.mem_of_getElem? (i := 715) (by decide +kernel)) rfl
theorem g_fl_RX9_182 : Cond.fieldLink RX9 182 ((TN 9) 33).1 ((TN 9) 33).2.1 ((TN 9) 33).2.2.1 ∈ GW := GW_of (List.mem_of_getElem? (i := 915) (by decide +kernel)) rfl
theorem g_fl_RX8_194 : Cond.fieldLink RX8 194 ((TN 5) 1).1 ((TN 5) 1).2.1 ((TN 5) 1).2.2.1 ∈ GW := GW_of (List.mem_of_getElem? (i := 95) (by decide +kernel)) rfl
theorem g_fl_RX8_190 : Cond.fieldLink RX8 190 ((TN 5) 0).1 ((TN 5) 0).2.1 ((TN 5) 0).2.2.1 ∈ GW := GW_of (List.mem_of_getElem? (i := 93) (by decide +kernel)) rfl
theorem g_fl_RX8_197 : Cond.fieldLink RX8 197 ((TN 1) 0).1 ((TN 1) 0).2.1 ((TN 1) 0).2.2.1 ∈ GW := GW_of (List.mem_of_getElem? (i := 82) (by decide +kernel)) rfl
theorem g_fl_RX8_202 : Cond.fieldLink RX8 202 ((TN 1) 1).1 ((TN 1) 1).2.1 ((TN 1) 1).2.2.1 ∈ GW := GW_of (List.mem_of_getElem? (i := 85) (by decide +kernel)) rfl
theorem g_ml_RX8_205 : Cond.methodLink RX8 205 yX1_weightAt ∈ GW := GW_of (List.mem_of_getElem? (i := 742) (by decide +kernel)) rfl
theorem g_cw_X8_ofLayer : Cond.code yX8_ofLayer cX8_ofLayer 5 (some .int) ∈ GW := GW_of (List.mem_of_getElem? (i := 741) (by decide +kernel)) rfl
theorem w_X8_ofLayer : CWm yX8_ofLayer cX8_ofLayer 5 (some .int) 3 := ⟨g_cw_X8_ofLayer, g_ini_GyreWatch, ⟨by decide +kernel, by decide +kernel, by decide +kernel⟩, by decide⟩
theorem g_in_X8_ofLayer : Cond.instanceMethod yX8_ofLayer ∈ GW := GW_of (List.mem_of_getElem? (i := 739) (by decide +kernel)) rfl
theorem g_se_X8_ofLayer : Cond.selects (RN 8) yX8_ofLayer yX8_ofLayer ∈ GW := GW_of (List.mem_of_getElem? (i := 740) (by decide +kernel)) rfl
theorem g_ml_RL_58 : Cond.methodLink RL 58 yX8_ofLayer ∈ GW := GW_of (List.mem_of_getElem? (i := 738) (by decide +kernel)) rfl
theorem g_cw_X8_sumOf : Cond.code yX8_sumOf cX8_sumOf 6 (some .int) ∈ GW := GW_of (List.mem_of_getElem? (i := 752) (by decide +kernel)) rfl
theorem w_X8_sumOf : CWm yX8_sumOf cX8_sumOf 6 (some .int) 1 := ⟨g_cw_X8_sumOf, g_ini_GyreWatch, ⟨by decide +kernel, by decide +kernel, by decide +kernel⟩, by decide⟩
theorem g_ml_RX8_208 : Cond.methodLink RX8 208 yX8_sumOf ∈ GW := GW_of (List.mem_of_getElem? (i := 750) (by decide +kernel)) rfl
theorem g_st_X8_sumOf : Cond.static yX8_sumOf ∈ GW := GW_of (List.mem_of_getElem? (i := 751) (by decide +kernel)) rfl
theorem g_fl_RX8_212 : Cond.fieldLink RX8 212 ((TN 5) 4).1 ((TN 5) 4).2.1 ((TN 5) 4).2.2.1 ∈ GW := GW_of (List.mem_of_getElem? (i := 101) (by decide +kernel)) rfl
theorem g_cw_X8_total : Cond.code yX8_total cX8_total 2 (some .int) ∈ GW := GW_of (List.mem_of_getElem? (i := 749) (by decide +kernel)) rfl
theorem w_X8_total : CWm yX8_total cX8_total 2 (some .int) 1 := ⟨g_cw_X8_total, g_ini_GyreWatch, ⟨by decide +kernel, by decide +kernel, by decide +kernel⟩, by decide⟩
theorem g_in_X8_total : Cond.instanceMethod yX8_total ∈ GW := GW_of (List.mem_of_getElem? (i := 747) (by decide +kernel)) rfl
theorem g_se_X8_total : Cond.selects (RN 8) yX8_total yX8_total ∈ GW := GW_of (List.mem_of_getElem? (i := 748) (by decide +kernel)) rfl
theorem g_ml_RL_61 : Cond.methodLink RL 61 yX8_total ∈ GW := GW_of (List.mem_of_getElem? (i := 746) (by decide +kernel)) rfl
theorem g_fl_RX8_224 : Cond.fieldLink RX8 224 ((TN 0) 7).1 ((TN 0) 7).2.1 ((TN 0) 7).2.2.1 ∈ GW := GW_of (List.mem_of_getElem? (i := 549) (by decide +kernel)) rfl
theorem g_cw_X8_ofFloat : Cond.code yX8_ofFloat cX8_ofFloat 4 (some .int) ∈ GW := GW_of (List.mem_of_getElem? (i := 759) (by decide +kernel)) rfl
theorem w_X8_ofFloat : CWm yX8_ofFloat cX8_ofFloat 4 (some .int) 2 := ⟨g_cw_X8_ofFloat, g_ini_GyreWatch, ⟨by decide +kernel, by decide +kernel, by decide +kernel⟩, by decide⟩
theorem g_in_X8_ofFloat : Cond.instanceMethod yX8_ofFloat ∈ GW := GW_of (List.mem_of_getElem? (i := 757) (by decide +kernel)) rfl
theorem g_se_X8_ofFloat : Cond.selects (RN 8) yX8_ofFloat yX8_ofFloat ∈ GW := GW_of (List.mem_of_getElem? (i := 758) (by decide +kernel)) rfl
theorem g_ml_RL_64 : Cond.methodLink RL 64 yX8_ofFloat ∈ GW := GW_of (List.mem_of_getElem? (i := 756) (by decide +kernel)) rfl
theorem g_fl_RX8_227 : Cond.fieldLink RX8 227 ((TN 7) 0).1 ((TN 7) 0).2.1 ((TN 7) 0).2.2.1 ∈ GW := GW_of (List.mem_of_getElem? (i := 153) (by decide +kernel)) rfl
theorem g_fl_RX8_230 : Cond.fieldLink RX8 230 ((TN 2) 1).1 ((TN 2) 1).2.1 ((TN 2) 1).2.2.1 ∈ GW := GW_of (List.mem_of_getElem? (i := 136) (by decide +kernel)) rfl
theorem g_fl_RX8_241 : Cond.fieldLink RX8 241 ((TN 4) 3).1 ((TN 4) 3).2.1 ((TN 4) 3).2.2.1 ∈ GW := GW_of (List.mem_of_getElem? (i := 460) (by decide +kernel)) rfl
theorem g_fl_RX8_245 : Cond.fieldLink RX8 245 ((TN 0) 0).1 ((TN 0) 0).2.1 ((TN 0) 0).2.2.1 ∈ GW := GW_of (List.mem_of_getElem? (i := 535) (by decide +kernel)) rfl
theorem g_fl_RX8_233 : Cond.fieldLink RX8 233 ((TN 4) 0).1 ((TN 4) 0).2.1 ((TN 4) 0).2.2.1 ∈ GW := GW_of (List.mem_of_getElem? (i := 452) (by decide +kernel)) rfl
theorem g_fl_RX8_236 : Cond.fieldLink RX8 236 ((TN 4) 1).1 ((TN 4) 1).2.1 ((TN 4) 1).2.2.1 ∈ GW := GW_of (List.mem_of_getElem? (i := 455) (by decide +kernel)) rfl
theorem g_ml_RX8_237 : Cond.methodLink RX8 237 yX4_corrected ∈ GW := GW_of (List.mem_of_getElem? (i := 767) (by decide +kernel)) rfl
theorem g_cw_X8_ofReading : Cond.code yX8_ofReading cX8_ofReading 4 (some .int) ∈ GW := GW_of (List.mem_of_getElem? (i := 766) (by decide +kernel)) rfl
theorem w_X8_ofReading : CWm yX8_ofReading cX8_ofReading 4 (some .int) 2 := ⟨g_cw_X8_ofReading, g_ini_GyreWatch, ⟨by decide +kernel, by decide +kernel, by decide +kernel⟩, by decide⟩
theorem g_in_X8_ofReading : Cond.instanceMethod yX8_ofReading ∈ GW := GW_of (List.mem_of_getElem? (i := 764) (by decide +kernel)) rfl
theorem g_se_X8_ofReading : Cond.selects (RN 8) yX8_ofReading yX8_ofReading ∈ GW := GW_of (List.mem_of_getElem? (i := 765) (by decide +kernel)) rfl
theorem g_ml_RL_67 : Cond.methodLink RL 67 yX8_ofReading ∈ GW := GW_of (List.mem_of_getElem? (i := 763) (by decide +kernel)) rfl
theorem g_ml_RX2_75 : Cond.methodLink RX2 75 yX4_flagBy ∈ GW := GW_of (List.mem_of_getElem? (i := 795) (by decide +kernel)) rfl
theorem g_ml_RX4_54 : Cond.methodLink RX4 54 Lib.Math.max.name ∈ GW := GW_of (List.mem_of_getElem? (i := 800) (by decide +kernel)) rfl
theorem g_cw_X2_isInSpan : Cond.code yX2_isInSpan cX2_isInSpan 4 (some .boolean) ∈ GW := GW_of (List.mem_of_getElem? (i := 794) (by decide +kernel)) rfl
theorem w_X2_isInSpan : CWm yX2_isInSpan cX2_isInSpan 4 (some .boolean) 3 := ⟨g_cw_X2_isInSpan, g_ini_GyreWatch_Log, ⟨by decide +kernel, by decide +kernel, by decide +kernel⟩, by decide⟩
theorem g_in_X2_isInSpan : Cond.instanceMethod yX2_isInSpan ∈ GW := GW_of (List.mem_of_getElem? (i := 793) (by decide +kernel)) rfl
theorem g_se_X2_isInSpan : Cond.selects (RN 2) yX2_isInSpan yX2_isInSpan ∈ GW := GW_of (List.mem_of_getElem? (i := 13) (by decide +kernel)) rfl
theorem g_ml_RX2_64 : Cond.methodLink RX2 64 yX2_isInSpan ∈ GW := GW_of (List.mem_of_getElem? (i := 791) (by decide +kernel)) rfl
theorem g_cw_X4_weightIn : Cond.code yX4_weightIn cX4_weightIn 3 (some .int) ∈ GW := GW_of (List.mem_of_getElem? (i := 799) (by decide +kernel)) rfl
theorem w_X4_weightIn : CWm yX4_weightIn cX4_weightIn 3 (some .int) 1 := ⟨g_cw_X4_weightIn, g_ini_GyreWatch_Reading, ⟨by decide +kernel, by decide +kernel, by decide +kernel⟩, by decide⟩
theorem g_in_X4_weightIn : Cond.instanceMethod yX4_weightIn ∈ GW := GW_of (List.mem_of_getElem? (i := 797) (by decide +kernel)) rfl
theorem g_se_X4_weightIn : Cond.selects (RN 4) yX4_weightIn yX4_weightIn ∈ GW := GW_of (List.mem_of_getElem? (i := 798) (by decide +kernel)) rfl
theorem g_ml_RX2_68 : Cond.methodLink RX2 68 yX4_weightIn ∈ GW := GW_of (List.mem_of_getElem? (i := 796) (by decide +kernel)) rfl
theorem g_ml_RX2_71 : Cond.methodLink RX2 71 yX4_corrected ∈ GW := GW_of (List.mem_of_getElem? (i := 806) (by decide +kernel)) rfl
theorem g_cw_X2_weightsWithout : Cond.code yX2_weightsWithout cX2_weightsWithout 10 (some .int) ∈ GW := GW_of (List.mem_of_getElem? (i := 790) (by decide +kernel)) rfl
theorem w_X2_weightsWithout : CWm yX2_weightsWithout cX2_weightsWithout 10 (some .int) 4 := ⟨g_cw_X2_weightsWithout, g_ini_GyreWatch_Log, ⟨by decide +kernel, by decide +kernel, by decide +kernel⟩, by decide⟩
theorem g_in_X2_weightsWithout : Cond.instanceMethod yX2_weightsWithout ∈ GW := GW_of (List.mem_of_getElem? (i := 788) (by decide +kernel)) rfl
theorem g_se_X2_weightsWithout : Cond.selects (RN 2) yX2_weightsWithout yX2_weightsWithout ∈ GW := GW_of (List.mem_of_getElem? (i := 789) (by decide +kernel)) rfl
theorem g_ml_RX8_258 : Cond.methodLink RX8 258 yX2_weightsWithout ∈ GW := GW_of (List.mem_of_getElem? (i := 787) (by decide +kernel)) rfl
theorem g_cw_X2_weighedValuesWithout : Cond.code yX2_weighedValuesWithout cX2_weighedValuesWithout 11 (some .long) ∈ GW := GW_of (List.mem_of_getElem? (i := 805) (by decide +kernel)) rfl
theorem w_X2_weighedValuesWithout : CWm yX2_weighedValuesWithout cX2_weighedValuesWithout 11 (some .long) 4 := ⟨g_cw_X2_weighedValuesWithout, g_ini_GyreWatch_Log, ⟨by decide +kernel, by decide +kernel, by decide +kernel⟩, by decide⟩
theorem g_in_X2_weighedValuesWithout : Cond.instanceMethod yX2_weighedValuesWithout ∈ GW := GW_of (List.mem_of_getElem? (i := 803) (by decide +kernel)) rfl
theorem g_se_X2_weighedValuesWithout : Cond.selects (RN 2) yX2_weighedValuesWithout yX2_weighedValuesWithout ∈ GW := GW_of (List.mem_of_getElem? (i := 804) (by decide +kernel)) rfl
theorem g_ml_RX8_309 : Cond.methodLink RX8 309 yX2_weighedValuesWithout ∈ GW := GW_of (List.mem_of_getElem? (i := 802) (by decide +kernel)) rfl
theorem g_cw_X8_needMap : Cond.code yX8_needMap cX8_needMap 3 none ∈ GW := GW_of (List.mem_of_getElem? (i := 777) (by decide +kernel)) rfl
theorem w_X8_needMap : CWm yX8_needMap cX8_needMap 3 none 3 := ⟨g_cw_X8_needMap, g_ini_GyreWatch, ⟨by decide +kernel, by decide +kernel, by decide +kernel⟩, by decide⟩
theorem g_ml_RX8_248 : Cond.methodLink RX8 248 yX8_needMap ∈ GW := GW_of (List.mem_of_getElem? (i := 775) (by decide +kernel)) rfl
theorem g_st_X8_needMap : Cond.static yX8_needMap ∈ GW := GW_of (List.mem_of_getElem? (i := 776) (by decide +kernel)) rfl
theorem g_cw_X8_needSea : Cond.code yX8_needSea cX8_needSea 2 none ∈ GW := GW_of (List.mem_of_getElem? (i := 781) (by decide +kernel)) rfl
theorem w_X8_needSea : CWm yX8_needSea cX8_needSea 2 none 1 := ⟨g_cw_X8_needSea, g_ini_GyreWatch, ⟨by decide +kernel, by decide +kernel, by decide +kernel⟩, by decide⟩
theorem g_in_X8_needSea : Cond.instanceMethod yX8_needSea ∈ GW := GW_of (List.mem_of_getElem? (i := 780) (by decide +kernel)) rfl
theorem g_se_X8_needSea : Cond.selects (RN 8) yX8_needSea yX8_needSea ∈ GW := GW_of (List.mem_of_getElem? (i := 11) (by decide +kernel)) rfl
theorem g_ml_RX8_251 : Cond.methodLink RX8 251 yX8_needSea ∈ GW := GW_of (List.mem_of_getElem? (i := 778) (by decide +kernel)) rfl
theorem g_cw_X8_meanWithout : Cond.code yX8_meanWithout cX8_meanWithout 6 (some .int) ∈ GW := GW_of (List.mem_of_getElem? (i := 786) (by decide +kernel)) rfl
theorem w_X8_meanWithout : CWm yX8_meanWithout cX8_meanWithout 6 (some .int) 4 := ⟨g_cw_X8_meanWithout, g_ini_GyreWatch, ⟨by decide +kernel, by decide +kernel, by decide +kernel⟩, by decide⟩
theorem g_in_X8_meanWithout : Cond.instanceMethod yX8_meanWithout ∈ GW := GW_of (List.mem_of_getElem? (i := 785) (by decide +kernel)) rfl
theorem g_se_X8_meanWithout : Cond.selects (RN 8) yX8_meanWithout yX8_meanWithout ∈ GW := GW_of (List.mem_of_getElem? (i := 12) (by decide +kernel)) rfl
theorem g_ml_RX8_254 : Cond.methodLink RX8 254 yX8_meanWithout ∈ GW := GW_of (List.mem_of_getElem? (i := 783) (by decide +kernel)) rfl
theorem g_cw_X8_mean : Cond.code yX8_mean cX8_mean 4 (some .int) ∈ GW := GW_of (List.mem_of_getElem? (i := 774) (by decide +kernel)) rfl
theorem w_X8_mean : CWm yX8_mean cX8_mean 4 (some .int) 3 := ⟨g_cw_X8_mean, g_ini_GyreWatch, ⟨by decide +kernel, by decide +kernel, by decide +kernel⟩, by decide⟩
theorem g_in_X8_mean : Cond.instanceMethod yX8_mean ∈ GW := GW_of (List.mem_of_getElem? (i := 772) (by decide +kernel)) rfl
theorem g_se_X8_mean : Cond.selects (RN 8) yX8_mean yX8_mean ∈ GW := GW_of (List.mem_of_getElem? (i := 773) (by decide +kernel)) rfl
theorem g_ml_RL_70 : Cond.methodLink RL 70 yX8_mean ∈ GW := GW_of (List.mem_of_getElem? (i := 771) (by decide +kernel)) rfl
theorem g_cw_X9_weight : Cond.code yX9_weight cX9_weight 6 (some .int) ∈ GW := GW_of (List.mem_of_getElem? (i := 1166) (by decide +kernel)) rfl
theorem w_X9_weight : CWm yX9_weight cX9_weight 6 (some .int) 4 := ⟨g_cw_X9_weight, g_ini_GyreWatchModel, ⟨by decide +kernel, by decide +kernel, by decide +kernel⟩, by decide⟩
theorem g_in_X9_weight : Cond.instanceMethod yX9_weight ∈ GW := GW_of (List.mem_of_getElem? (i := 1165) (by decide +kernel)) rfl
theorem g_se_X9_weight : Cond.selects (RN 9) yX9_weight yX9_weight ∈ GW := GW_of (List.mem_of_getElem? (i := 33) (by decide +kernel)) rfl
theorem g_ml_RX9_185 : Cond.methodLink RX9 185 yX9_weight ∈ GW := GW_of (List.mem_of_getElem? (i := 1163) (by decide +kernel)) rfl
theorem g_cw_X9_weights : Cond.code yX9_weights cX9_weights 7 (some .int) ∈ GW := GW_of (List.mem_of_getElem? (i := 1162) (by decide +kernel)) rfl
theorem w_X9_weights : CWm yX9_weights cX9_weights 7 (some .int) 4 := ⟨g_cw_X9_weights, g_ini_GyreWatchModel, ⟨by decide +kernel, by decide +kernel, by decide +kernel⟩, by decide⟩
theorem g_in_X9_weights : Cond.instanceMethod yX9_weights ∈ GW := GW_of (List.mem_of_getElem? (i := 1161) (by decide +kernel)) rfl
theorem g_se_X9_weights : Cond.selects (RN 9) yX9_weights yX9_weights ∈ GW := GW_of (List.mem_of_getElem? (i := 32) (by decide +kernel)) rfl
theorem g_ml_RX9_189 : Cond.methodLink RX9 189 yX9_weights ∈ GW := GW_of (List.mem_of_getElem? (i := 1159) (by decide +kernel)) rfl
theorem g_cw_X9_misses : Cond.code yX9_misses cX9_misses 4 (some .int) ∈ GW := GW_of (List.mem_of_getElem? (i := 1158) (by decide +kernel)) rfl
theorem w_X9_misses : CWm yX9_misses cX9_misses 4 (some .int) 3 := ⟨g_cw_X9_misses, g_ini_GyreWatchModel, ⟨by decide +kernel, by decide +kernel, by decide +kernel⟩, by decide⟩
theorem g_in_X9_misses : Cond.instanceMethod yX9_misses ∈ GW := GW_of (List.mem_of_getElem? (i := 1157) (by decide +kernel)) rfl
theorem g_se_X9_misses : Cond.selects (RN 9) yX9_misses yX9_misses ∈ GW := GW_of (List.mem_of_getElem? (i := 31) (by decide +kernel)) rfl
theorem g_ml_RX9_192 : Cond.methodLink RX9 192 yX9_misses ∈ GW := GW_of (List.mem_of_getElem? (i := 1155) (by decide +kernel)) rfl
theorem g_cw_X9_meanOf : Cond.code yX9_meanOf cX9_meanOf 8 (some .int) ∈ GW := GW_of (List.mem_of_getElem? (i := 1170) (by decide +kernel)) rfl
theorem w_X9_meanOf : CWm yX9_meanOf cX9_meanOf 8 (some .int) 4 := ⟨g_cw_X9_meanOf, g_ini_GyreWatchModel, ⟨by decide +kernel, by decide +kernel, by decide +kernel⟩, by decide⟩
theorem g_in_X9_meanOf : Cond.instanceMethod yX9_meanOf ∈ GW := GW_of (List.mem_of_getElem? (i := 1169) (by decide +kernel)) rfl
theorem g_se_X9_meanOf : Cond.selects (RN 9) yX9_meanOf yX9_meanOf ∈ GW := GW_of (List.mem_of_getElem? (i := 34) (by decide +kernel)) rfl
theorem g_ml_RX9_196 : Cond.methodLink RX9 196 yX9_meanOf ∈ GW := GW_of (List.mem_of_getElem? (i := 1167) (by decide +kernel)) rfl
theorem g_cw_X8_error : Cond.code yX8_error cX8_error 5 (some .int) ∈ GW := GW_of (List.mem_of_getElem? (i := 813) (by decide +kernel)) rfl
theorem w_X8_error : CWm yX8_error cX8_error 5 (some .int) 3 := ⟨g_cw_X8_error, g_ini_GyreWatch, ⟨by decide +kernel, by decide +kernel, by decide +kernel⟩, by decide⟩
theorem g_in_X8_error : Cond.instanceMethod yX8_error ∈ GW := GW_of (List.mem_of_getElem? (i := 811) (by decide +kernel)) rfl
theorem g_se_X8_error : Cond.selects (RN 8) yX8_error yX8_error ∈ GW := GW_of (List.mem_of_getElem? (i := 812) (by decide +kernel)) rfl
theorem g_ml_RL_73 : Cond.methodLink RL 73 yX8_error ∈ GW := GW_of (List.mem_of_getElem? (i := 810) (by decide +kernel)) rfl
theorem g_cw_X8_residual : Cond.code yX8_residual cX8_residual 4 (some .int) ∈ GW := GW_of (List.mem_of_getElem? (i := 820) (by decide +kernel)) rfl
theorem w_X8_residual : CWm yX8_residual cX8_residual 4 (some .int) 2 := ⟨g_cw_X8_residual, g_ini_GyreWatch, ⟨by decide +kernel, by decide +kernel, by decide +kernel⟩, by decide⟩
theorem g_in_X8_residual : Cond.instanceMethod yX8_residual ∈ GW := GW_of (List.mem_of_getElem? (i := 818) (by decide +kernel)) rfl
theorem g_se_X8_residual : Cond.selects (RN 8) yX8_residual yX8_residual ∈ GW := GW_of (List.mem_of_getElem? (i := 819) (by decide +kernel)) rfl
theorem g_ml_RL_76 : Cond.methodLink RL 76 yX8_residual ∈ GW := GW_of (List.mem_of_getElem? (i := 817) (by decide +kernel)) rfl
theorem g_cw_X8_chance : Cond.code yX8_chance cX8_chance 4 (some .int) ∈ GW := GW_of (List.mem_of_getElem? (i := 827) (by decide +kernel)) rfl
theorem w_X8_chance : CWm yX8_chance cX8_chance 4 (some .int) 2 := ⟨g_cw_X8_chance, g_ini_GyreWatch, ⟨by decide +kernel, by decide +kernel, by decide +kernel⟩, by decide⟩
theorem g_in_X8_chance : Cond.instanceMethod yX8_chance ∈ GW := GW_of (List.mem_of_getElem? (i := 825) (by decide +kernel)) rfl
theorem g_se_X8_chance : Cond.selects (RN 8) yX8_chance yX8_chance ∈ GW := GW_of (List.mem_of_getElem? (i := 826) (by decide +kernel)) rfl
theorem g_ml_RL_79 : Cond.methodLink RL 79 yX8_chance ∈ GW := GW_of (List.mem_of_getElem? (i := 824) (by decide +kernel)) rfl
theorem g_cw_X6_bestOf : Cond.code yX6_bestOf cX6_bestOf 3 (some .int) ∈ GW := GW_of (List.mem_of_getElem? (i := 837) (by decide +kernel)) rfl
theorem w_X6_bestOf : CWm yX6_bestOf cX6_bestOf 3 (some .int) 1 := ⟨g_cw_X6_bestOf, g_ini_GyreWatch_Search, ⟨by decide +kernel, by decide +kernel, by decide +kernel⟩, by decide⟩
theorem g_ml_RX8_261 : Cond.methodLink RX8 261 yX6_bestOf ∈ GW := GW_of (List.mem_of_getElem? (i := 835) (by decide +kernel)) rfl
theorem g_st_X6_bestOf : Cond.static yX6_bestOf ∈ GW := GW_of (List.mem_of_getElem? (i := 836) (by decide +kernel)) rfl
theorem g_cw_X8_best : Cond.code yX8_best cX8_best 2 (some .int) ∈ GW := GW_of (List.mem_of_getElem? (i := 834) (by decide +kernel)) rfl
theorem w_X8_best : CWm yX8_best cX8_best 2 (some .int) 1 := ⟨g_cw_X8_best, g_ini_GyreWatch, ⟨by decide +kernel, by decide +kernel, by decide +kernel⟩, by decide⟩
theorem g_in_X8_best : Cond.instanceMethod yX8_best ∈ GW := GW_of (List.mem_of_getElem? (i := 832) (by decide +kernel)) rfl
theorem g_se_X8_best : Cond.selects (RN 8) yX8_best yX8_best ∈ GW := GW_of (List.mem_of_getElem? (i := 833) (by decide +kernel)) rfl
theorem g_ml_RL_82 : Cond.methodLink RL 82 yX8_best ∈ GW := GW_of (List.mem_of_getElem? (i := 831) (by decide +kernel)) rfl
theorem g_cw_X9_bestOf : Cond.code yX9_bestOf cX9_bestOf 4 (some .int) ∈ GW := GW_of (List.mem_of_getElem? (i := 1190) (by decide +kernel)) rfl
theorem w_X9_bestOf : CWm yX9_bestOf cX9_bestOf 4 (some .int) 1 := ⟨g_cw_X9_bestOf, g_ini_GyreWatchModel, ⟨by decide +kernel, by decide +kernel, by decide +kernel⟩, by decide⟩
theorem g_in_X9_bestOf : Cond.instanceMethod yX9_bestOf ∈ GW := GW_of (List.mem_of_getElem? (i := 1189) (by decide +kernel)) rfl
theorem g_se_X9_bestOf : Cond.selects (RN 9) yX9_bestOf yX9_bestOf ∈ GW := GW_of (List.mem_of_getElem? (i := 35) (by decide +kernel)) rfl
theorem g_ml_RX9_199 : Cond.methodLink RX9 199 yX9_bestOf ∈ GW := GW_of (List.mem_of_getElem? (i := 1187) (by decide +kernel)) rfl
theorem g_ml_RX6_46 : Cond.methodLink RX6 46 yX6_bestOf ∈ GW := GW_of (List.mem_of_getElem? (i := 849) (by decide +kernel)) rfl
theorem g_ml_RX6_50 : Cond.methodLink RX6 50 yX6_lookAt ∈ GW := GW_of (List.mem_of_getElem? (i := 850) (by decide +kernel)) rfl
theorem g_cw_X6_tryLegs : Cond.code yX6_tryLegs cX6_tryLegs 5 (some .int) ∈ GW := GW_of (List.mem_of_getElem? (i := 848) (by decide +kernel)) rfl
theorem w_X6_tryLegs : CWm yX6_tryLegs cX6_tryLegs 5 (some .int) 2 := ⟨g_cw_X6_tryLegs, g_ini_GyreWatch_Search, ⟨by decide +kernel, by decide +kernel, by decide +kernel⟩, by decide⟩
theorem g_in_X6_tryLegs : Cond.instanceMethod yX6_tryLegs ∈ GW := GW_of (List.mem_of_getElem? (i := 846) (by decide +kernel)) rfl
theorem g_se_X6_tryLegs : Cond.selects (RN 6) yX6_tryLegs yX6_tryLegs ∈ GW := GW_of (List.mem_of_getElem? (i := 847) (by decide +kernel)) rfl
theorem g_ml_RX8_264 : Cond.methodLink RX8 264 yX6_tryLegs ∈ GW := GW_of (List.mem_of_getElem? (i := 845) (by decide +kernel)) rfl
theorem g_cw_X8_plan : Cond.code yX8_plan cX8_plan 5 (some .int) ∈ GW := GW_of (List.mem_of_getElem? (i := 844) (by decide +kernel)) rfl
theorem w_X8_plan : CWm yX8_plan cX8_plan 5 (some .int) 3 := ⟨g_cw_X8_plan, g_ini_GyreWatch, ⟨by decide +kernel, by decide +kernel, by decide +kernel⟩, by decide⟩
theorem g_in_X8_plan : Cond.instanceMethod yX8_plan ∈ GW := GW_of (List.mem_of_getElem? (i := 842) (by decide +kernel)) rfl
theorem g_se_X8_plan : Cond.selects (RN 8) yX8_plan yX8_plan ∈ GW := GW_of (List.mem_of_getElem? (i := 843) (by decide +kernel)) rfl
theorem g_ml_RL_85 : Cond.methodLink RL 85 yX8_plan ∈ GW := GW_of (List.mem_of_getElem? (i := 841) (by decide +kernel)) rfl
theorem g_ml_RX3_19 : Cond.methodLink RX3 19 Lib.Math.abs.name ∈ GW := GW_of (List.mem_of_getElem? (i := 867) (by decide +kernel)) rfl
theorem g_cw_X3_heightAt : Cond.code yX3_heightAt cX3_heightAt 3 (some .int) ∈ GW := GW_of (List.mem_of_getElem? (i := 866) (by decide +kernel)) rfl
theorem w_X3_heightAt : CWm yX3_heightAt cX3_heightAt 3 (some .int) 1 := ⟨g_cw_X3_heightAt, g_ini_GyreWatch_Part, ⟨by decide +kernel, by decide +kernel, by decide +kernel⟩, by decide⟩
theorem g_in_X3_heightAt : Cond.instanceMethod yX3_heightAt ∈ GW := GW_of (List.mem_of_getElem? (i := 864) (by decide +kernel)) rfl
theorem g_se_X3_heightAt : Cond.selects (RN 3) yX3_heightAt yX3_heightAt ∈ GW := GW_of (List.mem_of_getElem? (i := 865) (by decide +kernel)) rfl
theorem g_ml_RX8_313 : Cond.methodLink RX8 313 yX3_heightAt ∈ GW := GW_of (List.mem_of_getElem? (i := 863) (by decide +kernel)) rfl
theorem g_co_RX8_267 : Cond.constant RX8 267 (100000 : Int32) ∈ GW := GW_of (List.mem_of_getElem? (i := 858) (by decide +kernel)) rfl
theorem g_cw_X8_tideAt : Cond.code yX8_tideAt cX8_tideAt 7 (some .int) ∈ GW := GW_of (List.mem_of_getElem? (i := 862) (by decide +kernel)) rfl
theorem w_X8_tideAt : CWm yX8_tideAt cX8_tideAt 7 (some .int) 1 := ⟨g_cw_X8_tideAt, g_ini_GyreWatch, ⟨by decide +kernel, by decide +kernel, by decide +kernel⟩, by decide⟩
theorem g_in_X8_tideAt : Cond.instanceMethod yX8_tideAt ∈ GW := GW_of (List.mem_of_getElem? (i := 861) (by decide +kernel)) rfl
theorem g_se_X8_tideAt : Cond.selects (RN 8) yX8_tideAt yX8_tideAt ∈ GW := GW_of (List.mem_of_getElem? (i := 14) (by decide +kernel)) rfl
theorem g_ml_RX8_268 : Cond.methodLink RX8 268 yX8_tideAt ∈ GW := GW_of (List.mem_of_getElem? (i := 859) (by decide +kernel)) rfl
theorem g_cw_X8_tide : Cond.code yX8_tide cX8_tide 2 (some .int) ∈ GW := GW_of (List.mem_of_getElem? (i := 857) (by decide +kernel)) rfl
theorem w_X8_tide : CWm yX8_tide cX8_tide 2 (some .int) 1 := ⟨g_cw_X8_tide, g_ini_GyreWatch, ⟨by decide +kernel, by decide +kernel, by decide +kernel⟩, by decide⟩
theorem g_in_X8_tide : Cond.instanceMethod yX8_tide ∈ GW := GW_of (List.mem_of_getElem? (i := 855) (by decide +kernel)) rfl
theorem g_se_X8_tide : Cond.selects (RN 8) yX8_tide yX8_tide ∈ GW := GW_of (List.mem_of_getElem? (i := 856) (by decide +kernel)) rfl
theorem g_ml_RL_88 : Cond.methodLink RL 88 yX8_tide ∈ GW := GW_of (List.mem_of_getElem? (i := 854) (by decide +kernel)) rfl
theorem g_co_RX9_202 : Cond.constant RX9 202 (100000 : Int32) ∈ GW := GW_of (List.mem_of_getElem? (i := 1199) (by decide +kernel)) rfl
theorem g_cw_X9_tideAt : Cond.code yX9_tideAt cX9_tideAt 5 (some .int) ∈ GW := GW_of (List.mem_of_getElem? (i := 1203) (by decide +kernel)) rfl
theorem w_X9_tideAt : CWm yX9_tideAt cX9_tideAt 5 (some .int) 1 := ⟨g_cw_X9_tideAt, g_ini_GyreWatchModel, ⟨by decide +kernel, by decide +kernel, by decide +kernel⟩, by decide⟩
theorem g_in_X9_tideAt : Cond.instanceMethod yX9_tideAt ∈ GW := GW_of (List.mem_of_getElem? (i := 1202) (by decide +kernel)) rfl
theorem g_se_X9_tideAt : Cond.selects (RN 9) yX9_tideAt yX9_tideAt ∈ GW := GW_of (List.mem_of_getElem? (i := 36) (by decide +kernel)) rfl
theorem g_ml_RX9_203 : Cond.methodLink RX9 203 yX9_tideAt ∈ GW := GW_of (List.mem_of_getElem? (i := 1200) (by decide +kernel)) rfl
theorem g_ml_RX8_271 : Cond.methodLink RX8 271 Lib.Math.min.name ∈ GW := GW_of (List.mem_of_getElem? (i := 875) (by decide +kernel)) rfl
theorem g_cw_X8_highest : Cond.code yX8_highest cX8_highest 7 (some .int) ∈ GW := GW_of (List.mem_of_getElem? (i := 874) (by decide +kernel)) rfl
theorem w_X8_highest : CWm yX8_highest cX8_highest 7 (some .int) 2 := ⟨g_cw_X8_highest, g_ini_GyreWatch, ⟨by decide +kernel, by decide +kernel, by decide +kernel⟩, by decide⟩
theorem g_in_X8_highest : Cond.instanceMethod yX8_highest ∈ GW := GW_of (List.mem_of_getElem? (i := 872) (by decide +kernel)) rfl
theorem g_se_X8_highest : Cond.selects (RN 8) yX8_highest yX8_highest ∈ GW := GW_of (List.mem_of_getElem? (i := 873) (by decide +kernel)) rfl
theorem g_ml_RL_91 : Cond.methodLink RL 91 yX8_highest ∈ GW := GW_of (List.mem_of_getElem? (i := 871) (by decide +kernel)) rfl
theorem g_inst_8 : Cond.instantiable (RN 8) (nF 8) ∈ GW := GW_of (List.mem_of_getElem? (i := 58) (by decide +kernel)) rfl
theorem g_iniN_8 : Cond.initialized (RN 8) ∈ GW := GW_of (List.mem_of_getElem? (i := 38) (by decide +kernel)) rfl
theorem g_clN_RL_8 : Cond.classLink RL 8 (RN 8) ∈ GW := GW_of (List.mem_of_getElem? (i := 57) (by decide +kernel)) rfl
theorem g_cw_X8_init : Cond.code yX8_init cX8_init 1 none ∈ GW := GW_of (List.mem_of_getElem? (i := 61) (by decide +kernel)) rfl
theorem w_X8_init : CWm yX8_init cX8_init 1 none 0 := ⟨g_cw_X8_init, g_ini_GyreWatch, ⟨by decide +kernel, by decide +kernel, by decide +kernel⟩, by decide⟩
theorem g_in_X8_init : Cond.instanceMethod yX8_init ∈ GW := GW_of (List.mem_of_getElem? (i := 60) (by decide +kernel)) rfl
theorem g_ml_RL_94 : Cond.methodLink RL 94 yX8_init ∈ GW := GW_of (List.mem_of_getElem? (i := 59) (by decide +kernel)) rfl
theorem g_inst_9 : Cond.instantiable (RN 9) (nF 9) ∈ GW := GW_of (List.mem_of_getElem? (i := 877) (by decide +kernel)) rfl
theorem g_iniN_9 : Cond.initialized (RN 9) ∈ GW := GW_of (List.mem_of_getElem? (i := 44) (by decide +kernel)) rfl
theorem g_clN_RL_95 : Cond.classLink RL 95 (RN 9) ∈ GW := GW_of (List.mem_of_getElem? (i := 876) (by decide +kernel)) rfl
theorem g_cw_X9_init : Cond.code yX9_init cX9_init 2 none ∈ GW := GW_of (List.mem_of_getElem? (i := 880) (by decide +kernel)) rfl
theorem w_X9_init : CWm yX9_init cX9_init 2 none 0 := ⟨g_cw_X9_init, g_ini_GyreWatchModel, ⟨by decide +kernel, by decide +kernel, by decide +kernel⟩, by decide⟩
theorem g_in_X9_init : Cond.instanceMethod yX9_init ∈ GW := GW_of (List.mem_of_getElem? (i := 879) (by decide +kernel)) rfl
theorem g_ml_RL_97 : Cond.methodLink RL 97 yX9_init ∈ GW := GW_of (List.mem_of_getElem? (i := 878) (by decide +kernel)) rfl
theorem g_arr_30 : Cond.arrayClass (tyK 30) ∈ GW := GW_of (List.mem_of_getElem? (i := 1208) (by decide +kernel)) rfl
theorem g_cw_L_land : Cond.codeWith yL_land cL_land 4 (some .int) [(0, 9, 12, 13), (0, 9, 15, 15)] ∈ GW := GW_of (List.mem_of_getElem? (i := 218) (by decide +kernel)) rfl
theorem g_ini_GyreWatchLaw : Cond.initialized RL ∈ GW := GW_of (List.mem_of_getElem? (i := 37) (by decide +kernel)) rfl
theorem w_L_land : CWw yL_land cL_land 4 (some .int) [(0, 9, 12, 13), (0, 9, 15, 15)] 3 := ⟨g_cw_L_land, g_ini_GyreWatchLaw, ⟨by decide +kernel, by decide +kernel, by decide +kernel⟩, by decide⟩
theorem g_ml_RL_98 : Cond.methodLink RL 98 yL_land ∈ GW := GW_of (List.mem_of_getElem? (i := 216) (by decide +kernel)) rfl
theorem g_st_L_land : Cond.static yL_land ∈ GW := GW_of (List.mem_of_getElem? (i := 217) (by decide +kernel)) rfl
theorem g_cw_X9_land : Cond.code yX9_land cX9_land 5 (some .int) ∈ GW := GW_of (List.mem_of_getElem? (i := 1001) (by decide +kernel)) rfl
theorem w_X9_land : CWm yX9_land cX9_land 5 (some .int) 1 := ⟨g_cw_X9_land, g_ini_GyreWatchModel, ⟨by decide +kernel, by decide +kernel, by decide +kernel⟩, by decide⟩
theorem g_in_X9_land : Cond.instanceMethod yX9_land ∈ GW := GW_of (List.mem_of_getElem? (i := 999) (by decide +kernel)) rfl
theorem g_se_X9_land : Cond.selects (RN 9) yX9_land yX9_land ∈ GW := GW_of (List.mem_of_getElem? (i := 1000) (by decide +kernel)) rfl
theorem g_ml_RL_103 : Cond.methodLink RL 103 yX9_land ∈ GW := GW_of (List.mem_of_getElem? (i := 998) (by decide +kernel)) rfl
theorem g_cw_X9_thrown : Cond.code yX9_thrown cX9_thrown 1 (some .int) ∈ GW := GW_of (List.mem_of_getElem? (i := 997) (by decide +kernel)) rfl
theorem w_X9_thrown : CWm yX9_thrown cX9_thrown 1 (some .int) 0 := ⟨g_cw_X9_thrown, g_ini_GyreWatchModel, ⟨by decide +kernel, by decide +kernel, by decide +kernel⟩, by decide⟩
theorem g_in_X9_thrown : Cond.instanceMethod yX9_thrown ∈ GW := GW_of (List.mem_of_getElem? (i := 995) (by decide +kernel)) rfl
theorem g_se_X9_thrown : Cond.selects (RN 9) yX9_thrown yX9_thrown ∈ GW := GW_of (List.mem_of_getElem? (i := 996) (by decide +kernel)) rfl
theorem g_ml_RL_104 : Cond.methodLink RL 104 yX9_thrown ∈ GW := GW_of (List.mem_of_getElem? (i := 994) (by decide +kernel)) rfl
theorem g_cw_L_current : Cond.codeWith yL_current cL_current 5 (some .int) [(0, 10, 13, 13), (0, 10, 17, 21)] ∈ GW := GW_of (List.mem_of_getElem? (i := 346) (by decide +kernel)) rfl
theorem w_L_current : CWw yL_current cL_current 5 (some .int) [(0, 10, 13, 13), (0, 10, 17, 21)] 4 := ⟨g_cw_L_current, g_ini_GyreWatchLaw, ⟨by decide +kernel, by decide +kernel, by decide +kernel⟩, by decide⟩
theorem g_ml_RL_108 : Cond.methodLink RL 108 yL_current ∈ GW := GW_of (List.mem_of_getElem? (i := 344) (by decide +kernel)) rfl
theorem g_st_L_current : Cond.static yL_current ∈ GW := GW_of (List.mem_of_getElem? (i := 345) (by decide +kernel)) rfl
theorem g_cw_X9_current : Cond.code yX9_current cX9_current 4 (some .int) ∈ GW := GW_of (List.mem_of_getElem? (i := 1011) (by decide +kernel)) rfl
theorem w_X9_current : CWm yX9_current cX9_current 4 (some .int) 2 := ⟨g_cw_X9_current, g_ini_GyreWatchModel, ⟨by decide +kernel, by decide +kernel, by decide +kernel⟩, by decide⟩
theorem g_in_X9_current : Cond.instanceMethod yX9_current ∈ GW := GW_of (List.mem_of_getElem? (i := 1009) (by decide +kernel)) rfl
theorem g_se_X9_current : Cond.selects (RN 9) yX9_current yX9_current ∈ GW := GW_of (List.mem_of_getElem? (i := 1010) (by decide +kernel)) rfl
theorem g_ml_RL_111 : Cond.methodLink RL 111 yX9_current ∈ GW := GW_of (List.mem_of_getElem? (i := 1008) (by decide +kernel)) rfl
theorem g_cw_L_sun : Cond.codeWith yL_sun cL_sun 5 (some .int) [(0, 10, 13, 21)] ∈ GW := GW_of (List.mem_of_getElem? (i := 373) (by decide +kernel)) rfl
theorem w_L_sun : CWw yL_sun cL_sun 5 (some .int) [(0, 10, 13, 21)] 4 := ⟨g_cw_L_sun, g_ini_GyreWatchLaw, ⟨by decide +kernel, by decide +kernel, by decide +kernel⟩, by decide⟩
theorem g_ml_RL_112 : Cond.methodLink RL 112 yL_sun ∈ GW := GW_of (List.mem_of_getElem? (i := 371) (by decide +kernel)) rfl
theorem g_st_L_sun : Cond.static yL_sun ∈ GW := GW_of (List.mem_of_getElem? (i := 372) (by decide +kernel)) rfl
theorem g_cw_X9_sun : Cond.code yX9_sun cX9_sun 4 (some .int) ∈ GW := GW_of (List.mem_of_getElem? (i := 1015) (by decide +kernel)) rfl
theorem w_X9_sun : CWm yX9_sun cX9_sun 4 (some .int) 2 := ⟨g_cw_X9_sun, g_ini_GyreWatchModel, ⟨by decide +kernel, by decide +kernel, by decide +kernel⟩, by decide⟩
theorem g_in_X9_sun : Cond.instanceMethod yX9_sun ∈ GW := GW_of (List.mem_of_getElem? (i := 1013) (by decide +kernel)) rfl
theorem g_se_X9_sun : Cond.selects (RN 9) yX9_sun yX9_sun ∈ GW := GW_of (List.mem_of_getElem? (i := 1014) (by decide +kernel)) rfl
theorem g_ml_RL_114 : Cond.methodLink RL 114 yX9_sun ∈ GW := GW_of (List.mem_of_getElem? (i := 1012) (by decide +kernel)) rfl
theorem g_cw_L_pass : Cond.codeWith yL_pass cL_pass 4 (some .int) [(0, 9, 12, 21), (0, 9, 15, 15)] ∈ GW := GW_of (List.mem_of_getElem? (i := 380) (by decide +kernel)) rfl
theorem w_L_pass : CWw yL_pass cL_pass 4 (some .int) [(0, 9, 12, 21), (0, 9, 15, 15)] 3 := ⟨g_cw_L_pass, g_ini_GyreWatchLaw, ⟨by decide +kernel, by decide +kernel, by decide +kernel⟩, by decide⟩
theorem g_ml_RL_115 : Cond.methodLink RL 115 yL_pass ∈ GW := GW_of (List.mem_of_getElem? (i := 378) (by decide +kernel)) rfl
theorem g_st_L_pass : Cond.static yL_pass ∈ GW := GW_of (List.mem_of_getElem? (i := 379) (by decide +kernel)) rfl
theorem g_cw_X9_pass : Cond.code yX9_pass cX9_pass 4 (some .int) ∈ GW := GW_of (List.mem_of_getElem? (i := 1019) (by decide +kernel)) rfl
theorem w_X9_pass : CWm yX9_pass cX9_pass 4 (some .int) 1 := ⟨g_cw_X9_pass, g_ini_GyreWatchModel, ⟨by decide +kernel, by decide +kernel, by decide +kernel⟩, by decide⟩
theorem g_in_X9_pass : Cond.instanceMethod yX9_pass ∈ GW := GW_of (List.mem_of_getElem? (i := 1017) (by decide +kernel)) rfl
theorem g_se_X9_pass : Cond.selects (RN 9) yX9_pass yX9_pass ∈ GW := GW_of (List.mem_of_getElem? (i := 1018) (by decide +kernel)) rfl
theorem g_ml_RL_117 : Cond.methodLink RL 117 yX9_pass ∈ GW := GW_of (List.mem_of_getElem? (i := 1016) (by decide +kernel)) rfl
theorem g_cw_L_lay : Cond.codeWith yL_lay cL_lay 7 (some .int) [(0, 14, 17, 13), (0, 14, 21, 21), (0, 14, 25, 15)] ∈ GW := GW_of (List.mem_of_getElem? (i := 522) (by decide +kernel)) rfl
theorem w_L_lay : CWw yL_lay cL_lay 7 (some .int) [(0, 14, 17, 13), (0, 14, 21, 21), (0, 14, 25, 15)] 6 := ⟨g_cw_L_lay, g_ini_GyreWatchLaw, ⟨by decide +kernel, by decide +kernel, by decide +kernel⟩, by decide⟩
theorem g_ml_RL_118 : Cond.methodLink RL 118 yL_lay ∈ GW := GW_of (List.mem_of_getElem? (i := 520) (by decide +kernel)) rfl
theorem g_st_L_lay : Cond.static yL_lay ∈ GW := GW_of (List.mem_of_getElem? (i := 521) (by decide +kernel)) rfl
theorem g_cw_X9_lay : Cond.code yX9_lay cX9_lay 5 (some .int) ∈ GW := GW_of (List.mem_of_getElem? (i := 1063) (by decide +kernel)) rfl
theorem w_X9_lay : CWm yX9_lay cX9_lay 5 (some .int) 4 := ⟨g_cw_X9_lay, g_ini_GyreWatchModel, ⟨by decide +kernel, by decide +kernel, by decide +kernel⟩, by decide⟩
theorem g_in_X9_lay : Cond.instanceMethod yX9_lay ∈ GW := GW_of (List.mem_of_getElem? (i := 1061) (by decide +kernel)) rfl
theorem g_se_X9_lay : Cond.selects (RN 9) yX9_lay yX9_lay ∈ GW := GW_of (List.mem_of_getElem? (i := 1062) (by decide +kernel)) rfl
theorem g_ml_RL_121 : Cond.methodLink RL 121 yX9_lay ∈ GW := GW_of (List.mem_of_getElem? (i := 1060) (by decide +kernel)) rfl
theorem g_cw_L_station : Cond.codeWith yL_station cL_station 5 (some .int) [(0, 10, 13, 13), (0, 10, 17, 21), (0, 10, 21, 15)] ∈ GW := GW_of (List.mem_of_getElem? (i := 573) (by decide +kernel)) rfl
theorem w_L_station : CWw yL_station cL_station 5 (some .int) [(0, 10, 13, 13), (0, 10, 17, 21), (0, 10, 21, 15)] 4 := ⟨g_cw_L_station, g_ini_GyreWatchLaw, ⟨by decide +kernel, by decide +kernel, by decide +kernel⟩, by decide⟩
theorem g_ml_RL_122 : Cond.methodLink RL 122 yL_station ∈ GW := GW_of (List.mem_of_getElem? (i := 571) (by decide +kernel)) rfl
theorem g_st_L_station : Cond.static yL_station ∈ GW := GW_of (List.mem_of_getElem? (i := 572) (by decide +kernel)) rfl
theorem g_cw_X9_station : Cond.code yX9_station cX9_station 3 (some .int) ∈ GW := GW_of (List.mem_of_getElem? (i := 1067) (by decide +kernel)) rfl
theorem w_X9_station : CWm yX9_station cX9_station 3 (some .int) 2 := ⟨g_cw_X9_station, g_ini_GyreWatchModel, ⟨by decide +kernel, by decide +kernel, by decide +kernel⟩, by decide⟩
theorem g_in_X9_station : Cond.instanceMethod yX9_station ∈ GW := GW_of (List.mem_of_getElem? (i := 1065) (by decide +kernel)) rfl
theorem g_se_X9_station : Cond.selects (RN 9) yX9_station yX9_station ∈ GW := GW_of (List.mem_of_getElem? (i := 1066) (by decide +kernel)) rfl
theorem g_ml_RL_124 : Cond.methodLink RL 124 yX9_station ∈ GW := GW_of (List.mem_of_getElem? (i := 1064) (by decide +kernel)) rfl
theorem g_cw_L_storm : Cond.codeWith yL_storm cL_storm 5 (some .int) [(0, 10, 13, 21), (0, 10, 17, 15)] ∈ GW := GW_of (List.mem_of_getElem? (i := 597) (by decide +kernel)) rfl
theorem w_L_storm : CWw yL_storm cL_storm 5 (some .int) [(0, 10, 13, 21), (0, 10, 17, 15)] 4 := ⟨g_cw_L_storm, g_ini_GyreWatchLaw, ⟨by decide +kernel, by decide +kernel, by decide +kernel⟩, by decide⟩
theorem g_ml_RL_125 : Cond.methodLink RL 125 yL_storm ∈ GW := GW_of (List.mem_of_getElem? (i := 595) (by decide +kernel)) rfl
theorem g_st_L_storm : Cond.static yL_storm ∈ GW := GW_of (List.mem_of_getElem? (i := 596) (by decide +kernel)) rfl
theorem g_cw_X9_storm : Cond.code yX9_storm cX9_storm 5 (some .int) ∈ GW := GW_of (List.mem_of_getElem? (i := 1071) (by decide +kernel)) rfl
theorem w_X9_storm : CWm yX9_storm cX9_storm 5 (some .int) 2 := ⟨g_cw_X9_storm, g_ini_GyreWatchModel, ⟨by decide +kernel, by decide +kernel, by decide +kernel⟩, by decide⟩
theorem g_in_X9_storm : Cond.instanceMethod yX9_storm ∈ GW := GW_of (List.mem_of_getElem? (i := 1069) (by decide +kernel)) rfl
theorem g_se_X9_storm : Cond.selects (RN 9) yX9_storm yX9_storm ∈ GW := GW_of (List.mem_of_getElem? (i := 1070) (by decide +kernel)) rfl
theorem g_ml_RL_127 : Cond.methodLink RL 127 yX9_storm ∈ GW := GW_of (List.mem_of_getElem? (i := 1068) (by decide +kernel)) rfl
theorem g_cw_L_calibrate : Cond.codeWith yL_calibrate cL_calibrate 4 (some .int) [(0, 9, 12, 13), (0, 9, 15, 15)] ∈ GW := GW_of (List.mem_of_getElem? (i := 619) (by decide +kernel)) rfl
theorem w_L_calibrate : CWw yL_calibrate cL_calibrate 4 (some .int) [(0, 9, 12, 13), (0, 9, 15, 15)] 3 := ⟨g_cw_L_calibrate, g_ini_GyreWatchLaw, ⟨by decide +kernel, by decide +kernel, by decide +kernel⟩, by decide⟩
theorem g_ml_RL_128 : Cond.methodLink RL 128 yL_calibrate ∈ GW := GW_of (List.mem_of_getElem? (i := 617) (by decide +kernel)) rfl
theorem g_st_L_calibrate : Cond.static yL_calibrate ∈ GW := GW_of (List.mem_of_getElem? (i := 618) (by decide +kernel)) rfl
theorem g_cw_X9_calibrate : Cond.code yX9_calibrate cX9_calibrate 4 (some .int) ∈ GW := GW_of (List.mem_of_getElem? (i := 1075) (by decide +kernel)) rfl
theorem w_X9_calibrate : CWm yX9_calibrate cX9_calibrate 4 (some .int) 1 := ⟨g_cw_X9_calibrate, g_ini_GyreWatchModel, ⟨by decide +kernel, by decide +kernel, by decide +kernel⟩, by decide⟩
theorem g_in_X9_calibrate : Cond.instanceMethod yX9_calibrate ∈ GW := GW_of (List.mem_of_getElem? (i := 1073) (by decide +kernel)) rfl
theorem g_se_X9_calibrate : Cond.selects (RN 9) yX9_calibrate yX9_calibrate ∈ GW := GW_of (List.mem_of_getElem? (i := 1074) (by decide +kernel)) rfl
theorem g_ml_RL_130 : Cond.methodLink RL 130 yX9_calibrate ∈ GW := GW_of (List.mem_of_getElem? (i := 1072) (by decide +kernel)) rfl
theorem g_cw_L_flag : Cond.codeWith yL_flag cL_flag 5 (some .int) [(0, 10, 13, 13), (0, 10, 17, 21)] ∈ GW := GW_of (List.mem_of_getElem? (i := 643) (by decide +kernel)) rfl
theorem w_L_flag : CWw yL_flag cL_flag 5 (some .int) [(0, 10, 13, 13), (0, 10, 17, 21)] 4 := ⟨g_cw_L_flag, g_ini_GyreWatchLaw, ⟨by decide +kernel, by decide +kernel, by decide +kernel⟩, by decide⟩
theorem g_ml_RL_131 : Cond.methodLink RL 131 yL_flag ∈ GW := GW_of (List.mem_of_getElem? (i := 641) (by decide +kernel)) rfl
theorem g_st_L_flag : Cond.static yL_flag ∈ GW := GW_of (List.mem_of_getElem? (i := 642) (by decide +kernel)) rfl
theorem g_cw_X9_flag : Cond.code yX9_flag cX9_flag 4 (some .int) ∈ GW := GW_of (List.mem_of_getElem? (i := 1090) (by decide +kernel)) rfl
theorem w_X9_flag : CWm yX9_flag cX9_flag 4 (some .int) 2 := ⟨g_cw_X9_flag, g_ini_GyreWatchModel, ⟨by decide +kernel, by decide +kernel, by decide +kernel⟩, by decide⟩
theorem g_in_X9_flag : Cond.instanceMethod yX9_flag ∈ GW := GW_of (List.mem_of_getElem? (i := 1088) (by decide +kernel)) rfl
theorem g_se_X9_flag : Cond.selects (RN 9) yX9_flag yX9_flag ∈ GW := GW_of (List.mem_of_getElem? (i := 1089) (by decide +kernel)) rfl
theorem g_ml_RL_133 : Cond.methodLink RL 133 yX9_flag ∈ GW := GW_of (List.mem_of_getElem? (i := 1087) (by decide +kernel)) rfl
theorem g_cw_L_bound : Cond.codeWith yL_bound cL_bound 4 (some .int) [(0, 9, 12, 21)] ∈ GW := GW_of (List.mem_of_getElem? (i := 667) (by decide +kernel)) rfl
theorem w_L_bound : CWw yL_bound cL_bound 4 (some .int) [(0, 9, 12, 21)] 3 := ⟨g_cw_L_bound, g_ini_GyreWatchLaw, ⟨by decide +kernel, by decide +kernel, by decide +kernel⟩, by decide⟩
theorem g_ml_RL_134 : Cond.methodLink RL 134 yL_bound ∈ GW := GW_of (List.mem_of_getElem? (i := 665) (by decide +kernel)) rfl
theorem g_st_L_bound : Cond.static yL_bound ∈ GW := GW_of (List.mem_of_getElem? (i := 666) (by decide +kernel)) rfl
theorem g_cw_X9_bound : Cond.code yX9_bound cX9_bound 3 (some .int) ∈ GW := GW_of (List.mem_of_getElem? (i := 1106) (by decide +kernel)) rfl
theorem w_X9_bound : CWm yX9_bound cX9_bound 3 (some .int) 1 := ⟨g_cw_X9_bound, g_ini_GyreWatchModel, ⟨by decide +kernel, by decide +kernel, by decide +kernel⟩, by decide⟩
theorem g_in_X9_bound : Cond.instanceMethod yX9_bound ∈ GW := GW_of (List.mem_of_getElem? (i := 1104) (by decide +kernel)) rfl
theorem g_se_X9_bound : Cond.selects (RN 9) yX9_bound yX9_bound ∈ GW := GW_of (List.mem_of_getElem? (i := 1105) (by decide +kernel)) rfl
theorem g_ml_RL_136 : Cond.methodLink RL 136 yX9_bound ∈ GW := GW_of (List.mem_of_getElem? (i := 1103) (by decide +kernel)) rfl
theorem g_cw_L_search : Cond.codeWith yL_search cL_search 4 (some .int) [(0, 9, 12, 13), (0, 9, 15, 15)] ∈ GW := GW_of (List.mem_of_getElem? (i := 674) (by decide +kernel)) rfl
theorem w_L_search : CWw yL_search cL_search 4 (some .int) [(0, 9, 12, 13), (0, 9, 15, 15)] 3 := ⟨g_cw_L_search, g_ini_GyreWatchLaw, ⟨by decide +kernel, by decide +kernel, by decide +kernel⟩, by decide⟩
theorem g_ml_RL_137 : Cond.methodLink RL 137 yL_search ∈ GW := GW_of (List.mem_of_getElem? (i := 672) (by decide +kernel)) rfl
theorem g_st_L_search : Cond.static yL_search ∈ GW := GW_of (List.mem_of_getElem? (i := 673) (by decide +kernel)) rfl
theorem g_cw_X9_search : Cond.code yX9_search cX9_search 2 (some .int) ∈ GW := GW_of (List.mem_of_getElem? (i := 1110) (by decide +kernel)) rfl
theorem w_X9_search : CWm yX9_search cX9_search 2 (some .int) 1 := ⟨g_cw_X9_search, g_ini_GyreWatchModel, ⟨by decide +kernel, by decide +kernel, by decide +kernel⟩, by decide⟩
theorem g_in_X9_search : Cond.instanceMethod yX9_search ∈ GW := GW_of (List.mem_of_getElem? (i := 1108) (by decide +kernel)) rfl
theorem g_se_X9_search : Cond.selects (RN 9) yX9_search yX9_search ∈ GW := GW_of (List.mem_of_getElem? (i := 1109) (by decide +kernel)) rfl
theorem g_ml_RL_139 : Cond.methodLink RL 139 yX9_search ∈ GW := GW_of (List.mem_of_getElem? (i := 1107) (by decide +kernel)) rfl
theorem g_cw_L_leg : Cond.codeWith yL_leg cL_leg 6 (some .int) [(0, 12, 15, 13), (0, 12, 19, 21)] ∈ GW := GW_of (List.mem_of_getElem? (i := 698) (by decide +kernel)) rfl
theorem w_L_leg : CWw yL_leg cL_leg 6 (some .int) [(0, 12, 15, 13), (0, 12, 19, 21)] 5 := ⟨g_cw_L_leg, g_ini_GyreWatchLaw, ⟨by decide +kernel, by decide +kernel, by decide +kernel⟩, by decide⟩
theorem g_ml_RL_140 : Cond.methodLink RL 140 yL_leg ∈ GW := GW_of (List.mem_of_getElem? (i := 696) (by decide +kernel)) rfl
theorem g_st_L_leg : Cond.static yL_leg ∈ GW := GW_of (List.mem_of_getElem? (i := 697) (by decide +kernel)) rfl
theorem g_cw_X9_leg : Cond.code yX9_leg cX9_leg 5 (some .int) ∈ GW := GW_of (List.mem_of_getElem? (i := 1114) (by decide +kernel)) rfl
theorem w_X9_leg : CWm yX9_leg cX9_leg 5 (some .int) 3 := ⟨g_cw_X9_leg, g_ini_GyreWatchModel, ⟨by decide +kernel, by decide +kernel, by decide +kernel⟩, by decide⟩
theorem g_in_X9_leg : Cond.instanceMethod yX9_leg ∈ GW := GW_of (List.mem_of_getElem? (i := 1112) (by decide +kernel)) rfl
theorem g_se_X9_leg : Cond.selects (RN 9) yX9_leg yX9_leg ∈ GW := GW_of (List.mem_of_getElem? (i := 1113) (by decide +kernel)) rfl
theorem g_ml_RL_143 : Cond.methodLink RL 143 yX9_leg ∈ GW := GW_of (List.mem_of_getElem? (i := 1111) (by decide +kernel)) rfl
theorem g_cw_L_part : Cond.codeWith yL_part cL_part 6 (some .int) [(0, 12, 15, 21), (0, 12, 19, 15)] ∈ GW := GW_of (List.mem_of_getElem? (i := 714) (by decide +kernel)) rfl
theorem w_L_part : CWw yL_part cL_part 6 (some .int) [(0, 12, 15, 21), (0, 12, 19, 15)] 5 := ⟨g_cw_L_part, g_ini_GyreWatchLaw, ⟨by decide +kernel, by decide +kernel, by decide +kernel⟩, by decide⟩
theorem g_ml_RL_144 : Cond.methodLink RL 144 yL_part ∈ GW := GW_of (List.mem_of_getElem? (i := 712) (by decide +kernel)) rfl
theorem g_st_L_part : Cond.static yL_part ∈ GW := GW_of (List.mem_of_getElem? (i := 713) (by decide +kernel)) rfl
theorem g_cw_X9_part : Cond.code yX9_part cX9_part 4 (some .int) ∈ GW := GW_of (List.mem_of_getElem? (i := 1122) (by decide +kernel)) rfl
theorem w_X9_part : CWm yX9_part cX9_part 4 (some .int) 3 := ⟨g_cw_X9_part, g_ini_GyreWatchModel, ⟨by decide +kernel, by decide +kernel, by decide +kernel⟩, by decide⟩
theorem g_in_X9_part : Cond.instanceMethod yX9_part ∈ GW := GW_of (List.mem_of_getElem? (i := 1120) (by decide +kernel)) rfl
theorem g_se_X9_part : Cond.selects (RN 9) yX9_part yX9_part ∈ GW := GW_of (List.mem_of_getElem? (i := 1121) (by decide +kernel)) rfl
theorem g_ml_RL_146 : Cond.methodLink RL 146 yX9_part ∈ GW := GW_of (List.mem_of_getElem? (i := 1119) (by decide +kernel)) rfl
theorem g_cw_X8_day : Cond.code yX8_day cX8_day 1 (some .int) ∈ GW := GW_of (List.mem_of_getElem? (i := 207) (by decide +kernel)) rfl
theorem w_X8_day : CWm yX8_day cX8_day 1 (some .int) 0 := ⟨g_cw_X8_day, g_ini_GyreWatch, ⟨by decide +kernel, by decide +kernel, by decide +kernel⟩, by decide⟩
theorem g_in_X8_day : Cond.instanceMethod yX8_day ∈ GW := GW_of (List.mem_of_getElem? (i := 205) (by decide +kernel)) rfl
theorem g_se_X8_day : Cond.selects (RN 8) yX8_day yX8_day ∈ GW := GW_of (List.mem_of_getElem? (i := 206) (by decide +kernel)) rfl
theorem g_ml_RL_147 : Cond.methodLink RL 147 yX8_day ∈ GW := GW_of (List.mem_of_getElem? (i := 204) (by decide +kernel)) rfl
theorem g_cw_X9_day : Cond.code yX9_day cX9_day 1 (some .int) ∈ GW := GW_of (List.mem_of_getElem? (i := 1126) (by decide +kernel)) rfl
theorem w_X9_day : CWm yX9_day cX9_day 1 (some .int) 0 := ⟨g_cw_X9_day, g_ini_GyreWatchModel, ⟨by decide +kernel, by decide +kernel, by decide +kernel⟩, by decide⟩
theorem g_in_X9_day : Cond.instanceMethod yX9_day ∈ GW := GW_of (List.mem_of_getElem? (i := 1124) (by decide +kernel)) rfl
theorem g_se_X9_day : Cond.selects (RN 9) yX9_day yX9_day ∈ GW := GW_of (List.mem_of_getElem? (i := 1125) (by decide +kernel)) rfl
theorem g_ml_RL_150 : Cond.methodLink RL 150 yX9_day ∈ GW := GW_of (List.mem_of_getElem? (i := 1123) (by decide +kernel)) rfl
theorem g_cw_L_ofLayer : Cond.codeWith yL_ofLayer cL_ofLayer 6 (some .int) [(0, 12, 15, 13), (0, 12, 19, 21)] ∈ GW := GW_of (List.mem_of_getElem? (i := 737) (by decide +kernel)) rfl
theorem w_L_ofLayer : CWw yL_ofLayer cL_ofLayer 6 (some .int) [(0, 12, 15, 13), (0, 12, 19, 21)] 5 := ⟨g_cw_L_ofLayer, g_ini_GyreWatchLaw, ⟨by decide +kernel, by decide +kernel, by decide +kernel⟩, by decide⟩
theorem g_ml_RL_151 : Cond.methodLink RL 151 yL_ofLayer ∈ GW := GW_of (List.mem_of_getElem? (i := 735) (by decide +kernel)) rfl
theorem g_st_L_ofLayer : Cond.static yL_ofLayer ∈ GW := GW_of (List.mem_of_getElem? (i := 736) (by decide +kernel)) rfl
theorem g_cw_X9_ofLayer : Cond.code yX9_ofLayer cX9_ofLayer 5 (some .int) ∈ GW := GW_of (List.mem_of_getElem? (i := 1130) (by decide +kernel)) rfl
theorem w_X9_ofLayer : CWm yX9_ofLayer cX9_ofLayer 5 (some .int) 3 := ⟨g_cw_X9_ofLayer, g_ini_GyreWatchModel, ⟨by decide +kernel, by decide +kernel, by decide +kernel⟩, by decide⟩
theorem g_in_X9_ofLayer : Cond.instanceMethod yX9_ofLayer ∈ GW := GW_of (List.mem_of_getElem? (i := 1128) (by decide +kernel)) rfl
theorem g_se_X9_ofLayer : Cond.selects (RN 9) yX9_ofLayer yX9_ofLayer ∈ GW := GW_of (List.mem_of_getElem? (i := 1129) (by decide +kernel)) rfl
theorem g_ml_RL_153 : Cond.methodLink RL 153 yX9_ofLayer ∈ GW := GW_of (List.mem_of_getElem? (i := 1127) (by decide +kernel)) rfl
theorem g_cw_L_total : Cond.codeWith yL_total cL_total 4 (some .int) [(0, 9, 12, 21)] ∈ GW := GW_of (List.mem_of_getElem? (i := 745) (by decide +kernel)) rfl
theorem w_L_total : CWw yL_total cL_total 4 (some .int) [(0, 9, 12, 21)] 3 := ⟨g_cw_L_total, g_ini_GyreWatchLaw, ⟨by decide +kernel, by decide +kernel, by decide +kernel⟩, by decide⟩
theorem g_ml_RL_154 : Cond.methodLink RL 154 yL_total ∈ GW := GW_of (List.mem_of_getElem? (i := 743) (by decide +kernel)) rfl
theorem g_st_L_total : Cond.static yL_total ∈ GW := GW_of (List.mem_of_getElem? (i := 744) (by decide +kernel)) rfl
theorem g_cw_X9_total : Cond.code yX9_total cX9_total 4 (some .int) ∈ GW := GW_of (List.mem_of_getElem? (i := 1134) (by decide +kernel)) rfl
theorem w_X9_total : CWm yX9_total cX9_total 4 (some .int) 1 := ⟨g_cw_X9_total, g_ini_GyreWatchModel, ⟨by decide +kernel, by decide +kernel, by decide +kernel⟩, by decide⟩
theorem g_in_X9_total : Cond.instanceMethod yX9_total ∈ GW := GW_of (List.mem_of_getElem? (i := 1132) (by decide +kernel)) rfl
theorem g_se_X9_total : Cond.selects (RN 9) yX9_total yX9_total ∈ GW := GW_of (List.mem_of_getElem? (i := 1133) (by decide +kernel)) rfl
theorem g_ml_RL_156 : Cond.methodLink RL 156 yX9_total ∈ GW := GW_of (List.mem_of_getElem? (i := 1131) (by decide +kernel)) rfl
theorem g_cw_L_ofFloat : Cond.codeWith yL_ofFloat cL_ofFloat 5 (some .int) [(0, 10, 13, 13), (0, 10, 17, 21)] ∈ GW := GW_of (List.mem_of_getElem? (i := 755) (by decide +kernel)) rfl
theorem w_L_ofFloat : CWw yL_ofFloat cL_ofFloat 5 (some .int) [(0, 10, 13, 13), (0, 10, 17, 21)] 4 := ⟨g_cw_L_ofFloat, g_ini_GyreWatchLaw, ⟨by decide +kernel, by decide +kernel, by decide +kernel⟩, by decide⟩
theorem g_ml_RL_157 : Cond.methodLink RL 157 yL_ofFloat ∈ GW := GW_of (List.mem_of_getElem? (i := 753) (by decide +kernel)) rfl
theorem g_st_L_ofFloat : Cond.static yL_ofFloat ∈ GW := GW_of (List.mem_of_getElem? (i := 754) (by decide +kernel)) rfl
theorem g_cw_X9_ofFloat : Cond.code yX9_ofFloat cX9_ofFloat 5 (some .int) ∈ GW := GW_of (List.mem_of_getElem? (i := 1138) (by decide +kernel)) rfl
theorem w_X9_ofFloat : CWm yX9_ofFloat cX9_ofFloat 5 (some .int) 2 := ⟨g_cw_X9_ofFloat, g_ini_GyreWatchModel, ⟨by decide +kernel, by decide +kernel, by decide +kernel⟩, by decide⟩
theorem g_in_X9_ofFloat : Cond.instanceMethod yX9_ofFloat ∈ GW := GW_of (List.mem_of_getElem? (i := 1136) (by decide +kernel)) rfl
theorem g_se_X9_ofFloat : Cond.selects (RN 9) yX9_ofFloat yX9_ofFloat ∈ GW := GW_of (List.mem_of_getElem? (i := 1137) (by decide +kernel)) rfl
theorem g_ml_RL_159 : Cond.methodLink RL 159 yX9_ofFloat ∈ GW := GW_of (List.mem_of_getElem? (i := 1135) (by decide +kernel)) rfl
theorem g_cw_X8_stations : Cond.code yX8_stations cX8_stations 1 (some .int) ∈ GW := GW_of (List.mem_of_getElem? (i := 211) (by decide +kernel)) rfl
theorem w_X8_stations : CWm yX8_stations cX8_stations 1 (some .int) 0 := ⟨g_cw_X8_stations, g_ini_GyreWatch, ⟨by decide +kernel, by decide +kernel, by decide +kernel⟩, by decide⟩
theorem g_in_X8_stations : Cond.instanceMethod yX8_stations ∈ GW := GW_of (List.mem_of_getElem? (i := 209) (by decide +kernel)) rfl
theorem g_se_X8_stations : Cond.selects (RN 8) yX8_stations yX8_stations ∈ GW := GW_of (List.mem_of_getElem? (i := 210) (by decide +kernel)) rfl
theorem g_ml_RL_160 : Cond.methodLink RL 160 yX8_stations ∈ GW := GW_of (List.mem_of_getElem? (i := 208) (by decide +kernel)) rfl
theorem g_cw_X9_stations : Cond.code yX9_stations cX9_stations 1 (some .int) ∈ GW := GW_of (List.mem_of_getElem? (i := 1142) (by decide +kernel)) rfl
theorem w_X9_stations : CWm yX9_stations cX9_stations 1 (some .int) 0 := ⟨g_cw_X9_stations, g_ini_GyreWatchModel, ⟨by decide +kernel, by decide +kernel, by decide +kernel⟩, by decide⟩
theorem g_in_X9_stations : Cond.instanceMethod yX9_stations ∈ GW := GW_of (List.mem_of_getElem? (i := 1140) (by decide +kernel)) rfl
theorem g_se_X9_stations : Cond.selects (RN 9) yX9_stations yX9_stations ∈ GW := GW_of (List.mem_of_getElem? (i := 1141) (by decide +kernel)) rfl
theorem g_ml_RL_163 : Cond.methodLink RL 163 yX9_stations ∈ GW := GW_of (List.mem_of_getElem? (i := 1139) (by decide +kernel)) rfl
theorem g_cw_X8_readings : Cond.code yX8_readings cX8_readings 1 (some .int) ∈ GW := GW_of (List.mem_of_getElem? (i := 215) (by decide +kernel)) rfl
theorem w_X8_readings : CWm yX8_readings cX8_readings 1 (some .int) 0 := ⟨g_cw_X8_readings, g_ini_GyreWatch, ⟨by decide +kernel, by decide +kernel, by decide +kernel⟩, by decide⟩
theorem g_in_X8_readings : Cond.instanceMethod yX8_readings ∈ GW := GW_of (List.mem_of_getElem? (i := 213) (by decide +kernel)) rfl
theorem g_se_X8_readings : Cond.selects (RN 8) yX8_readings yX8_readings ∈ GW := GW_of (List.mem_of_getElem? (i := 214) (by decide +kernel)) rfl
theorem g_ml_RL_164 : Cond.methodLink RL 164 yX8_readings ∈ GW := GW_of (List.mem_of_getElem? (i := 212) (by decide +kernel)) rfl
theorem g_cw_X9_readings : Cond.code yX9_readings cX9_readings 1 (some .int) ∈ GW := GW_of (List.mem_of_getElem? (i := 1146) (by decide +kernel)) rfl
theorem w_X9_readings : CWm yX9_readings cX9_readings 1 (some .int) 0 := ⟨g_cw_X9_readings, g_ini_GyreWatchModel, ⟨by decide +kernel, by decide +kernel, by decide +kernel⟩, by decide⟩
theorem g_in_X9_readings : Cond.instanceMethod yX9_readings ∈ GW := GW_of (List.mem_of_getElem? (i := 1144) (by decide +kernel)) rfl
theorem g_se_X9_readings : Cond.selects (RN 9) yX9_readings yX9_readings ∈ GW := GW_of (List.mem_of_getElem? (i := 1145) (by decide +kernel)) rfl
theorem g_ml_RL_167 : Cond.methodLink RL 167 yX9_readings ∈ GW := GW_of (List.mem_of_getElem? (i := 1143) (by decide +kernel)) rfl
theorem g_cw_L_ofReading : Cond.codeWith yL_ofReading cL_ofReading 5 (some .int) [(0, 10, 13, 13), (0, 10, 17, 21)] ∈ GW := GW_of (List.mem_of_getElem? (i := 762) (by decide +kernel)) rfl
theorem w_L_ofReading : CWw yL_ofReading cL_ofReading 5 (some .int) [(0, 10, 13, 13), (0, 10, 17, 21)] 4 := ⟨g_cw_L_ofReading, g_ini_GyreWatchLaw, ⟨by decide +kernel, by decide +kernel, by decide +kernel⟩, by decide⟩
theorem g_ml_RL_168 : Cond.methodLink RL 168 yL_ofReading ∈ GW := GW_of (List.mem_of_getElem? (i := 760) (by decide +kernel)) rfl
theorem g_st_L_ofReading : Cond.static yL_ofReading ∈ GW := GW_of (List.mem_of_getElem? (i := 761) (by decide +kernel)) rfl
theorem g_cw_X9_ofReading : Cond.code yX9_ofReading cX9_ofReading 3 (some .int) ∈ GW := GW_of (List.mem_of_getElem? (i := 1150) (by decide +kernel)) rfl
theorem w_X9_ofReading : CWm yX9_ofReading cX9_ofReading 3 (some .int) 2 := ⟨g_cw_X9_ofReading, g_ini_GyreWatchModel, ⟨by decide +kernel, by decide +kernel, by decide +kernel⟩, by decide⟩
theorem g_in_X9_ofReading : Cond.instanceMethod yX9_ofReading ∈ GW := GW_of (List.mem_of_getElem? (i := 1148) (by decide +kernel)) rfl
theorem g_se_X9_ofReading : Cond.selects (RN 9) yX9_ofReading yX9_ofReading ∈ GW := GW_of (List.mem_of_getElem? (i := 1149) (by decide +kernel)) rfl
theorem g_ml_RL_170 : Cond.methodLink RL 170 yX9_ofReading ∈ GW := GW_of (List.mem_of_getElem? (i := 1147) (by decide +kernel)) rfl
theorem g_cw_L_mean : Cond.codeWith yL_mean cL_mean 6 (some .int) [(0, 12, 15, 13), (0, 12, 19, 21), (0, 12, 23, 15)] ∈ GW := GW_of (List.mem_of_getElem? (i := 770) (by decide +kernel)) rfl
theorem w_L_mean : CWw yL_mean cL_mean 6 (some .int) [(0, 12, 15, 13), (0, 12, 19, 21), (0, 12, 23, 15)] 5 := ⟨g_cw_L_mean, g_ini_GyreWatchLaw, ⟨by decide +kernel, by decide +kernel, by decide +kernel⟩, by decide⟩
theorem g_ml_RL_171 : Cond.methodLink RL 171 yL_mean ∈ GW := GW_of (List.mem_of_getElem? (i := 768) (by decide +kernel)) rfl
theorem g_st_L_mean : Cond.static yL_mean ∈ GW := GW_of (List.mem_of_getElem? (i := 769) (by decide +kernel)) rfl
theorem g_cw_X9_mean : Cond.code yX9_mean cX9_mean 4 (some .int) ∈ GW := GW_of (List.mem_of_getElem? (i := 1154) (by decide +kernel)) rfl
theorem w_X9_mean : CWm yX9_mean cX9_mean 4 (some .int) 3 := ⟨g_cw_X9_mean, g_ini_GyreWatchModel, ⟨by decide +kernel, by decide +kernel, by decide +kernel⟩, by decide⟩
theorem g_in_X9_mean : Cond.instanceMethod yX9_mean ∈ GW := GW_of (List.mem_of_getElem? (i := 1152) (by decide +kernel)) rfl
theorem g_se_X9_mean : Cond.selects (RN 9) yX9_mean yX9_mean ∈ GW := GW_of (List.mem_of_getElem? (i := 1153) (by decide +kernel)) rfl
theorem g_ml_RL_173 : Cond.methodLink RL 173 yX9_mean ∈ GW := GW_of (List.mem_of_getElem? (i := 1151) (by decide +kernel)) rfl
theorem g_cw_L_error : Cond.codeWith yL_error cL_error 6 (some .int) [(0, 12, 15, 13), (0, 12, 19, 21), (0, 12, 23, 15)] ∈ GW := GW_of (List.mem_of_getElem? (i := 809) (by decide +kernel)) rfl
theorem w_L_error : CWw yL_error cL_error 6 (some .int) [(0, 12, 15, 13), (0, 12, 19, 21), (0, 12, 23, 15)] 5 := ⟨g_cw_L_error, g_ini_GyreWatchLaw, ⟨by decide +kernel, by decide +kernel, by decide +kernel⟩, by decide⟩
theorem g_ml_RL_174 : Cond.methodLink RL 174 yL_error ∈ GW := GW_of (List.mem_of_getElem? (i := 807) (by decide +kernel)) rfl
theorem g_st_L_error : Cond.static yL_error ∈ GW := GW_of (List.mem_of_getElem? (i := 808) (by decide +kernel)) rfl
theorem g_cw_X9_error : Cond.code yX9_error cX9_error 4 (some .int) ∈ GW := GW_of (List.mem_of_getElem? (i := 1174) (by decide +kernel)) rfl
theorem w_X9_error : CWm yX9_error cX9_error 4 (some .int) 3 := ⟨g_cw_X9_error, g_ini_GyreWatchModel, ⟨by decide +kernel, by decide +kernel, by decide +kernel⟩, by decide⟩
theorem g_in_X9_error : Cond.instanceMethod yX9_error ∈ GW := GW_of (List.mem_of_getElem? (i := 1172) (by decide +kernel)) rfl
theorem g_se_X9_error : Cond.selects (RN 9) yX9_error yX9_error ∈ GW := GW_of (List.mem_of_getElem? (i := 1173) (by decide +kernel)) rfl
theorem g_ml_RL_176 : Cond.methodLink RL 176 yX9_error ∈ GW := GW_of (List.mem_of_getElem? (i := 1171) (by decide +kernel)) rfl
theorem g_cw_L_residual : Cond.codeWith yL_residual cL_residual 5 (some .int) [(0, 10, 13, 13), (0, 10, 17, 21), (0, 10, 21, 15)] ∈ GW := GW_of (List.mem_of_getElem? (i := 816) (by decide +kernel)) rfl
theorem w_L_residual : CWw yL_residual cL_residual 5 (some .int) [(0, 10, 13, 13), (0, 10, 17, 21), (0, 10, 21, 15)] 4 := ⟨g_cw_L_residual, g_ini_GyreWatchLaw, ⟨by decide +kernel, by decide +kernel, by decide +kernel⟩, by decide⟩
theorem g_ml_RL_177 : Cond.methodLink RL 177 yL_residual ∈ GW := GW_of (List.mem_of_getElem? (i := 814) (by decide +kernel)) rfl
theorem g_st_L_residual : Cond.static yL_residual ∈ GW := GW_of (List.mem_of_getElem? (i := 815) (by decide +kernel)) rfl
theorem g_cw_X9_residual : Cond.code yX9_residual cX9_residual 3 (some .int) ∈ GW := GW_of (List.mem_of_getElem? (i := 1178) (by decide +kernel)) rfl
theorem w_X9_residual : CWm yX9_residual cX9_residual 3 (some .int) 2 := ⟨g_cw_X9_residual, g_ini_GyreWatchModel, ⟨by decide +kernel, by decide +kernel, by decide +kernel⟩, by decide⟩
theorem g_in_X9_residual : Cond.instanceMethod yX9_residual ∈ GW := GW_of (List.mem_of_getElem? (i := 1176) (by decide +kernel)) rfl
theorem g_se_X9_residual : Cond.selects (RN 9) yX9_residual yX9_residual ∈ GW := GW_of (List.mem_of_getElem? (i := 1177) (by decide +kernel)) rfl
theorem g_ml_RL_179 : Cond.methodLink RL 179 yX9_residual ∈ GW := GW_of (List.mem_of_getElem? (i := 1175) (by decide +kernel)) rfl
theorem g_cw_L_chance : Cond.codeWith yL_chance cL_chance 5 (some .int) [(0, 10, 13, 13)] ∈ GW := GW_of (List.mem_of_getElem? (i := 823) (by decide +kernel)) rfl
theorem w_L_chance : CWw yL_chance cL_chance 5 (some .int) [(0, 10, 13, 13)] 4 := ⟨g_cw_L_chance, g_ini_GyreWatchLaw, ⟨by decide +kernel, by decide +kernel, by decide +kernel⟩, by decide⟩
theorem g_ml_RL_180 : Cond.methodLink RL 180 yL_chance ∈ GW := GW_of (List.mem_of_getElem? (i := 821) (by decide +kernel)) rfl
theorem g_st_L_chance : Cond.static yL_chance ∈ GW := GW_of (List.mem_of_getElem? (i := 822) (by decide +kernel)) rfl
theorem g_cw_X9_chance : Cond.code yX9_chance cX9_chance 3 (some .int) ∈ GW := GW_of (List.mem_of_getElem? (i := 1182) (by decide +kernel)) rfl
theorem w_X9_chance : CWm yX9_chance cX9_chance 3 (some .int) 2 := ⟨g_cw_X9_chance, g_ini_GyreWatchModel, ⟨by decide +kernel, by decide +kernel, by decide +kernel⟩, by decide⟩
theorem g_in_X9_chance : Cond.instanceMethod yX9_chance ∈ GW := GW_of (List.mem_of_getElem? (i := 1180) (by decide +kernel)) rfl
theorem g_se_X9_chance : Cond.selects (RN 9) yX9_chance yX9_chance ∈ GW := GW_of (List.mem_of_getElem? (i := 1181) (by decide +kernel)) rfl
theorem g_ml_RL_182 : Cond.methodLink RL 182 yX9_chance ∈ GW := GW_of (List.mem_of_getElem? (i := 1179) (by decide +kernel)) rfl
theorem g_cw_L_best : Cond.codeWith yL_best cL_best 4 (some .int) [(0, 9, 12, 13)] ∈ GW := GW_of (List.mem_of_getElem? (i := 830) (by decide +kernel)) rfl
theorem w_L_best : CWw yL_best cL_best 4 (some .int) [(0, 9, 12, 13)] 3 := ⟨g_cw_L_best, g_ini_GyreWatchLaw, ⟨by decide +kernel, by decide +kernel, by decide +kernel⟩, by decide⟩
theorem g_ml_RL_183 : Cond.methodLink RL 183 yL_best ∈ GW := GW_of (List.mem_of_getElem? (i := 828) (by decide +kernel)) rfl
theorem g_st_L_best : Cond.static yL_best ∈ GW := GW_of (List.mem_of_getElem? (i := 829) (by decide +kernel)) rfl
theorem g_cw_X9_best : Cond.code yX9_best cX9_best 2 (some .int) ∈ GW := GW_of (List.mem_of_getElem? (i := 1186) (by decide +kernel)) rfl
theorem w_X9_best : CWm yX9_best cX9_best 2 (some .int) 1 := ⟨g_cw_X9_best, g_ini_GyreWatchModel, ⟨by decide +kernel, by decide +kernel, by decide +kernel⟩, by decide⟩
theorem g_in_X9_best : Cond.instanceMethod yX9_best ∈ GW := GW_of (List.mem_of_getElem? (i := 1184) (by decide +kernel)) rfl
theorem g_se_X9_best : Cond.selects (RN 9) yX9_best yX9_best ∈ GW := GW_of (List.mem_of_getElem? (i := 1185) (by decide +kernel)) rfl
theorem g_ml_RL_185 : Cond.methodLink RL 185 yX9_best ∈ GW := GW_of (List.mem_of_getElem? (i := 1183) (by decide +kernel)) rfl
theorem g_cw_L_plan : Cond.codeWith yL_plan cL_plan 6 (some .int) [(0, 12, 15, 13), (0, 12, 19, 21)] ∈ GW := GW_of (List.mem_of_getElem? (i := 840) (by decide +kernel)) rfl
theorem w_L_plan : CWw yL_plan cL_plan 6 (some .int) [(0, 12, 15, 13), (0, 12, 19, 21)] 5 := ⟨g_cw_L_plan, g_ini_GyreWatchLaw, ⟨by decide +kernel, by decide +kernel, by decide +kernel⟩, by decide⟩
theorem g_ml_RL_186 : Cond.methodLink RL 186 yL_plan ∈ GW := GW_of (List.mem_of_getElem? (i := 838) (by decide +kernel)) rfl
theorem g_st_L_plan : Cond.static yL_plan ∈ GW := GW_of (List.mem_of_getElem? (i := 839) (by decide +kernel)) rfl
theorem g_cw_X9_plan : Cond.code yX9_plan cX9_plan 8 (some .int) ∈ GW := GW_of (List.mem_of_getElem? (i := 1194) (by decide +kernel)) rfl
theorem w_X9_plan : CWm yX9_plan cX9_plan 8 (some .int) 3 := ⟨g_cw_X9_plan, g_ini_GyreWatchModel, ⟨by decide +kernel, by decide +kernel, by decide +kernel⟩, by decide⟩
theorem g_in_X9_plan : Cond.instanceMethod yX9_plan ∈ GW := GW_of (List.mem_of_getElem? (i := 1192) (by decide +kernel)) rfl
theorem g_se_X9_plan : Cond.selects (RN 9) yX9_plan yX9_plan ∈ GW := GW_of (List.mem_of_getElem? (i := 1193) (by decide +kernel)) rfl
theorem g_ml_RL_188 : Cond.methodLink RL 188 yX9_plan ∈ GW := GW_of (List.mem_of_getElem? (i := 1191) (by decide +kernel)) rfl
theorem g_cw_L_tide : Cond.codeWith yL_tide cL_tide 4 (some .int) [(0, 9, 12, 21)] ∈ GW := GW_of (List.mem_of_getElem? (i := 853) (by decide +kernel)) rfl
theorem w_L_tide : CWw yL_tide cL_tide 4 (some .int) [(0, 9, 12, 21)] 3 := ⟨g_cw_L_tide, g_ini_GyreWatchLaw, ⟨by decide +kernel, by decide +kernel, by decide +kernel⟩, by decide⟩
theorem g_ml_RL_189 : Cond.methodLink RL 189 yL_tide ∈ GW := GW_of (List.mem_of_getElem? (i := 851) (by decide +kernel)) rfl
theorem g_st_L_tide : Cond.static yL_tide ∈ GW := GW_of (List.mem_of_getElem? (i := 852) (by decide +kernel)) rfl
theorem g_cw_X9_tide : Cond.code yX9_tide cX9_tide 2 (some .int) ∈ GW := GW_of (List.mem_of_getElem? (i := 1198) (by decide +kernel)) rfl
theorem w_X9_tide : CWm yX9_tide cX9_tide 2 (some .int) 1 := ⟨g_cw_X9_tide, g_ini_GyreWatchModel, ⟨by decide +kernel, by decide +kernel, by decide +kernel⟩, by decide⟩
theorem g_in_X9_tide : Cond.instanceMethod yX9_tide ∈ GW := GW_of (List.mem_of_getElem? (i := 1196) (by decide +kernel)) rfl
theorem g_se_X9_tide : Cond.selects (RN 9) yX9_tide yX9_tide ∈ GW := GW_of (List.mem_of_getElem? (i := 1197) (by decide +kernel)) rfl
theorem g_ml_RL_191 : Cond.methodLink RL 191 yX9_tide ∈ GW := GW_of (List.mem_of_getElem? (i := 1195) (by decide +kernel)) rfl
theorem g_cw_L_highest : Cond.codeWith yL_highest cL_highest 5 (some .int) [(0, 10, 13, 21)] ∈ GW := GW_of (List.mem_of_getElem? (i := 870) (by decide +kernel)) rfl
theorem w_L_highest : CWw yL_highest cL_highest 5 (some .int) [(0, 10, 13, 21)] 4 := ⟨g_cw_L_highest, g_ini_GyreWatchLaw, ⟨by decide +kernel, by decide +kernel, by decide +kernel⟩, by decide⟩
theorem g_ml_RL_192 : Cond.methodLink RL 192 yL_highest ∈ GW := GW_of (List.mem_of_getElem? (i := 868) (by decide +kernel)) rfl
theorem g_st_L_highest : Cond.static yL_highest ∈ GW := GW_of (List.mem_of_getElem? (i := 869) (by decide +kernel)) rfl
theorem g_cw_X9_highest : Cond.code yX9_highest cX9_highest 5 (some .int) ∈ GW := GW_of (List.mem_of_getElem? (i := 1207) (by decide +kernel)) rfl
theorem w_X9_highest : CWm yX9_highest cX9_highest 5 (some .int) 2 := ⟨g_cw_X9_highest, g_ini_GyreWatchModel, ⟨by decide +kernel, by decide +kernel, by decide +kernel⟩, by decide⟩
theorem g_in_X9_highest : Cond.instanceMethod yX9_highest ∈ GW := GW_of (List.mem_of_getElem? (i := 1205) (by decide +kernel)) rfl
theorem g_se_X9_highest : Cond.selects (RN 9) yX9_highest yX9_highest ∈ GW := GW_of (List.mem_of_getElem? (i := 1206) (by decide +kernel)) rfl
theorem g_ml_RL_194 : Cond.methodLink RL 194 yX9_highest ∈ GW := GW_of (List.mem_of_getElem? (i := 1204) (by decide +kernel)) rfl
