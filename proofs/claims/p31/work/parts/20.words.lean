def fuel : Nat := 1000
def calNI (res : Res) (k : Int32 → MH → Res) : Res := calG res (toI k) (fun _ _ => none)
theorem lt_mx {K : CT} {i n : Nat} (hm : mxL K = n) (h : i < n) : i < mxL K := by rw [hm]; exact h
theorem g_ml_RX1_3 : Cond.methodLink RX1 3 objectInit ∈ GW := GW_of (List.mem_of_getElem? (i := 51) (by decide +kernel)) rfl
theorem g_in_obj : Cond.instanceMethod objectInit ∈ GW := GW_of (List.mem_of_getElem? (i := 38) (by decide +kernel)) rfl
theorem g_cw_obj : Cond.code objectInit ⟨#[0xb1]⟩ 1 none ∈ GW := GW_of (List.mem_of_getElem? (i := 39) (by decide +kernel)) rfl
theorem g_arr_20 : Cond.arrayClass (tyK 20) ∈ GW := GW_of (List.mem_of_getElem? (i := 66) (by decide +kernel)) rfl
theorem g_fl_RX1_9 : Cond.fieldLink RX1 9 ((TN 1) 0).1 ((TN 1) 0).2.1 ((TN 1) 0).2.2.1 ∈ GW := GW_of (List.mem_of_getElem? (i := 55) (by decide +kernel)) rfl
theorem g_fl_RX1_15 : Cond.fieldLink RX1 15 ((TN 1) 1).1 ((TN 1) 1).2.1 ((TN 1) 1).2.2.1 ∈ GW := GW_of (List.mem_of_getElem? (i := 58) (by decide +kernel)) rfl
theorem g_cw_J7_fill_53178 : Cond.code yJ7_fill_53178 cJ7_fill_53178 4 none ∈ GW := GW_of (List.mem_of_getElem? (i := 54) (by decide +kernel)) rfl
theorem g_ini_java_util_Arrays : Cond.initialized RJ7 ∈ GW := GW_of (List.mem_of_getElem? (i := 18) (by decide +kernel)) rfl
theorem w_J7_fill_53178 : CWm yJ7_fill_53178 cJ7_fill_53178 4 none 2 := ⟨g_cw_J7_fill_53178, g_ini_java_util_Arrays, ⟨by decide +kernel, by decide +kernel, by decide +kernel⟩, by decide⟩
theorem g_ml_RX1_18 : Cond.methodLink RX1 18 yJ7_fill_53178 ∈ GW := GW_of (List.mem_of_getElem? (i := 52) (by decide +kernel)) rfl
theorem g_st_J7_fill_53178 : Cond.static yJ7_fill_53178 ∈ GW := GW_of (List.mem_of_getElem? (i := 53) (by decide +kernel)) rfl
theorem g_ml_RX5_3 : Cond.methodLink RX5 3 objectInit ∈ GW := GW_of (List.mem_of_getElem? (i := 45) (by decide +kernel)) rfl
theorem g_inst_1 : Cond.instantiable (RN 1) (nF 1) ∈ GW := GW_of (List.mem_of_getElem? (i := 47) (by decide +kernel)) rfl
theorem g_iniN_1 : Cond.initialized (RN 1) ∈ GW := GW_of (List.mem_of_getElem? (i := 17) (by decide +kernel)) rfl
theorem g_clN_RX5_9 : Cond.classLink RX5 9 (RN 1) ∈ GW := GW_of (List.mem_of_getElem? (i := 46) (by decide +kernel)) rfl
theorem g_cw_X1_init : Cond.code yX1_init cX1_init 3 none ∈ GW := GW_of (List.mem_of_getElem? (i := 50) (by decide +kernel)) rfl
theorem g_ini_GyreWatch_Layer : Cond.initialized RX1 ∈ GW := GW_of (List.mem_of_getElem? (i := 17) (by decide +kernel)) rfl
theorem w_X1_init : CWm yX1_init cX1_init 3 none 2 := ⟨g_cw_X1_init, g_ini_GyreWatch_Layer, ⟨by decide +kernel, by decide +kernel, by decide +kernel⟩, by decide⟩
theorem g_in_X1_init : Cond.instanceMethod yX1_init ∈ GW := GW_of (List.mem_of_getElem? (i := 49) (by decide +kernel)) rfl
theorem g_ml_RX5_11 : Cond.methodLink RX5 11 yX1_init ∈ GW := GW_of (List.mem_of_getElem? (i := 48) (by decide +kernel)) rfl
theorem g_fl_RX5_14 : Cond.fieldLink RX5 14 ((TN 5) 0).1 ((TN 5) 0).2.1 ((TN 5) 0).2.2.1 ∈ GW := GW_of (List.mem_of_getElem? (i := 67) (by decide +kernel)) rfl
theorem g_fl_RX5_20 : Cond.fieldLink RX5 20 ((TN 5) 1).1 ((TN 5) 1).2.1 ((TN 5) 1).2.2.1 ∈ GW := GW_of (List.mem_of_getElem? (i := 69) (by decide +kernel)) rfl
theorem g_fl_RX5_23 : Cond.fieldLink RX5 23 ((TN 5) 2).1 ((TN 5) 2).2.1 ((TN 5) 2).2.2.1 ∈ GW := GW_of (List.mem_of_getElem? (i := 71) (by decide +kernel)) rfl
theorem g_fl_RX5_27 : Cond.fieldLink RX5 27 ((TN 5) 3).1 ((TN 5) 3).2.1 ((TN 5) 3).2.2.1 ∈ GW := GW_of (List.mem_of_getElem? (i := 73) (by decide +kernel)) rfl
theorem g_arr_21 : Cond.arrayClass (tyK 21) ∈ GW := GW_of (List.mem_of_getElem? (i := 97) (by decide +kernel)) rfl
theorem g_fl_RX5_30 : Cond.fieldLink RX5 30 ((TN 5) 5).1 ((TN 5) 5).2.1 ((TN 5) 5).2.2.1 ∈ GW := GW_of (List.mem_of_getElem? (i := 77) (by decide +kernel)) rfl
theorem g_fl_RX5_34 : Cond.fieldLink RX5 34 ((TN 5) 6).1 ((TN 5) 6).2.1 ((TN 5) 6).2.2.1 ∈ GW := GW_of (List.mem_of_getElem? (i := 78) (by decide +kernel)) rfl
theorem g_ml_RX2_3 : Cond.methodLink RX2 3 objectInit ∈ GW := GW_of (List.mem_of_getElem? (i := 105) (by decide +kernel)) rfl
theorem g_clA_RX2_9 : Cond.classLink RX2 9 (RN (coK 24)) ∈ GW := GW_of (List.mem_of_getElem? (i := 106) (by decide +kernel)) rfl
theorem g_fl_RX2_11 : Cond.fieldLink RX2 11 ((TN 2) 0).1 ((TN 2) 0).2.1 ((TN 2) 0).2.2.1 ∈ GW := GW_of (List.mem_of_getElem? (i := 108) (by decide +kernel)) rfl
theorem g_fl_RX2_17 : Cond.fieldLink RX2 17 ((TN 2) 2).1 ((TN 2) 2).2.1 ((TN 2) 2).2.2.1 ∈ GW := GW_of (List.mem_of_getElem? (i := 112) (by decide +kernel)) rfl
theorem g_ml_RX7_3 : Cond.methodLink RX7 3 objectInit ∈ GW := GW_of (List.mem_of_getElem? (i := 126) (by decide +kernel)) rfl
theorem g_fl_RX7_9 : Cond.fieldLink RX7 9 ((TN 7) 1).1 ((TN 7) 1).2.1 ((TN 7) 1).2.2.1 ∈ GW := GW_of (List.mem_of_getElem? (i := 129) (by decide +kernel)) rfl
theorem g_fl_RX7_15 : Cond.fieldLink RX7 15 ((TN 7) 2).1 ((TN 7) 2).2.1 ((TN 7) 2).2.2.1 ∈ GW := GW_of (List.mem_of_getElem? (i := 130) (by decide +kernel)) rfl
theorem g_fl_RX7_18 : Cond.fieldLink RX7 18 ((TN 7) 3).1 ((TN 7) 3).2.1 ((TN 7) 3).2.2.1 ∈ GW := GW_of (List.mem_of_getElem? (i := 131) (by decide +kernel)) rfl
theorem g_ml_RX8_3 : Cond.methodLink RX8 3 objectInit ∈ GW := GW_of (List.mem_of_getElem? (i := 37) (by decide +kernel)) rfl
theorem g_inst_5 : Cond.instantiable (RN 5) (nF 5) ∈ GW := GW_of (List.mem_of_getElem? (i := 41) (by decide +kernel)) rfl
theorem g_iniN_5 : Cond.initialized (RN 5) ∈ GW := GW_of (List.mem_of_getElem? (i := 16) (by decide +kernel)) rfl
theorem g_clN_RX8_9 : Cond.classLink RX8 9 (RN 5) ∈ GW := GW_of (List.mem_of_getElem? (i := 40) (by decide +kernel)) rfl
theorem g_cw_X5_init : Cond.code yX5_init cX5_init 1 none ∈ GW := GW_of (List.mem_of_getElem? (i := 44) (by decide +kernel)) rfl
theorem g_ini_GyreWatch_Sea : Cond.initialized RX5 ∈ GW := GW_of (List.mem_of_getElem? (i := 16) (by decide +kernel)) rfl
theorem w_X5_init : CWm yX5_init cX5_init 1 none 0 := ⟨g_cw_X5_init, g_ini_GyreWatch_Sea, ⟨by decide +kernel, by decide +kernel, by decide +kernel⟩, by decide⟩
theorem g_in_X5_init : Cond.instanceMethod yX5_init ∈ GW := GW_of (List.mem_of_getElem? (i := 43) (by decide +kernel)) rfl
theorem g_fl_RX8_12 : Cond.fieldLink RX8 12 ((TN 8) 0).1 ((TN 8) 0).2.1 ((TN 8) 0).2.2.1 ∈ GW := GW_of (List.mem_of_getElem? (i := 148) (by decide +kernel)) rfl
theorem g_clA_RX8_16 : Cond.classLink RX8 16 (RN (coK 22)) ∈ GW := GW_of (List.mem_of_getElem? (i := 98) (by decide +kernel)) rfl
theorem g_fl_RX8_18 : Cond.fieldLink RX8 18 ((TN 8) 1).1 ((TN 8) 1).2.1 ((TN 8) 1).2.2.1 ∈ GW := GW_of (List.mem_of_getElem? (i := 149) (by decide +kernel)) rfl
theorem g_inst_2 : Cond.instantiable (RN 2) (nF 2) ∈ GW := GW_of (List.mem_of_getElem? (i := 101) (by decide +kernel)) rfl
theorem g_iniN_2 : Cond.initialized (RN 2) ∈ GW := GW_of (List.mem_of_getElem? (i := 19) (by decide +kernel)) rfl
theorem g_clN_RX8_22 : Cond.classLink RX8 22 (RN 2) ∈ GW := GW_of (List.mem_of_getElem? (i := 100) (by decide +kernel)) rfl
theorem g_cw_X2_init : Cond.code yX2_init cX2_init 1 none ∈ GW := GW_of (List.mem_of_getElem? (i := 104) (by decide +kernel)) rfl
theorem g_ini_GyreWatch_Log : Cond.initialized RX2 ∈ GW := GW_of (List.mem_of_getElem? (i := 19) (by decide +kernel)) rfl
theorem w_X2_init : CWm yX2_init cX2_init 1 none 0 := ⟨g_cw_X2_init, g_ini_GyreWatch_Log, ⟨by decide +kernel, by decide +kernel, by decide +kernel⟩, by decide⟩
theorem g_in_X2_init : Cond.instanceMethod yX2_init ∈ GW := GW_of (List.mem_of_getElem? (i := 103) (by decide +kernel)) rfl
theorem g_fl_RX8_25 : Cond.fieldLink RX8 25 ((TN 8) 2).1 ((TN 8) 2).2.1 ((TN 8) 2).2.2.1 ∈ GW := GW_of (List.mem_of_getElem? (i := 150) (by decide +kernel)) rfl
theorem g_inst_7 : Cond.instantiable (RN 7) (nF 7) ∈ GW := GW_of (List.mem_of_getElem? (i := 122) (by decide +kernel)) rfl
theorem g_iniN_7 : Cond.initialized (RN 7) ∈ GW := GW_of (List.mem_of_getElem? (i := 20) (by decide +kernel)) rfl
theorem g_clN_RX8_29 : Cond.classLink RX8 29 (RN 7) ∈ GW := GW_of (List.mem_of_getElem? (i := 121) (by decide +kernel)) rfl
theorem g_cw_X7_init : Cond.code yX7_init cX7_init 1 none ∈ GW := GW_of (List.mem_of_getElem? (i := 125) (by decide +kernel)) rfl
theorem g_ini_GyreWatch_Ships : Cond.initialized RX7 ∈ GW := GW_of (List.mem_of_getElem? (i := 20) (by decide +kernel)) rfl
theorem w_X7_init : CWm yX7_init cX7_init 1 none 0 := ⟨g_cw_X7_init, g_ini_GyreWatch_Ships, ⟨by decide +kernel, by decide +kernel, by decide +kernel⟩, by decide⟩
theorem g_in_X7_init : Cond.instanceMethod yX7_init ∈ GW := GW_of (List.mem_of_getElem? (i := 124) (by decide +kernel)) rfl
theorem g_fl_RX8_32 : Cond.fieldLink RX8 32 ((TN 8) 3).1 ((TN 8) 3).2.1 ((TN 8) 3).2.2.1 ∈ GW := GW_of (List.mem_of_getElem? (i := 151) (by decide +kernel)) rfl
theorem g_clA_RX8_36 : Cond.classLink RX8 36 (RN (coK 25)) ∈ GW := GW_of (List.mem_of_getElem? (i := 144) (by decide +kernel)) rfl
theorem g_fl_RX8_38 : Cond.fieldLink RX8 38 ((TN 8) 4).1 ((TN 8) 4).2.1 ((TN 8) 4).2.2.1 ∈ GW := GW_of (List.mem_of_getElem? (i := 152) (by decide +kernel)) rfl
theorem g_clA_RX8_42 : Cond.classLink RX8 42 (RN (coK 23)) ∈ GW := GW_of (List.mem_of_getElem? (i := 146) (by decide +kernel)) rfl
theorem g_fl_RX8_44 : Cond.fieldLink RX8 44 ((TN 8) 5).1 ((TN 8) 5).2.1 ((TN 8) 5).2.2.1 ∈ GW := GW_of (List.mem_of_getElem? (i := 153) (by decide +kernel)) rfl
theorem g_co_RL_7 : Cond.constant RL 7 (51343 : Int32) ∈ GW := GW_of (List.mem_of_getElem? (i := 416) (by decide +kernel)) rfl
theorem g_co_RL_8 : Cond.constant RL 8 (3087197 : Int32) ∈ GW := GW_of (List.mem_of_getElem? (i := 417) (by decide +kernel)) rfl
theorem g_co_RL_9 : Cond.constant RL 9 (2147483647 : Int32) ∈ GW := GW_of (List.mem_of_getElem? (i := 421) (by decide +kernel)) rfl
theorem g_cw_X8_isCell : Cond.code yX8_isCell cX8_isCell 1 (some .boolean) ∈ GW := GW_of (List.mem_of_getElem? (i := 293) (by decide +kernel)) rfl
theorem g_ini_GyreWatch : Cond.initialized RX8 ∈ GW := GW_of (List.mem_of_getElem? (i := 15) (by decide +kernel)) rfl
theorem w_X8_isCell : CWm yX8_isCell cX8_isCell 1 (some .boolean) 1 := ⟨g_cw_X8_isCell, g_ini_GyreWatch, ⟨by decide +kernel, by decide +kernel, by decide +kernel⟩, by decide⟩
theorem g_ml_RX8_276 : Cond.methodLink RX8 276 yX8_isCell ∈ GW := GW_of (List.mem_of_getElem? (i := 475) (by decide +kernel)) rfl
theorem g_st_X8_isCell : Cond.static yX8_isCell ∈ GW := GW_of (List.mem_of_getElem? (i := 292) (by decide +kernel)) rfl
theorem g_ata_RX8_283_279 : ∀ w ∈ (vx_atS RX8 283 (exN 1) XNm).filter goodWord, w ∈ lw_tbl := by decide +kernel
theorem g_atb_RX8_283_279 : ∀ w ∈ (vx_atS RX8 283 (exN 1) XNm).filter (fun w => !goodWord w), w ∈ Cond.castable (exN 1) (exN 1) :: NDL.map Cond.declares := by decide +kernel
theorem g_atc_RX8_283_279 : ∀ w ∈ Cond.classLink RX8 279 (exN 1) :: Cond.initialized (exN 1) :: vx_atS RX8 283 (exN 1) XNm, vx_ot w = true := by decide +kernel
theorem g_cl_RX8_279 : Cond.classLink RX8 279 (exN 1) ∈ GW := GW_of (List.mem_of_getElem? (i := 476) (by decide +kernel)) rfl
theorem g_ini_java_lang_IndexOutOfBoundsException : Cond.initialized (exN 1) ∈ GW := GW_of (List.mem_of_getElem? (i := 24) (by decide +kernel)) rfl
theorem g_cw_X8_isIndex : Cond.code yX8_isIndex cX8_isIndex 2 (some .boolean) ∈ GW := GW_of (List.mem_of_getElem? (i := 300) (by decide +kernel)) rfl
theorem w_X8_isIndex : CWm yX8_isIndex cX8_isIndex 2 (some .boolean) 2 := ⟨g_cw_X8_isIndex, g_ini_GyreWatch, ⟨by decide +kernel, by decide +kernel, by decide +kernel⟩, by decide⟩
theorem g_st_X8_isIndex : Cond.static yX8_isIndex ∈ GW := GW_of (List.mem_of_getElem? (i := 299) (by decide +kernel)) rfl
theorem g_fl_RX7_29 : Cond.fieldLink RX7 29 ((TN 7) 0).1 ((TN 7) 0).2.1 ((TN 7) 0).2.2.1 ∈ GW := GW_of (List.mem_of_getElem? (i := 127) (by decide +kernel)) rfl
theorem g_cw_X7_cellOf : Cond.code yX7_cellOf cX7_cellOf 2 (some .int) ∈ GW := GW_of (List.mem_of_getElem? (i := 406) (by decide +kernel)) rfl
theorem w_X7_cellOf : CWm yX7_cellOf cX7_cellOf 2 (some .int) 1 := ⟨g_cw_X7_cellOf, g_ini_GyreWatch_Ships, ⟨by decide +kernel, by decide +kernel, by decide +kernel⟩, by decide⟩
theorem g_in_X7_cellOf : Cond.instanceMethod yX7_cellOf ∈ GW := GW_of (List.mem_of_getElem? (i := 404) (by decide +kernel)) rfl
theorem g_se_X7_cellOf : Cond.selects (RN 7) yX7_cellOf yX7_cellOf ∈ GW := GW_of (List.mem_of_getElem? (i := 405) (by decide +kernel)) rfl
theorem g_ml_RX7_33 : Cond.methodLink RX7 33 yX7_cellOf ∈ GW := GW_of (List.mem_of_getElem? (i := 592) (by decide +kernel)) rfl
theorem g_fl_RX8_215 : Cond.fieldLink RX8 215 ((TN 0) 3).1 ((TN 0) 3).2.1 ((TN 0) 3).2.2.1 ∈ GW := GW_of (List.mem_of_getElem? (i := 696) (by decide +kernel)) rfl
theorem g_cw_X7_hasStationIn : Cond.code yX7_hasStationIn cX7_hasStationIn 3 (some .boolean) ∈ GW := GW_of (List.mem_of_getElem? (i := 591) (by decide +kernel)) rfl
theorem w_X7_hasStationIn : CWm yX7_hasStationIn cX7_hasStationIn 3 (some .boolean) 1 := ⟨g_cw_X7_hasStationIn, g_ini_GyreWatch_Ships, ⟨by decide +kernel, by decide +kernel, by decide +kernel⟩, by decide⟩
theorem g_in_X7_hasStationIn : Cond.instanceMethod yX7_hasStationIn ∈ GW := GW_of (List.mem_of_getElem? (i := 589) (by decide +kernel)) rfl
theorem g_se_X7_hasStationIn : Cond.selects (RN 7) yX7_hasStationIn yX7_hasStationIn ∈ GW := GW_of (List.mem_of_getElem? (i := 590) (by decide +kernel)) rfl
theorem g_ml_RX8_304 : Cond.methodLink RX8 304 yX7_hasStationIn ∈ GW := GW_of (List.mem_of_getElem? (i := 588) (by decide +kernel)) rfl
theorem g_fl_RX8_301 : Cond.fieldLink RX8 301 ((TN 6) 0).1 ((TN 6) 0).2.1 ((TN 6) 0).2.2.1 ∈ GW := GW_of (List.mem_of_getElem? (i := 668) (by decide +kernel)) rfl
theorem g_fl_RX5_44 : Cond.fieldLink RX5 44 ((TN 5) 7).1 ((TN 5) 7).2.1 ((TN 5) 7).2.2.1 ∈ GW := GW_of (List.mem_of_getElem? (i := 79) (by decide +kernel)) rfl
theorem g_cw_X1_emptyAt : Cond.code yX1_emptyAt cX1_emptyAt 2 none ∈ GW := GW_of (List.mem_of_getElem? (i := 601) (by decide +kernel)) rfl
theorem w_X1_emptyAt : CWm yX1_emptyAt cX1_emptyAt 2 none 1 := ⟨g_cw_X1_emptyAt, g_ini_GyreWatch_Layer, ⟨by decide +kernel, by decide +kernel, by decide +kernel⟩, by decide⟩
theorem g_in_X1_emptyAt : Cond.instanceMethod yX1_emptyAt ∈ GW := GW_of (List.mem_of_getElem? (i := 599) (by decide +kernel)) rfl
theorem g_se_X1_emptyAt : Cond.selects (RN 1) yX1_emptyAt yX1_emptyAt ∈ GW := GW_of (List.mem_of_getElem? (i := 600) (by decide +kernel)) rfl
theorem g_ml_RX5_48 : Cond.methodLink RX5 48 yX1_emptyAt ∈ GW := GW_of (List.mem_of_getElem? (i := 598) (by decide +kernel)) rfl
theorem g_cw_X8_needCell : Cond.code yX8_needCell cX8_needCell 1 none ∈ GW := GW_of (List.mem_of_getElem? (i := 474) (by decide +kernel)) rfl
theorem w_X8_needCell : CWm yX8_needCell cX8_needCell 1 none 1 := ⟨g_cw_X8_needCell, g_ini_GyreWatch, ⟨by decide +kernel, by decide +kernel, by decide +kernel⟩, by decide⟩
theorem g_ml_RX8_48 : Cond.methodLink RX8 48 yX8_needCell ∈ GW := GW_of (List.mem_of_getElem? (i := 472) (by decide +kernel)) rfl
theorem g_st_X8_needCell : Cond.static yX8_needCell ∈ GW := GW_of (List.mem_of_getElem? (i := 473) (by decide +kernel)) rfl
theorem g_fl_RX8_52 : Cond.fieldLink RX8 52 ((TN 8) 9).1 ((TN 8) 9).2.1 ((TN 8) 9).2.2.1 ∈ GW := GW_of (List.mem_of_getElem? (i := 156) (by decide +kernel)) rfl
theorem g_ata_RX8_67_63 : ∀ w ∈ (vx_atS RX8 67 (exN 3) XNm).filter goodWord, w ∈ lw_tbl := by decide +kernel
theorem g_atb_RX8_67_63 : ∀ w ∈ (vx_atS RX8 67 (exN 3) XNm).filter (fun w => !goodWord w), w ∈ Cond.castable (exN 3) (exN 3) :: NDL.map Cond.declares := by decide +kernel
theorem g_atc_RX8_67_63 : ∀ w ∈ Cond.classLink RX8 63 (exN 3) :: Cond.initialized (exN 3) :: vx_atS RX8 67 (exN 3) XNm, vx_ot w = true := by decide +kernel
theorem g_cl_RX8_63 : Cond.classLink RX8 63 (exN 3) ∈ GW := GW_of (List.mem_of_getElem? (i := 253) (by decide +kernel)) rfl
theorem g_ini_java_lang_IllegalStateException : Cond.initialized (exN 3) ∈ GW := GW_of (List.mem_of_getElem? (i := 25) (by decide +kernel)) rfl
theorem g_cw_X5_isLand : Cond.code yX5_isLand cX5_isLand 2 (some .boolean) ∈ GW := GW_of (List.mem_of_getElem? (i := 583) (by decide +kernel)) rfl
theorem w_X5_isLand : CWm yX5_isLand cX5_isLand 2 (some .boolean) 1 := ⟨g_cw_X5_isLand, g_ini_GyreWatch_Sea, ⟨by decide +kernel, by decide +kernel, by decide +kernel⟩, by decide⟩
theorem g_in_X5_isLand : Cond.instanceMethod yX5_isLand ∈ GW := GW_of (List.mem_of_getElem? (i := 581) (by decide +kernel)) rfl
theorem g_se_X5_isLand : Cond.selects (RN 5) yX5_isLand yX5_isLand ∈ GW := GW_of (List.mem_of_getElem? (i := 582) (by decide +kernel)) rfl
theorem g_ml_RX8_56 : Cond.methodLink RX8 56 yX5_isLand ∈ GW := GW_of (List.mem_of_getElem? (i := 580) (by decide +kernel)) rfl
theorem g_cw_X8_isTaken : Cond.code yX8_isTaken cX8_isTaken 6 (some .boolean) ∈ GW := GW_of (List.mem_of_getElem? (i := 587) (by decide +kernel)) rfl
theorem w_X8_isTaken : CWm yX8_isTaken cX8_isTaken 6 (some .boolean) 1 := ⟨g_cw_X8_isTaken, g_ini_GyreWatch, ⟨by decide +kernel, by decide +kernel, by decide +kernel⟩, by decide⟩
theorem g_in_X8_isTaken : Cond.instanceMethod yX8_isTaken ∈ GW := GW_of (List.mem_of_getElem? (i := 586) (by decide +kernel)) rfl
theorem g_se_X8_isTaken : Cond.selects (RN 8) yX8_isTaken yX8_isTaken ∈ GW := GW_of (List.mem_of_getElem? (i := 10) (by decide +kernel)) rfl
theorem g_ml_RX8_60 : Cond.methodLink RX8 60 yX8_isTaken ∈ GW := GW_of (List.mem_of_getElem? (i := 584) (by decide +kernel)) rfl
theorem g_cw_X5_makeLand : Cond.code yX5_makeLand cX5_makeLand 2 (some .int) ∈ GW := GW_of (List.mem_of_getElem? (i := 597) (by decide +kernel)) rfl
theorem w_X5_makeLand : CWm yX5_makeLand cX5_makeLand 2 (some .int) 1 := ⟨g_cw_X5_makeLand, g_ini_GyreWatch_Sea, ⟨by decide +kernel, by decide +kernel, by decide +kernel⟩, by decide⟩
theorem g_in_X5_makeLand : Cond.instanceMethod yX5_makeLand ∈ GW := GW_of (List.mem_of_getElem? (i := 595) (by decide +kernel)) rfl
theorem g_se_X5_makeLand : Cond.selects (RN 5) yX5_makeLand yX5_makeLand ∈ GW := GW_of (List.mem_of_getElem? (i := 596) (by decide +kernel)) rfl
theorem g_ml_RX8_70 : Cond.methodLink RX8 70 yX5_makeLand ∈ GW := GW_of (List.mem_of_getElem? (i := 594) (by decide +kernel)) rfl
theorem g_ata_RX8_288_284 : ∀ w ∈ (vx_atS RX8 288 (exN 2) XNm).filter goodWord, w ∈ lw_tbl := by decide +kernel
theorem g_atb_RX8_288_284 : ∀ w ∈ (vx_atS RX8 288 (exN 2) XNm).filter (fun w => !goodWord w), w ∈ Cond.castable (exN 2) (exN 2) :: NDL.map Cond.declares := by decide +kernel
theorem g_atc_RX8_288_284 : ∀ w ∈ Cond.classLink RX8 284 (exN 2) :: Cond.initialized (exN 2) :: vx_atS RX8 288 (exN 2) XNm, vx_ot w = true := by decide +kernel
theorem g_cl_RX8_284 : Cond.classLink RX8 284 (exN 2) ∈ GW := GW_of (List.mem_of_getElem? (i := 185) (by decide +kernel)) rfl
theorem g_ini_java_lang_IllegalArgumentException : Cond.initialized (exN 2) ∈ GW := GW_of (List.mem_of_getElem? (i := 26) (by decide +kernel)) rfl
theorem g_cw_X7_stationOf : Cond.code yX7_stationOf cX7_stationOf 2 (some .int) ∈ GW := GW_of (List.mem_of_getElem? (i := 612) (by decide +kernel)) rfl
theorem w_X7_stationOf : CWm yX7_stationOf cX7_stationOf 2 (some .int) 2 := ⟨g_cw_X7_stationOf, g_ini_GyreWatch_Ships, ⟨by decide +kernel, by decide +kernel, by decide +kernel⟩, by decide⟩
theorem g_ml_RX7_25 : Cond.methodLink RX7 25 yX7_stationOf ∈ GW := GW_of (List.mem_of_getElem? (i := 610) (by decide +kernel)) rfl
theorem g_st_X7_stationOf : Cond.static yX7_stationOf ∈ GW := GW_of (List.mem_of_getElem? (i := 611) (by decide +kernel)) rfl
theorem g_cw_X7_areAllStationsTold : Cond.code yX7_areAllStationsTold cX7_areAllStationsTold 1 (some .boolean) ∈ GW := GW_of (List.mem_of_getElem? (i := 616) (by decide +kernel)) rfl
theorem w_X7_areAllStationsTold : CWm yX7_areAllStationsTold cX7_areAllStationsTold 1 (some .boolean) 0 := ⟨g_cw_X7_areAllStationsTold, g_ini_GyreWatch_Ships, ⟨by decide +kernel, by decide +kernel, by decide +kernel⟩, by decide⟩
theorem g_in_X7_areAllStationsTold : Cond.instanceMethod yX7_areAllStationsTold ∈ GW := GW_of (List.mem_of_getElem? (i := 614) (by decide +kernel)) rfl
theorem g_se_X7_areAllStationsTold : Cond.selects (RN 7) yX7_areAllStationsTold yX7_areAllStationsTold ∈ GW := GW_of (List.mem_of_getElem? (i := 615) (by decide +kernel)) rfl
theorem g_ml_RX7_37 : Cond.methodLink RX7 37 yX7_areAllStationsTold ∈ GW := GW_of (List.mem_of_getElem? (i := 622) (by decide +kernel)) rfl
theorem g_cw_X8_needRange : Cond.code yX8_needRange cX8_needRange 3 none ∈ GW := GW_of (List.mem_of_getElem? (i := 184) (by decide +kernel)) rfl
theorem w_X8_needRange : CWm yX8_needRange cX8_needRange 3 none 3 := ⟨g_cw_X8_needRange, g_ini_GyreWatch, ⟨by decide +kernel, by decide +kernel, by decide +kernel⟩, by decide⟩
theorem g_ml_RX8_74 : Cond.methodLink RX8 74 yX8_needRange ∈ GW := GW_of (List.mem_of_getElem? (i := 182) (by decide +kernel)) rfl
theorem g_st_X8_needRange : Cond.static yX8_needRange ∈ GW := GW_of (List.mem_of_getElem? (i := 183) (by decide +kernel)) rfl
theorem g_cw_X7_hasStation : Cond.code yX7_hasStation cX7_hasStation 5 (some .boolean) ∈ GW := GW_of (List.mem_of_getElem? (i := 609) (by decide +kernel)) rfl
theorem w_X7_hasStation : CWm yX7_hasStation cX7_hasStation 5 (some .boolean) 2 := ⟨g_cw_X7_hasStation, g_ini_GyreWatch_Ships, ⟨by decide +kernel, by decide +kernel, by decide +kernel⟩, by decide⟩
theorem g_in_X7_hasStation : Cond.instanceMethod yX7_hasStation ∈ GW := GW_of (List.mem_of_getElem? (i := 607) (by decide +kernel)) rfl
theorem g_se_X7_hasStation : Cond.selects (RN 7) yX7_hasStation yX7_hasStation ∈ GW := GW_of (List.mem_of_getElem? (i := 608) (by decide +kernel)) rfl
theorem g_ml_RX8_102 : Cond.methodLink RX8 102 yX7_hasStation ∈ GW := GW_of (List.mem_of_getElem? (i := 606) (by decide +kernel)) rfl
theorem g_ml_RX8_105 : Cond.methodLink RX8 105 yX7_areAllStationsTold ∈ GW := GW_of (List.mem_of_getElem? (i := 613) (by decide +kernel)) rfl
theorem g_cw_X7_tellStation : Cond.code yX7_tellStation cX7_tellStation 5 (some .int) ∈ GW := GW_of (List.mem_of_getElem? (i := 621) (by decide +kernel)) rfl
theorem w_X7_tellStation : CWm yX7_tellStation cX7_tellStation 5 (some .int) 2 := ⟨g_cw_X7_tellStation, g_ini_GyreWatch_Ships, ⟨by decide +kernel, by decide +kernel, by decide +kernel⟩, by decide⟩
theorem g_in_X7_tellStation : Cond.instanceMethod yX7_tellStation ∈ GW := GW_of (List.mem_of_getElem? (i := 619) (by decide +kernel)) rfl
theorem g_se_X7_tellStation : Cond.selects (RN 7) yX7_tellStation yX7_tellStation ∈ GW := GW_of (List.mem_of_getElem? (i := 620) (by decide +kernel)) rfl
theorem g_ml_RX8_111 : Cond.methodLink RX8 111 yX7_tellStation ∈ GW := GW_of (List.mem_of_getElem? (i := 618) (by decide +kernel)) rfl
theorem g_fl_RX7_50 : Cond.fieldLink RX7 50 ((TN 7) 4).1 ((TN 7) 4).2.1 ((TN 7) 4).2.2.1 ∈ GW := GW_of (List.mem_of_getElem? (i := 132) (by decide +kernel)) rfl
theorem g_cw_X7_dayOf : Cond.code yX7_dayOf cX7_dayOf 1 (some .int) ∈ GW := GW_of (List.mem_of_getElem? (i := 402) (by decide +kernel)) rfl
theorem w_X7_dayOf : CWm yX7_dayOf cX7_dayOf 1 (some .int) 1 := ⟨g_cw_X7_dayOf, g_ini_GyreWatch_Ships, ⟨by decide +kernel, by decide +kernel, by decide +kernel⟩, by decide⟩
theorem g_ml_RX7_41 : Cond.methodLink RX7 41 yX7_dayOf ∈ GW := GW_of (List.mem_of_getElem? (i := 400) (by decide +kernel)) rfl
theorem g_st_X7_dayOf : Cond.static yX7_dayOf ∈ GW := GW_of (List.mem_of_getElem? (i := 401) (by decide +kernel)) rfl
theorem g_cw_X7_hasStorm : Cond.code yX7_hasStorm cX7_hasStorm 3 (some .boolean) ∈ GW := GW_of (List.mem_of_getElem? (i := 395) (by decide +kernel)) rfl
theorem w_X7_hasStorm : CWm yX7_hasStorm cX7_hasStorm 3 (some .boolean) 1 := ⟨g_cw_X7_hasStorm, g_ini_GyreWatch_Ships, ⟨by decide +kernel, by decide +kernel, by decide +kernel⟩, by decide⟩
theorem g_in_X7_hasStorm : Cond.instanceMethod yX7_hasStorm ∈ GW := GW_of (List.mem_of_getElem? (i := 393) (by decide +kernel)) rfl
theorem g_se_X7_hasStorm : Cond.selects (RN 7) yX7_hasStorm yX7_hasStorm ∈ GW := GW_of (List.mem_of_getElem? (i := 394) (by decide +kernel)) rfl
theorem g_ml_RX7_56 : Cond.methodLink RX7 56 yX7_hasStorm ∈ GW := GW_of (List.mem_of_getElem? (i := 636) (by decide +kernel)) rfl
theorem g_cw_X7_areAllStormsTold : Cond.code yX7_areAllStormsTold cX7_areAllStormsTold 1 (some .boolean) ∈ GW := GW_of (List.mem_of_getElem? (i := 630) (by decide +kernel)) rfl
theorem w_X7_areAllStormsTold : CWm yX7_areAllStormsTold cX7_areAllStormsTold 1 (some .boolean) 0 := ⟨g_cw_X7_areAllStormsTold, g_ini_GyreWatch_Ships, ⟨by decide +kernel, by decide +kernel, by decide +kernel⟩, by decide⟩
theorem g_in_X7_areAllStormsTold : Cond.instanceMethod yX7_areAllStormsTold ∈ GW := GW_of (List.mem_of_getElem? (i := 628) (by decide +kernel)) rfl
theorem g_se_X7_areAllStormsTold : Cond.selects (RN 7) yX7_areAllStormsTold yX7_areAllStormsTold ∈ GW := GW_of (List.mem_of_getElem? (i := 629) (by decide +kernel)) rfl
theorem g_ml_RX7_53 : Cond.methodLink RX7 53 yX7_areAllStormsTold ∈ GW := GW_of (List.mem_of_getElem? (i := 641) (by decide +kernel)) rfl
theorem g_ml_RX8_115 : Cond.methodLink RX8 115 yX7_areAllStormsTold ∈ GW := GW_of (List.mem_of_getElem? (i := 627) (by decide +kernel)) rfl
theorem g_cw_X7_calmStations : Cond.code yX7_calmStations cX7_calmStations 6 (some .int) ∈ GW := GW_of (List.mem_of_getElem? (i := 635) (by decide +kernel)) rfl
theorem w_X7_calmStations : CWm yX7_calmStations cX7_calmStations 6 (some .int) 2 := ⟨g_cw_X7_calmStations, g_ini_GyreWatch_Ships, ⟨by decide +kernel, by decide +kernel, by decide +kernel⟩, by decide⟩
theorem g_in_X7_calmStations : Cond.instanceMethod yX7_calmStations ∈ GW := GW_of (List.mem_of_getElem? (i := 633) (by decide +kernel)) rfl
theorem g_se_X7_calmStations : Cond.selects (RN 7) yX7_calmStations yX7_calmStations ∈ GW := GW_of (List.mem_of_getElem? (i := 634) (by decide +kernel)) rfl
theorem g_ml_RX8_120 : Cond.methodLink RX8 120 yX7_calmStations ∈ GW := GW_of (List.mem_of_getElem? (i := 632) (by decide +kernel)) rfl
theorem g_cw_X7_tellStorm : Cond.code yX7_tellStorm cX7_tellStorm 3 none ∈ GW := GW_of (List.mem_of_getElem? (i := 640) (by decide +kernel)) rfl
theorem w_X7_tellStorm : CWm yX7_tellStorm cX7_tellStorm 3 none 2 := ⟨g_cw_X7_tellStorm, g_ini_GyreWatch_Ships, ⟨by decide +kernel, by decide +kernel, by decide +kernel⟩, by decide⟩
theorem g_in_X7_tellStorm : Cond.instanceMethod yX7_tellStorm ∈ GW := GW_of (List.mem_of_getElem? (i := 638) (by decide +kernel)) rfl
theorem g_se_X7_tellStorm : Cond.selects (RN 7) yX7_tellStorm yX7_tellStorm ∈ GW := GW_of (List.mem_of_getElem? (i := 639) (by decide +kernel)) rfl
theorem g_ml_RX8_123 : Cond.methodLink RX8 123 yX7_tellStorm ∈ GW := GW_of (List.mem_of_getElem? (i := 637) (by decide +kernel)) rfl
theorem g_ml_RX8_93 : Cond.methodLink RX8 93 yX8_isIndex ∈ GW := GW_of (List.mem_of_getElem? (i := 501) (by decide +kernel)) rfl
theorem g_fl_RX4_15 : Cond.fieldLink RX4 15 ((TN 4) 0).1 ((TN 4) 0).2.1 ((TN 4) 0).2.2.1 ∈ GW := GW_of (List.mem_of_getElem? (i := 339) (by decide +kernel)) rfl
theorem g_ml_RX4_48 : Cond.methodLink RX4 48 Lib.Math.abs.name ∈ GW := GW_of (List.mem_of_getElem? (i := 654) (by decide +kernel)) rfl
theorem g_st_math_abs : Cond.static Lib.Math.abs.name ∈ GW := GW_of (List.mem_of_getElem? (i := 655) (by decide +kernel)) rfl
theorem g_ini_math : Cond.initialized "java/lang/Math" ∈ GW := GW_of (List.mem_of_getElem? (i := 27) (by decide +kernel)) rfl
theorem g_cw_math_abs : Cond.code Lib.Math.abs.name Lib.Math.abs.code 1 (some .int) ∈ GW := GW_of (List.mem_of_getElem? (i := 656) (by decide +kernel)) rfl
theorem g_fl_RX2_50 : Cond.fieldLink RX2 50 ((TN 4) 3).1 ((TN 4) 3).2.1 ((TN 4) 3).2.2.1 ∈ GW := GW_of (List.mem_of_getElem? (i := 348) (by decide +kernel)) rfl
theorem g_fl_RX2_54 : Cond.fieldLink RX2 54 ((TN 4) 1).1 ((TN 4) 1).2.1 ((TN 4) 1).2.2.1 ∈ GW := GW_of (List.mem_of_getElem? (i := 343) (by decide +kernel)) rfl
theorem g_fl_RX2_57 : Cond.fieldLink RX2 57 ((TN 4) 0).1 ((TN 4) 0).2.1 ((TN 4) 0).2.2.1 ∈ GW := GW_of (List.mem_of_getElem? (i := 340) (by decide +kernel)) rfl
theorem g_cw_X4_daysFrom : Cond.code yX4_daysFrom cX4_daysFrom 2 (some .int) ∈ GW := GW_of (List.mem_of_getElem? (i := 653) (by decide +kernel)) rfl
theorem g_ini_GyreWatch_Reading : Cond.initialized RX4 ∈ GW := GW_of (List.mem_of_getElem? (i := 31) (by decide +kernel)) rfl
theorem w_X4_daysFrom : CWm yX4_daysFrom cX4_daysFrom 2 (some .int) 1 := ⟨g_cw_X4_daysFrom, g_ini_GyreWatch_Reading, ⟨by decide +kernel, by decide +kernel, by decide +kernel⟩, by decide⟩
theorem g_in_X4_daysFrom : Cond.instanceMethod yX4_daysFrom ∈ GW := GW_of (List.mem_of_getElem? (i := 651) (by decide +kernel)) rfl
theorem g_se_X4_daysFrom : Cond.selects (RN 4) yX4_daysFrom yX4_daysFrom ∈ GW := GW_of (List.mem_of_getElem? (i := 652) (by decide +kernel)) rfl
theorem g_ml_RX2_60 : Cond.methodLink RX2 60 yX4_daysFrom ∈ GW := GW_of (List.mem_of_getElem? (i := 650) (by decide +kernel)) rfl
theorem g_cw_X8_buoyNumbered : Cond.code yX8_buoyNumbered cX8_buoyNumbered 3 (some (.object "GyreWatch$Buoy")) ∈ GW := GW_of (List.mem_of_getElem? (i := 500) (by decide +kernel)) rfl
theorem w_X8_buoyNumbered : CWm yX8_buoyNumbered cX8_buoyNumbered 3 (some (.object "GyreWatch$Buoy")) 1 := ⟨g_cw_X8_buoyNumbered, g_ini_GyreWatch, ⟨by decide +kernel, by decide +kernel, by decide +kernel⟩, by decide⟩
theorem g_in_X8_buoyNumbered : Cond.instanceMethod yX8_buoyNumbered ∈ GW := GW_of (List.mem_of_getElem? (i := 499) (by decide +kernel)) rfl
theorem g_se_X8_buoyNumbered : Cond.selects (RN 8) yX8_buoyNumbered yX8_buoyNumbered ∈ GW := GW_of (List.mem_of_getElem? (i := 6) (by decide +kernel)) rfl
theorem g_ml_RX8_127 : Cond.methodLink RX8 127 yX8_buoyNumbered ∈ GW := GW_of (List.mem_of_getElem? (i := 497) (by decide +kernel)) rfl
theorem g_fl_RX8_131 : Cond.fieldLink RX8 131 ((TN 0) 8).1 ((TN 0) 8).2.1 ((TN 0) 8).2.2.1 ∈ GW := GW_of (List.mem_of_getElem? (i := 706) (by decide +kernel)) rfl
theorem g_cw_X2_nearestOfShip : Cond.code yX2_nearestOfShip cX2_nearestOfShip 8 (some (.object "GyreWatch$Reading")) ∈ GW := GW_of (List.mem_of_getElem? (i := 649) (by decide +kernel)) rfl
theorem w_X2_nearestOfShip : CWm yX2_nearestOfShip cX2_nearestOfShip 8 (some (.object "GyreWatch$Reading")) 1 := ⟨g_cw_X2_nearestOfShip, g_ini_GyreWatch_Log, ⟨by decide +kernel, by decide +kernel, by decide +kernel⟩, by decide⟩
theorem g_in_X2_nearestOfShip : Cond.instanceMethod yX2_nearestOfShip ∈ GW := GW_of (List.mem_of_getElem? (i := 647) (by decide +kernel)) rfl
theorem g_se_X2_nearestOfShip : Cond.selects (RN 2) yX2_nearestOfShip yX2_nearestOfShip ∈ GW := GW_of (List.mem_of_getElem? (i := 648) (by decide +kernel)) rfl
theorem g_ml_RX8_135 : Cond.methodLink RX8 135 yX2_nearestOfShip ∈ GW := GW_of (List.mem_of_getElem? (i := 646) (by decide +kernel)) rfl
theorem g_fl_RX8_147 : Cond.fieldLink RX8 147 ((TN 4) 5).1 ((TN 4) 5).2.1 ((TN 4) 5).2.2.1 ∈ GW := GW_of (List.mem_of_getElem? (i := 354) (by decide +kernel)) rfl
theorem g_fl_RX8_139 : Cond.fieldLink RX8 139 ((TN 4) 2).1 ((TN 4) 2).2.1 ((TN 4) 2).2.2.1 ∈ GW := GW_of (List.mem_of_getElem? (i := 346) (by decide +kernel)) rfl
theorem g_fl_RX8_144 : Cond.fieldLink RX8 144 ((TN 0) 6).1 ((TN 0) 6).2.1 ((TN 0) 6).2.2.1 ∈ GW := GW_of (List.mem_of_getElem? (i := 702) (by decide +kernel)) rfl
theorem g_ml_RX6_3 : Cond.methodLink RX6 3 objectInit ∈ GW := GW_of (List.mem_of_getElem? (i := 666) (by decide +kernel)) rfl
theorem g_fl_RX6_9 : Cond.fieldLink RX6 9 ((TN 6) 1).1 ((TN 6) 1).2.1 ((TN 6) 1).2.2.1 ∈ GW := GW_of (List.mem_of_getElem? (i := 669) (by decide +kernel)) rfl
theorem g_fl_RX6_15 : Cond.fieldLink RX6 15 ((TN 6) 2).1 ((TN 6) 2).2.1 ((TN 6) 2).2.2.1 ∈ GW := GW_of (List.mem_of_getElem? (i := 671) (by decide +kernel)) rfl
theorem g_fl_RX6_18 : Cond.fieldLink RX6 18 ((TN 6) 0).1 ((TN 6) 0).2.1 ((TN 6) 0).2.2.1 ∈ GW := GW_of (List.mem_of_getElem? (i := 667) (by decide +kernel)) rfl
theorem g_fl_RX8_165 : Cond.fieldLink RX8 165 ((TN 8) 7).1 ((TN 8) 7).2.1 ((TN 8) 7).2.2.1 ∈ GW := GW_of (List.mem_of_getElem? (i := 155) (by decide +kernel)) rfl
theorem g_inst_6 : Cond.instantiable (RN 6) (nF 6) ∈ GW := GW_of (List.mem_of_getElem? (i := 384) (by decide +kernel)) rfl
theorem g_iniN_6 : Cond.initialized (RN 6) ∈ GW := GW_of (List.mem_of_getElem? (i := 28) (by decide +kernel)) rfl
theorem g_clN_RX8_36 : Cond.classLink RX8 36 (RN 6) ∈ GW := GW_of (List.mem_of_getElem? (i := 144) (by decide +kernel)) rfl
theorem g_cw_X6_init : Cond.code yX6_init cX6_init 2 none ∈ GW := GW_of (List.mem_of_getElem? (i := 665) (by decide +kernel)) rfl
theorem g_ini_GyreWatch_Search : Cond.initialized RX6 ∈ GW := GW_of (List.mem_of_getElem? (i := 28) (by decide +kernel)) rfl
theorem w_X6_init : CWm yX6_init cX6_init 2 none 1 := ⟨g_cw_X6_init, g_ini_GyreWatch_Search, ⟨by decide +kernel, by decide +kernel, by decide +kernel⟩, by decide⟩
theorem g_in_X6_init : Cond.instanceMethod yX6_init ∈ GW := GW_of (List.mem_of_getElem? (i := 664) (by decide +kernel)) rfl
theorem g_ml_RX8_170 : Cond.methodLink RX8 170 yX6_init ∈ GW := GW_of (List.mem_of_getElem? (i := 663) (by decide +kernel)) rfl
theorem g_ml_RX0_1 : Cond.methodLink RX0 1 objectInit ∈ GW := GW_of (List.mem_of_getElem? (i := 688) (by decide +kernel)) rfl
theorem g_fl_RX0_7 : Cond.fieldLink RX0 7 ((TN 0) 0).1 ((TN 0) 0).2.1 ((TN 0) 0).2.2.1 ∈ GW := GW_of (List.mem_of_getElem? (i := 689) (by decide +kernel)) rfl
theorem g_fl_RX0_13 : Cond.fieldLink RX0 13 ((TN 0) 3).1 ((TN 0) 3).2.1 ((TN 0) 3).2.2.1 ∈ GW := GW_of (List.mem_of_getElem? (i := 695) (by decide +kernel)) rfl
theorem g_fl_RX0_16 : Cond.fieldLink RX0 16 ((TN 0) 1).1 ((TN 0) 1).2.1 ((TN 0) 1).2.2.1 ∈ GW := GW_of (List.mem_of_getElem? (i := 691) (by decide +kernel)) rfl
theorem g_fl_RX0_19 : Cond.fieldLink RX0 19 ((TN 0) 4).1 ((TN 0) 4).2.1 ((TN 0) 4).2.2.1 ∈ GW := GW_of (List.mem_of_getElem? (i := 697) (by decide +kernel)) rfl
theorem g_fl_RX0_22 : Cond.fieldLink RX0 22 ((TN 0) 5).1 ((TN 0) 5).2.1 ((TN 0) 5).2.2.1 ∈ GW := GW_of (List.mem_of_getElem? (i := 699) (by decide +kernel)) rfl
theorem g_fl_RX0_25 : Cond.fieldLink RX0 25 ((TN 0) 2).1 ((TN 0) 2).2.1 ((TN 0) 2).2.2.1 ∈ GW := GW_of (List.mem_of_getElem? (i := 693) (by decide +kernel)) rfl
theorem g_fl_RX8_90 : Cond.fieldLink RX8 90 ((TN 8) 6).1 ((TN 8) 6).2.1 ((TN 8) 6).2.2.1 ∈ GW := GW_of (List.mem_of_getElem? (i := 154) (by decide +kernel)) rfl
theorem g_inst_0 : Cond.instantiable (RN 0) (nF 0) ∈ GW := GW_of (List.mem_of_getElem? (i := 684) (by decide +kernel)) rfl
theorem g_iniN_0 : Cond.initialized (RN 0) ∈ GW := GW_of (List.mem_of_getElem? (i := 29) (by decide +kernel)) rfl
theorem g_clN_RX8_16 : Cond.classLink RX8 16 (RN 0) ∈ GW := GW_of (List.mem_of_getElem? (i := 98) (by decide +kernel)) rfl
theorem g_cw_X0_init : Cond.code yX0_init cX0_init 6 none ∈ GW := GW_of (List.mem_of_getElem? (i := 687) (by decide +kernel)) rfl
theorem g_ini_GyreWatch_Buoy : Cond.initialized RX0 ∈ GW := GW_of (List.mem_of_getElem? (i := 29) (by decide +kernel)) rfl
theorem w_X0_init : CWm yX0_init cX0_init 6 none 5 := ⟨g_cw_X0_init, g_ini_GyreWatch_Buoy, ⟨by decide +kernel, by decide +kernel, by decide +kernel⟩, by decide⟩
theorem g_in_X0_init : Cond.instanceMethod yX0_init ∈ GW := GW_of (List.mem_of_getElem? (i := 686) (by decide +kernel)) rfl
theorem g_ml_RX8_99 : Cond.methodLink RX8 99 yX0_init ∈ GW := GW_of (List.mem_of_getElem? (i := 685) (by decide +kernel)) rfl
theorem g_fl_RX4_24 : Cond.fieldLink RX4 24 ((TN 4) 3).1 ((TN 4) 3).2.1 ((TN 4) 3).2.2.1 ∈ GW := GW_of (List.mem_of_getElem? (i := 347) (by decide +kernel)) rfl
theorem g_fl_RX4_21 : Cond.fieldLink RX4 21 ((TN 4) 2).1 ((TN 4) 2).2.1 ((TN 4) 2).2.2.1 ∈ GW := GW_of (List.mem_of_getElem? (i := 345) (by decide +kernel)) rfl
theorem g_fl_RX4_28 : Cond.fieldLink RX4 28 ((TN 0) 6).1 ((TN 0) 6).2.1 ((TN 0) 6).2.2.1 ∈ GW := GW_of (List.mem_of_getElem? (i := 701) (by decide +kernel)) rfl
theorem g_fl_RX4_37 : Cond.fieldLink RX4 37 ((TN 4) 5).1 ((TN 4) 5).2.1 ((TN 4) 5).2.2.1 ∈ GW := GW_of (List.mem_of_getElem? (i := 353) (by decide +kernel)) rfl
theorem g_fl_RX4_41 : Cond.fieldLink RX4 41 ((TN 4) 6).1 ((TN 4) 6).2.1 ((TN 4) 6).2.2.1 ∈ GW := GW_of (List.mem_of_getElem? (i := 356) (by decide +kernel)) rfl
theorem g_cw_X4_corrected : Cond.code yX4_corrected cX4_corrected 1 (some .int) ∈ GW := GW_of (List.mem_of_getElem? (i := 550) (by decide +kernel)) rfl
theorem w_X4_corrected : CWm yX4_corrected cX4_corrected 1 (some .int) 0 := ⟨g_cw_X4_corrected, g_ini_GyreWatch_Reading, ⟨by decide +kernel, by decide +kernel, by decide +kernel⟩, by decide⟩
theorem g_in_X4_corrected : Cond.instanceMethod yX4_corrected ∈ GW := GW_of (List.mem_of_getElem? (i := 548) (by decide +kernel)) rfl
theorem g_se_X4_corrected : Cond.selects (RN 4) yX4_corrected yX4_corrected ∈ GW := GW_of (List.mem_of_getElem? (i := 549) (by decide +kernel)) rfl
theorem g_ml_RX4_44 : Cond.methodLink RX4 44 yX4_corrected ∈ GW := GW_of (List.mem_of_getElem? (i := 559) (by decide +kernel)) rfl
theorem g_fl_RX4_9 : Cond.fieldLink RX4 9 ((TN 4) 4).1 ((TN 4) 4).2.1 ((TN 4) 4).2.2.1 ∈ GW := GW_of (List.mem_of_getElem? (i := 350) (by decide +kernel)) rfl
theorem g_cw_X4_isSpike : Cond.code yX4_isSpike cX4_isSpike 4 (some .boolean) ∈ GW := GW_of (List.mem_of_getElem? (i := 558) (by decide +kernel)) rfl
theorem w_X4_isSpike : CWm yX4_isSpike cX4_isSpike 4 (some .boolean) 1 := ⟨g_cw_X4_isSpike, g_ini_GyreWatch_Reading, ⟨by decide +kernel, by decide +kernel, by decide +kernel⟩, by decide⟩
theorem g_in_X4_isSpike : Cond.instanceMethod yX4_isSpike ∈ GW := GW_of (List.mem_of_getElem? (i := 557) (by decide +kernel)) rfl
theorem g_se_X4_isSpike : Cond.selects (RN 4) yX4_isSpike yX4_isSpike ∈ GW := GW_of (List.mem_of_getElem? (i := 9) (by decide +kernel)) rfl
theorem g_ml_RX4_33 : Cond.methodLink RX4 33 yX4_isSpike ∈ GW := GW_of (List.mem_of_getElem? (i := 555) (by decide +kernel)) rfl
theorem g_cw_X4_flagBy : Cond.code yX4_flagBy cX4_flagBy 2 (some .int) ∈ GW := GW_of (List.mem_of_getElem? (i := 554) (by decide +kernel)) rfl
theorem w_X4_flagBy : CWm yX4_flagBy cX4_flagBy 2 (some .int) 1 := ⟨g_cw_X4_flagBy, g_ini_GyreWatch_Reading, ⟨by decide +kernel, by decide +kernel, by decide +kernel⟩, by decide⟩
theorem g_in_X4_flagBy : Cond.instanceMethod yX4_flagBy ∈ GW := GW_of (List.mem_of_getElem? (i := 552) (by decide +kernel)) rfl
theorem g_se_X4_flagBy : Cond.selects (RN 4) yX4_flagBy yX4_flagBy ∈ GW := GW_of (List.mem_of_getElem? (i := 553) (by decide +kernel)) rfl
theorem g_ml_RX2_75 : Cond.methodLink RX2 75 yX4_flagBy ∈ GW := GW_of (List.mem_of_getElem? (i := 750) (by decide +kernel)) rfl
theorem g_fl_RX4_18 : Cond.fieldLink RX4 18 ((TN 4) 1).1 ((TN 4) 1).2.1 ((TN 4) 1).2.2.1 ∈ GW := GW_of (List.mem_of_getElem? (i := 342) (by decide +kernel)) rfl
theorem g_ml_RX4_54 : Cond.methodLink RX4 54 Lib.Math.max.name ∈ GW := GW_of (List.mem_of_getElem? (i := 755) (by decide +kernel)) rfl
theorem g_st_math_max : Cond.static Lib.Math.max.name ∈ GW := GW_of (List.mem_of_getElem? (i := 306) (by decide +kernel)) rfl
theorem g_cw_math_max : Cond.code Lib.Math.max.name Lib.Math.max.code 2 (some .int) ∈ GW := GW_of (List.mem_of_getElem? (i := 307) (by decide +kernel)) rfl
theorem g_cw_X2_isInSpan : Cond.code yX2_isInSpan cX2_isInSpan 4 (some .boolean) ∈ GW := GW_of (List.mem_of_getElem? (i := 749) (by decide +kernel)) rfl
theorem w_X2_isInSpan : CWm yX2_isInSpan cX2_isInSpan 4 (some .boolean) 3 := ⟨g_cw_X2_isInSpan, g_ini_GyreWatch_Log, ⟨by decide +kernel, by decide +kernel, by decide +kernel⟩, by decide⟩
theorem g_in_X2_isInSpan : Cond.instanceMethod yX2_isInSpan ∈ GW := GW_of (List.mem_of_getElem? (i := 748) (by decide +kernel)) rfl
theorem g_se_X2_isInSpan : Cond.selects (RN 2) yX2_isInSpan yX2_isInSpan ∈ GW := GW_of (List.mem_of_getElem? (i := 13) (by decide +kernel)) rfl
theorem g_ml_RX2_64 : Cond.methodLink RX2 64 yX2_isInSpan ∈ GW := GW_of (List.mem_of_getElem? (i := 746) (by decide +kernel)) rfl
theorem g_cw_X4_weightIn : Cond.code yX4_weightIn cX4_weightIn 3 (some .int) ∈ GW := GW_of (List.mem_of_getElem? (i := 754) (by decide +kernel)) rfl
theorem w_X4_weightIn : CWm yX4_weightIn cX4_weightIn 3 (some .int) 1 := ⟨g_cw_X4_weightIn, g_ini_GyreWatch_Reading, ⟨by decide +kernel, by decide +kernel, by decide +kernel⟩, by decide⟩
theorem g_in_X4_weightIn : Cond.instanceMethod yX4_weightIn ∈ GW := GW_of (List.mem_of_getElem? (i := 752) (by decide +kernel)) rfl
theorem g_se_X4_weightIn : Cond.selects (RN 4) yX4_weightIn yX4_weightIn ∈ GW := GW_of (List.mem_of_getElem? (i := 753) (by decide +kernel)) rfl
theorem g_ml_RX2_68 : Cond.methodLink RX2 68 yX4_weightIn ∈ GW := GW_of (List.mem_of_getElem? (i := 751) (by decide +kernel)) rfl
theorem g_ml_RX2_71 : Cond.methodLink RX2 71 yX4_corrected ∈ GW := GW_of (List.mem_of_getElem? (i := 761) (by decide +kernel)) rfl
theorem g_cw_X2_weightsWithout : Cond.code yX2_weightsWithout cX2_weightsWithout 10 (some .int) ∈ GW := GW_of (List.mem_of_getElem? (i := 745) (by decide +kernel)) rfl
theorem w_X2_weightsWithout : CWm yX2_weightsWithout cX2_weightsWithout 10 (some .int) 4 := ⟨g_cw_X2_weightsWithout, g_ini_GyreWatch_Log, ⟨by decide +kernel, by decide +kernel, by decide +kernel⟩, by decide⟩
theorem g_in_X2_weightsWithout : Cond.instanceMethod yX2_weightsWithout ∈ GW := GW_of (List.mem_of_getElem? (i := 743) (by decide +kernel)) rfl
theorem g_se_X2_weightsWithout : Cond.selects (RN 2) yX2_weightsWithout yX2_weightsWithout ∈ GW := GW_of (List.mem_of_getElem? (i := 744) (by decide +kernel)) rfl
theorem g_ml_RX8_258 : Cond.methodLink RX8 258 yX2_weightsWithout ∈ GW := GW_of (List.mem_of_getElem? (i := 742) (by decide +kernel)) rfl
theorem g_cw_X2_weighedValuesWithout : Cond.code yX2_weighedValuesWithout cX2_weighedValuesWithout 11 (some .long) ∈ GW := GW_of (List.mem_of_getElem? (i := 760) (by decide +kernel)) rfl
theorem w_X2_weighedValuesWithout : CWm yX2_weighedValuesWithout cX2_weighedValuesWithout 11 (some .long) 4 := ⟨g_cw_X2_weighedValuesWithout, g_ini_GyreWatch_Log, ⟨by decide +kernel, by decide +kernel, by decide +kernel⟩, by decide⟩
theorem g_in_X2_weighedValuesWithout : Cond.instanceMethod yX2_weighedValuesWithout ∈ GW := GW_of (List.mem_of_getElem? (i := 758) (by decide +kernel)) rfl
theorem g_se_X2_weighedValuesWithout : Cond.selects (RN 2) yX2_weighedValuesWithout yX2_weighedValuesWithout ∈ GW := GW_of (List.mem_of_getElem? (i := 759) (by decide +kernel)) rfl
theorem g_ml_RX8_309 : Cond.methodLink RX8 309 yX2_weighedValuesWithout ∈ GW := GW_of (List.mem_of_getElem? (i := 757) (by decide +kernel)) rfl
theorem g_cw_X8_needMap : Cond.code yX8_needMap cX8_needMap 3 none ∈ GW := GW_of (List.mem_of_getElem? (i := 732) (by decide +kernel)) rfl
theorem w_X8_needMap : CWm yX8_needMap cX8_needMap 3 none 3 := ⟨g_cw_X8_needMap, g_ini_GyreWatch, ⟨by decide +kernel, by decide +kernel, by decide +kernel⟩, by decide⟩
theorem g_ml_RX8_248 : Cond.methodLink RX8 248 yX8_needMap ∈ GW := GW_of (List.mem_of_getElem? (i := 730) (by decide +kernel)) rfl
theorem g_st_X8_needMap : Cond.static yX8_needMap ∈ GW := GW_of (List.mem_of_getElem? (i := 731) (by decide +kernel)) rfl
theorem g_cw_X8_needSea : Cond.code yX8_needSea cX8_needSea 2 none ∈ GW := GW_of (List.mem_of_getElem? (i := 736) (by decide +kernel)) rfl
theorem w_X8_needSea : CWm yX8_needSea cX8_needSea 2 none 1 := ⟨g_cw_X8_needSea, g_ini_GyreWatch, ⟨by decide +kernel, by decide +kernel, by decide +kernel⟩, by decide⟩
theorem g_in_X8_needSea : Cond.instanceMethod yX8_needSea ∈ GW := GW_of (List.mem_of_getElem? (i := 735) (by decide +kernel)) rfl
theorem g_se_X8_needSea : Cond.selects (RN 8) yX8_needSea yX8_needSea ∈ GW := GW_of (List.mem_of_getElem? (i := 11) (by decide +kernel)) rfl
theorem g_ml_RX8_251 : Cond.methodLink RX8 251 yX8_needSea ∈ GW := GW_of (List.mem_of_getElem? (i := 733) (by decide +kernel)) rfl
theorem g_cw_X8_meanWithout : Cond.code yX8_meanWithout cX8_meanWithout 6 (some .int) ∈ GW := GW_of (List.mem_of_getElem? (i := 741) (by decide +kernel)) rfl
theorem w_X8_meanWithout : CWm yX8_meanWithout cX8_meanWithout 6 (some .int) 4 := ⟨g_cw_X8_meanWithout, g_ini_GyreWatch, ⟨by decide +kernel, by decide +kernel, by decide +kernel⟩, by decide⟩
theorem g_in_X8_meanWithout : Cond.instanceMethod yX8_meanWithout ∈ GW := GW_of (List.mem_of_getElem? (i := 740) (by decide +kernel)) rfl
theorem g_se_X8_meanWithout : Cond.selects (RN 8) yX8_meanWithout yX8_meanWithout ∈ GW := GW_of (List.mem_of_getElem? (i := 12) (by decide +kernel)) rfl
theorem g_ml_RX8_254 : Cond.methodLink RX8 254 yX8_meanWithout ∈ GW := GW_of (List.mem_of_getElem? (i := 738) (by decide +kernel)) rfl
theorem g_fl_RX8_293 : Cond.fieldLink RX8 293 ((TN 2) 0).1 ((TN 2) 0).2.1 ((TN 2) 0).2.2.1 ∈ GW := GW_of (List.mem_of_getElem? (i := 109) (by decide +kernel)) rfl
theorem g_cw_X8_readingNumbered : Cond.code yX8_readingNumbered cX8_readingNumbered 3 (some (.object "GyreWatch$Reading")) ∈ GW := GW_of (List.mem_of_getElem? (i := 545) (by decide +kernel)) rfl
theorem w_X8_readingNumbered : CWm yX8_readingNumbered cX8_readingNumbered 3 (some (.object "GyreWatch$Reading")) 1 := ⟨g_cw_X8_readingNumbered, g_ini_GyreWatch, ⟨by decide +kernel, by decide +kernel, by decide +kernel⟩, by decide⟩
theorem g_in_X8_readingNumbered : Cond.instanceMethod yX8_readingNumbered ∈ GW := GW_of (List.mem_of_getElem? (i := 544) (by decide +kernel)) rfl
theorem g_se_X8_readingNumbered : Cond.selects (RN 8) yX8_readingNumbered yX8_readingNumbered ∈ GW := GW_of (List.mem_of_getElem? (i := 8) (by decide +kernel)) rfl
theorem g_ml_RX8_152 : Cond.methodLink RX8 152 yX8_readingNumbered ∈ GW := GW_of (List.mem_of_getElem? (i := 542) (by decide +kernel)) rfl
theorem g_ml_RX8_237 : Cond.methodLink RX8 237 yX4_corrected ∈ GW := GW_of (List.mem_of_getElem? (i := 547) (by decide +kernel)) rfl
theorem g_fl_RX8_236 : Cond.fieldLink RX8 236 ((TN 4) 1).1 ((TN 4) 1).2.1 ((TN 4) 1).2.2.1 ∈ GW := GW_of (List.mem_of_getElem? (i := 344) (by decide +kernel)) rfl
theorem g_fl_RX8_233 : Cond.fieldLink RX8 233 ((TN 4) 0).1 ((TN 4) 0).2.1 ((TN 4) 0).2.2.1 ∈ GW := GW_of (List.mem_of_getElem? (i := 341) (by decide +kernel)) rfl
theorem g_cw_X8_residual : Cond.code yX8_residual cX8_residual 4 (some .int) ∈ GW := GW_of (List.mem_of_getElem? (i := 769) (by decide +kernel)) rfl
theorem w_X8_residual : CWm yX8_residual cX8_residual 4 (some .int) 2 := ⟨g_cw_X8_residual, g_ini_GyreWatch, ⟨by decide +kernel, by decide +kernel, by decide +kernel⟩, by decide⟩
theorem g_in_X8_residual : Cond.instanceMethod yX8_residual ∈ GW := GW_of (List.mem_of_getElem? (i := 767) (by decide +kernel)) rfl
theorem g_se_X8_residual : Cond.selects (RN 8) yX8_residual yX8_residual ∈ GW := GW_of (List.mem_of_getElem? (i := 768) (by decide +kernel)) rfl
theorem g_ml_RL_45 : Cond.methodLink RL 45 yX8_residual ∈ GW := GW_of (List.mem_of_getElem? (i := 766) (by decide +kernel)) rfl
theorem g_co_RL_50 : Cond.constant RL 50 (-2000000003 : Int32) ∈ GW := GW_of (List.mem_of_getElem? (i := 770) (by decide +kernel)) rfl
theorem g_cl_RL_48 : Cond.classLink RL 48 (exN 3) ∈ GW := GW_of (List.mem_of_getElem? (i := 575) (by decide +kernel)) rfl
theorem g_cw_X8_error : Cond.code yX8_error cX8_error 5 (some .int) ∈ GW := GW_of (List.mem_of_getElem? (i := 765) (by decide +kernel)) rfl
theorem w_X8_error : CWm yX8_error cX8_error 5 (some .int) 3 := ⟨g_cw_X8_error, g_ini_GyreWatch, ⟨by decide +kernel, by decide +kernel, by decide +kernel⟩, by decide⟩
theorem g_in_X8_error : Cond.instanceMethod yX8_error ∈ GW := GW_of (List.mem_of_getElem? (i := 763) (by decide +kernel)) rfl
theorem g_se_X8_error : Cond.selects (RN 8) yX8_error yX8_error ∈ GW := GW_of (List.mem_of_getElem? (i := 764) (by decide +kernel)) rfl
theorem g_ml_RL_42 : Cond.methodLink RL 42 yX8_error ∈ GW := GW_of (List.mem_of_getElem? (i := 762) (by decide +kernel)) rfl
theorem g_cw_X8_mean : Cond.code yX8_mean cX8_mean 4 (some .int) ∈ GW := GW_of (List.mem_of_getElem? (i := 729) (by decide +kernel)) rfl
theorem w_X8_mean : CWm yX8_mean cX8_mean 4 (some .int) 3 := ⟨g_cw_X8_mean, g_ini_GyreWatch, ⟨by decide +kernel, by decide +kernel, by decide +kernel⟩, by decide⟩
theorem g_in_X8_mean : Cond.instanceMethod yX8_mean ∈ GW := GW_of (List.mem_of_getElem? (i := 727) (by decide +kernel)) rfl
theorem g_se_X8_mean : Cond.selects (RN 8) yX8_mean yX8_mean ∈ GW := GW_of (List.mem_of_getElem? (i := 728) (by decide +kernel)) rfl
theorem g_ml_RL_38 : Cond.methodLink RL 38 yX8_mean ∈ GW := GW_of (List.mem_of_getElem? (i := 726) (by decide +kernel)) rfl
theorem g_cw_L_low : Cond.code yL_low cL_low 2 (some .int) ∈ GW := GW_of (List.mem_of_getElem? (i := 420) (by decide +kernel)) rfl
theorem g_ini_GyreWatchLaw : Cond.initialized RL ∈ GW := GW_of (List.mem_of_getElem? (i := 14) (by decide +kernel)) rfl
theorem w_L_low : CWm yL_low cL_low 2 (some .int) 2 := ⟨g_cw_L_low, g_ini_GyreWatchLaw, ⟨by decide +kernel, by decide +kernel, by decide +kernel⟩, by decide⟩
theorem g_ml_RL_29 : Cond.methodLink RL 29 yL_low ∈ GW := GW_of (List.mem_of_getElem? (i := 418) (by decide +kernel)) rfl
theorem g_st_L_low : Cond.static yL_low ∈ GW := GW_of (List.mem_of_getElem? (i := 419) (by decide +kernel)) rfl
theorem g_cw_X8_lay : Cond.code yX8_lay cX8_lay 6 (some .int) ∈ GW := GW_of (List.mem_of_getElem? (i := 682) (by decide +kernel)) rfl
theorem w_X8_lay : CWm yX8_lay cX8_lay 6 (some .int) 4 := ⟨g_cw_X8_lay, g_ini_GyreWatch, ⟨by decide +kernel, by decide +kernel, by decide +kernel⟩, by decide⟩
theorem g_in_X8_lay : Cond.instanceMethod yX8_lay ∈ GW := GW_of (List.mem_of_getElem? (i := 680) (by decide +kernel)) rfl
theorem g_se_X8_lay : Cond.selects (RN 8) yX8_lay yX8_lay ∈ GW := GW_of (List.mem_of_getElem? (i := 681) (by decide +kernel)) rfl
theorem g_ml_RL_34 : Cond.methodLink RL 34 yX8_lay ∈ GW := GW_of (List.mem_of_getElem? (i := 679) (by decide +kernel)) rfl
theorem g_cw_X8_search : Cond.code yX8_search cX8_search 3 (some .int) ∈ GW := GW_of (List.mem_of_getElem? (i := 661) (by decide +kernel)) rfl
theorem w_X8_search : CWm yX8_search cX8_search 3 (some .int) 1 := ⟨g_cw_X8_search, g_ini_GyreWatch, ⟨by decide +kernel, by decide +kernel, by decide +kernel⟩, by decide⟩
theorem g_in_X8_search : Cond.instanceMethod yX8_search ∈ GW := GW_of (List.mem_of_getElem? (i := 659) (by decide +kernel)) rfl
theorem g_se_X8_search : Cond.selects (RN 8) yX8_search yX8_search ∈ GW := GW_of (List.mem_of_getElem? (i := 660) (by decide +kernel)) rfl
theorem g_ml_RL_26 : Cond.methodLink RL 26 yX8_search ∈ GW := GW_of (List.mem_of_getElem? (i := 658) (by decide +kernel)) rfl
theorem g_cw_X8_calibrate : Cond.code yX8_calibrate cX8_calibrate 5 (some .int) ∈ GW := GW_of (List.mem_of_getElem? (i := 645) (by decide +kernel)) rfl
theorem w_X8_calibrate : CWm yX8_calibrate cX8_calibrate 5 (some .int) 1 := ⟨g_cw_X8_calibrate, g_ini_GyreWatch, ⟨by decide +kernel, by decide +kernel, by decide +kernel⟩, by decide⟩
theorem g_in_X8_calibrate : Cond.instanceMethod yX8_calibrate ∈ GW := GW_of (List.mem_of_getElem? (i := 643) (by decide +kernel)) rfl
theorem g_se_X8_calibrate : Cond.selects (RN 8) yX8_calibrate yX8_calibrate ∈ GW := GW_of (List.mem_of_getElem? (i := 644) (by decide +kernel)) rfl
theorem g_ml_RL_23 : Cond.methodLink RL 23 yX8_calibrate ∈ GW := GW_of (List.mem_of_getElem? (i := 642) (by decide +kernel)) rfl
theorem g_cw_X8_storm : Cond.code yX8_storm cX8_storm 4 (some .int) ∈ GW := GW_of (List.mem_of_getElem? (i := 626) (by decide +kernel)) rfl
theorem w_X8_storm : CWm yX8_storm cX8_storm 4 (some .int) 2 := ⟨g_cw_X8_storm, g_ini_GyreWatch, ⟨by decide +kernel, by decide +kernel, by decide +kernel⟩, by decide⟩
theorem g_in_X8_storm : Cond.instanceMethod yX8_storm ∈ GW := GW_of (List.mem_of_getElem? (i := 624) (by decide +kernel)) rfl
theorem g_se_X8_storm : Cond.selects (RN 8) yX8_storm yX8_storm ∈ GW := GW_of (List.mem_of_getElem? (i := 625) (by decide +kernel)) rfl
theorem g_ml_RL_20 : Cond.methodLink RL 20 yX8_storm ∈ GW := GW_of (List.mem_of_getElem? (i := 623) (by decide +kernel)) rfl
theorem g_cw_X8_station : Cond.code yX8_station cX8_station 3 (some .int) ∈ GW := GW_of (List.mem_of_getElem? (i := 605) (by decide +kernel)) rfl
theorem w_X8_station : CWm yX8_station cX8_station 3 (some .int) 2 := ⟨g_cw_X8_station, g_ini_GyreWatch, ⟨by decide +kernel, by decide +kernel, by decide +kernel⟩, by decide⟩
theorem g_in_X8_station : Cond.instanceMethod yX8_station ∈ GW := GW_of (List.mem_of_getElem? (i := 603) (by decide +kernel)) rfl
theorem g_se_X8_station : Cond.selects (RN 8) yX8_station yX8_station ∈ GW := GW_of (List.mem_of_getElem? (i := 604) (by decide +kernel)) rfl
theorem g_ml_RL_16 : Cond.methodLink RL 16 yX8_station ∈ GW := GW_of (List.mem_of_getElem? (i := 602) (by decide +kernel)) rfl
theorem g_cw_X8_land : Cond.code yX8_land cX8_land 2 (some .int) ∈ GW := GW_of (List.mem_of_getElem? (i := 579) (by decide +kernel)) rfl
theorem w_X8_land : CWm yX8_land cX8_land 2 (some .int) 1 := ⟨g_cw_X8_land, g_ini_GyreWatch, ⟨by decide +kernel, by decide +kernel, by decide +kernel⟩, by decide⟩
theorem g_in_X8_land : Cond.instanceMethod yX8_land ∈ GW := GW_of (List.mem_of_getElem? (i := 577) (by decide +kernel)) rfl
theorem g_se_X8_land : Cond.selects (RN 8) yX8_land yX8_land ∈ GW := GW_of (List.mem_of_getElem? (i := 578) (by decide +kernel)) rfl
theorem g_ml_RL_10 : Cond.methodLink RL 10 yX8_land ∈ GW := GW_of (List.mem_of_getElem? (i := 576) (by decide +kernel)) rfl
theorem g_fl_RX8_78 : Cond.fieldLink RX8 78 ((TN 5) 2).1 ((TN 5) 2).2.1 ((TN 5) 2).2.2.1 ∈ GW := GW_of (List.mem_of_getElem? (i := 72) (by decide +kernel)) rfl
theorem g_fl_RX8_82 : Cond.fieldLink RX8 82 ((TN 5) 3).1 ((TN 5) 3).2.1 ((TN 5) 3).2.2.1 ∈ GW := GW_of (List.mem_of_getElem? (i := 74) (by decide +kernel)) rfl
theorem g_cw_X8_searchNumbered : Cond.code yX8_searchNumbered cX8_searchNumbered 3 (some (.object "GyreWatch$Search")) ∈ GW := GW_of (List.mem_of_getElem? (i := 516) (by decide +kernel)) rfl
theorem w_X8_searchNumbered : CWm yX8_searchNumbered cX8_searchNumbered 3 (some (.object "GyreWatch$Search")) 1 := ⟨g_cw_X8_searchNumbered, g_ini_GyreWatch, ⟨by decide +kernel, by decide +kernel, by decide +kernel⟩, by decide⟩
theorem g_in_X8_searchNumbered : Cond.instanceMethod yX8_searchNumbered ∈ GW := GW_of (List.mem_of_getElem? (i := 515) (by decide +kernel)) rfl
theorem g_se_X8_searchNumbered : Cond.selects (RN 8) yX8_searchNumbered yX8_searchNumbered ∈ GW := GW_of (List.mem_of_getElem? (i := 7) (by decide +kernel)) rfl
theorem g_ml_RX8_172 : Cond.methodLink RX8 172 yX8_searchNumbered ∈ GW := GW_of (List.mem_of_getElem? (i := 513) (by decide +kernel)) rfl
theorem g_fl_RX8_176 : Cond.fieldLink RX8 176 ((TN 6) 1).1 ((TN 6) 1).2.1 ((TN 6) 1).2.2.1 ∈ GW := GW_of (List.mem_of_getElem? (i := 670) (by decide +kernel)) rfl
theorem g_cw_X6_lookAt : Cond.code yX6_lookAt cX6_lookAt 4 (some .int) ∈ GW := GW_of (List.mem_of_getElem? (i := 532) (by decide +kernel)) rfl
theorem w_X6_lookAt : CWm yX6_lookAt cX6_lookAt 4 (some .int) 3 := ⟨g_cw_X6_lookAt, g_ini_GyreWatch_Search, ⟨by decide +kernel, by decide +kernel, by decide +kernel⟩, by decide⟩
theorem g_ml_RX8_179 : Cond.methodLink RX8 179 yX6_lookAt ∈ GW := GW_of (List.mem_of_getElem? (i := 786) (by decide +kernel)) rfl
theorem g_st_X6_lookAt : Cond.static yX6_lookAt ∈ GW := GW_of (List.mem_of_getElem? (i := 531) (by decide +kernel)) rfl
theorem g_fl_RX8_156 : Cond.fieldLink RX8 156 ((TN 2) 2).1 ((TN 2) 2).2.1 ((TN 2) 2).2.2.1 ∈ GW := GW_of (List.mem_of_getElem? (i := 113) (by decide +kernel)) rfl
theorem g_cw_L_apart : Cond.code yL_apart cL_apart 2 (some .int) ∈ GW := GW_of (List.mem_of_getElem? (i := 571) (by decide +kernel)) rfl
theorem w_L_apart : CWm yL_apart cL_apart 2 (some .int) 2 := ⟨g_cw_L_apart, g_ini_GyreWatchLaw, ⟨by decide +kernel, by decide +kernel, by decide +kernel⟩, by decide⟩
theorem g_ml_RL_78 : Cond.methodLink RL 78 yL_apart ∈ GW := GW_of (List.mem_of_getElem? (i := 569) (by decide +kernel)) rfl
theorem g_st_L_apart : Cond.static yL_apart ∈ GW := GW_of (List.mem_of_getElem? (i := 570) (by decide +kernel)) rfl
theorem g_ml_RX8_159 : Cond.methodLink RX8 159 yX4_flagBy ∈ GW := GW_of (List.mem_of_getElem? (i := 551) (by decide +kernel)) rfl
theorem g_fl_RX8_162 : Cond.fieldLink RX8 162 ((TN 4) 4).1 ((TN 4) 4).2.1 ((TN 4) 4).2.2.1 ∈ GW := GW_of (List.mem_of_getElem? (i := 351) (by decide +kernel)) rfl
theorem g_cw_L_flag : Cond.code yL_flag cL_flag 8 (some .int) ∈ GW := GW_of (List.mem_of_getElem? (i := 565) (by decide +kernel)) rfl
theorem w_L_flag : CWm yL_flag cL_flag 8 (some .int) 4 := ⟨g_cw_L_flag, g_ini_GyreWatchLaw, ⟨by decide +kernel, by decide +kernel, by decide +kernel⟩, by decide⟩
theorem g_ml_RL_81 : Cond.methodLink RL 81 yL_flag ∈ GW := GW_of (List.mem_of_getElem? (i := 563) (by decide +kernel)) rfl
theorem g_st_L_flag : Cond.static yL_flag ∈ GW := GW_of (List.mem_of_getElem? (i := 564) (by decide +kernel)) rfl
theorem g_cw_X8_flag : Cond.code yX8_flag cX8_flag 5 (some .int) ∈ GW := GW_of (List.mem_of_getElem? (i := 797) (by decide +kernel)) rfl
theorem w_X8_flag : CWm yX8_flag cX8_flag 5 (some .int) 2 := ⟨g_cw_X8_flag, g_ini_GyreWatch, ⟨by decide +kernel, by decide +kernel, by decide +kernel⟩, by decide⟩
theorem g_in_X8_flag : Cond.instanceMethod yX8_flag ∈ GW := GW_of (List.mem_of_getElem? (i := 795) (by decide +kernel)) rfl
theorem g_se_X8_flag : Cond.selects (RN 8) yX8_flag yX8_flag ∈ GW := GW_of (List.mem_of_getElem? (i := 796) (by decide +kernel)) rfl
theorem g_ml_RL_150 : Cond.methodLink RL 150 yX8_flag ∈ GW := GW_of (List.mem_of_getElem? (i := 794) (by decide +kernel)) rfl
theorem g_cw_L_calibrated : Cond.code yL_calibrated cL_calibrated 8 (some .int) ∈ GW := GW_of (List.mem_of_getElem? (i := 793) (by decide +kernel)) rfl
theorem w_L_calibrated : CWm yL_calibrated cL_calibrated 8 (some .int) 5 := ⟨g_cw_L_calibrated, g_ini_GyreWatchLaw, ⟨by decide +kernel, by decide +kernel, by decide +kernel⟩, by decide⟩
theorem g_ml_RL_146 : Cond.methodLink RL 146 yL_calibrated ∈ GW := GW_of (List.mem_of_getElem? (i := 791) (by decide +kernel)) rfl
theorem g_st_L_calibrated : Cond.static yL_calibrated ∈ GW := GW_of (List.mem_of_getElem? (i := 792) (by decide +kernel)) rfl
theorem g_cw_L_best : Cond.code yL_best cL_best 3 (some .int) ∈ GW := GW_of (List.mem_of_getElem? (i := 508) (by decide +kernel)) rfl
theorem w_L_best : CWm yL_best cL_best 3 (some .int) 1 := ⟨g_cw_L_best, g_ini_GyreWatchLaw, ⟨by decide +kernel, by decide +kernel, by decide +kernel⟩, by decide⟩
theorem g_ml_RL_88 : Cond.methodLink RL 88 yL_best ∈ GW := GW_of (List.mem_of_getElem? (i := 506) (by decide +kernel)) rfl
theorem g_st_L_best : Cond.static yL_best ∈ GW := GW_of (List.mem_of_getElem? (i := 507) (by decide +kernel)) rfl
theorem g_cw_L_calls : Cond.codeWith yL_calls cL_calls 6 (some .int) [(0, 141, 142, 48)] ∈ GW := GW_of (List.mem_of_getElem? (i := 574) (by decide +kernel)) rfl
theorem w_L_calls : CWw yL_calls cL_calls 6 (some .int) [(0, 141, 142, 48)] 5 := ⟨g_cw_L_calls, g_ini_GyreWatchLaw, ⟨by decide +kernel, by decide +kernel, by decide +kernel⟩, by decide⟩
theorem g_ml_RL_130 : Cond.methodLink RL 130 yL_calls ∈ GW := GW_of (List.mem_of_getElem? (i := 572) (by decide +kernel)) rfl
theorem g_st_L_calls : Cond.static yL_calls ∈ GW := GW_of (List.mem_of_getElem? (i := 573) (by decide +kernel)) rfl
theorem g_cw_X8_sun : Cond.code yX8_sun cX8_sun 4 (some .int) ∈ GW := GW_of (List.mem_of_getElem? (i := 781) (by decide +kernel)) rfl
theorem w_X8_sun : CWm yX8_sun cX8_sun 4 (some .int) 2 := ⟨g_cw_X8_sun, g_ini_GyreWatch, ⟨by decide +kernel, by decide +kernel, by decide +kernel⟩, by decide⟩
theorem g_in_X8_sun : Cond.instanceMethod yX8_sun ∈ GW := GW_of (List.mem_of_getElem? (i := 779) (by decide +kernel)) rfl
theorem g_se_X8_sun : Cond.selects (RN 8) yX8_sun yX8_sun ∈ GW := GW_of (List.mem_of_getElem? (i := 780) (by decide +kernel)) rfl
theorem g_ml_RL_137 : Cond.methodLink RL 137 yX8_sun ∈ GW := GW_of (List.mem_of_getElem? (i := 778) (by decide +kernel)) rfl
theorem g_cw_X8_current : Cond.code yX8_current cX8_current 4 (some .int) ∈ GW := GW_of (List.mem_of_getElem? (i := 777) (by decide +kernel)) rfl
theorem w_X8_current : CWm yX8_current cX8_current 4 (some .int) 2 := ⟨g_cw_X8_current, g_ini_GyreWatch, ⟨by decide +kernel, by decide +kernel, by decide +kernel⟩, by decide⟩
theorem g_in_X8_current : Cond.instanceMethod yX8_current ∈ GW := GW_of (List.mem_of_getElem? (i := 775) (by decide +kernel)) rfl
theorem g_se_X8_current : Cond.selects (RN 8) yX8_current yX8_current ∈ GW := GW_of (List.mem_of_getElem? (i := 776) (by decide +kernel)) rfl
theorem g_ml_RL_134 : Cond.methodLink RL 134 yX8_current ∈ GW := GW_of (List.mem_of_getElem? (i := 774) (by decide +kernel)) rfl
theorem g_cw_L_isStorm : Cond.code yL_isStorm cL_isStorm 5 (some .boolean) ∈ GW := GW_of (List.mem_of_getElem? (i := 445) (by decide +kernel)) rfl
theorem w_L_isStorm : CWm yL_isStorm cL_isStorm 5 (some .boolean) 3 := ⟨g_cw_L_isStorm, g_ini_GyreWatchLaw, ⟨by decide +kernel, by decide +kernel, by decide +kernel⟩, by decide⟩
theorem g_ml_RL_74 : Cond.methodLink RL 74 yL_isStorm ∈ GW := GW_of (List.mem_of_getElem? (i := 443) (by decide +kernel)) rfl
theorem g_st_L_isStorm : Cond.static yL_isStorm ∈ GW := GW_of (List.mem_of_getElem? (i := 444) (by decide +kernel)) rfl
theorem g_cw_X8_leg : Cond.code yX8_leg cX8_leg 5 (some .int) ∈ GW := GW_of (List.mem_of_getElem? (i := 785) (by decide +kernel)) rfl
theorem w_X8_leg : CWm yX8_leg cX8_leg 5 (some .int) 3 := ⟨g_cw_X8_leg, g_ini_GyreWatch, ⟨by decide +kernel, by decide +kernel, by decide +kernel⟩, by decide⟩
theorem g_in_X8_leg : Cond.instanceMethod yX8_leg ∈ GW := GW_of (List.mem_of_getElem? (i := 783) (by decide +kernel)) rfl
theorem g_se_X8_leg : Cond.selects (RN 8) yX8_leg yX8_leg ∈ GW := GW_of (List.mem_of_getElem? (i := 784) (by decide +kernel)) rfl
theorem g_ml_RL_140 : Cond.methodLink RL 140 yX8_leg ∈ GW := GW_of (List.mem_of_getElem? (i := 782) (by decide +kernel)) rfl
theorem g_cw_X8_bound : Cond.code yX8_bound cX8_bound 3 (some .int) ∈ GW := GW_of (List.mem_of_getElem? (i := 790) (by decide +kernel)) rfl
theorem w_X8_bound : CWm yX8_bound cX8_bound 3 (some .int) 1 := ⟨g_cw_X8_bound, g_ini_GyreWatch, ⟨by decide +kernel, by decide +kernel, by decide +kernel⟩, by decide⟩
theorem g_in_X8_bound : Cond.instanceMethod yX8_bound ∈ GW := GW_of (List.mem_of_getElem? (i := 788) (by decide +kernel)) rfl
theorem g_se_X8_bound : Cond.selects (RN 8) yX8_bound yX8_bound ∈ GW := GW_of (List.mem_of_getElem? (i := 789) (by decide +kernel)) rfl
theorem g_ml_RL_143 : Cond.methodLink RL 143 yX8_bound ∈ GW := GW_of (List.mem_of_getElem? (i := 787) (by decide +kernel)) rfl
theorem g_cw_L_way : Cond.code yL_way cL_way 7 (some .int) ∈ GW := GW_of (List.mem_of_getElem? (i := 433) (by decide +kernel)) rfl
theorem w_L_way : CWm yL_way cL_way 7 (some .int) 3 := ⟨g_cw_L_way, g_ini_GyreWatchLaw, ⟨by decide +kernel, by decide +kernel, by decide +kernel⟩, by decide⟩
theorem g_ml_RL_51 : Cond.methodLink RL 51 yL_way ∈ GW := GW_of (List.mem_of_getElem? (i := 431) (by decide +kernel)) rfl
theorem g_st_L_way : Cond.static yL_way ∈ GW := GW_of (List.mem_of_getElem? (i := 432) (by decide +kernel)) rfl
theorem g_cw_L_leads : Cond.code yL_leads cL_leads 2 (some .int) ∈ GW := GW_of (List.mem_of_getElem? (i := 430) (by decide +kernel)) rfl
theorem w_L_leads : CWm yL_leads cL_leads 2 (some .int) 2 := ⟨g_cw_L_leads, g_ini_GyreWatchLaw, ⟨by decide +kernel, by decide +kernel, by decide +kernel⟩, by decide⟩
theorem g_ml_RL_55 : Cond.methodLink RL 55 yL_leads ∈ GW := GW_of (List.mem_of_getElem? (i := 428) (by decide +kernel)) rfl
theorem g_st_L_leads : Cond.static yL_leads ∈ GW := GW_of (List.mem_of_getElem? (i := 429) (by decide +kernel)) rfl
theorem g_cw_L_copies : Cond.code yL_copies cL_copies 3 none ∈ GW := GW_of (List.mem_of_getElem? (i := 436) (by decide +kernel)) rfl
theorem w_L_copies : CWm yL_copies cL_copies 3 none 2 := ⟨g_cw_L_copies, g_ini_GyreWatchLaw, ⟨by decide +kernel, by decide +kernel, by decide +kernel⟩, by decide⟩
theorem g_ml_RL_63 : Cond.methodLink RL 63 yL_copies ∈ GW := GW_of (List.mem_of_getElem? (i := 434) (by decide +kernel)) rfl
theorem g_st_L_copies : Cond.static yL_copies ∈ GW := GW_of (List.mem_of_getElem? (i := 435) (by decide +kernel)) rfl
theorem g_cw_L_flowed : Cond.code yL_flowed cL_flowed 6 (some .int) ∈ GW := GW_of (List.mem_of_getElem? (i := 427) (by decide +kernel)) rfl
theorem w_L_flowed : CWm yL_flowed cL_flowed 6 (some .int) 3 := ⟨g_cw_L_flowed, g_ini_GyreWatchLaw, ⟨by decide +kernel, by decide +kernel, by decide +kernel⟩, by decide⟩
theorem g_ml_RL_59 : Cond.methodLink RL 59 yL_flowed ∈ GW := GW_of (List.mem_of_getElem? (i := 425) (by decide +kernel)) rfl
theorem g_st_L_flowed : Cond.static yL_flowed ∈ GW := GW_of (List.mem_of_getElem? (i := 426) (by decide +kernel)) rfl
theorem g_cw_L_reads : Cond.code yL_reads cL_reads 7 none ∈ GW := GW_of (List.mem_of_getElem? (i := 439) (by decide +kernel)) rfl
theorem w_L_reads : CWm yL_reads cL_reads 7 none 7 := ⟨g_cw_L_reads, g_ini_GyreWatchLaw, ⟨by decide +kernel, by decide +kernel, by decide +kernel⟩, by decide⟩
theorem g_ml_RL_67 : Cond.methodLink RL 67 yL_reads ∈ GW := GW_of (List.mem_of_getElem? (i := 437) (by decide +kernel)) rfl
theorem g_st_L_reads : Cond.static yL_reads ∈ GW := GW_of (List.mem_of_getElem? (i := 438) (by decide +kernel)) rfl
theorem g_cw_L_drifted : Cond.code yL_drifted cL_drifted 6 (some .int) ∈ GW := GW_of (List.mem_of_getElem? (i := 442) (by decide +kernel)) rfl
theorem w_L_drifted : CWm yL_drifted cL_drifted 6 (some .int) 3 := ⟨g_cw_L_drifted, g_ini_GyreWatchLaw, ⟨by decide +kernel, by decide +kernel, by decide +kernel⟩, by decide⟩
theorem g_ml_RL_71 : Cond.methodLink RL 71 yL_drifted ∈ GW := GW_of (List.mem_of_getElem? (i := 440) (by decide +kernel)) rfl
theorem g_st_L_drifted : Cond.static yL_drifted ∈ GW := GW_of (List.mem_of_getElem? (i := 441) (by decide +kernel)) rfl
theorem g_cw_X5_seaBeside : Cond.code yX5_seaBeside cX5_seaBeside 6 (some .int) ∈ GW := GW_of (List.mem_of_getElem? (i := 297) (by decide +kernel)) rfl
theorem w_X5_seaBeside : CWm yX5_seaBeside cX5_seaBeside 6 (some .int) 2 := ⟨g_cw_X5_seaBeside, g_ini_GyreWatch_Sea, ⟨by decide +kernel, by decide +kernel, by decide +kernel⟩, by decide⟩
theorem g_in_X5_seaBeside : Cond.instanceMethod yX5_seaBeside ∈ GW := GW_of (List.mem_of_getElem? (i := 295) (by decide +kernel)) rfl
theorem g_se_X5_seaBeside : Cond.selects (RN 5) yX5_seaBeside yX5_seaBeside ∈ GW := GW_of (List.mem_of_getElem? (i := 296) (by decide +kernel)) rfl
theorem g_ml_RX5_56 : Cond.methodLink RX5 56 yX5_seaBeside ∈ GW := GW_of (List.mem_of_getElem? (i := 294) (by decide +kernel)) rfl
theorem g_ml_RX5_67 : Cond.methodLink RX5 67 Lib.Math.min.name ∈ GW := GW_of (List.mem_of_getElem? (i := 281) (by decide +kernel)) rfl
theorem g_st_math_min : Cond.static Lib.Math.min.name ∈ GW := GW_of (List.mem_of_getElem? (i := 282) (by decide +kernel)) rfl
theorem g_cw_math_min : Cond.code Lib.Math.min.name Lib.Math.min.code 2 (some .int) ∈ GW := GW_of (List.mem_of_getElem? (i := 283) (by decide +kernel)) rfl
theorem g_ml_RX5_72 : Cond.methodLink RX5 72 arraycopyName ∈ GW := GW_of (List.mem_of_getElem? (i := 284) (by decide +kernel)) rfl
theorem g_nat_cpy : Cond.native arraycopyName ∈ GW := GW_of (List.mem_of_getElem? (i := 286) (by decide +kernel)) rfl
theorem g_st_arraycopy : Cond.static arraycopyName ∈ GW := GW_of (List.mem_of_getElem? (i := 285) (by decide +kernel)) rfl
theorem g_ini_sys : Cond.initialized "java/lang/System" ∈ GW := GW_of (List.mem_of_getElem? (i := 30) (by decide +kernel)) rfl
theorem g_cw_X5_leadsTo : Cond.code yX5_leadsTo cX5_leadsTo 2 (some .int) ∈ GW := GW_of (List.mem_of_getElem? (i := 290) (by decide +kernel)) rfl
theorem w_X5_leadsTo : CWm yX5_leadsTo cX5_leadsTo 2 (some .int) 1 := ⟨g_cw_X5_leadsTo, g_ini_GyreWatch_Sea, ⟨by decide +kernel, by decide +kernel, by decide +kernel⟩, by decide⟩
theorem g_in_X5_leadsTo : Cond.instanceMethod yX5_leadsTo ∈ GW := GW_of (List.mem_of_getElem? (i := 288) (by decide +kernel)) rfl
theorem g_se_X5_leadsTo : Cond.selects (RN 5) yX5_leadsTo yX5_leadsTo ∈ GW := GW_of (List.mem_of_getElem? (i := 289) (by decide +kernel)) rfl
theorem g_ml_RX5_78 : Cond.methodLink RX5 78 yX5_leadsTo ∈ GW := GW_of (List.mem_of_getElem? (i := 287) (by decide +kernel)) rfl
theorem g_fl_RX5_41 : Cond.fieldLink RX5 41 ((TN 1) 0).1 ((TN 1) 0).2.1 ((TN 1) 0).2.2.1 ∈ GW := GW_of (List.mem_of_getElem? (i := 56) (by decide +kernel)) rfl
theorem g_cw_X5_carry : Cond.code yX5_carry cX5_carry 6 none ∈ GW := GW_of (List.mem_of_getElem? (i := 280) (by decide +kernel)) rfl
theorem w_X5_carry : CWm yX5_carry cX5_carry 6 none 1 := ⟨g_cw_X5_carry, g_ini_GyreWatch_Sea, ⟨by decide +kernel, by decide +kernel, by decide +kernel⟩, by decide⟩
theorem g_in_X5_carry : Cond.instanceMethod yX5_carry ∈ GW := GW_of (List.mem_of_getElem? (i := 279) (by decide +kernel)) rfl
theorem g_se_X5_carry : Cond.selects (RN 5) yX5_carry yX5_carry ∈ GW := GW_of (List.mem_of_getElem? (i := 2) (by decide +kernel)) rfl
theorem g_ml_RX5_60 : Cond.methodLink RX5 60 yX5_carry ∈ GW := GW_of (List.mem_of_getElem? (i := 277) (by decide +kernel)) rfl
theorem g_fl_RX5_64 : Cond.fieldLink RX5 64 ((TN 1) 1).1 ((TN 1) 1).2.1 ((TN 1) 1).2.2.1 ∈ GW := GW_of (List.mem_of_getElem? (i := 59) (by decide +kernel)) rfl
theorem g_ml_RX5_82 : Cond.methodLink RX5 82 Lib.Math.max.name ∈ GW := GW_of (List.mem_of_getElem? (i := 305) (by decide +kernel)) rfl
theorem g_fl_RX5_85 : Cond.fieldLink RX5 85 ((TN 5) 4).1 ((TN 5) 4).2.1 ((TN 5) 4).2.2.1 ∈ GW := GW_of (List.mem_of_getElem? (i := 75) (by decide +kernel)) rfl
theorem g_cw_X1_weightAt : Cond.code yX1_weightAt cX1_weightAt 2 (some .int) ∈ GW := GW_of (List.mem_of_getElem? (i := 315) (by decide +kernel)) rfl
theorem w_X1_weightAt : CWm yX1_weightAt cX1_weightAt 2 (some .int) 1 := ⟨g_cw_X1_weightAt, g_ini_GyreWatch_Layer, ⟨by decide +kernel, by decide +kernel, by decide +kernel⟩, by decide⟩
theorem g_in_X1_weightAt : Cond.instanceMethod yX1_weightAt ∈ GW := GW_of (List.mem_of_getElem? (i := 313) (by decide +kernel)) rfl
theorem g_se_X1_weightAt : Cond.selects (RN 1) yX1_weightAt yX1_weightAt ∈ GW := GW_of (List.mem_of_getElem? (i := 314) (by decide +kernel)) rfl
theorem g_ml_RX5_88 : Cond.methodLink RX5 88 yX1_weightAt ∈ GW := GW_of (List.mem_of_getElem? (i := 312) (by decide +kernel)) rfl
theorem g_cw_X5_share : Cond.code yX5_share cX5_share 4 none ∈ GW := GW_of (List.mem_of_getElem? (i := 319) (by decide +kernel)) rfl
theorem w_X5_share : CWm yX5_share cX5_share 4 none 3 := ⟨g_cw_X5_share, g_ini_GyreWatch_Sea, ⟨by decide +kernel, by decide +kernel, by decide +kernel⟩, by decide⟩
theorem g_ml_RX5_91 : Cond.methodLink RX5 91 yX5_share ∈ GW := GW_of (List.mem_of_getElem? (i := 317) (by decide +kernel)) rfl
theorem g_st_X5_share : Cond.static yX5_share ∈ GW := GW_of (List.mem_of_getElem? (i := 318) (by decide +kernel)) rfl
theorem g_ml_RX4_3 : Cond.methodLink RX4 3 objectInit ∈ GW := GW_of (List.mem_of_getElem? (i := 338) (by decide +kernel)) rfl
theorem g_fl_RX2_35 : Cond.fieldLink RX2 35 ((TN 0) 8).1 ((TN 0) 8).2.1 ((TN 0) 8).2.2.1 ∈ GW := GW_of (List.mem_of_getElem? (i := 705) (by decide +kernel)) rfl
theorem g_fl_RX2_41 : Cond.fieldLink RX2 41 ((TN 4) 5).1 ((TN 4) 5).2.1 ((TN 4) 5).2.2.1 ∈ GW := GW_of (List.mem_of_getElem? (i := 352) (by decide +kernel)) rfl
theorem g_fl_RX2_44 : Cond.fieldLink RX2 44 ((TN 4) 6).1 ((TN 4) 6).2.1 ((TN 4) 6).2.2.1 ∈ GW := GW_of (List.mem_of_getElem? (i := 355) (by decide +kernel)) rfl
theorem g_fl_RX2_47 : Cond.fieldLink RX2 47 ((TN 0) 7).1 ((TN 0) 7).2.1 ((TN 0) 7).2.2.1 ∈ GW := GW_of (List.mem_of_getElem? (i := 703) (by decide +kernel)) rfl
theorem g_fl_RX2_21 : Cond.fieldLink RX2 21 ((TN 2) 1).1 ((TN 2) 1).2.1 ((TN 2) 1).2.2.1 ∈ GW := GW_of (List.mem_of_getElem? (i := 110) (by decide +kernel)) rfl
theorem g_inst_4 : Cond.instantiable (RN 4) (nF 4) ∈ GW := GW_of (List.mem_of_getElem? (i := 334) (by decide +kernel)) rfl
theorem g_iniN_4 : Cond.initialized (RN 4) ∈ GW := GW_of (List.mem_of_getElem? (i := 31) (by decide +kernel)) rfl
theorem g_clN_RX2_9 : Cond.classLink RX2 9 (RN 4) ∈ GW := GW_of (List.mem_of_getElem? (i := 106) (by decide +kernel)) rfl
theorem g_cw_X4_init : Cond.code yX4_init cX4_init 5 none ∈ GW := GW_of (List.mem_of_getElem? (i := 337) (by decide +kernel)) rfl
theorem w_X4_init : CWm yX4_init cX4_init 5 none 4 := ⟨g_cw_X4_init, g_ini_GyreWatch_Reading, ⟨by decide +kernel, by decide +kernel, by decide +kernel⟩, by decide⟩
theorem g_in_X4_init : Cond.instanceMethod yX4_init ∈ GW := GW_of (List.mem_of_getElem? (i := 336) (by decide +kernel)) rfl
theorem g_ml_RX2_28 : Cond.methodLink RX2 28 yX4_init ∈ GW := GW_of (List.mem_of_getElem? (i := 335) (by decide +kernel)) rfl
theorem g_cw_X2_chain : Cond.code yX2_chain cX2_chain 2 none ∈ GW := GW_of (List.mem_of_getElem? (i := 374) (by decide +kernel)) rfl
theorem w_X2_chain : CWm yX2_chain cX2_chain 2 none 2 := ⟨g_cw_X2_chain, g_ini_GyreWatch_Log, ⟨by decide +kernel, by decide +kernel, by decide +kernel⟩, by decide⟩
theorem g_ml_RX2_31 : Cond.methodLink RX2 31 yX2_chain ∈ GW := GW_of (List.mem_of_getElem? (i := 372) (by decide +kernel)) rfl
theorem g_st_X2_chain : Cond.static yX2_chain ∈ GW := GW_of (List.mem_of_getElem? (i := 373) (by decide +kernel)) rfl
theorem g_fl_RX8_218 : Cond.fieldLink RX8 218 ((TN 0) 4).1 ((TN 0) 4).2.1 ((TN 0) 4).2.2.1 ∈ GW := GW_of (List.mem_of_getElem? (i := 698) (by decide +kernel)) rfl
theorem g_ml_RX8_336 : Cond.methodLink RX8 336 yX5_leadsTo ∈ GW := GW_of (List.mem_of_getElem? (i := 324) (by decide +kernel)) rfl
theorem g_cw_X5_upperHeat : Cond.code yX5_upperHeat cX5_upperHeat 2 (some .int) ∈ GW := GW_of (List.mem_of_getElem? (i := 328) (by decide +kernel)) rfl
theorem w_X5_upperHeat : CWm yX5_upperHeat cX5_upperHeat 2 (some .int) 1 := ⟨g_cw_X5_upperHeat, g_ini_GyreWatch_Sea, ⟨by decide +kernel, by decide +kernel, by decide +kernel⟩, by decide⟩
theorem g_in_X5_upperHeat : Cond.instanceMethod yX5_upperHeat ∈ GW := GW_of (List.mem_of_getElem? (i := 326) (by decide +kernel)) rfl
theorem g_se_X5_upperHeat : Cond.selects (RN 5) yX5_upperHeat yX5_upperHeat ∈ GW := GW_of (List.mem_of_getElem? (i := 327) (by decide +kernel)) rfl
theorem g_ml_RX8_339 : Cond.methodLink RX8 339 yX5_upperHeat ∈ GW := GW_of (List.mem_of_getElem? (i := 325) (by decide +kernel)) rfl
theorem g_fl_RX8_342 : Cond.fieldLink RX8 342 ((TN 0) 2).1 ((TN 0) 2).2.1 ((TN 0) 2).2.2.1 ∈ GW := GW_of (List.mem_of_getElem? (i := 694) (by decide +kernel)) rfl
theorem g_cw_X2_keep : Cond.code yX2_keep cX2_keep 6 none ∈ GW := GW_of (List.mem_of_getElem? (i := 332) (by decide +kernel)) rfl
theorem w_X2_keep : CWm yX2_keep cX2_keep 6 none 4 := ⟨g_cw_X2_keep, g_ini_GyreWatch_Log, ⟨by decide +kernel, by decide +kernel, by decide +kernel⟩, by decide⟩
theorem g_in_X2_keep : Cond.instanceMethod yX2_keep ∈ GW := GW_of (List.mem_of_getElem? (i := 330) (by decide +kernel)) rfl
theorem g_se_X2_keep : Cond.selects (RN 2) yX2_keep yX2_keep ∈ GW := GW_of (List.mem_of_getElem? (i := 331) (by decide +kernel)) rfl
theorem g_ml_RX8_345 : Cond.methodLink RX8 345 yX2_keep ∈ GW := GW_of (List.mem_of_getElem? (i := 329) (by decide +kernel)) rfl
theorem g_fl_RX8_221 : Cond.fieldLink RX8 221 ((TN 0) 5).1 ((TN 0) 5).2.1 ((TN 0) 5).2.2.1 ∈ GW := GW_of (List.mem_of_getElem? (i := 700) (by decide +kernel)) rfl
theorem g_fl_RX8_349 : Cond.fieldLink RX8 349 ((TN 0) 1).1 ((TN 0) 1).2.1 ((TN 0) 1).2.2.1 ∈ GW := GW_of (List.mem_of_getElem? (i := 692) (by decide +kernel)) rfl
theorem g_ml_RX6_26 : Cond.methodLink RX6 26 arraycopyName ∈ GW := GW_of (List.mem_of_getElem? (i := 379) (by decide +kernel)) rfl
theorem g_ml_RX6_42 : Cond.methodLink RX6 42 yX5_leadsTo ∈ GW := GW_of (List.mem_of_getElem? (i := 387) (by decide +kernel)) rfl
theorem g_cw_X6_give : Cond.code yX6_give cX6_give 4 none ∈ GW := GW_of (List.mem_of_getElem? (i := 385) (by decide +kernel)) rfl
theorem w_X6_give : CWm yX6_give cX6_give 4 none 3 := ⟨g_cw_X6_give, g_ini_GyreWatch_Search, ⟨by decide +kernel, by decide +kernel, by decide +kernel⟩, by decide⟩
theorem g_in_X6_give : Cond.instanceMethod yX6_give ∈ GW := GW_of (List.mem_of_getElem? (i := 383) (by decide +kernel)) rfl
theorem g_se_X6_give : Cond.selects (RN 6) yX6_give yX6_give ∈ GW := GW_of (List.mem_of_getElem? (i := 4) (by decide +kernel)) rfl
theorem g_ml_RX6_38 : Cond.methodLink RX6 38 yX6_give ∈ GW := GW_of (List.mem_of_getElem? (i := 381) (by decide +kernel)) rfl
theorem g_ml_RX6_32 : Cond.methodLink RX6 32 yX5_seaBeside ∈ GW := GW_of (List.mem_of_getElem? (i := 380) (by decide +kernel)) rfl
theorem g_ml_RX7_44 : Cond.methodLink RX7 44 arraycopyName ∈ GW := GW_of (List.mem_of_getElem? (i := 412) (by decide +kernel)) rfl
theorem g_ml_RX8_352 : Cond.methodLink RX8 352 yX7_hasStorm ∈ GW := GW_of (List.mem_of_getElem? (i := 392) (by decide +kernel)) rfl
theorem g_cw_X7_countDue : Cond.code yX7_countDue cX7_countDue 3 (some .int) ∈ GW := GW_of (List.mem_of_getElem? (i := 399) (by decide +kernel)) rfl
theorem w_X7_countDue : CWm yX7_countDue cX7_countDue 3 (some .int) 1 := ⟨g_cw_X7_countDue, g_ini_GyreWatch_Ships, ⟨by decide +kernel, by decide +kernel, by decide +kernel⟩, by decide⟩
theorem g_in_X7_countDue : Cond.instanceMethod yX7_countDue ∈ GW := GW_of (List.mem_of_getElem? (i := 397) (by decide +kernel)) rfl
theorem g_se_X7_countDue : Cond.selects (RN 7) yX7_countDue yX7_countDue ∈ GW := GW_of (List.mem_of_getElem? (i := 398) (by decide +kernel)) rfl
theorem g_ml_RX8_355 : Cond.methodLink RX8 355 yX7_countDue ∈ GW := GW_of (List.mem_of_getElem? (i := 396) (by decide +kernel)) rfl
theorem g_ml_RX8_358 : Cond.methodLink RX8 358 yX7_cellOf ∈ GW := GW_of (List.mem_of_getElem? (i := 403) (by decide +kernel)) rfl
theorem g_cw_X7_dropFirst : Cond.code yX7_dropFirst cX7_dropFirst 2 none ∈ GW := GW_of (List.mem_of_getElem? (i := 411) (by decide +kernel)) rfl
theorem w_X7_dropFirst : CWm yX7_dropFirst cX7_dropFirst 2 none 1 := ⟨g_cw_X7_dropFirst, g_ini_GyreWatch_Ships, ⟨by decide +kernel, by decide +kernel, by decide +kernel⟩, by decide⟩
theorem g_in_X7_dropFirst : Cond.instanceMethod yX7_dropFirst ∈ GW := GW_of (List.mem_of_getElem? (i := 409) (by decide +kernel)) rfl
theorem g_se_X7_dropFirst : Cond.selects (RN 7) yX7_dropFirst yX7_dropFirst ∈ GW := GW_of (List.mem_of_getElem? (i := 410) (by decide +kernel)) rfl
theorem g_ml_RX8_361 : Cond.methodLink RX8 361 yX7_dropFirst ∈ GW := GW_of (List.mem_of_getElem? (i := 408) (by decide +kernel)) rfl
theorem g_cw_X5_flow : Cond.code yX5_flow cX5_flow 1 none ∈ GW := GW_of (List.mem_of_getElem? (i := 276) (by decide +kernel)) rfl
theorem w_X5_flow : CWm yX5_flow cX5_flow 1 none 0 := ⟨g_cw_X5_flow, g_ini_GyreWatch_Sea, ⟨by decide +kernel, by decide +kernel, by decide +kernel⟩, by decide⟩
theorem g_in_X5_flow : Cond.instanceMethod yX5_flow ∈ GW := GW_of (List.mem_of_getElem? (i := 274) (by decide +kernel)) rfl
theorem g_se_X5_flow : Cond.selects (RN 5) yX5_flow yX5_flow ∈ GW := GW_of (List.mem_of_getElem? (i := 275) (by decide +kernel)) rfl
theorem g_ml_RX8_316 : Cond.methodLink RX8 316 yX5_flow ∈ GW := GW_of (List.mem_of_getElem? (i := 273) (by decide +kernel)) rfl
theorem g_cw_X5_shine : Cond.code yX5_shine cX5_shine 3 none ∈ GW := GW_of (List.mem_of_getElem? (i := 304) (by decide +kernel)) rfl
theorem w_X5_shine : CWm yX5_shine cX5_shine 3 none 0 := ⟨g_cw_X5_shine, g_ini_GyreWatch_Sea, ⟨by decide +kernel, by decide +kernel, by decide +kernel⟩, by decide⟩
theorem g_in_X5_shine : Cond.instanceMethod yX5_shine ∈ GW := GW_of (List.mem_of_getElem? (i := 302) (by decide +kernel)) rfl
theorem g_se_X5_shine : Cond.selects (RN 5) yX5_shine yX5_shine ∈ GW := GW_of (List.mem_of_getElem? (i := 303) (by decide +kernel)) rfl
theorem g_ml_RX8_319 : Cond.methodLink RX8 319 yX5_shine ∈ GW := GW_of (List.mem_of_getElem? (i := 301) (by decide +kernel)) rfl
theorem g_cw_X5_turnOver : Cond.code yX5_turnOver cX5_turnOver 2 none ∈ GW := GW_of (List.mem_of_getElem? (i := 311) (by decide +kernel)) rfl
theorem w_X5_turnOver : CWm yX5_turnOver cX5_turnOver 2 none 0 := ⟨g_cw_X5_turnOver, g_ini_GyreWatch_Sea, ⟨by decide +kernel, by decide +kernel, by decide +kernel⟩, by decide⟩
theorem g_in_X5_turnOver : Cond.instanceMethod yX5_turnOver ∈ GW := GW_of (List.mem_of_getElem? (i := 309) (by decide +kernel)) rfl
theorem g_se_X5_turnOver : Cond.selects (RN 5) yX5_turnOver yX5_turnOver ∈ GW := GW_of (List.mem_of_getElem? (i := 310) (by decide +kernel)) rfl
theorem g_ml_RX8_322 : Cond.methodLink RX8 322 yX5_turnOver ∈ GW := GW_of (List.mem_of_getElem? (i := 308) (by decide +kernel)) rfl
theorem g_cw_X8_letDrift : Cond.code yX8_letDrift cX8_letDrift 3 none ∈ GW := GW_of (List.mem_of_getElem? (i := 323) (by decide +kernel)) rfl
theorem w_X8_letDrift : CWm yX8_letDrift cX8_letDrift 3 none 1 := ⟨g_cw_X8_letDrift, g_ini_GyreWatch, ⟨by decide +kernel, by decide +kernel, by decide +kernel⟩, by decide⟩
theorem g_in_X8_letDrift : Cond.instanceMethod yX8_letDrift ∈ GW := GW_of (List.mem_of_getElem? (i := 322) (by decide +kernel)) rfl
theorem g_se_X8_letDrift : Cond.selects (RN 8) yX8_letDrift yX8_letDrift ∈ GW := GW_of (List.mem_of_getElem? (i := 3) (by decide +kernel)) rfl
theorem g_ml_RX8_325 : Cond.methodLink RX8 325 yX8_letDrift ∈ GW := GW_of (List.mem_of_getElem? (i := 320) (by decide +kernel)) rfl
theorem g_cw_X8_readAtStations : Cond.code yX8_readAtStations cX8_readAtStations 5 none ∈ GW := GW_of (List.mem_of_getElem? (i := 391) (by decide +kernel)) rfl
theorem w_X8_readAtStations : CWm yX8_readAtStations cX8_readAtStations 5 none 0 := ⟨g_cw_X8_readAtStations, g_ini_GyreWatch, ⟨by decide +kernel, by decide +kernel, by decide +kernel⟩, by decide⟩
theorem g_in_X8_readAtStations : Cond.instanceMethod yX8_readAtStations ∈ GW := GW_of (List.mem_of_getElem? (i := 390) (by decide +kernel)) rfl
theorem g_se_X8_readAtStations : Cond.selects (RN 8) yX8_readAtStations yX8_readAtStations ∈ GW := GW_of (List.mem_of_getElem? (i := 5) (by decide +kernel)) rfl
theorem g_ml_RX8_333 : Cond.methodLink RX8 333 yX8_readAtStations ∈ GW := GW_of (List.mem_of_getElem? (i := 388) (by decide +kernel)) rfl
theorem g_cw_X6_goOn : Cond.code yX6_goOn cX6_goOn 5 none ∈ GW := GW_of (List.mem_of_getElem? (i := 378) (by decide +kernel)) rfl
theorem w_X6_goOn : CWm yX6_goOn cX6_goOn 5 none 1 := ⟨g_cw_X6_goOn, g_ini_GyreWatch_Search, ⟨by decide +kernel, by decide +kernel, by decide +kernel⟩, by decide⟩
theorem g_in_X6_goOn : Cond.instanceMethod yX6_goOn ∈ GW := GW_of (List.mem_of_getElem? (i := 376) (by decide +kernel)) rfl
theorem g_se_X6_goOn : Cond.selects (RN 6) yX6_goOn yX6_goOn ∈ GW := GW_of (List.mem_of_getElem? (i := 377) (by decide +kernel)) rfl
theorem g_ml_RX8_329 : Cond.methodLink RX8 329 yX6_goOn ∈ GW := GW_of (List.mem_of_getElem? (i := 375) (by decide +kernel)) rfl
theorem g_cw_X8_passOneDay : Cond.code yX8_passOneDay cX8_passOneDay 5 none ∈ GW := GW_of (List.mem_of_getElem? (i := 272) (by decide +kernel)) rfl
theorem w_X8_passOneDay : CWm yX8_passOneDay cX8_passOneDay 5 none 0 := ⟨g_cw_X8_passOneDay, g_ini_GyreWatch, ⟨by decide +kernel, by decide +kernel, by decide +kernel⟩, by decide⟩
theorem g_in_X8_passOneDay : Cond.instanceMethod yX8_passOneDay ∈ GW := GW_of (List.mem_of_getElem? (i := 271) (by decide +kernel)) rfl
theorem g_se_X8_passOneDay : Cond.selects (RN 8) yX8_passOneDay yX8_passOneDay ∈ GW := GW_of (List.mem_of_getElem? (i := 1) (by decide +kernel)) rfl
theorem g_ml_RX8_87 : Cond.methodLink RX8 87 yX8_passOneDay ∈ GW := GW_of (List.mem_of_getElem? (i := 269) (by decide +kernel)) rfl
theorem g_fl_RX8_190 : Cond.fieldLink RX8 190 ((TN 5) 0).1 ((TN 5) 0).2.1 ((TN 5) 0).2.2.1 ∈ GW := GW_of (List.mem_of_getElem? (i := 68) (by decide +kernel)) rfl
theorem g_fl_RX8_197 : Cond.fieldLink RX8 197 ((TN 1) 0).1 ((TN 1) 0).2.1 ((TN 1) 0).2.2.1 ∈ GW := GW_of (List.mem_of_getElem? (i := 57) (by decide +kernel)) rfl
theorem g_cw_X8_sumOf : Cond.code yX8_sumOf cX8_sumOf 6 (some .int) ∈ GW := GW_of (List.mem_of_getElem? (i := 459) (by decide +kernel)) rfl
theorem w_X8_sumOf : CWm yX8_sumOf cX8_sumOf 6 (some .int) 1 := ⟨g_cw_X8_sumOf, g_ini_GyreWatch, ⟨by decide +kernel, by decide +kernel, by decide +kernel⟩, by decide⟩
theorem g_ml_RX8_208 : Cond.methodLink RX8 208 yX8_sumOf ∈ GW := GW_of (List.mem_of_getElem? (i := 457) (by decide +kernel)) rfl
theorem g_st_X8_sumOf : Cond.static yX8_sumOf ∈ GW := GW_of (List.mem_of_getElem? (i := 458) (by decide +kernel)) rfl
theorem g_fl_RX8_194 : Cond.fieldLink RX8 194 ((TN 5) 1).1 ((TN 5) 1).2.1 ((TN 5) 1).2.2.1 ∈ GW := GW_of (List.mem_of_getElem? (i := 70) (by decide +kernel)) rfl
theorem g_fl_RX8_202 : Cond.fieldLink RX8 202 ((TN 1) 1).1 ((TN 1) 1).2.1 ((TN 1) 1).2.2.1 ∈ GW := GW_of (List.mem_of_getElem? (i := 60) (by decide +kernel)) rfl
theorem g_fl_RX8_212 : Cond.fieldLink RX8 212 ((TN 5) 4).1 ((TN 5) 4).2.1 ((TN 5) 4).2.2.1 ∈ GW := GW_of (List.mem_of_getElem? (i := 76) (by decide +kernel)) rfl
theorem g_fl_RX8_227 : Cond.fieldLink RX8 227 ((TN 7) 0).1 ((TN 7) 0).2.1 ((TN 7) 0).2.2.1 ∈ GW := GW_of (List.mem_of_getElem? (i := 128) (by decide +kernel)) rfl
theorem g_fl_RX8_230 : Cond.fieldLink RX8 230 ((TN 2) 1).1 ((TN 2) 1).2.1 ((TN 2) 1).2.2.1 ∈ GW := GW_of (List.mem_of_getElem? (i := 111) (by decide +kernel)) rfl
theorem g_ml_RX8_205 : Cond.methodLink RX8 205 yX1_weightAt ∈ GW := GW_of (List.mem_of_getElem? (i := 492) (by decide +kernel)) rfl
theorem g_fl_RX8_224 : Cond.fieldLink RX8 224 ((TN 0) 7).1 ((TN 0) 7).2.1 ((TN 0) 7).2.2.1 ∈ GW := GW_of (List.mem_of_getElem? (i := 704) (by decide +kernel)) rfl
theorem g_cw_X6_bestOf : Cond.code yX6_bestOf cX6_bestOf 3 (some .int) ∈ GW := GW_of (List.mem_of_getElem? (i := 520) (by decide +kernel)) rfl
theorem w_X6_bestOf : CWm yX6_bestOf cX6_bestOf 3 (some .int) 1 := ⟨g_cw_X6_bestOf, g_ini_GyreWatch_Search, ⟨by decide +kernel, by decide +kernel, by decide +kernel⟩, by decide⟩
theorem g_ml_RX8_261 : Cond.methodLink RX8 261 yX6_bestOf ∈ GW := GW_of (List.mem_of_getElem? (i := 518) (by decide +kernel)) rfl
theorem g_st_X6_bestOf : Cond.static yX6_bestOf ∈ GW := GW_of (List.mem_of_getElem? (i := 519) (by decide +kernel)) rfl
theorem g_ml_RX6_46 : Cond.methodLink RX6 46 yX6_bestOf ∈ GW := GW_of (List.mem_of_getElem? (i := 529) (by decide +kernel)) rfl
theorem g_ml_RX6_50 : Cond.methodLink RX6 50 yX6_lookAt ∈ GW := GW_of (List.mem_of_getElem? (i := 530) (by decide +kernel)) rfl
theorem g_cw_X6_tryLegs : Cond.code yX6_tryLegs cX6_tryLegs 5 (some .int) ∈ GW := GW_of (List.mem_of_getElem? (i := 528) (by decide +kernel)) rfl
theorem w_X6_tryLegs : CWm yX6_tryLegs cX6_tryLegs 5 (some .int) 2 := ⟨g_cw_X6_tryLegs, g_ini_GyreWatch_Search, ⟨by decide +kernel, by decide +kernel, by decide +kernel⟩, by decide⟩
theorem g_in_X6_tryLegs : Cond.instanceMethod yX6_tryLegs ∈ GW := GW_of (List.mem_of_getElem? (i := 526) (by decide +kernel)) rfl
theorem g_se_X6_tryLegs : Cond.selects (RN 6) yX6_tryLegs yX6_tryLegs ∈ GW := GW_of (List.mem_of_getElem? (i := 527) (by decide +kernel)) rfl
theorem g_ml_RX8_264 : Cond.methodLink RX8 264 yX6_tryLegs ∈ GW := GW_of (List.mem_of_getElem? (i := 525) (by decide +kernel)) rfl
theorem g_cw_X8_best : Cond.code yX8_best cX8_best 2 (some .int) ∈ GW := GW_of (List.mem_of_getElem? (i := 512) (by decide +kernel)) rfl
theorem w_X8_best : CWm yX8_best cX8_best 2 (some .int) 1 := ⟨g_cw_X8_best, g_ini_GyreWatch, ⟨by decide +kernel, by decide +kernel, by decide +kernel⟩, by decide⟩
theorem g_in_X8_best : Cond.instanceMethod yX8_best ∈ GW := GW_of (List.mem_of_getElem? (i := 510) (by decide +kernel)) rfl
theorem g_se_X8_best : Cond.selects (RN 8) yX8_best yX8_best ∈ GW := GW_of (List.mem_of_getElem? (i := 511) (by decide +kernel)) rfl
theorem g_ml_RL_92 : Cond.methodLink RL 92 yX8_best ∈ GW := GW_of (List.mem_of_getElem? (i := 509) (by decide +kernel)) rfl
theorem g_cw_X8_plan : Cond.code yX8_plan cX8_plan 5 (some .int) ∈ GW := GW_of (List.mem_of_getElem? (i := 524) (by decide +kernel)) rfl
theorem w_X8_plan : CWm yX8_plan cX8_plan 5 (some .int) 3 := ⟨g_cw_X8_plan, g_ini_GyreWatch, ⟨by decide +kernel, by decide +kernel, by decide +kernel⟩, by decide⟩
theorem g_in_X8_plan : Cond.instanceMethod yX8_plan ∈ GW := GW_of (List.mem_of_getElem? (i := 522) (by decide +kernel)) rfl
theorem g_se_X8_plan : Cond.selects (RN 8) yX8_plan yX8_plan ∈ GW := GW_of (List.mem_of_getElem? (i := 523) (by decide +kernel)) rfl
theorem g_ml_RL_94 : Cond.methodLink RL 94 yX8_plan ∈ GW := GW_of (List.mem_of_getElem? (i := 521) (by decide +kernel)) rfl
theorem g_cw_X8_chance : Cond.code yX8_chance cX8_chance 4 (some .int) ∈ GW := GW_of (List.mem_of_getElem? (i := 537) (by decide +kernel)) rfl
theorem w_X8_chance : CWm yX8_chance cX8_chance 4 (some .int) 2 := ⟨g_cw_X8_chance, g_ini_GyreWatch, ⟨by decide +kernel, by decide +kernel, by decide +kernel⟩, by decide⟩
theorem g_in_X8_chance : Cond.instanceMethod yX8_chance ∈ GW := GW_of (List.mem_of_getElem? (i := 535) (by decide +kernel)) rfl
theorem g_se_X8_chance : Cond.selects (RN 8) yX8_chance yX8_chance ∈ GW := GW_of (List.mem_of_getElem? (i := 536) (by decide +kernel)) rfl
theorem g_ml_RL_97 : Cond.methodLink RL 97 yX8_chance ∈ GW := GW_of (List.mem_of_getElem? (i := 534) (by decide +kernel)) rfl
theorem g_fl_RX8_241 : Cond.fieldLink RX8 241 ((TN 4) 3).1 ((TN 4) 3).2.1 ((TN 4) 3).2.2.1 ∈ GW := GW_of (List.mem_of_getElem? (i := 349) (by decide +kernel)) rfl
theorem g_fl_RX8_245 : Cond.fieldLink RX8 245 ((TN 0) 0).1 ((TN 0) 0).2.1 ((TN 0) 0).2.2.1 ∈ GW := GW_of (List.mem_of_getElem? (i := 690) (by decide +kernel)) rfl
theorem g_cw_L_corrected : Cond.code yL_corrected cL_corrected 4 (some .int) ∈ GW := GW_of (List.mem_of_getElem? (i := 562) (by decide +kernel)) rfl
theorem w_L_corrected : CWm yL_corrected cL_corrected 4 (some .int) 4 := ⟨g_cw_L_corrected, g_ini_GyreWatchLaw, ⟨by decide +kernel, by decide +kernel, by decide +kernel⟩, by decide⟩
theorem g_ml_RL_85 : Cond.methodLink RL 85 yL_corrected ∈ GW := GW_of (List.mem_of_getElem? (i := 560) (by decide +kernel)) rfl
theorem g_st_L_corrected : Cond.static yL_corrected ∈ GW := GW_of (List.mem_of_getElem? (i := 561) (by decide +kernel)) rfl
theorem g_cw_X8_day : Cond.code yX8_day cX8_day 1 (some .int) ∈ GW := GW_of (List.mem_of_getElem? (i := 452) (by decide +kernel)) rfl
theorem w_X8_day : CWm yX8_day cX8_day 1 (some .int) 0 := ⟨g_cw_X8_day, g_ini_GyreWatch, ⟨by decide +kernel, by decide +kernel, by decide +kernel⟩, by decide⟩
theorem g_in_X8_day : Cond.instanceMethod yX8_day ∈ GW := GW_of (List.mem_of_getElem? (i := 450) (by decide +kernel)) rfl
theorem g_se_X8_day : Cond.selects (RN 8) yX8_day yX8_day ∈ GW := GW_of (List.mem_of_getElem? (i := 451) (by decide +kernel)) rfl
theorem g_ml_RL_100 : Cond.methodLink RL 100 yX8_day ∈ GW := GW_of (List.mem_of_getElem? (i := 449) (by decide +kernel)) rfl
theorem g_cw_X8_total : Cond.code yX8_total cX8_total 2 (some .int) ∈ GW := GW_of (List.mem_of_getElem? (i := 456) (by decide +kernel)) rfl
theorem w_X8_total : CWm yX8_total cX8_total 2 (some .int) 1 := ⟨g_cw_X8_total, g_ini_GyreWatch, ⟨by decide +kernel, by decide +kernel, by decide +kernel⟩, by decide⟩
theorem g_in_X8_total : Cond.instanceMethod yX8_total ∈ GW := GW_of (List.mem_of_getElem? (i := 454) (by decide +kernel)) rfl
theorem g_se_X8_total : Cond.selects (RN 8) yX8_total yX8_total ∈ GW := GW_of (List.mem_of_getElem? (i := 455) (by decide +kernel)) rfl
theorem g_ml_RL_104 : Cond.methodLink RL 104 yX8_total ∈ GW := GW_of (List.mem_of_getElem? (i := 453) (by decide +kernel)) rfl
theorem g_cw_X8_stations : Cond.code yX8_stations cX8_stations 1 (some .int) ∈ GW := GW_of (List.mem_of_getElem? (i := 463) (by decide +kernel)) rfl
theorem w_X8_stations : CWm yX8_stations cX8_stations 1 (some .int) 0 := ⟨g_cw_X8_stations, g_ini_GyreWatch, ⟨by decide +kernel, by decide +kernel, by decide +kernel⟩, by decide⟩
theorem g_in_X8_stations : Cond.instanceMethod yX8_stations ∈ GW := GW_of (List.mem_of_getElem? (i := 461) (by decide +kernel)) rfl
theorem g_se_X8_stations : Cond.selects (RN 8) yX8_stations yX8_stations ∈ GW := GW_of (List.mem_of_getElem? (i := 462) (by decide +kernel)) rfl
theorem g_ml_RL_107 : Cond.methodLink RL 107 yX8_stations ∈ GW := GW_of (List.mem_of_getElem? (i := 460) (by decide +kernel)) rfl
theorem g_cw_X8_readings : Cond.code yX8_readings cX8_readings 1 (some .int) ∈ GW := GW_of (List.mem_of_getElem? (i := 467) (by decide +kernel)) rfl
theorem w_X8_readings : CWm yX8_readings cX8_readings 1 (some .int) 0 := ⟨g_cw_X8_readings, g_ini_GyreWatch, ⟨by decide +kernel, by decide +kernel, by decide +kernel⟩, by decide⟩
theorem g_in_X8_readings : Cond.instanceMethod yX8_readings ∈ GW := GW_of (List.mem_of_getElem? (i := 465) (by decide +kernel)) rfl
theorem g_se_X8_readings : Cond.selects (RN 8) yX8_readings yX8_readings ∈ GW := GW_of (List.mem_of_getElem? (i := 466) (by decide +kernel)) rfl
theorem g_ml_RL_110 : Cond.methodLink RL 110 yX8_readings ∈ GW := GW_of (List.mem_of_getElem? (i := 464) (by decide +kernel)) rfl
theorem g_cw_X8_ofLayer : Cond.code yX8_ofLayer cX8_ofLayer 5 (some .int) ∈ GW := GW_of (List.mem_of_getElem? (i := 471) (by decide +kernel)) rfl
theorem w_X8_ofLayer : CWm yX8_ofLayer cX8_ofLayer 5 (some .int) 3 := ⟨g_cw_X8_ofLayer, g_ini_GyreWatch, ⟨by decide +kernel, by decide +kernel, by decide +kernel⟩, by decide⟩
theorem g_in_X8_ofLayer : Cond.instanceMethod yX8_ofLayer ∈ GW := GW_of (List.mem_of_getElem? (i := 469) (by decide +kernel)) rfl
theorem g_se_X8_ofLayer : Cond.selects (RN 8) yX8_ofLayer yX8_ofLayer ∈ GW := GW_of (List.mem_of_getElem? (i := 470) (by decide +kernel)) rfl
theorem g_ml_RL_113 : Cond.methodLink RL 113 yX8_ofLayer ∈ GW := GW_of (List.mem_of_getElem? (i := 468) (by decide +kernel)) rfl
theorem g_cw_X8_ofFloat : Cond.code yX8_ofFloat cX8_ofFloat 4 (some .int) ∈ GW := GW_of (List.mem_of_getElem? (i := 496) (by decide +kernel)) rfl
theorem w_X8_ofFloat : CWm yX8_ofFloat cX8_ofFloat 4 (some .int) 2 := ⟨g_cw_X8_ofFloat, g_ini_GyreWatch, ⟨by decide +kernel, by decide +kernel, by decide +kernel⟩, by decide⟩
theorem g_in_X8_ofFloat : Cond.instanceMethod yX8_ofFloat ∈ GW := GW_of (List.mem_of_getElem? (i := 494) (by decide +kernel)) rfl
theorem g_se_X8_ofFloat : Cond.selects (RN 8) yX8_ofFloat yX8_ofFloat ∈ GW := GW_of (List.mem_of_getElem? (i := 495) (by decide +kernel)) rfl
theorem g_ml_RL_116 : Cond.methodLink RL 116 yX8_ofFloat ∈ GW := GW_of (List.mem_of_getElem? (i := 493) (by decide +kernel)) rfl
theorem g_cw_L_searches : Cond.code yL_searches cL_searches 11 (some .boolean) ∈ GW := GW_of (List.mem_of_getElem? (i := 505) (by decide +kernel)) rfl
theorem w_L_searches : CWm yL_searches cL_searches 11 (some .boolean) 5 := ⟨g_cw_L_searches, g_ini_GyreWatchLaw, ⟨by decide +kernel, by decide +kernel, by decide +kernel⟩, by decide⟩
theorem g_ml_RL_119 : Cond.methodLink RL 119 yL_searches ∈ GW := GW_of (List.mem_of_getElem? (i := 503) (by decide +kernel)) rfl
theorem g_st_L_searches : Cond.static yL_searches ∈ GW := GW_of (List.mem_of_getElem? (i := 504) (by decide +kernel)) rfl
theorem g_cw_X8_ofReading : Cond.code yX8_ofReading cX8_ofReading 4 (some .int) ∈ GW := GW_of (List.mem_of_getElem? (i := 541) (by decide +kernel)) rfl
theorem w_X8_ofReading : CWm yX8_ofReading cX8_ofReading 4 (some .int) 2 := ⟨g_cw_X8_ofReading, g_ini_GyreWatch, ⟨by decide +kernel, by decide +kernel, by decide +kernel⟩, by decide⟩
theorem g_in_X8_ofReading : Cond.instanceMethod yX8_ofReading ∈ GW := GW_of (List.mem_of_getElem? (i := 539) (by decide +kernel)) rfl
theorem g_se_X8_ofReading : Cond.selects (RN 8) yX8_ofReading yX8_ofReading ∈ GW := GW_of (List.mem_of_getElem? (i := 540) (by decide +kernel)) rfl
theorem g_ml_RL_123 : Cond.methodLink RL 123 yX8_ofReading ∈ GW := GW_of (List.mem_of_getElem? (i := 538) (by decide +kernel)) rfl
theorem g_cw_L_map : Cond.code yL_map cL_map 12 none ∈ GW := GW_of (List.mem_of_getElem? (i := 568) (by decide +kernel)) rfl
theorem w_L_map : CWm yL_map cL_map 12 none 10 := ⟨g_cw_L_map, g_ini_GyreWatchLaw, ⟨by decide +kernel, by decide +kernel, by decide +kernel⟩, by decide⟩
theorem g_ml_RL_126 : Cond.methodLink RL 126 yL_map ∈ GW := GW_of (List.mem_of_getElem? (i := 566) (by decide +kernel)) rfl
theorem g_st_L_map : Cond.static yL_map ∈ GW := GW_of (List.mem_of_getElem? (i := 567) (by decide +kernel)) rfl
theorem g_inst_8 : Cond.instantiable (RN 8) (nF 8) ∈ GW := GW_of (List.mem_of_getElem? (i := 33) (by decide +kernel)) rfl
theorem g_iniN_8 : Cond.initialized (RN 8) ∈ GW := GW_of (List.mem_of_getElem? (i := 15) (by decide +kernel)) rfl
theorem g_clN_RL_11 : Cond.classLink RL 11 (RN 8) ∈ GW := GW_of (List.mem_of_getElem? (i := 32) (by decide +kernel)) rfl
theorem g_cw_X8_init : Cond.code yX8_init cX8_init 1 none ∈ GW := GW_of (List.mem_of_getElem? (i := 36) (by decide +kernel)) rfl
theorem w_X8_init : CWm yX8_init cX8_init 1 none 0 := ⟨g_cw_X8_init, g_ini_GyreWatch, ⟨by decide +kernel, by decide +kernel, by decide +kernel⟩, by decide⟩
theorem g_in_X8_init : Cond.instanceMethod yX8_init ∈ GW := GW_of (List.mem_of_getElem? (i := 35) (by decide +kernel)) rfl
theorem g_ml_RL_152 : Cond.methodLink RL 152 yX8_init ∈ GW := GW_of (List.mem_of_getElem? (i := 34) (by decide +kernel)) rfl
theorem g_cw_L_cell : Cond.code yL_cell cL_cell 2 (some .int) ∈ GW := GW_of (List.mem_of_getElem? (i := 415) (by decide +kernel)) rfl
theorem w_L_cell : CWm yL_cell cL_cell 2 (some .int) 2 := ⟨g_cw_L_cell, g_ini_GyreWatchLaw, ⟨by decide +kernel, by decide +kernel, by decide +kernel⟩, by decide⟩
theorem g_ml_RL_153 : Cond.methodLink RL 153 yL_cell ∈ GW := GW_of (List.mem_of_getElem? (i := 413) (by decide +kernel)) rfl
theorem g_st_L_cell : Cond.static yL_cell ∈ GW := GW_of (List.mem_of_getElem? (i := 414) (by decide +kernel)) rfl
theorem g_ml_RL_157 : Cond.methodLink RL 157 yL_tells ∈ GW := GW_of (List.mem_of_getElem? (i := 771) (by decide +kernel)) rfl
theorem g_st_L_tells : Cond.static yL_tells ∈ GW := GW_of (List.mem_of_getElem? (i := 772) (by decide +kernel)) rfl
theorem g_ml_RL_161 : Cond.methodLink RL 161 yL_passes ∈ GW := GW_of (List.mem_of_getElem? (i := 422) (by decide +kernel)) rfl
theorem g_st_L_passes : Cond.static yL_passes ∈ GW := GW_of (List.mem_of_getElem? (i := 423) (by decide +kernel)) rfl
theorem g_cw_X8_pass : Cond.code yX8_pass cX8_pass 3 (some .int) ∈ GW := GW_of (List.mem_of_getElem? (i := 181) (by decide +kernel)) rfl
theorem w_X8_pass : CWm yX8_pass cX8_pass 3 (some .int) 1 := ⟨g_cw_X8_pass, g_ini_GyreWatch, ⟨by decide +kernel, by decide +kernel, by decide +kernel⟩, by decide⟩
theorem g_in_X8_pass : Cond.instanceMethod yX8_pass ∈ GW := GW_of (List.mem_of_getElem? (i := 179) (by decide +kernel)) rfl
theorem g_se_X8_pass : Cond.selects (RN 8) yX8_pass yX8_pass ∈ GW := GW_of (List.mem_of_getElem? (i := 180) (by decide +kernel)) rfl
theorem g_ml_RL_165 : Cond.methodLink RL 165 yX8_pass ∈ GW := GW_of (List.mem_of_getElem? (i := 178) (by decide +kernel)) rfl
theorem g_co_RL_168 : Cond.constant RL 168 (8388607 : Int32) ∈ GW := GW_of (List.mem_of_getElem? (i := 798) (by decide +kernel)) rfl
theorem g_ml_RL_169 : Cond.methodLink RL 169 yL_same ∈ GW := GW_of (List.mem_of_getElem? (i := 446) (by decide +kernel)) rfl
theorem g_st_L_same : Cond.static yL_same ∈ GW := GW_of (List.mem_of_getElem? (i := 447) (by decide +kernel)) rfl
