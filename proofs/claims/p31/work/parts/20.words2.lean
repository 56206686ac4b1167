set_option maxRecDepth 100000 in
theorem g_cw_L_tells : Cond.code yL_tells cL_tells 22 (some .boolean) ∈ GW := GW_of (List.mem_of_getElem? (i := 773) rfl) rfl
theorem w_L_tells : CWm yL_tells cL_tells 22 (some .boolean) 17 := ⟨g_cw_L_tells, g_ini_GyreWatchLaw, ⟨by decide +kernel, by decide +kernel, by decide +kernel⟩, by decide⟩
set_option maxRecDepth 100000 in
theorem g_cw_L_passes : Cond.code yL_passes cL_passes 21 none ∈ GW := GW_of (List.mem_of_getElem? (i := 424) rfl) rfl
theorem w_L_passes : CWm yL_passes cL_passes 21 none 16 := ⟨g_cw_L_passes, g_ini_GyreWatchLaw, ⟨by decide +kernel, by decide +kernel, by decide +kernel⟩, by decide⟩
set_option maxRecDepth 100000 in
theorem g_cw_L_same : Cond.code yL_same cL_same 24 (some .boolean) ∈ GW := GW_of (List.mem_of_getElem? (i := 448) rfl) rfl
theorem w_L_same : CWm yL_same cL_same 24 (some .boolean) 16 := ⟨g_cw_L_same, g_ini_GyreWatchLaw, ⟨by decide +kernel, by decide +kernel, by decide +kernel⟩, by decide⟩
