def B_L_law_1903 (Ls : Nat) (xs : Nat → Int32) (rc23 : Option Nat → Option Nat → Option Nat → Int32 → MH → Res) (x1 : Option Nat) (x2 : Option Nat) (x3 : Option Nat) (x4 : Int32) (h : MH) : Res := bnd (x4 + (5)) fun z450 => rc23 x1 x2 x3 z450 h
def B_L_law_217 (Ls : Nat) (xs : Nat → Int32) (rc23 : Option Nat → Option Nat → Option Nat → Int32 → MH → Res) (x1 : Option Nat) (x2 : Option Nat) (x3 : Option Nat) (x4 : Int32) (h : MH) : Res := B_L_law_1903 Ls xs rc23 x1 x2 x3 x4 h
def B_L_law_285 (Ls : Nat) (xs : Nat → Int32) (rc23 : Option Nat → Option Nat → Option Nat → Int32 → MH → Res) (x1 : Option Nat) (x2 : Option Nat) (x3 : Option Nat) (x4 : Int32) (h : MH) : Res := B_L_law_1903 Ls xs rc23 x1 x2 x3 x4 h
def B_L_law_353 (Ls : Nat) (xs : Nat → Int32) (rc23 : Option Nat → Option Nat → Option Nat → Int32 → MH → Res) (x1 : Option Nat) (x2 : Option Nat) (x3 : Option Nat) (x4 : Int32) (h : MH) : Res := B_L_law_1903 Ls xs rc23 x1 x2 x3 x4 h
def B_L_law_409 (Ls : Nat) (xs : Nat → Int32) (rc23 : Option Nat → Option Nat → Option Nat → Int32 → MH → Res) (x1 : Option Nat) (x2 : Option Nat) (x3 : Option Nat) (x4 : Int32) (h : MH) : Res := B_L_law_1903 Ls xs rc23 x1 x2 x3 x4 h
def B_L_law_501 (Ls : Nat) (xs : Nat → Int32) (rc23 : Option Nat → Option Nat → Option Nat → Int32 → MH → Res) (x1 : Option Nat) (x2 : Option Nat) (x3 : Option Nat) (x4 : Int32) (h : MH) : Res := B_L_law_1903 Ls xs rc23 x1 x2 x3 x4 h
def B_L_law_569 (Ls : Nat) (xs : Nat → Int32) (rc23 : Option Nat → Option Nat → Option Nat → Int32 → MH → Res) (x1 : Option Nat) (x2 : Option Nat) (x3 : Option Nat) (x4 : Int32) (h : MH) : Res := B_L_law_1903 Ls xs rc23 x1 x2 x3 x4 h
def B_L_law_637 (Ls : Nat) (xs : Nat → Int32) (rc23 : Option Nat → Option Nat → Option Nat → Int32 → MH → Res) (x1 : Option Nat) (x2 : Option Nat) (x3 : Option Nat) (x4 : Int32) (h : MH) : Res := B_L_law_1903 Ls xs rc23 x1 x2 x3 x4 h
def B_L_law_693 (Ls : Nat) (xs : Nat → Int32) (rc23 : Option Nat → Option Nat → Option Nat → Int32 → MH → Res) (x1 : Option Nat) (x2 : Option Nat) (x3 : Option Nat) (x4 : Int32) (h : MH) : Res := B_L_law_1903 Ls xs rc23 x1 x2 x3 x4 h
def B_L_law_761 (Ls : Nat) (xs : Nat → Int32) (rc23 : Option Nat → Option Nat → Option Nat → Int32 → MH → Res) (x1 : Option Nat) (x2 : Option Nat) (x3 : Option Nat) (x4 : Int32) (h : MH) : Res := B_L_law_1903 Ls xs rc23 x1 x2 x3 x4 h
def B_L_law_817 (Ls : Nat) (xs : Nat → Int32) (rc23 : Option Nat → Option Nat → Option Nat → Int32 → MH → Res) (x1 : Option Nat) (x2 : Option Nat) (x3 : Option Nat) (x4 : Int32) (h : MH) : Res := B_L_law_1903 Ls xs rc23 x1 x2 x3 x4 h
def B_L_law_873 (Ls : Nat) (xs : Nat → Int32) (rc23 : Option Nat → Option Nat → Option Nat → Int32 → MH → Res) (x1 : Option Nat) (x2 : Option Nat) (x3 : Option Nat) (x4 : Int32) (h : MH) : Res := B_L_law_1903 Ls xs rc23 x1 x2 x3 x4 h
def B_L_law_953 (Ls : Nat) (xs : Nat → Int32) (rc23 : Option Nat → Option Nat → Option Nat → Int32 → MH → Res) (x1 : Option Nat) (x2 : Option Nat) (x3 : Option Nat) (x4 : Int32) (h : MH) : Res := B_L_law_1903 Ls xs rc23 x1 x2 x3 x4 h
def B_L_law_1033 (Ls : Nat) (xs : Nat → Int32) (rc23 : Option Nat → Option Nat → Option Nat → Int32 → MH → Res) (x1 : Option Nat) (x2 : Option Nat) (x3 : Option Nat) (x4 : Int32) (h : MH) : Res := B_L_law_1903 Ls xs rc23 x1 x2 x3 x4 h
def B_L_law_1126 (Ls : Nat) (xs : Nat → Int32) (rc23 : Option Nat → Option Nat → Option Nat → Int32 → MH → Res) (x1 : Option Nat) (x2 : Option Nat) (x3 : Option Nat) (x4 : Int32) (h : MH) : Res := B_L_law_1903 Ls xs rc23 x1 x2 x3 x4 h
def B_L_law_1182 (Ls : Nat) (xs : Nat → Int32) (rc23 : Option Nat → Option Nat → Option Nat → Int32 → MH → Res) (x1 : Option Nat) (x2 : Option Nat) (x3 : Option Nat) (x4 : Int32) (h : MH) : Res := B_L_law_1903 Ls xs rc23 x1 x2 x3 x4 h
def B_L_law_1250 (Ls : Nat) (xs : Nat → Int32) (rc23 : Option Nat → Option Nat → Option Nat → Int32 → MH → Res) (x1 : Option Nat) (x2 : Option Nat) (x3 : Option Nat) (x4 : Int32) (h : MH) : Res := B_L_law_1903 Ls xs rc23 x1 x2 x3 x4 h
def B_L_law_1344 (Ls : Nat) (xs : Nat → Int32) (rc23 : Option Nat → Option Nat → Option Nat → Int32 → MH → Res) (x1 : Option Nat) (x2 : Option Nat) (x3 : Option Nat) (x4 : Int32) (h : MH) : Res := B_L_law_1903 Ls xs rc23 x1 x2 x3 x4 h
def B_L_law_1424 (Ls : Nat) (xs : Nat → Int32) (rc23 : Option Nat → Option Nat → Option Nat → Int32 → MH → Res) (x1 : Option Nat) (x2 : Option Nat) (x3 : Option Nat) (x4 : Int32) (h : MH) : Res := B_L_law_1903 Ls xs rc23 x1 x2 x3 x4 h
def B_L_law_1504 (Ls : Nat) (xs : Nat → Int32) (rc23 : Option Nat → Option Nat → Option Nat → Int32 → MH → Res) (x1 : Option Nat) (x2 : Option Nat) (x3 : Option Nat) (x4 : Int32) (h : MH) : Res := B_L_law_1903 Ls xs rc23 x1 x2 x3 x4 h
def B_L_law_1572 (Ls : Nat) (xs : Nat → Int32) (rc23 : Option Nat → Option Nat → Option Nat → Int32 → MH → Res) (x1 : Option Nat) (x2 : Option Nat) (x3 : Option Nat) (x4 : Int32) (h : MH) : Res := B_L_law_1903 Ls xs rc23 x1 x2 x3 x4 h
def B_L_law_1640 (Ls : Nat) (xs : Nat → Int32) (rc23 : Option Nat → Option Nat → Option Nat → Int32 → MH → Res) (x1 : Option Nat) (x2 : Option Nat) (x3 : Option Nat) (x4 : Int32) (h : MH) : Res := B_L_law_1903 Ls xs rc23 x1 x2 x3 x4 h
def B_L_law_1696 (Ls : Nat) (xs : Nat → Int32) (rc23 : Option Nat → Option Nat → Option Nat → Int32 → MH → Res) (x1 : Option Nat) (x2 : Option Nat) (x3 : Option Nat) (x4 : Int32) (h : MH) : Res := B_L_law_1903 Ls xs rc23 x1 x2 x3 x4 h
def B_L_law_1776 (Ls : Nat) (xs : Nat → Int32) (rc23 : Option Nat → Option Nat → Option Nat → Int32 → MH → Res) (x1 : Option Nat) (x2 : Option Nat) (x3 : Option Nat) (x4 : Int32) (h : MH) : Res := B_L_law_1903 Ls xs rc23 x1 x2 x3 x4 h
def B_L_law_1832 (Ls : Nat) (xs : Nat → Int32) (rc23 : Option Nat → Option Nat → Option Nat → Int32 → MH → Res) (x1 : Option Nat) (x2 : Option Nat) (x3 : Option Nat) (x4 : Int32) (h : MH) : Res := B_L_law_1903 Ls xs rc23 x1 x2 x3 x4 h
def B_L_law_1900 (Ls : Nat) (xs : Nat → Int32) (rc23 : Option Nat → Option Nat → Option Nat → Int32 → MH → Res) (x1 : Option Nat) (x2 : Option Nat) (x3 : Option Nat) (x4 : Int32) (h : MH) : Res := B_L_law_1903 Ls xs rc23 x1 x2 x3 x4 h
def B_L_law_23 (Ls : Nat) (xs : Nat → Int32) (rc23 : Option Nat → Option Nat → Option Nat → Int32 → MH → Res) (x1 : Option Nat) (x2 : Option Nat) (x3 : Option Nat) (x4 : Int32) (h : MH) : Res := bnd (Int32.ofNat Ls) fun z9 => bnd (z9 - (5 : Int32)) fun z10 => if z10 < x4 then (rtL (1 : Int32) h) else (sld Ls xs x4 fun z11 => bnd (z11 &&& (31 : Int32)) fun z12 => if z12 < (0 : Int32) then (B_L_law_1903 Ls xs rc23 x1 x2 x3 x4 h) else if z12 = (0 : Int32) then (bnd (x4 + (1 : Int32)) fun z13 => sld Ls xs z13 fun z14 => calNI (M_L_land x1 z14 x3 h) fun z15 h16 => bnd (x4 + (1 : Int32)) fun z17 => sld Ls xs z17 fun z18 => chk h16 x2 9 <| calI (M_X9_land x2 z18 h16) fun z19 h20 => chk h20 x2 9 <| calI (M_X9_thrown x2 h20) fun z21 h22 => if z21 = z15 then (if z15 ≠ 0 then (B_L_law_217 Ls xs rc23 x1 x2 x3 x4 h22) else (rdQ h22 x3 (0 : Int32) fun z23 => bnd (Int32.toInt64 z19) fun z24 => bnd (lg_cmp z23 z24) fun z25 => if z25 = 0 then (B_L_law_217 Ls xs rc23 x1 x2 x3 x4 h22) else (rtL (0 : Int32) h22))) else (rtL (0 : Int32) h22)) else if z12 = (1 : Int32) then (bnd (x4 + (1 : Int32)) fun z26 => sld Ls xs z26 fun z27 => bnd (x4 + (2 : Int32)) fun z28 => sld Ls xs z28 fun z29 => calNI (M_L_current x1 z27 z29 x3 h) fun z30 h31 => bnd (x4 + (1 : Int32)) fun z32 => sld Ls xs z32 fun z33 => bnd (x4 + (2 : Int32)) fun z34 => sld Ls xs z34 fun z35 => chk h31 x2 9 <| calI (M_X9_current x2 z33 z35 h31) fun z36 h37 => chk h37 x2 9 <| calI (M_X9_thrown x2 h37) fun z38 h39 => if z38 = z30 then (if z30 ≠ 0 then (B_L_law_285 Ls xs rc23 x1 x2 x3 x4 h39) else (rdQ h39 x3 (0 : Int32) fun z40 => bnd (Int32.toInt64 z36) fun z41 => bnd (lg_cmp z40 z41) fun z42 => if z42 = 0 then (B_L_law_285 Ls xs rc23 x1 x2 x3 x4 h39) else (rtL (0 : Int32) h39))) else (rtL (0 : Int32) h39)) else if z12 = (2 : Int32) then (bnd (x4 + (1 : Int32)) fun z43 => sld Ls xs z43 fun z44 => bnd (x4 + (2 : Int32)) fun z45 => sld Ls xs z45 fun z46 => calNI (M_L_sun x1 z44 z46 x3 h) fun z47 h48 => bnd (x4 + (1 : Int32)) fun z49 => sld Ls xs z49 fun z50 => bnd (x4 + (2 : Int32)) fun z51 => sld Ls xs z51 fun z52 => chk h48 x2 9 <| calI (M_X9_sun x2 z50 z52 h48) fun z53 h54 => chk h54 x2 9 <| calI (M_X9_thrown x2 h54) fun z55 h56 => if z55 = z47 then (if z47 ≠ 0 then (B_L_law_353 Ls xs rc23 x1 x2 x3 x4 h56) else (rdQ h56 x3 (0 : Int32) fun z57 => bnd (Int32.toInt64 z53) fun z58 => bnd (lg_cmp z57 z58) fun z59 => if z59 = 0 then (B_L_law_353 Ls xs rc23 x1 x2 x3 x4 h56) else (rtL (0 : Int32) h56))) else (rtL (0 : Int32) h56)) else if z12 = (3 : Int32) then (bnd (x4 + (1 : Int32)) fun z60 => sld Ls xs z60 fun z61 => calNI (M_L_pass x1 z61 x3 h) fun z62 h63 => bnd (x4 + (1 : Int32)) fun z64 => sld Ls xs z64 fun z65 => chk h63 x2 9 <| calI (M_X9_pass x2 z65 h63) fun z66 h67 => chk h67 x2 9 <| calI (M_X9_thrown x2 h67) fun z68 h69 => if z68 = z62 then (if z62 ≠ 0 then (B_L_law_409 Ls xs rc23 x1 x2 x3 x4 h69) else (rdQ h69 x3 (0 : Int32) fun z70 => bnd (Int32.toInt64 z66) fun z71 => bnd (lg_cmp z70 z71) fun z72 => if z72 = 0 then (B_L_law_409 Ls xs rc23 x1 x2 x3 x4 h69) else (rtL (0 : Int32) h69))) else (rtL (0 : Int32) h69)) else if z12 = (4 : Int32) then (bnd (x4 + (1 : Int32)) fun z73 => sld Ls xs z73 fun z74 => bnd (x4 + (2 : Int32)) fun z75 => sld Ls xs z75 fun z76 => bnd (x4 + (3 : Int32)) fun z77 => sld Ls xs z77 fun z78 => bnd (x4 + (4 : Int32)) fun z79 => sld Ls xs z79 fun z80 => calNI (M_L_lay x1 z74 z76 z78 z80 x3 h) fun z81 h82 => bnd (x4 + (1 : Int32)) fun z83 => sld Ls xs z83 fun z84 => bnd (x4 + (2 : Int32)) fun z85 => sld Ls xs z85 fun z86 => bnd (x4 + (3 : Int32)) fun z87 => sld Ls xs z87 fun z88 => bnd (x4 + (4 : Int32)) fun z89 => sld Ls xs z89 fun z90 => chk h82 x2 9 <| calI (M_X9_lay x2 z84 z86 z88 z90 h82) fun z91 h92 => chk h92 x2 9 <| calI (M_X9_thrown x2 h92) fun z93 h94 => if z93 = z81 then (if z81 ≠ 0 then (B_L_law_501 Ls xs rc23 x1 x2 x3 x4 h94) else (rdQ h94 x3 (0 : Int32) fun z95 => bnd (Int32.toInt64 z91) fun z96 => bnd (lg_cmp z95 z96) fun z97 => if z97 = 0 then (B_L_law_501 Ls xs rc23 x1 x2 x3 x4 h94) else (rtL (0 : Int32) h94))) else (rtL (0 : Int32) h94)) else if z12 = (5 : Int32) then (bnd (x4 + (1 : Int32)) fun z98 => sld Ls xs z98 fun z99 => bnd (x4 + (2 : Int32)) fun z100 => sld Ls xs z100 fun z101 => calNI (M_L_station x1 z99 z101 x3 h) fun z102 h103 => bnd (x4 + (1 : Int32)) fun z104 => sld Ls xs z104 fun z105 => bnd (x4 + (2 : Int32)) fun z106 => sld Ls xs z106 fun z107 => chk h103 x2 9 <| calI (M_X9_station x2 z105 z107 h103) fun z108 h109 => chk h109 x2 9 <| calI (M_X9_thrown x2 h109) fun z110 h111 => if z110 = z102 then (if z102 ≠ 0 then (B_L_law_569 Ls xs rc23 x1 x2 x3 x4 h111) else (rdQ h111 x3 (0 : Int32) fun z112 => bnd (Int32.toInt64 z108) fun z113 => bnd (lg_cmp z112 z113) fun z114 => if z114 = 0 then (B_L_law_569 Ls xs rc23 x1 x2 x3 x4 h111) else (rtL (0 : Int32) h111))) else (rtL (0 : Int32) h111)) else if z12 = (6 : Int32) then (bnd (x4 + (1 : Int32)) fun z115 => sld Ls xs z115 fun z116 => bnd (x4 + (2 : Int32)) fun z117 => sld Ls xs z117 fun z118 => calNI (M_L_storm x1 z116 z118 x3 h) fun z119 h120 => bnd (x4 + (1 : Int32)) fun z121 => sld Ls xs z121 fun z122 => bnd (x4 + (2 : Int32)) fun z123 => sld Ls xs z123 fun z124 => chk h120 x2 9 <| calI (M_X9_storm x2 z122 z124 h120) fun z125 h126 => chk h126 x2 9 <| calI (M_X9_thrown x2 h126) fun z127 h128 => if z127 = z119 then (if z119 ≠ 0 then (B_L_law_637 Ls xs rc23 x1 x2 x3 x4 h128) else (rdQ h128 x3 (0 : Int32) fun z129 => bnd (Int32.toInt64 z125) fun z130 => bnd (lg_cmp z129 z130) fun z131 => if z131 = 0 then (B_L_law_637 Ls xs rc23 x1 x2 x3 x4 h128) else (rtL (0 : Int32) h128))) else (rtL (0 : Int32) h128)) else if z12 = (7 : Int32) then (bnd (x4 + (1 : Int32)) fun z132 => sld Ls xs z132 fun z133 => calNI (M_L_calibrate x1 z133 x3 h) fun z134 h135 => bnd (x4 + (1 : Int32)) fun z136 => sld Ls xs z136 fun z137 => chk h135 x2 9 <| calI (M_X9_calibrate x2 z137 h135) fun z138 h139 => chk h139 x2 9 <| calI (M_X9_thrown x2 h139) fun z140 h141 => if z140 = z134 then (if z134 ≠ 0 then (B_L_law_693 Ls xs rc23 x1 x2 x3 x4 h141) else (rdQ h141 x3 (0 : Int32) fun z142 => bnd (Int32.toInt64 z138) fun z143 => bnd (lg_cmp z142 z143) fun z144 => if z144 = 0 then (B_L_law_693 Ls xs rc23 x1 x2 x3 x4 h141) else (rtL (0 : Int32) h141))) else (rtL (0 : Int32) h141)) else if z12 = (8 : Int32) then (bnd (x4 + (1 : Int32)) fun z145 => sld Ls xs z145 fun z146 => bnd (x4 + (2 : Int32)) fun z147 => sld Ls xs z147 fun z148 => calNI (M_L_flag x1 z146 z148 x3 h) fun z149 h150 => bnd (x4 + (1 : Int32)) fun z151 => sld Ls xs z151 fun z152 => bnd (x4 + (2 : Int32)) fun z153 => sld Ls xs z153 fun z154 => chk h150 x2 9 <| calI (M_X9_flag x2 z152 z154 h150) fun z155 h156 => chk h156 x2 9 <| calI (M_X9_thrown x2 h156) fun z157 h158 => if z157 = z149 then (if z149 ≠ 0 then (B_L_law_761 Ls xs rc23 x1 x2 x3 x4 h158) else (rdQ h158 x3 (0 : Int32) fun z159 => bnd (Int32.toInt64 z155) fun z160 => bnd (lg_cmp z159 z160) fun z161 => if z161 = 0 then (B_L_law_761 Ls xs rc23 x1 x2 x3 x4 h158) else (rtL (0 : Int32) h158))) else (rtL (0 : Int32) h158)) else if z12 = (9 : Int32) then (bnd (x4 + (1 : Int32)) fun z162 => sld Ls xs z162 fun z163 => calNI (M_L_bound x1 z163 x3 h) fun z164 h165 => bnd (x4 + (1 : Int32)) fun z166 => sld Ls xs z166 fun z167 => chk h165 x2 9 <| calI (M_X9_bound x2 z167 h165) fun z168 h169 => chk h169 x2 9 <| calI (M_X9_thrown x2 h169) fun z170 h171 => if z170 = z164 then (if z164 ≠ 0 then (B_L_law_817 Ls xs rc23 x1 x2 x3 x4 h171) else (rdQ h171 x3 (0 : Int32) fun z172 => bnd (Int32.toInt64 z168) fun z173 => bnd (lg_cmp z172 z173) fun z174 => if z174 = 0 then (B_L_law_817 Ls xs rc23 x1 x2 x3 x4 h171) else (rtL (0 : Int32) h171))) else (rtL (0 : Int32) h171)) else if z12 = (10 : Int32) then (bnd (x4 + (1 : Int32)) fun z175 => sld Ls xs z175 fun z176 => calNI (M_L_search x1 z176 x3 h) fun z177 h178 => bnd (x4 + (1 : Int32)) fun z179 => sld Ls xs z179 fun z180 => chk h178 x2 9 <| calI (M_X9_search x2 z180 h178) fun z181 h182 => chk h182 x2 9 <| calI (M_X9_thrown x2 h182) fun z183 h184 => if z183 = z177 then (if z177 ≠ 0 then (B_L_law_873 Ls xs rc23 x1 x2 x3 x4 h184) else (rdQ h184 x3 (0 : Int32) fun z185 => bnd (Int32.toInt64 z181) fun z186 => bnd (lg_cmp z185 z186) fun z187 => if z187 = 0 then (B_L_law_873 Ls xs rc23 x1 x2 x3 x4 h184) else (rtL (0 : Int32) h184))) else (rtL (0 : Int32) h184)) else if z12 = (11 : Int32) then (bnd (x4 + (1 : Int32)) fun z188 => sld Ls xs z188 fun z189 => bnd (x4 + (2 : Int32)) fun z190 => sld Ls xs z190 fun z191 => bnd (x4 + (3 : Int32)) fun z192 => sld Ls xs z192 fun z193 => calNI (M_L_leg x1 z189 z191 z193 x3 h) fun z194 h195 => bnd (x4 + (1 : Int32)) fun z196 => sld Ls xs z196 fun z197 => bnd (x4 + (2 : Int32)) fun z198 => sld Ls xs z198 fun z199 => bnd (x4 + (3 : Int32)) fun z200 => sld Ls xs z200 fun z201 => chk h195 x2 9 <| calI (M_X9_leg x2 z197 z199 z201 h195) fun z202 h203 => chk h203 x2 9 <| calI (M_X9_thrown x2 h203) fun z204 h205 => if z204 = z194 then (if z194 ≠ 0 then (B_L_law_953 Ls xs rc23 x1 x2 x3 x4 h205) else (rdQ h205 x3 (0 : Int32) fun z206 => bnd (Int32.toInt64 z202) fun z207 => bnd (lg_cmp z206 z207) fun z208 => if z208 = 0 then (B_L_law_953 Ls xs rc23 x1 x2 x3 x4 h205) else (rtL (0 : Int32) h205))) else (rtL (0 : Int32) h205)) else if z12 = (12 : Int32) then (bnd (x4 + (1 : Int32)) fun z209 => sld Ls xs z209 fun z210 => bnd (x4 + (2 : Int32)) fun z211 => sld Ls xs z211 fun z212 => bnd (x4 + (3 : Int32)) fun z213 => sld Ls xs z213 fun z214 => calNI (M_L_part x1 z210 z212 z214 x3 h) fun z215 h216 => bnd (x4 + (1 : Int32)) fun z217 => sld Ls xs z217 fun z218 => bnd (x4 + (2 : Int32)) fun z219 => sld Ls xs z219 fun z220 => bnd (x4 + (3 : Int32)) fun z221 => sld Ls xs z221 fun z222 => chk h216 x2 9 <| calI (M_X9_part x2 z218 z220 z222 h216) fun z223 h224 => chk h224 x2 9 <| calI (M_X9_thrown x2 h224) fun z225 h226 => if z225 = z215 then (if z215 ≠ 0 then (B_L_law_1033 Ls xs rc23 x1 x2 x3 x4 h226) else (rdQ h226 x3 (0 : Int32) fun z227 => bnd (Int32.toInt64 z223) fun z228 => bnd (lg_cmp z227 z228) fun z229 => if z229 = 0 then (B_L_law_1033 Ls xs rc23 x1 x2 x3 x4 h226) else (rtL (0 : Int32) h226))) else (rtL (0 : Int32) h226)) else if z12 = (13 : Int32) then (chk h x1 8 <| calI (M_X8_day x1 h) fun z230 h231 => chk h231 x2 9 <| calI (M_X9_day x2 h231) fun z232 h233 => if z230 = z232 then (B_L_law_1903 Ls xs rc23 x1 x2 x3 x4 h233) else (rtL (0 : Int32) h233)) else if z12 = (14 : Int32) then (bnd (x4 + (1 : Int32)) fun z234 => sld Ls xs z234 fun z235 => bnd (x4 + (2 : Int32)) fun z236 => sld Ls xs z236 fun z237 => bnd (x4 + (3 : Int32)) fun z238 => sld Ls xs z238 fun z239 => calNI (M_L_ofLayer x1 z235 z237 z239 x3 h) fun z240 h241 => bnd (x4 + (1 : Int32)) fun z242 => sld Ls xs z242 fun z243 => bnd (x4 + (2 : Int32)) fun z244 => sld Ls xs z244 fun z245 => bnd (x4 + (3 : Int32)) fun z246 => sld Ls xs z246 fun z247 => chk h241 x2 9 <| calI (M_X9_ofLayer x2 z243 z245 z247 h241) fun z248 h249 => chk h249 x2 9 <| calI (M_X9_thrown x2 h249) fun z250 h251 => if z250 = z240 then (if z240 ≠ 0 then (B_L_law_1126 Ls xs rc23 x1 x2 x3 x4 h251) else (rdQ h251 x3 (0 : Int32) fun z252 => bnd (Int32.toInt64 z248) fun z253 => bnd (lg_cmp z252 z253) fun z254 => if z254 = 0 then (B_L_law_1126 Ls xs rc23 x1 x2 x3 x4 h251) else (rtL (0 : Int32) h251))) else (rtL (0 : Int32) h251)) else if z12 = (15 : Int32) then (bnd (x4 + (1 : Int32)) fun z255 => sld Ls xs z255 fun z256 => calNI (M_L_total x1 z256 x3 h) fun z257 h258 => bnd (x4 + (1 : Int32)) fun z259 => sld Ls xs z259 fun z260 => chk h258 x2 9 <| calI (M_X9_total x2 z260 h258) fun z261 h262 => chk h262 x2 9 <| calI (M_X9_thrown x2 h262) fun z263 h264 => if z263 = z257 then (if z257 ≠ 0 then (B_L_law_1182 Ls xs rc23 x1 x2 x3 x4 h264) else (rdQ h264 x3 (0 : Int32) fun z265 => bnd (Int32.toInt64 z261) fun z266 => bnd (lg_cmp z265 z266) fun z267 => if z267 = 0 then (B_L_law_1182 Ls xs rc23 x1 x2 x3 x4 h264) else (rtL (0 : Int32) h264))) else (rtL (0 : Int32) h264)) else if z12 = (16 : Int32) then (bnd (x4 + (1 : Int32)) fun z268 => sld Ls xs z268 fun z269 => bnd (x4 + (2 : Int32)) fun z270 => sld Ls xs z270 fun z271 => calNI (M_L_ofFloat x1 z269 z271 x3 h) fun z272 h273 => bnd (x4 + (1 : Int32)) fun z274 => sld Ls xs z274 fun z275 => bnd (x4 + (2 : Int32)) fun z276 => sld Ls xs z276 fun z277 => chk h273 x2 9 <| calI (M_X9_ofFloat x2 z275 z277 h273) fun z278 h279 => chk h279 x2 9 <| calI (M_X9_thrown x2 h279) fun z280 h281 => if z280 = z272 then (if z272 ≠ 0 then (B_L_law_1250 Ls xs rc23 x1 x2 x3 x4 h281) else (rdQ h281 x3 (0 : Int32) fun z282 => bnd (Int32.toInt64 z278) fun z283 => bnd (lg_cmp z282 z283) fun z284 => if z284 = 0 then (B_L_law_1250 Ls xs rc23 x1 x2 x3 x4 h281) else (rtL (0 : Int32) h281))) else (rtL (0 : Int32) h281)) else if z12 = (17 : Int32) then (chk h x1 8 <| calI (M_X8_stations x1 h) fun z285 h286 => chk h286 x2 9 <| calI (M_X9_stations x2 h286) fun z287 h288 => if z285 = z287 then (B_L_law_1903 Ls xs rc23 x1 x2 x3 x4 h288) else (rtL (0 : Int32) h288)) else if z12 = (18 : Int32) then (chk h x1 8 <| calI (M_X8_readings x1 h) fun z289 h290 => chk h290 x2 9 <| calI (M_X9_readings x2 h290) fun z291 h292 => if z289 = z291 then (B_L_law_1903 Ls xs rc23 x1 x2 x3 x4 h292) else (rtL (0 : Int32) h292)) else if z12 = (19 : Int32) then (bnd (x4 + (1 : Int32)) fun z293 => sld Ls xs z293 fun z294 => bnd (x4 + (2 : Int32)) fun z295 => sld Ls xs z295 fun z296 => calNI (M_L_ofReading x1 z294 z296 x3 h) fun z297 h298 => bnd (x4 + (1 : Int32)) fun z299 => sld Ls xs z299 fun z300 => bnd (x4 + (2 : Int32)) fun z301 => sld Ls xs z301 fun z302 => chk h298 x2 9 <| calI (M_X9_ofReading x2 z300 z302 h298) fun z303 h304 => chk h304 x2 9 <| calI (M_X9_thrown x2 h304) fun z305 h306 => if z305 = z297 then (if z297 ≠ 0 then (B_L_law_1344 Ls xs rc23 x1 x2 x3 x4 h306) else (rdQ h306 x3 (0 : Int32) fun z307 => bnd (Int32.toInt64 z303) fun z308 => bnd (lg_cmp z307 z308) fun z309 => if z309 = 0 then (B_L_law_1344 Ls xs rc23 x1 x2 x3 x4 h306) else (rtL (0 : Int32) h306))) else (rtL (0 : Int32) h306)) else if z12 = (20 : Int32) then (bnd (x4 + (1 : Int32)) fun z310 => sld Ls xs z310 fun z311 => bnd (x4 + (2 : Int32)) fun z312 => sld Ls xs z312 fun z313 => bnd (x4 + (3 : Int32)) fun z314 => sld Ls xs z314 fun z315 => calNI (M_L_mean x1 z311 z313 z315 x3 h) fun z316 h317 => bnd (x4 + (1 : Int32)) fun z318 => sld Ls xs z318 fun z319 => bnd (x4 + (2 : Int32)) fun z320 => sld Ls xs z320 fun z321 => bnd (x4 + (3 : Int32)) fun z322 => sld Ls xs z322 fun z323 => chk h317 x2 9 <| calI (M_X9_mean x2 z319 z321 z323 h317) fun z324 h325 => chk h325 x2 9 <| calI (M_X9_thrown x2 h325) fun z326 h327 => if z326 = z316 then (if z316 ≠ 0 then (B_L_law_1424 Ls xs rc23 x1 x2 x3 x4 h327) else (rdQ h327 x3 (0 : Int32) fun z328 => bnd (Int32.toInt64 z324) fun z329 => bnd (lg_cmp z328 z329) fun z330 => if z330 = 0 then (B_L_law_1424 Ls xs rc23 x1 x2 x3 x4 h327) else (rtL (0 : Int32) h327))) else (rtL (0 : Int32) h327)) else if z12 = (21 : Int32) then (bnd (x4 + (1 : Int32)) fun z331 => sld Ls xs z331 fun z332 => bnd (x4 + (2 : Int32)) fun z333 => sld Ls xs z333 fun z334 => bnd (x4 + (3 : Int32)) fun z335 => sld Ls xs z335 fun z336 => calNI (M_L_error x1 z332 z334 z336 x3 h) fun z337 h338 => bnd (x4 + (1 : Int32)) fun z339 => sld Ls xs z339 fun z340 => bnd (x4 + (2 : Int32)) fun z341 => sld Ls xs z341 fun z342 => bnd (x4 + (3 : Int32)) fun z343 => sld Ls xs z343 fun z344 => chk h338 x2 9 <| calI (M_X9_error x2 z340 z342 z344 h338) fun z345 h346 => chk h346 x2 9 <| calI (M_X9_thrown x2 h346) fun z347 h348 => if z347 = z337 then (if z337 ≠ 0 then (B_L_law_1504 Ls xs rc23 x1 x2 x3 x4 h348) else (rdQ h348 x3 (0 : Int32) fun z349 => bnd (Int32.toInt64 z345) fun z350 => bnd (lg_cmp z349 z350) fun z351 => if z351 = 0 then (B_L_law_1504 Ls xs rc23 x1 x2 x3 x4 h348) else (rtL (0 : Int32) h348))) else (rtL (0 : Int32) h348)) else if z12 = (22 : Int32) then (bnd (x4 + (1 : Int32)) fun z352 => sld Ls xs z352 fun z353 => bnd (x4 + (2 : Int32)) fun z354 => sld Ls xs z354 fun z355 => calNI (M_L_residual x1 z353 z355 x3 h) fun z356 h357 => bnd (x4 + (1 : Int32)) fun z358 => sld Ls xs z358 fun z359 => bnd (x4 + (2 : Int32)) fun z360 => sld Ls xs z360 fun z361 => chk h357 x2 9 <| calI (M_X9_residual x2 z359 z361 h357) fun z362 h363 => chk h363 x2 9 <| calI (M_X9_thrown x2 h363) fun z364 h365 => if z364 = z356 then (if z356 ≠ 0 then (B_L_law_1572 Ls xs rc23 x1 x2 x3 x4 h365) else (rdQ h365 x3 (0 : Int32) fun z366 => bnd (Int32.toInt64 z362) fun z367 => bnd (lg_cmp z366 z367) fun z368 => if z368 = 0 then (B_L_law_1572 Ls xs rc23 x1 x2 x3 x4 h365) else (rtL (0 : Int32) h365))) else (rtL (0 : Int32) h365)) else if z12 = (23 : Int32) then (bnd (x4 + (1 : Int32)) fun z369 => sld Ls xs z369 fun z370 => bnd (x4 + (2 : Int32)) fun z371 => sld Ls xs z371 fun z372 => calNI (M_L_chance x1 z370 z372 x3 h) fun z373 h374 => bnd (x4 + (1 : Int32)) fun z375 => sld Ls xs z375 fun z376 => bnd (x4 + (2 : Int32)) fun z377 => sld Ls xs z377 fun z378 => chk h374 x2 9 <| calI (M_X9_chance x2 z376 z378 h374) fun z379 h380 => chk h380 x2 9 <| calI (M_X9_thrown x2 h380) fun z381 h382 => if z381 = z373 then (if z373 ≠ 0 then (B_L_law_1640 Ls xs rc23 x1 x2 x3 x4 h382) else (rdQ h382 x3 (0 : Int32) fun z383 => bnd (Int32.toInt64 z379) fun z384 => bnd (lg_cmp z383 z384) fun z385 => if z385 = 0 then (B_L_law_1640 Ls xs rc23 x1 x2 x3 x4 h382) else (rtL (0 : Int32) h382))) else (rtL (0 : Int32) h382)) else if z12 = (24 : Int32) then (bnd (x4 + (1 : Int32)) fun z386 => sld Ls xs z386 fun z387 => calNI (M_L_best x1 z387 x3 h) fun z388 h389 => bnd (x4 + (1 : Int32)) fun z390 => sld Ls xs z390 fun z391 => chk h389 x2 9 <| calI (M_X9_best x2 z391 h389) fun z392 h393 => chk h393 x2 9 <| calI (M_X9_thrown x2 h393) fun z394 h395 => if z394 = z388 then (if z388 ≠ 0 then (B_L_law_1696 Ls xs rc23 x1 x2 x3 x4 h395) else (rdQ h395 x3 (0 : Int32) fun z396 => bnd (Int32.toInt64 z392) fun z397 => bnd (lg_cmp z396 z397) fun z398 => if z398 = 0 then (B_L_law_1696 Ls xs rc23 x1 x2 x3 x4 h395) else (rtL (0 : Int32) h395))) else (rtL (0 : Int32) h395)) else if z12 = (25 : Int32) then (bnd (x4 + (1 : Int32)) fun z399 => sld Ls xs z399 fun z400 => bnd (x4 + (2 : Int32)) fun z401 => sld Ls xs z401 fun z402 => bnd (x4 + (3 : Int32)) fun z403 => sld Ls xs z403 fun z404 => calNI (M_L_plan x1 z400 z402 z404 x3 h) fun z405 h406 => bnd (x4 + (1 : Int32)) fun z407 => sld Ls xs z407 fun z408 => bnd (x4 + (2 : Int32)) fun z409 => sld Ls xs z409 fun z410 => bnd (x4 + (3 : Int32)) fun z411 => sld Ls xs z411 fun z412 => chk h406 x2 9 <| calI (M_X9_plan x2 z408 z410 z412 h406) fun z413 h414 => chk h414 x2 9 <| calI (M_X9_thrown x2 h414) fun z415 h416 => if z415 = z405 then (if z405 ≠ 0 then (B_L_law_1776 Ls xs rc23 x1 x2 x3 x4 h416) else (rdQ h416 x3 (0 : Int32) fun z417 => bnd (Int32.toInt64 z413) fun z418 => bnd (lg_cmp z417 z418) fun z419 => if z419 = 0 then (B_L_law_1776 Ls xs rc23 x1 x2 x3 x4 h416) else (rtL (0 : Int32) h416))) else (rtL (0 : Int32) h416)) else if z12 = (26 : Int32) then (bnd (x4 + (1 : Int32)) fun z420 => sld Ls xs z420 fun z421 => calNI (M_L_tide x1 z421 x3 h) fun z422 h423 => bnd (x4 + (1 : Int32)) fun z424 => sld Ls xs z424 fun z425 => chk h423 x2 9 <| calI (M_X9_tide x2 z425 h423) fun z426 h427 => chk h427 x2 9 <| calI (M_X9_thrown x2 h427) fun z428 h429 => if z428 = z422 then (if z422 ≠ 0 then (B_L_law_1832 Ls xs rc23 x1 x2 x3 x4 h429) else (rdQ h429 x3 (0 : Int32) fun z430 => bnd (Int32.toInt64 z426) fun z431 => bnd (lg_cmp z430 z431) fun z432 => if z432 = 0 then (B_L_law_1832 Ls xs rc23 x1 x2 x3 x4 h429) else (rtL (0 : Int32) h429))) else (rtL (0 : Int32) h429)) else if z12 = (27 : Int32) then (bnd (x4 + (1 : Int32)) fun z433 => sld Ls xs z433 fun z434 => bnd (x4 + (2 : Int32)) fun z435 => sld Ls xs z435 fun z436 => calNI (M_L_highest x1 z434 z436 x3 h) fun z437 h438 => bnd (x4 + (1 : Int32)) fun z439 => sld Ls xs z439 fun z440 => bnd (x4 + (2 : Int32)) fun z441 => sld Ls xs z441 fun z442 => chk h438 x2 9 <| calI (M_X9_highest x2 z440 z442 h438) fun z443 h444 => chk h444 x2 9 <| calI (M_X9_thrown x2 h444) fun z445 h446 => if z445 = z437 then (if z437 ≠ 0 then (B_L_law_1900 Ls xs rc23 x1 x2 x3 x4 h446) else (rdQ h446 x3 (0 : Int32) fun z447 => bnd (Int32.toInt64 z443) fun z448 => bnd (lg_cmp z447 z448) fun z449 => if z449 = 0 then (B_L_law_1900 Ls xs rc23 x1 x2 x3 x4 h446) else (rtL (0 : Int32) h446))) else (rtL (0 : Int32) h446)) else (B_L_law_1903 Ls xs rc23 x1 x2 x3 x4 h))
def L_L_law_23 (Ls : Nat) (xs : Nat → Int32) : Nat → Option Nat → Option Nat → Option Nat → Int32 → MH → Res
  | 0 => fun _ _ _ _ _ => none
  | n + 1 => B_L_law_23 Ls xs (L_L_law_23 Ls xs n)
def M_L_law (Ls : Nat) (xs : Nat → Int32) (h : MH) : Res := nwO h 8 fun r1 h2 => nnl r1 <| calV (M_X8_init r1 h2) fun h3 => nwO h3 9 fun r4 h5 => nnl r4 <| calV (M_X9_init r4 h5) fun h6 => nwA h6 30 (1 : Int32) fun r7 h8 => L_L_law_23 Ls xs fuel r1 r4 r7 (0 : Int32) h8
theorem vB_L_law_1903 {K : CT} (F : Fr K cL_law R_law Jvm.Pilot.CGyreWatchLaw_law_r1115_220210.ret [] 10 2) (hm : mxL K = 7) {Ls : Nat} {xs : Nat → Int32} (XF : XL K Ls xs) (rc23 : Option Nat → Option Nat → Option Nat → Int32 → MH → Res) (hrc23 : ∀ x1 x2 x3 x4 h, V K 23 [(0, vR (some 0)), (1, vR x1), (2, vR x2), (3, vR x3), (4, vI x4)] [] h (rc23 x1 x2 x3 x4 h)) (x1 : Option Nat) (x2 : Option Nat) (x3 : Option Nat) (x4 : Int32) (h : MH) : V K 1903 [(0, vR (some 0)), (1, vR x1), (2, vR x2), (3, vR x3), (4, vI x4)] [] h (B_L_law_1903 Ls xs rc23 x1 x2 x3 x4 h) := by
  unfold B_L_law_1903
  refine V_iinc (pc := 1903) F (fun z450 => [(4, vI z450), (0, vR (some 0)), (1, vR x1), (2, vR x2), (3, vR x3)]) dL_law_1903 (lt_mx hm (by decide)) 4 rfl (dx := (5 : Int32)) (by decide) (fun _ => rfl) ?_
  intro z450
  refine V_goto (pc := 1906) F 23 dL_law_1906 (by decide) ?_
  refine V_sub [1, 2, 3, 4, 0] (L' := [(0, vR (some 0)), (1, vR x1), (2, vR x2), (3, vR x3), (4, vI z450)]) rfl ?_
  exact hrc23 x1 x2 x3 z450 h
theorem vB_L_law_217 {K : CT} (F : Fr K cL_law R_law Jvm.Pilot.CGyreWatchLaw_law_r1115_220210.ret [] 10 2) (hm : mxL K = 7) {Ls : Nat} {xs : Nat → Int32} (XF : XL K Ls xs) (rc23 : Option Nat → Option Nat → Option Nat → Int32 → MH → Res) (hrc23 : ∀ x1 x2 x3 x4 h, V K 23 [(0, vR (some 0)), (1, vR x1), (2, vR x2), (3, vR x3), (4, vI x4)] [] h (rc23 x1 x2 x3 x4 h)) (x1 : Option Nat) (x2 : Option Nat) (x3 : Option Nat) (x4 : Int32) (h : MH) : V K 217 [(0, vR (some 0)), (1, vR x1), (2, vR x2), (3, vR x3), (4, vI x4)] [] h (B_L_law_217 Ls xs rc23 x1 x2 x3 x4 h) := by
  unfold B_L_law_217
  refine V_goto (pc := 217) F 1903 dL_law_217 (by decide) ?_
  exact vB_L_law_1903 F hm XF rc23 hrc23 x1 x2 x3 x4 h
theorem vB_L_law_285 {K : CT} (F : Fr K cL_law R_law Jvm.Pilot.CGyreWatchLaw_law_r1115_220210.ret [] 10 2) (hm : mxL K = 7) {Ls : Nat} {xs : Nat → Int32} (XF : XL K Ls xs) (rc23 : Option Nat → Option Nat → Option Nat → Int32 → MH → Res) (hrc23 : ∀ x1 x2 x3 x4 h, V K 23 [(0, vR (some 0)), (1, vR x1), (2, vR x2), (3, vR x3), (4, vI x4)] [] h (rc23 x1 x2 x3 x4 h)) (x1 : Option Nat) (x2 : Option Nat) (x3 : Option Nat) (x4 : Int32) (h : MH) : V K 285 [(0, vR (some 0)), (1, vR x1), (2, vR x2), (3, vR x3), (4, vI x4)] [] h (B_L_law_285 Ls xs rc23 x1 x2 x3 x4 h) := by
  unfold B_L_law_285
  refine V_goto (pc := 285) F 1903 dL_law_285 (by decide) ?_
  exact vB_L_law_1903 F hm XF rc23 hrc23 x1 x2 x3 x4 h
theorem vB_L_law_353 {K : CT} (F : Fr K cL_law R_law Jvm.Pilot.CGyreWatchLaw_law_r1115_220210.ret [] 10 2) (hm : mxL K = 7) {Ls : Nat} {xs : Nat → Int32} (XF : XL K Ls xs) (rc23 : Option Nat → Option Nat → Option Nat → Int32 → MH → Res) (hrc23 : ∀ x1 x2 x3 x4 h, V K 23 [(0, vR (some 0)), (1, vR x1), (2, vR x2), (3, vR x3), (4, vI x4)] [] h (rc23 x1 x2 x3 x4 h)) (x1 : Option Nat) (x2 : Option Nat) (x3 : Option Nat) (x4 : Int32) (h : MH) : V K 353 [(0, vR (some 0)), (1, vR x1), (2, vR x2), (3, vR x3), (4, vI x4)] [] h (B_L_law_353 Ls xs rc23 x1 x2 x3 x4 h) := by
  unfold B_L_law_353
  refine V_goto (pc := 353) F 1903 dL_law_353 (by decide) ?_
  exact vB_L_law_1903 F hm XF rc23 hrc23 x1 x2 x3 x4 h
theorem vB_L_law_409 {K : CT} (F : Fr K cL_law R_law Jvm.Pilot.CGyreWatchLaw_law_r1115_220210.ret [] 10 2) (hm : mxL K = 7) {Ls : Nat} {xs : Nat → Int32} (XF : XL K Ls xs) (rc23 : Option Nat → Option Nat → Option Nat → Int32 → MH → Res) (hrc23 : ∀ x1 x2 x3 x4 h, V K 23 [(0, vR (some 0)), (1, vR x1), (2, vR x2), (3, vR x3), (4, vI x4)] [] h (rc23 x1 x2 x3 x4 h)) (x1 : Option Nat) (x2 : Option Nat) (x3 : Option Nat) (x4 : Int32) (h : MH) : V K 409 [(0, vR (some 0)), (1, vR x1), (2, vR x2), (3, vR x3), (4, vI x4)] [] h (B_L_law_409 Ls xs rc23 x1 x2 x3 x4 h) := by
  unfold B_L_law_409
  refine V_goto (pc := 409) F 1903 dL_law_409 (by decide) ?_
  exact vB_L_law_1903 F hm XF rc23 hrc23 x1 x2 x3 x4 h
theorem vB_L_law_501 {K : CT} (F : Fr K cL_law R_law Jvm.Pilot.CGyreWatchLaw_law_r1115_220210.ret [] 10 2) (hm : mxL K = 7) {Ls : Nat} {xs : Nat → Int32} (XF : XL K Ls xs) (rc23 : Option Nat → Option Nat → Option Nat → Int32 → MH → Res) (hrc23 : ∀ x1 x2 x3 x4 h, V K 23 [(0, vR (some 0)), (1, vR x1), (2, vR x2), (3, vR x3), (4, vI x4)] [] h (rc23 x1 x2 x3 x4 h)) (x1 : Option Nat) (x2 : Option Nat) (x3 : Option Nat) (x4 : Int32) (h : MH) : V K 501 [(0, vR (some 0)), (1, vR x1), (2, vR x2), (3, vR x3), (4, vI x4)] [] h (B_L_law_501 Ls xs rc23 x1 x2 x3 x4 h) := by
  unfold B_L_law_501
  refine V_goto (pc := 501) F 1903 dL_law_501 (by decide) ?_
  exact vB_L_law_1903 F hm XF rc23 hrc23 x1 x2 x3 x4 h
theorem vB_L_law_569 {K : CT} (F : Fr K cL_law R_law Jvm.Pilot.CGyreWatchLaw_law_r1115_220210.ret [] 10 2) (hm : mxL K = 7) {Ls : Nat} {xs : Nat → Int32} (XF : XL K Ls xs) (rc23 : Option Nat → Option Nat → Option Nat → Int32 → MH → Res) (hrc23 : ∀ x1 x2 x3 x4 h, V K 23 [(0, vR (some 0)), (1, vR x1), (2, vR x2), (3, vR x3), (4, vI x4)] [] h (rc23 x1 x2 x3 x4 h)) (x1 : Option Nat) (x2 : Option Nat) (x3 : Option Nat) (x4 : Int32) (h : MH) : V K 569 [(0, vR (some 0)), (1, vR x1), (2, vR x2), (3, vR x3), (4, vI x4)] [] h (B_L_law_569 Ls xs rc23 x1 x2 x3 x4 h) := by
  unfold B_L_law_569
  refine V_goto (pc := 569) F 1903 dL_law_569 (by decide) ?_
  exact vB_L_law_1903 F hm XF rc23 hrc23 x1 x2 x3 x4 h
theorem vB_L_law_637 {K : CT} (F : Fr K cL_law R_law Jvm.Pilot.CGyreWatchLaw_law_r1115_220210.ret [] 10 2) (hm : mxL K = 7) {Ls : Nat} {xs : Nat → Int32} (XF : XL K Ls xs) (rc23 : Option Nat → Option Nat → Option Nat → Int32 → MH → Res) (hrc23 : ∀ x1 x2 x3 x4 h, V K 23 [(0, vR (some 0)), (1, vR x1), (2, vR x2), (3, vR x3), (4, vI x4)] [] h (rc23 x1 x2 x3 x4 h)) (x1 : Option Nat) (x2 : Option Nat) (x3 : Option Nat) (x4 : Int32) (h : MH) : V K 637 [(0, vR (some 0)), (1, vR x1), (2, vR x2), (3, vR x3), (4, vI x4)] [] h (B_L_law_637 Ls xs rc23 x1 x2 x3 x4 h) := by
  unfold B_L_law_637
  refine V_goto (pc := 637) F 1903 dL_law_637 (by decide) ?_
  exact vB_L_law_1903 F hm XF rc23 hrc23 x1 x2 x3 x4 h
theorem vB_L_law_693 {K : CT} (F : Fr K cL_law R_law Jvm.Pilot.CGyreWatchLaw_law_r1115_220210.ret [] 10 2) (hm : mxL K = 7) {Ls : Nat} {xs : Nat → Int32} (XF : XL K Ls xs) (rc23 : Option Nat → Option Nat → Option Nat → Int32 → MH → Res) (hrc23 : ∀ x1 x2 x3 x4 h, V K 23 [(0, vR (some 0)), (1, vR x1), (2, vR x2), (3, vR x3), (4, vI x4)] [] h (rc23 x1 x2 x3 x4 h)) (x1 : Option Nat) (x2 : Option Nat) (x3 : Option Nat) (x4 : Int32) (h : MH) : V K 693 [(0, vR (some 0)), (1, vR x1), (2, vR x2), (3, vR x3), (4, vI x4)] [] h (B_L_law_693 Ls xs rc23 x1 x2 x3 x4 h) := by
  unfold B_L_law_693
  refine V_goto (pc := 693) F 1903 dL_law_693 (by decide) ?_
  exact vB_L_law_1903 F hm XF rc23 hrc23 x1 x2 x3 x4 h
theorem vB_L_law_761 {K : CT} (F : Fr K cL_law R_law Jvm.Pilot.CGyreWatchLaw_law_r1115_220210.ret [] 10 2) (hm : mxL K = 7) {Ls : Nat} {xs : Nat → Int32} (XF : XL K Ls xs) (rc23 : Option Nat → Option Nat → Option Nat → Int32 → MH → Res) (hrc23 : ∀ x1 x2 x3 x4 h, V K 23 [(0, vR (some 0)), (1, vR x1), (2, vR x2), (3, vR x3), (4, vI x4)] [] h (rc23 x1 x2 x3 x4 h)) (x1 : Option Nat) (x2 : Option Nat) (x3 : Option Nat) (x4 : Int32) (h : MH) : V K 761 [(0, vR (some 0)), (1, vR x1), (2, vR x2), (3, vR x3), (4, vI x4)] [] h (B_L_law_761 Ls xs rc23 x1 x2 x3 x4 h) := by
  unfold B_L_law_761
  refine V_goto (pc := 761) F 1903 dL_law_761 (by decide) ?_
  exact vB_L_law_1903 F hm XF rc23 hrc23 x1 x2 x3 x4 h
theorem vB_L_law_817 {K : CT} (F : Fr K cL_law R_law Jvm.Pilot.CGyreWatchLaw_law_r1115_220210.ret [] 10 2) (hm : mxL K = 7) {Ls : Nat} {xs : Nat → Int32} (XF : XL K Ls xs) (rc23 : Option Nat → Option Nat → Option Nat → Int32 → MH → Res) (hrc23 : ∀ x1 x2 x3 x4 h, V K 23 [(0, vR (some 0)), (1, vR x1), (2, vR x2), (3, vR x3), (4, vI x4)] [] h (rc23 x1 x2 x3 x4 h)) (x1 : Option Nat) (x2 : Option Nat) (x3 : Option Nat) (x4 : Int32) (h : MH) : V K 817 [(0, vR (some 0)), (1, vR x1), (2, vR x2), (3, vR x3), (4, vI x4)] [] h (B_L_law_817 Ls xs rc23 x1 x2 x3 x4 h) := by
  unfold B_L_law_817
  refine V_goto (pc := 817) F 1903 dL_law_817 (by decide) ?_
  exact vB_L_law_1903 F hm XF rc23 hrc23 x1 x2 x3 x4 h
theorem vB_L_law_873 {K : CT} (F : Fr K cL_law R_law Jvm.Pilot.CGyreWatchLaw_law_r1115_220210.ret [] 10 2) (hm : mxL K = 7) {Ls : Nat} {xs : Nat → Int32} (XF : XL K Ls xs) (rc23 : Option Nat → Option Nat → Option Nat → Int32 → MH → Res) (hrc23 : ∀ x1 x2 x3 x4 h, V K 23 [(0, vR (some 0)), (1, vR x1), (2, vR x2), (3, vR x3), (4, vI x4)] [] h (rc23 x1 x2 x3 x4 h)) (x1 : Option Nat) (x2 : Option Nat) (x3 : Option Nat) (x4 : Int32) (h : MH) : V K 873 [(0, vR (some 0)), (1, vR x1), (2, vR x2), (3, vR x3), (4, vI x4)] [] h (B_L_law_873 Ls xs rc23 x1 x2 x3 x4 h) := by
  unfold B_L_law_873
  refine V_goto (pc := 873) F 1903 dL_law_873 (by decide) ?_
  exact vB_L_law_1903 F hm XF rc23 hrc23 x1 x2 x3 x4 h
theorem vB_L_law_953 {K : CT} (F : Fr K cL_law R_law Jvm.Pilot.CGyreWatchLaw_law_r1115_220210.ret [] 10 2) (hm : mxL K = 7) {Ls : Nat} {xs : Nat → Int32} (XF : XL K Ls xs) (rc23 : Option Nat → Option Nat → Option Nat → Int32 → MH → Res) (hrc23 : ∀ x1 x2 x3 x4 h, V K 23 [(0, vR (some 0)), (1, vR x1), (2, vR x2), (3, vR x3), (4, vI x4)] [] h (rc23 x1 x2 x3 x4 h)) (x1 : Option Nat) (x2 : Option Nat) (x3 : Option Nat) (x4 : Int32) (h : MH) : V K 953 [(0, vR (some 0)), (1, vR x1), (2, vR x2), (3, vR x3), (4, vI x4)] [] h (B_L_law_953 Ls xs rc23 x1 x2 x3 x4 h) := by
  unfold B_L_law_953
  refine V_goto (pc := 953) F 1903 dL_law_953 (by decide) ?_
  exact vB_L_law_1903 F hm XF rc23 hrc23 x1 x2 x3 x4 h
theorem vB_L_law_1033 {K : CT} (F : Fr K cL_law R_law Jvm.Pilot.CGyreWatchLaw_law_r1115_220210.ret [] 10 2) (hm : mxL K = 7) {Ls : Nat} {xs : Nat → Int32} (XF : XL K Ls xs) (rc23 : Option Nat → Option Nat → Option Nat → Int32 → MH → Res) (hrc23 : ∀ x1 x2 x3 x4 h, V K 23 [(0, vR (some 0)), (1, vR x1), (2, vR x2), (3, vR x3), (4, vI x4)] [] h (rc23 x1 x2 x3 x4 h)) (x1 : Option Nat) (x2 : Option Nat) (x3 : Option Nat) (x4 : Int32) (h : MH) : V K 1033 [(0, vR (some 0)), (1, vR x1), (2, vR x2), (3, vR x3), (4, vI x4)] [] h (B_L_law_1033 Ls xs rc23 x1 x2 x3 x4 h) := by
  unfold B_L_law_1033
  refine V_goto (pc := 1033) F 1903 dL_law_1033 (by decide) ?_
  exact vB_L_law_1903 F hm XF rc23 hrc23 x1 x2 x3 x4 h
theorem vB_L_law_1126 {K : CT} (F : Fr K cL_law R_law Jvm.Pilot.CGyreWatchLaw_law_r1115_220210.ret [] 10 2) (hm : mxL K = 7) {Ls : Nat} {xs : Nat → Int32} (XF : XL K Ls xs) (rc23 : Option Nat → Option Nat → Option Nat → Int32 → MH → Res) (hrc23 : ∀ x1 x2 x3 x4 h, V K 23 [(0, vR (some 0)), (1, vR x1), (2, vR x2), (3, vR x3), (4, vI x4)] [] h (rc23 x1 x2 x3 x4 h)) (x1 : Option Nat) (x2 : Option Nat) (x3 : Option Nat) (x4 : Int32) (h : MH) : V K 1126 [(0, vR (some 0)), (1, vR x1), (2, vR x2), (3, vR x3), (4, vI x4)] [] h (B_L_law_1126 Ls xs rc23 x1 x2 x3 x4 h) := by
  unfold B_L_law_1126
  refine V_goto (pc := 1126) F 1903 dL_law_1126 (by decide) ?_
  exact vB_L_law_1903 F hm XF rc23 hrc23 x1 x2 x3 x4 h
theorem vB_L_law_1182 {K : CT} (F : Fr K cL_law R_law Jvm.Pilot.CGyreWatchLaw_law_r1115_220210.ret [] 10 2) (hm : mxL K = 7) {Ls : Nat} {xs : Nat → Int32} (XF : XL K Ls xs) (rc23 : Option Nat → Option Nat → Option Nat → Int32 → MH → Res) (hrc23 : ∀ x1 x2 x3 x4 h, V K 23 [(0, vR (some 0)), (1, vR x1), (2, vR x2), (3, vR x3), (4, vI x4)] [] h (rc23 x1 x2 x3 x4 h)) (x1 : Option Nat) (x2 : Option Nat) (x3 : Option Nat) (x4 : Int32) (h : MH) : V K 1182 [(0, vR (some 0)), (1, vR x1), (2, vR x2), (3, vR x3), (4, vI x4)] [] h (B_L_law_1182 Ls xs rc23 x1 x2 x3 x4 h) := by
  unfold B_L_law_1182
  refine V_goto (pc := 1182) F 1903 dL_law_1182 (by decide) ?_
  exact vB_L_law_1903 F hm XF rc23 hrc23 x1 x2 x3 x4 h
theorem vB_L_law_1250 {K : CT} (F : Fr K cL_law R_law Jvm.Pilot.CGyreWatchLaw_law_r1115_220210.ret [] 10 2) (hm : mxL K = 7) {Ls : Nat} {xs : Nat → Int32} (XF : XL K Ls xs) (rc23 : Option Nat → Option Nat → Option Nat → Int32 → MH → Res) (hrc23 : ∀ x1 x2 x3 x4 h, V K 23 [(0, vR (some 0)), (1, vR x1), (2, vR x2), (3, vR x3), (4, vI x4)] [] h (rc23 x1 x2 x3 x4 h)) (x1 : Option Nat) (x2 : Option Nat) (x3 : Option Nat) (x4 : Int32) (h : MH) : V K 1250 [(0, vR (some 0)), (1, vR x1), (2, vR x2), (3, vR x3), (4, vI x4)] [] h (B_L_law_1250 Ls xs rc23 x1 x2 x3 x4 h) := by
  unfold B_L_law_1250
  refine V_goto (pc := 1250) F 1903 dL_law_1250 (by decide) ?_
  exact vB_L_law_1903 F hm XF rc23 hrc23 x1 x2 x3 x4 h
theorem vB_L_law_1344 {K : CT} (F : Fr K cL_law R_law Jvm.Pilot.CGyreWatchLaw_law_r1115_220210.ret [] 10 2) (hm : mxL K = 7) {Ls : Nat} {xs : Nat → Int32} (XF : XL K Ls xs) (rc23 : Option Nat → Option Nat → Option Nat → Int32 → MH → Res) (hrc23 : ∀ x1 x2 x3 x4 h, V K 23 [(0, vR (some 0)), (1, vR x1), (2, vR x2), (3, vR x3), (4, vI x4)] [] h (rc23 x1 x2 x3 x4 h)) (x1 : Option Nat) (x2 : Option Nat) (x3 : Option Nat) (x4 : Int32) (h : MH) : V K 1344 [(0, vR (some 0)), (1, vR x1), (2, vR x2), (3, vR x3), (4, vI x4)] [] h (B_L_law_1344 Ls xs rc23 x1 x2 x3 x4 h) := by
  unfold B_L_law_1344
  refine V_goto (pc := 1344) F 1903 dL_law_1344 (by decide) ?_
  exact vB_L_law_1903 F hm XF rc23 hrc23 x1 x2 x3 x4 h
theorem vB_L_law_1424 {K : CT} (F : Fr K cL_law R_law Jvm.Pilot.CGyreWatchLaw_law_r1115_220210.ret [] 10 2) (hm : mxL K = 7) {Ls : Nat} {xs : Nat → Int32} (XF : XL K Ls xs) (rc23 : Option Nat → Option Nat → Option Nat → Int32 → MH → Res) (hrc23 : ∀ x1 x2 x3 x4 h, V K 23 [(0, vR (some 0)), (1, vR x1), (2, vR x2), (3, vR x3), (4, vI x4)] [] h (rc23 x1 x2 x3 x4 h)) (x1 : Option Nat) (x2 : Option Nat) (x3 : Option Nat) (x4 : Int32) (h : MH) : V K 1424 [(0, vR (some 0)), (1, vR x1), (2, vR x2), (3, vR x3), (4, vI x4)] [] h (B_L_law_1424 Ls xs rc23 x1 x2 x3 x4 h) := by
  unfold B_L_law_1424
  refine V_goto (pc := 1424) F 1903 dL_law_1424 (by decide) ?_
  exact vB_L_law_1903 F hm XF rc23 hrc23 x1 x2 x3 x4 h
theorem vB_L_law_1504 {K : CT} (F : Fr K cL_law R_law Jvm.Pilot.CGyreWatchLaw_law_r1115_220210.ret [] 10 2) (hm : mxL K = 7) {Ls : Nat} {xs : Nat → Int32} (XF : XL K Ls xs) (rc23 : Option Nat → Option Nat → Option Nat → Int32 → MH → Res) (hrc23 : ∀ x1 x2 x3 x4 h, V K 23 [(0, vR (some 0)), (1, vR x1), (2, vR x2), (3, vR x3), (4, vI x4)] [] h (rc23 x1 x2 x3 x4 h)) (x1 : Option Nat) (x2 : Option Nat) (x3 : Option Nat) (x4 : Int32) (h : MH) : V K 1504 [(0, vR (some 0)), (1, vR x1), (2, vR x2), (3, vR x3), (4, vI x4)] [] h (B_L_law_1504 Ls xs rc23 x1 x2 x3 x4 h) := by
  unfold B_L_law_1504
  refine V_goto (pc := 1504) F 1903 dL_law_1504 (by decide) ?_
  exact vB_L_law_1903 F hm XF rc23 hrc23 x1 x2 x3 x4 h
theorem vB_L_law_1572 {K : CT} (F : Fr K cL_law R_law Jvm.Pilot.CGyreWatchLaw_law_r1115_220210.ret [] 10 2) (hm : mxL K = 7) {Ls : Nat} {xs : Nat → Int32} (XF : XL K Ls xs) (rc23 : Option Nat → Option Nat → Option Nat → Int32 → MH → Res) (hrc23 : ∀ x1 x2 x3 x4 h, V K 23 [(0, vR (some 0)), (1, vR x1), (2, vR x2), (3, vR x3), (4, vI x4)] [] h (rc23 x1 x2 x3 x4 h)) (x1 : Option Nat) (x2 : Option Nat) (x3 : Option Nat) (x4 : Int32) (h : MH) : V K 1572 [(0, vR (some 0)), (1, vR x1), (2, vR x2), (3, vR x3), (4, vI x4)] [] h (B_L_law_1572 Ls xs rc23 x1 x2 x3 x4 h) := by
  unfold B_L_law_1572
  refine V_goto (pc := 1572) F 1903 dL_law_1572 (by decide) ?_
  exact vB_L_law_1903 F hm XF rc23 hrc23 x1 x2 x3 x4 h
theorem vB_L_law_1640 {K : CT} (F : Fr K cL_law R_law Jvm.Pilot.CGyreWatchLaw_law_r1115_220210.ret [] 10 2) (hm : mxL K = 7) {Ls : Nat} {xs : Nat → Int32} (XF : XL K Ls xs) (rc23 : Option Nat → Option Nat → Option Nat → Int32 → MH → Res) (hrc23 : ∀ x1 x2 x3 x4 h, V K 23 [(0, vR (some 0)), (1, vR x1), (2, vR x2), (3, vR x3), (4, vI x4)] [] h (rc23 x1 x2 x3 x4 h)) (x1 : Option Nat) (x2 : Option Nat) (x3 : Option Nat) (x4 : Int32) (h : MH) : V K 1640 [(0, vR (some 0)), (1, vR x1), (2, vR x2), (3, vR x3), (4, vI x4)] [] h (B_L_law_1640 Ls xs rc23 x1 x2 x3 x4 h) := by
  unfold B_L_law_1640
  refine V_goto (pc := 1640) F 1903 dL_law_1640 (by decide) ?_
  exact vB_L_law_1903 F hm XF rc23 hrc23 x1 x2 x3 x4 h
theorem vB_L_law_1696 {K : CT} (F : Fr K cL_law R_law Jvm.Pilot.CGyreWatchLaw_law_r1115_220210.ret [] 10 2) (hm : mxL K = 7) {Ls : Nat} {xs : Nat → Int32} (XF : XL K Ls xs) (rc23 : Option Nat → Option Nat → Option Nat → Int32 → MH → Res) (hrc23 : ∀ x1 x2 x3 x4 h, V K 23 [(0, vR (some 0)), (1, vR x1), (2, vR x2), (3, vR x3), (4, vI x4)] [] h (rc23 x1 x2 x3 x4 h)) (x1 : Option Nat) (x2 : Option Nat) (x3 : Option Nat) (x4 : Int32) (h : MH) : V K 1696 [(0, vR (some 0)), (1, vR x1), (2, vR x2), (3, vR x3), (4, vI x4)] [] h (B_L_law_1696 Ls xs rc23 x1 x2 x3 x4 h) := by
  unfold B_L_law_1696
  refine V_goto (pc := 1696) F 1903 dL_law_1696 (by decide) ?_
  exact vB_L_law_1903 F hm XF rc23 hrc23 x1 x2 x3 x4 h
theorem vB_L_law_1776 {K : CT} (F : Fr K cL_law R_law Jvm.Pilot.CGyreWatchLaw_law_r1115_220210.ret [] 10 2) (hm : mxL K = 7) {Ls : Nat} {xs : Nat → Int32} (XF : XL K Ls xs) (rc23 : Option Nat → Option Nat → Option Nat → Int32 → MH → Res) (hrc23 : ∀ x1 x2 x3 x4 h, V K 23 [(0, vR (some 0)), (1, vR x1), (2, vR x2), (3, vR x3), (4, vI x4)] [] h (rc23 x1 x2 x3 x4 h)) (x1 : Option Nat) (x2 : Option Nat) (x3 : Option Nat) (x4 : Int32) (h : MH) : V K 1776 [(0, vR (some 0)), (1, vR x1), (2, vR x2), (3, vR x3), (4, vI x4)] [] h (B_L_law_1776 Ls xs rc23 x1 x2 x3 x4 h) := by
  unfold B_L_law_1776
  refine V_goto (pc := 1776) F 1903 dL_law_1776 (by decide) ?_
  exact vB_L_law_1903 F hm XF rc23 hrc23 x1 x2 x3 x4 h
theorem vB_L_law_1832 {K : CT} (F : Fr K cL_law R_law Jvm.Pilot.CGyreWatchLaw_law_r1115_220210.ret [] 10 2) (hm : mxL K = 7) {Ls : Nat} {xs : Nat → Int32} (XF : XL K Ls xs) (rc23 : Option Nat → Option Nat → Option Nat → Int32 → MH → Res) (hrc23 : ∀ x1 x2 x3 x4 h, V K 23 [(0, vR (some 0)), (1, vR x1), (2, vR x2), (3, vR x3), (4, vI x4)] [] h (rc23 x1 x2 x3 x4 h)) (x1 : Option Nat) (x2 : Option Nat) (x3 : Option Nat) (x4 : Int32) (h : MH) : V K 1832 [(0, vR (some 0)), (1, vR x1), (2, vR x2), (3, vR x3), (4, vI x4)] [] h (B_L_law_1832 Ls xs rc23 x1 x2 x3 x4 h) := by
  unfold B_L_law_1832
  refine V_goto (pc := 1832) F 1903 dL_law_1832 (by decide) ?_
  exact vB_L_law_1903 F hm XF rc23 hrc23 x1 x2 x3 x4 h
theorem vB_L_law_1900 {K : CT} (F : Fr K cL_law R_law Jvm.Pilot.CGyreWatchLaw_law_r1115_220210.ret [] 10 2) (hm : mxL K = 7) {Ls : Nat} {xs : Nat → Int32} (XF : XL K Ls xs) (rc23 : Option Nat → Option Nat → Option Nat → Int32 → MH → Res) (hrc23 : ∀ x1 x2 x3 x4 h, V K 23 [(0, vR (some 0)), (1, vR x1), (2, vR x2), (3, vR x3), (4, vI x4)] [] h (rc23 x1 x2 x3 x4 h)) (x1 : Option Nat) (x2 : Option Nat) (x3 : Option Nat) (x4 : Int32) (h : MH) : V K 1900 [(0, vR (some 0)), (1, vR x1), (2, vR x2), (3, vR x3), (4, vI x4)] [] h (B_L_law_1900 Ls xs rc23 x1 x2 x3 x4 h) := by
  unfold B_L_law_1900
  refine V_goto (pc := 1900) F 1903 dL_law_1900 (by decide) ?_
  exact vB_L_law_1903 F hm XF rc23 hrc23 x1 x2 x3 x4 h
theorem vB_L_law_23 {K : CT} (F : Fr K cL_law R_law Jvm.Pilot.CGyreWatchLaw_law_r1115_220210.ret [] 10 2) (hm : mxL K = 7) {Ls : Nat} {xs : Nat → Int32} (XF : XL K Ls xs) (rc23 : Option Nat → Option Nat → Option Nat → Int32 → MH → Res) (hrc23 : ∀ x1 x2 x3 x4 h, V K 23 [(0, vR (some 0)), (1, vR x1), (2, vR x2), (3, vR x3), (4, vI x4)] [] h (rc23 x1 x2 x3 x4 h)) (x1 : Option Nat) (x2 : Option Nat) (x3 : Option Nat) (x4 : Int32) (h : MH) : V K 23 [(0, vR (some 0)), (1, vR x1), (2, vR x2), (3, vR x3), (4, vI x4)] [] h (B_L_law_23 Ls xs rc23 x1 x2 x3 x4 h) := by
  unfold B_L_law_23
  refine V_iload (pc := 23) F dL_law_23 4 rfl ?_
  refine V_aload_n (pc := 25) F dL_law_25 0 rfl ?_
  refine V_slen (pc := 26) F XF dL_law_26 ?_
  intro z9
  refine V_iconst (pc := 27) F (x := (5 : Int32)) dL_law_27 (by decide) ?_
  refine V_isub (pc := 28) F dL_law_28 ?_
  intro z10
  refine V_icmp_gt (pc := 29) F 1909 dL_law_29 (by decide) ?_ ?_
  · refine V_iconst (pc := 1909) F (x := (1 : Int32)) dL_law_1909 (by decide) ?_
    exact V_lawret (pc := 1910) F XF dL_law_1910
  · refine V_aload_n (pc := 32) F dL_law_32 0 rfl ?_
    refine V_iload (pc := 33) F dL_law_33 4 rfl ?_
    refine V_sld (pc := 35) F XF dL_law_35 ?_
    intro z11
    refine V_bipush (pc := 36) F (x := (31 : Int32)) dL_law_36 (by decide) ?_
    refine V_iand (pc := 38) F dL_law_38 ?_
    intro z12
    refine V_tsw (pc := 39) F (0 : Int32) 1903 dL_law_39 (by decide) (by decide) ?_ ?_
    · exact vB_L_law_1903 F hm XF rc23 hrc23 x1 x2 x3 x4 h
    refine VT_peel (pc := 39) F (i := 0) (off := 125) (0 : Int32) 164 dL_law_39 (by decide) (by decide) (by decide) (by decide) ?_ ?_
    · refine V_aload_n (pc := 164) F dL_law_164 1 rfl ?_
      refine V_aload_n (pc := 165) F dL_law_165 0 rfl ?_
      refine V_iload (pc := 166) F dL_law_166 4 rfl ?_
      refine V_iconst (pc := 168) F (x := (1 : Int32)) dL_law_168 (by decide) ?_
      refine V_iadd (pc := 169) F dL_law_169 ?_
      intro z13
      refine V_sld (pc := 170) F XF dL_law_170 ?_
      intro z14
      refine V_aload_n (pc := 171) F dL_law_171 3 rfl ?_
      refine V_cSW (pc := 172) F (as := [vR x1, vI z14, vR x3]) (C_L_land x1 z14 x3 h) w_L_land g_st_L_land g_ml_RL_98 (by decide) (rest := []) rfl rfl (Nat.le_of_ble_eq_true rfl) dL_law_172 (k_I fun z15 h16 => ?_) (fun _ _ => VX_none)
      refine V_istore (pc := 175) F [(5, vI z15), (0, vR (some 0)), (1, vR x1), (2, vR x2), (3, vR x3), (4, vI x4)] dL_law_175 (lt_mx hm (by decide)) rfl ?_
      refine V_aload_n (pc := 177) F dL_law_177 3 rfl ?_
      refine V_aload_n (pc := 178) F dL_law_178 1 rfl ?_
      refine V_iload (pc := 179) F dL_law_179 5 rfl ?_
      refine V_iconst (pc := 181) F (x := (1 : Int32)) dL_law_181 (by decide) ?_
      refine V_iadd (pc := 182) F dL_law_182 ?_
      intro z17
      refine V_sld (pc := 183) F XF dL_law_183 ?_
      intro z18
      refine V_cVM (pc := 184) F 9 (by decide) (as := [vI z18]) (C_X9_land x2 z18 h16) w_X9_land g_in_X9_land g_se_X9_land g_ml_RL_103 (by decide) (rest := []) rfl rfl (Nat.le_of_ble_eq_true rfl) dL_law_184 (k_I fun z19 h20 => ?_)
      refine V_istore (pc := 187) F [(6, vI z19), (5, vI z15), (0, vR (some 0)), (1, vR x1), (2, vR x2), (3, vR x3), (4, vI x4)] dL_law_187 (lt_mx hm (by decide)) rfl ?_
      refine V_aload_n (pc := 189) F dL_law_189 4 rfl ?_
      refine V_cVM (pc := 190) F 9 (by decide) (as := []) (C_X9_thrown x2 h20) w_X9_thrown g_in_X9_thrown g_se_X9_thrown g_ml_RL_104 (by decide) (rest := []) rfl rfl (Nat.le_of_ble_eq_true rfl) dL_law_190 (k_I fun z21 h22 => ?_)
      refine V_iload (pc := 193) F dL_law_193 1 rfl ?_
      refine V_icmp_eq (pc := 195) F 200 dL_law_195 (by decide) ?_ ?_
      · refine V_iload (pc := 200) F dL_law_200 1 rfl ?_
        refine V_if_ne (pc := 202) F 217 dL_law_202 (by decide) ?_ ?_
        · refine V_sub [2, 3, 4, 5, 6] (L' := [(0, vR (some 0)), (1, vR x1), (2, vR x2), (3, vR x3), (4, vI x4)]) rfl ?_
          exact vB_L_law_217 F hm XF rc23 hrc23 x1 x2 x3 x4 h22
        · refine V_aload_n (pc := 205) F dL_law_205 5 rfl ?_
          refine V_iconst (pc := 206) F (x := (0 : Int32)) dL_law_206 (by decide) ?_
          refine V_lald (pc := 207) F dL_law_207 ?_
          intro z23
          refine V_iload (pc := 208) F dL_law_208 0 rfl ?_
          refine V_i2l (pc := 210) F dL_law_210 ?_
          intro z24
          refine V_lcmp (pc := 211) F dL_law_211 ?_
          intro z25
          refine V_if_eq (pc := 212) F 217 dL_law_212 (by decide) ?_ ?_
          · refine V_sub [2, 3, 4, 5, 6] (L' := [(0, vR (some 0)), (1, vR x1), (2, vR x2), (3, vR x3), (4, vI x4)]) rfl ?_
            exact vB_L_law_217 F hm XF rc23 hrc23 x1 x2 x3 x4 h22
          · refine V_iconst (pc := 215) F (x := (0 : Int32)) dL_law_215 (by decide) ?_
            exact V_lawret (pc := 216) F XF dL_law_216
      · refine V_iconst (pc := 198) F (x := (0 : Int32)) dL_law_198 (by decide) ?_
        exact V_lawret (pc := 199) F XF dL_law_199
    refine VT_peel (pc := 39) F (i := 1) (off := 181) (1 : Int32) 220 dL_law_39 (by decide) (by decide) (by decide) (by decide) ?_ ?_
    · refine V_aload_n (pc := 220) F dL_law_220 1 rfl ?_
      refine V_aload_n (pc := 221) F dL_law_221 0 rfl ?_
      refine V_iload (pc := 222) F dL_law_222 4 rfl ?_
      refine V_iconst (pc := 224) F (x := (1 : Int32)) dL_law_224 (by decide) ?_
      refine V_iadd (pc := 225) F dL_law_225 ?_
      intro z26
      refine V_sld (pc := 226) F XF dL_law_226 ?_
      intro z27
      refine V_aload_n (pc := 227) F dL_law_227 0 rfl ?_
      refine V_iload (pc := 228) F dL_law_228 4 rfl ?_
      refine V_iconst (pc := 230) F (x := (2 : Int32)) dL_law_230 (by decide) ?_
      refine V_iadd (pc := 231) F dL_law_231 ?_
      intro z28
      refine V_sld (pc := 232) F XF dL_law_232 ?_
      intro z29
      refine V_aload_n (pc := 233) F dL_law_233 3 rfl ?_
      refine V_cSW (pc := 234) F (as := [vR x1, vI z27, vI z29, vR x3]) (C_L_current x1 z27 z29 x3 h) w_L_current g_st_L_current g_ml_RL_108 (by decide) (rest := []) rfl rfl (Nat.le_of_ble_eq_true rfl) dL_law_234 (k_I fun z30 h31 => ?_) (fun _ _ => VX_none)
      refine V_istore (pc := 237) F [(5, vI z30), (0, vR (some 0)), (1, vR x1), (2, vR x2), (3, vR x3), (4, vI x4)] dL_law_237 (lt_mx hm (by decide)) rfl ?_
      refine V_aload_n (pc := 239) F dL_law_239 3 rfl ?_
      refine V_aload_n (pc := 240) F dL_law_240 1 rfl ?_
      refine V_iload (pc := 241) F dL_law_241 5 rfl ?_
      refine V_iconst (pc := 243) F (x := (1 : Int32)) dL_law_243 (by decide) ?_
      refine V_iadd (pc := 244) F dL_law_244 ?_
      intro z32
      refine V_sld (pc := 245) F XF dL_law_245 ?_
      intro z33
      refine V_aload_n (pc := 246) F dL_law_246 1 rfl ?_
      refine V_iload (pc := 247) F dL_law_247 5 rfl ?_
      refine V_iconst (pc := 249) F (x := (2 : Int32)) dL_law_249 (by decide) ?_
      refine V_iadd (pc := 250) F dL_law_250 ?_
      intro z34
      refine V_sld (pc := 251) F XF dL_law_251 ?_
      intro z35
      refine V_cVM (pc := 252) F 9 (by decide) (as := [vI z33, vI z35]) (C_X9_current x2 z33 z35 h31) w_X9_current g_in_X9_current g_se_X9_current g_ml_RL_111 (by decide) (rest := []) rfl rfl (Nat.le_of_ble_eq_true rfl) dL_law_252 (k_I fun z36 h37 => ?_)
      refine V_istore (pc := 255) F [(6, vI z36), (5, vI z30), (0, vR (some 0)), (1, vR x1), (2, vR x2), (3, vR x3), (4, vI x4)] dL_law_255 (lt_mx hm (by decide)) rfl ?_
      refine V_aload_n (pc := 257) F dL_law_257 4 rfl ?_
      refine V_cVM (pc := 258) F 9 (by decide) (as := []) (C_X9_thrown x2 h37) w_X9_thrown g_in_X9_thrown g_se_X9_thrown g_ml_RL_104 (by decide) (rest := []) rfl rfl (Nat.le_of_ble_eq_true rfl) dL_law_258 (k_I fun z38 h39 => ?_)
      refine V_iload (pc := 261) F dL_law_261 1 rfl ?_
      refine V_icmp_eq (pc := 263) F 268 dL_law_263 (by decide) ?_ ?_
      · refine V_iload (pc := 268) F dL_law_268 1 rfl ?_
        refine V_if_ne (pc := 270) F 285 dL_law_270 (by decide) ?_ ?_
        · refine V_sub [2, 3, 4, 5, 6] (L' := [(0, vR (some 0)), (1, vR x1), (2, vR x2), (3, vR x3), (4, vI x4)]) rfl ?_
          exact vB_L_law_285 F hm XF rc23 hrc23 x1 x2 x3 x4 h39
        · refine V_aload_n (pc := 273) F dL_law_273 5 rfl ?_
          refine V_iconst (pc := 274) F (x := (0 : Int32)) dL_law_274 (by decide) ?_
          refine V_lald (pc := 275) F dL_law_275 ?_
          intro z40
          refine V_iload (pc := 276) F dL_law_276 0 rfl ?_
          refine V_i2l (pc := 278) F dL_law_278 ?_
          intro z41
          refine V_lcmp (pc := 279) F dL_law_279 ?_
          intro z42
          refine V_if_eq (pc := 280) F 285 dL_law_280 (by decide) ?_ ?_
          · refine V_sub [2, 3, 4, 5, 6] (L' := [(0, vR (some 0)), (1, vR x1), (2, vR x2), (3, vR x3), (4, vI x4)]) rfl ?_
            exact vB_L_law_285 F hm XF rc23 hrc23 x1 x2 x3 x4 h39
          · refine V_iconst (pc := 283) F (x := (0 : Int32)) dL_law_283 (by decide) ?_
            exact V_lawret (pc := 284) F XF dL_law_284
      · refine V_iconst (pc := 266) F (x := (0 : Int32)) dL_law_266 (by decide) ?_
        exact V_lawret (pc := 267) F XF dL_law_267
    refine VT_peel (pc := 39) F (i := 2) (off := 249) (2 : Int32) 288 dL_law_39 (by decide) (by decide) (by decide) (by decide) ?_ ?_
    · refine V_aload_n (pc := 288) F dL_law_288 1 rfl ?_
      refine V_aload_n (pc := 289) F dL_law_289 0 rfl ?_
      refine V_iload (pc := 290) F dL_law_290 4 rfl ?_
      refine V_iconst (pc := 292) F (x := (1 : Int32)) dL_law_292 (by decide) ?_
      refine V_iadd (pc := 293) F dL_law_293 ?_
      intro z43
      refine V_sld (pc := 294) F XF dL_law_294 ?_
      intro z44
      refine V_aload_n (pc := 295) F dL_law_295 0 rfl ?_
      refine V_iload (pc := 296) F dL_law_296 4 rfl ?_
      refine V_iconst (pc := 298) F (x := (2 : Int32)) dL_law_298 (by decide) ?_
      refine V_iadd (pc := 299) F dL_law_299 ?_
      intro z45
      refine V_sld (pc := 300) F XF dL_law_300 ?_
      intro z46
      refine V_aload_n (pc := 301) F dL_law_301 3 rfl ?_
      refine V_cSW (pc := 302) F (as := [vR x1, vI z44, vI z46, vR x3]) (C_L_sun x1 z44 z46 x3 h) w_L_sun g_st_L_sun g_ml_RL_112 (by decide) (rest := []) rfl rfl (Nat.le_of_ble_eq_true rfl) dL_law_302 (k_I fun z47 h48 => ?_) (fun _ _ => VX_none)
      refine V_istore (pc := 305) F [(5, vI z47), (0, vR (some 0)), (1, vR x1), (2, vR x2), (3, vR x3), (4, vI x4)] dL_law_305 (lt_mx hm (by decide)) rfl ?_
      refine V_aload_n (pc := 307) F dL_law_307 3 rfl ?_
      refine V_aload_n (pc := 308) F dL_law_308 1 rfl ?_
      refine V_iload (pc := 309) F dL_law_309 5 rfl ?_
      refine V_iconst (pc := 311) F (x := (1 : Int32)) dL_law_311 (by decide) ?_
      refine V_iadd (pc := 312) F dL_law_312 ?_
      intro z49
      refine V_sld (pc := 313) F XF dL_law_313 ?_
      intro z50
      refine V_aload_n (pc := 314) F dL_law_314 1 rfl ?_
      refine V_iload (pc := 315) F dL_law_315 5 rfl ?_
      refine V_iconst (pc := 317) F (x := (2 : Int32)) dL_law_317 (by decide) ?_
      refine V_iadd (pc := 318) F dL_law_318 ?_
      intro z51
      refine V_sld (pc := 319) F XF dL_law_319 ?_
      intro z52
      refine V_cVM (pc := 320) F 9 (by decide) (as := [vI z50, vI z52]) (C_X9_sun x2 z50 z52 h48) w_X9_sun g_in_X9_sun g_se_X9_sun g_ml_RL_114 (by decide) (rest := []) rfl rfl (Nat.le_of_ble_eq_true rfl) dL_law_320 (k_I fun z53 h54 => ?_)
      refine V_istore (pc := 323) F [(6, vI z53), (5, vI z47), (0, vR (some 0)), (1, vR x1), (2, vR x2), (3, vR x3), (4, vI x4)] dL_law_323 (lt_mx hm (by decide)) rfl ?_
      refine V_aload_n (pc := 325) F dL_law_325 4 rfl ?_
      refine V_cVM (pc := 326) F 9 (by decide) (as := []) (C_X9_thrown x2 h54) w_X9_thrown g_in_X9_thrown g_se_X9_thrown g_ml_RL_104 (by decide) (rest := []) rfl rfl (Nat.le_of_ble_eq_true rfl) dL_law_326 (k_I fun z55 h56 => ?_)
      refine V_iload (pc := 329) F dL_law_329 1 rfl ?_
      refine V_icmp_eq (pc := 331) F 336 dL_law_331 (by decide) ?_ ?_
      · refine V_iload (pc := 336) F dL_law_336 1 rfl ?_
        refine V_if_ne (pc := 338) F 353 dL_law_338 (by decide) ?_ ?_
        · refine V_sub [2, 3, 4, 5, 6] (L' := [(0, vR (some 0)), (1, vR x1), (2, vR x2), (3, vR x3), (4, vI x4)]) rfl ?_
          exact vB_L_law_353 F hm XF rc23 hrc23 x1 x2 x3 x4 h56
        · refine V_aload_n (pc := 341) F dL_law_341 5 rfl ?_
          refine V_iconst (pc := 342) F (x := (0 : Int32)) dL_law_342 (by decide) ?_
          refine V_lald (pc := 343) F dL_law_343 ?_
          intro z57
          refine V_iload (pc := 344) F dL_law_344 0 rfl ?_
          refine V_i2l (pc := 346) F dL_law_346 ?_
          intro z58
          refine V_lcmp (pc := 347) F dL_law_347 ?_
          intro z59
          refine V_if_eq (pc := 348) F 353 dL_law_348 (by decide) ?_ ?_
          · refine V_sub [2, 3, 4, 5, 6] (L' := [(0, vR (some 0)), (1, vR x1), (2, vR x2), (3, vR x3), (4, vI x4)]) rfl ?_
            exact vB_L_law_353 F hm XF rc23 hrc23 x1 x2 x3 x4 h56
          · refine V_iconst (pc := 351) F (x := (0 : Int32)) dL_law_351 (by decide) ?_
            exact V_lawret (pc := 352) F XF dL_law_352
      · refine V_iconst (pc := 334) F (x := (0 : Int32)) dL_law_334 (by decide) ?_
        exact V_lawret (pc := 335) F XF dL_law_335
    refine VT_peel (pc := 39) F (i := 3) (off := 317) (3 : Int32) 356 dL_law_39 (by decide) (by decide) (by decide) (by decide) ?_ ?_
    · refine V_aload_n (pc := 356) F dL_law_356 1 rfl ?_
      refine V_aload_n (pc := 357) F dL_law_357 0 rfl ?_
      refine V_iload (pc := 358) F dL_law_358 4 rfl ?_
      refine V_iconst (pc := 360) F (x := (1 : Int32)) dL_law_360 (by decide) ?_
      refine V_iadd (pc := 361) F dL_law_361 ?_
      intro z60
      refine V_sld (pc := 362) F XF dL_law_362 ?_
      intro z61
      refine V_aload_n (pc := 363) F dL_law_363 3 rfl ?_
      refine V_cSW (pc := 364) F (as := [vR x1, vI z61, vR x3]) (C_L_pass x1 z61 x3 h) w_L_pass g_st_L_pass g_ml_RL_115 (by decide) (rest := []) rfl rfl (Nat.le_of_ble_eq_true rfl) dL_law_364 (k_I fun z62 h63 => ?_) (fun _ _ => VX_none)
      refine V_istore (pc := 367) F [(5, vI z62), (0, vR (some 0)), (1, vR x1), (2, vR x2), (3, vR x3), (4, vI x4)] dL_law_367 (lt_mx hm (by decide)) rfl ?_
      refine V_aload_n (pc := 369) F dL_law_369 3 rfl ?_
      refine V_aload_n (pc := 370) F dL_law_370 1 rfl ?_
      refine V_iload (pc := 371) F dL_law_371 5 rfl ?_
      refine V_iconst (pc := 373) F (x := (1 : Int32)) dL_law_373 (by decide) ?_
      refine V_iadd (pc := 374) F dL_law_374 ?_
      intro z64
      refine V_sld (pc := 375) F XF dL_law_375 ?_
      intro z65
      refine V_cVM (pc := 376) F 9 (by decide) (as := [vI z65]) (C_X9_pass x2 z65 h63) w_X9_pass g_in_X9_pass g_se_X9_pass g_ml_RL_117 (by decide) (rest := []) rfl rfl (Nat.le_of_ble_eq_true rfl) dL_law_376 (k_I fun z66 h67 => ?_)
      refine V_istore (pc := 379) F [(6, vI z66), (5, vI z62), (0, vR (some 0)), (1, vR x1), (2, vR x2), (3, vR x3), (4, vI x4)] dL_law_379 (lt_mx hm (by decide)) rfl ?_
      refine V_aload_n (pc := 381) F dL_law_381 4 rfl ?_
      refine V_cVM (pc := 382) F 9 (by decide) (as := []) (C_X9_thrown x2 h67) w_X9_thrown g_in_X9_thrown g_se_X9_thrown g_ml_RL_104 (by decide) (rest := []) rfl rfl (Nat.le_of_ble_eq_true rfl) dL_law_382 (k_I fun z68 h69 => ?_)
      refine V_iload (pc := 385) F dL_law_385 1 rfl ?_
      refine V_icmp_eq (pc := 387) F 392 dL_law_387 (by decide) ?_ ?_
      · refine V_iload (pc := 392) F dL_law_392 1 rfl ?_
        refine V_if_ne (pc := 394) F 409 dL_law_394 (by decide) ?_ ?_
        · refine V_sub [2, 3, 4, 5, 6] (L' := [(0, vR (some 0)), (1, vR x1), (2, vR x2), (3, vR x3), (4, vI x4)]) rfl ?_
          exact vB_L_law_409 F hm XF rc23 hrc23 x1 x2 x3 x4 h69
        · refine V_aload_n (pc := 397) F dL_law_397 5 rfl ?_
          refine V_iconst (pc := 398) F (x := (0 : Int32)) dL_law_398 (by decide) ?_
          refine V_lald (pc := 399) F dL_law_399 ?_
          intro z70
          refine V_iload (pc := 400) F dL_law_400 0 rfl ?_
          refine V_i2l (pc := 402) F dL_law_402 ?_
          intro z71
          refine V_lcmp (pc := 403) F dL_law_403 ?_
          intro z72
          refine V_if_eq (pc := 404) F 409 dL_law_404 (by decide) ?_ ?_
          · refine V_sub [2, 3, 4, 5, 6] (L' := [(0, vR (some 0)), (1, vR x1), (2, vR x2), (3, vR x3), (4, vI x4)]) rfl ?_
            exact vB_L_law_409 F hm XF rc23 hrc23 x1 x2 x3 x4 h69
          · refine V_iconst (pc := 407) F (x := (0 : Int32)) dL_law_407 (by decide) ?_
            exact V_lawret (pc := 408) F XF dL_law_408
      · refine V_iconst (pc := 390) F (x := (0 : Int32)) dL_law_390 (by decide) ?_
        exact V_lawret (pc := 391) F XF dL_law_391
    refine VT_peel (pc := 39) F (i := 4) (off := 373) (4 : Int32) 412 dL_law_39 (by decide) (by decide) (by decide) (by decide) ?_ ?_
    · refine V_aload_n (pc := 412) F dL_law_412 1 rfl ?_
      refine V_aload_n (pc := 413) F dL_law_413 0 rfl ?_
      refine V_iload (pc := 414) F dL_law_414 4 rfl ?_
      refine V_iconst (pc := 416) F (x := (1 : Int32)) dL_law_416 (by decide) ?_
      refine V_iadd (pc := 417) F dL_law_417 ?_
      intro z73
      refine V_sld (pc := 418) F XF dL_law_418 ?_
      intro z74
      refine V_aload_n (pc := 419) F dL_law_419 0 rfl ?_
      refine V_iload (pc := 420) F dL_law_420 4 rfl ?_
      refine V_iconst (pc := 422) F (x := (2 : Int32)) dL_law_422 (by decide) ?_
      refine V_iadd (pc := 423) F dL_law_423 ?_
      intro z75
      refine V_sld (pc := 424) F XF dL_law_424 ?_
      intro z76
      refine V_aload_n (pc := 425) F dL_law_425 0 rfl ?_
      refine V_iload (pc := 426) F dL_law_426 4 rfl ?_
      refine V_iconst (pc := 428) F (x := (3 : Int32)) dL_law_428 (by decide) ?_
      refine V_iadd (pc := 429) F dL_law_429 ?_
      intro z77
      refine V_sld (pc := 430) F XF dL_law_430 ?_
      intro z78
      refine V_aload_n (pc := 431) F dL_law_431 0 rfl ?_
      refine V_iload (pc := 432) F dL_law_432 4 rfl ?_
      refine V_iconst (pc := 434) F (x := (4 : Int32)) dL_law_434 (by decide) ?_
      refine V_iadd (pc := 435) F dL_law_435 ?_
      intro z79
      refine V_sld (pc := 436) F XF dL_law_436 ?_
      intro z80
      refine V_aload_n (pc := 437) F dL_law_437 3 rfl ?_
      refine V_cSW (pc := 438) F (as := [vR x1, vI z74, vI z76, vI z78, vI z80, vR x3]) (C_L_lay x1 z74 z76 z78 z80 x3 h) w_L_lay g_st_L_lay g_ml_RL_118 (by decide) (rest := []) rfl rfl (Nat.le_of_ble_eq_true rfl) dL_law_438 (k_I fun z81 h82 => ?_) (fun _ _ => VX_none)
      refine V_istore (pc := 441) F [(5, vI z81), (0, vR (some 0)), (1, vR x1), (2, vR x2), (3, vR x3), (4, vI x4)] dL_law_441 (lt_mx hm (by decide)) rfl ?_
      refine V_aload_n (pc := 443) F dL_law_443 3 rfl ?_
      refine V_aload_n (pc := 444) F dL_law_444 1 rfl ?_
      refine V_iload (pc := 445) F dL_law_445 5 rfl ?_
      refine V_iconst (pc := 447) F (x := (1 : Int32)) dL_law_447 (by decide) ?_
      refine V_iadd (pc := 448) F dL_law_448 ?_
      intro z83
      refine V_sld (pc := 449) F XF dL_law_449 ?_
      intro z84
      refine V_aload_n (pc := 450) F dL_law_450 1 rfl ?_
      refine V_iload (pc := 451) F dL_law_451 5 rfl ?_
      refine V_iconst (pc := 453) F (x := (2 : Int32)) dL_law_453 (by decide) ?_
      refine V_iadd (pc := 454) F dL_law_454 ?_
      intro z85
      refine V_sld (pc := 455) F XF dL_law_455 ?_
      intro z86
      refine V_aload_n (pc := 456) F dL_law_456 1 rfl ?_
      refine V_iload (pc := 457) F dL_law_457 5 rfl ?_
      refine V_iconst (pc := 459) F (x := (3 : Int32)) dL_law_459 (by decide) ?_
      refine V_iadd (pc := 460) F dL_law_460 ?_
      intro z87
      refine V_sld (pc := 461) F XF dL_law_461 ?_
      intro z88
      refine V_aload_n (pc := 462) F dL_law_462 1 rfl ?_
      refine V_iload (pc := 463) F dL_law_463 5 rfl ?_
      refine V_iconst (pc := 465) F (x := (4 : Int32)) dL_law_465 (by decide) ?_
      refine V_iadd (pc := 466) F dL_law_466 ?_
      intro z89
      refine V_sld (pc := 467) F XF dL_law_467 ?_
      intro z90
      refine V_cVM (pc := 468) F 9 (by decide) (as := [vI z84, vI z86, vI z88, vI z90]) (C_X9_lay x2 z84 z86 z88 z90 h82) w_X9_lay g_in_X9_lay g_se_X9_lay g_ml_RL_121 (by decide) (rest := []) rfl rfl (Nat.le_of_ble_eq_true rfl) dL_law_468 (k_I fun z91 h92 => ?_)
      refine V_istore (pc := 471) F [(6, vI z91), (5, vI z81), (0, vR (some 0)), (1, vR x1), (2, vR x2), (3, vR x3), (4, vI x4)] dL_law_471 (lt_mx hm (by decide)) rfl ?_
      refine V_aload_n (pc := 473) F dL_law_473 4 rfl ?_
      refine V_cVM (pc := 474) F 9 (by decide) (as := []) (C_X9_thrown x2 h92) w_X9_thrown g_in_X9_thrown g_se_X9_thrown g_ml_RL_104 (by decide) (rest := []) rfl rfl (Nat.le_of_ble_eq_true rfl) dL_law_474 (k_I fun z93 h94 => ?_)
      refine V_iload (pc := 477) F dL_law_477 1 rfl ?_
      refine V_icmp_eq (pc := 479) F 484 dL_law_479 (by decide) ?_ ?_
      · refine V_iload (pc := 484) F dL_law_484 1 rfl ?_
        refine V_if_ne (pc := 486) F 501 dL_law_486 (by decide) ?_ ?_
        · refine V_sub [2, 3, 4, 5, 6] (L' := [(0, vR (some 0)), (1, vR x1), (2, vR x2), (3, vR x3), (4, vI x4)]) rfl ?_
          exact vB_L_law_501 F hm XF rc23 hrc23 x1 x2 x3 x4 h94
        · refine V_aload_n (pc := 489) F dL_law_489 5 rfl ?_
          refine V_iconst (pc := 490) F (x := (0 : Int32)) dL_law_490 (by decide) ?_
          refine V_lald (pc := 491) F dL_law_491 ?_
          intro z95
          refine V_iload (pc := 492) F dL_law_492 0 rfl ?_
          refine V_i2l (pc := 494) F dL_law_494 ?_
          intro z96
          refine V_lcmp (pc := 495) F dL_law_495 ?_
          intro z97
          refine V_if_eq (pc := 496) F 501 dL_law_496 (by decide) ?_ ?_
          · refine V_sub [2, 3, 4, 5, 6] (L' := [(0, vR (some 0)), (1, vR x1), (2, vR x2), (3, vR x3), (4, vI x4)]) rfl ?_
            exact vB_L_law_501 F hm XF rc23 hrc23 x1 x2 x3 x4 h94
          · refine V_iconst (pc := 499) F (x := (0 : Int32)) dL_law_499 (by decide) ?_
            exact V_lawret (pc := 500) F XF dL_law_500
      · refine V_iconst (pc := 482) F (x := (0 : Int32)) dL_law_482 (by decide) ?_
        exact V_lawret (pc := 483) F XF dL_law_483
    refine VT_peel (pc := 39) F (i := 5) (off := 465) (5 : Int32) 504 dL_law_39 (by decide) (by decide) (by decide) (by decide) ?_ ?_
    · refine V_aload_n (pc := 504) F dL_law_504 1 rfl ?_
      refine V_aload_n (pc := 505) F dL_law_505 0 rfl ?_
      refine V_iload (pc := 506) F dL_law_506 4 rfl ?_
      refine V_iconst (pc := 508) F (x := (1 : Int32)) dL_law_508 (by decide) ?_
      refine V_iadd (pc := 509) F dL_law_509 ?_
      intro z98
      refine V_sld (pc := 510) F XF dL_law_510 ?_
      intro z99
      refine V_aload_n (pc := 511) F dL_law_511 0 rfl ?_
      refine V_iload (pc := 512) F dL_law_512 4 rfl ?_
      refine V_iconst (pc := 514) F (x := (2 : Int32)) dL_law_514 (by decide) ?_
      refine V_iadd (pc := 515) F dL_law_515 ?_
      intro z100
      refine V_sld (pc := 516) F XF dL_law_516 ?_
      intro z101
      refine V_aload_n (pc := 517) F dL_law_517 3 rfl ?_
      refine V_cSW (pc := 518) F (as := [vR x1, vI z99, vI z101, vR x3]) (C_L_station x1 z99 z101 x3 h) w_L_station g_st_L_station g_ml_RL_122 (by decide) (rest := []) rfl rfl (Nat.le_of_ble_eq_true rfl) dL_law_518 (k_I fun z102 h103 => ?_) (fun _ _ => VX_none)
      refine V_istore (pc := 521) F [(5, vI z102), (0, vR (some 0)), (1, vR x1), (2, vR x2), (3, vR x3), (4, vI x4)] dL_law_521 (lt_mx hm (by decide)) rfl ?_
      refine V_aload_n (pc := 523) F dL_law_523 3 rfl ?_
      refine V_aload_n (pc := 524) F dL_law_524 1 rfl ?_
      refine V_iload (pc := 525) F dL_law_525 5 rfl ?_
      refine V_iconst (pc := 527) F (x := (1 : Int32)) dL_law_527 (by decide) ?_
      refine V_iadd (pc := 528) F dL_law_528 ?_
      intro z104
      refine V_sld (pc := 529) F XF dL_law_529 ?_
      intro z105
      refine V_aload_n (pc := 530) F dL_law_530 1 rfl ?_
      refine V_iload (pc := 531) F dL_law_531 5 rfl ?_
      refine V_iconst (pc := 533) F (x := (2 : Int32)) dL_law_533 (by decide) ?_
      refine V_iadd (pc := 534) F dL_law_534 ?_
      intro z106
      refine V_sld (pc := 535) F XF dL_law_535 ?_
      intro z107
      refine V_cVM (pc := 536) F 9 (by decide) (as := [vI z105, vI z107]) (C_X9_station x2 z105 z107 h103) w_X9_station g_in_X9_station g_se_X9_station g_ml_RL_124 (by decide) (rest := []) rfl rfl (Nat.le_of_ble_eq_true rfl) dL_law_536 (k_I fun z108 h109 => ?_)
      refine V_istore (pc := 539) F [(6, vI z108), (5, vI z102), (0, vR (some 0)), (1, vR x1), (2, vR x2), (3, vR x3), (4, vI x4)] dL_law_539 (lt_mx hm (by decide)) rfl ?_
      refine V_aload_n (pc := 541) F dL_law_541 4 rfl ?_
      refine V_cVM (pc := 542) F 9 (by decide) (as := []) (C_X9_thrown x2 h109) w_X9_thrown g_in_X9_thrown g_se_X9_thrown g_ml_RL_104 (by decide) (rest := []) rfl rfl (Nat.le_of_ble_eq_true rfl) dL_law_542 (k_I fun z110 h111 => ?_)
      refine V_iload (pc := 545) F dL_law_545 1 rfl ?_
      refine V_icmp_eq (pc := 547) F 552 dL_law_547 (by decide) ?_ ?_
      · refine V_iload (pc := 552) F dL_law_552 1 rfl ?_
        refine V_if_ne (pc := 554) F 569 dL_law_554 (by decide) ?_ ?_
        · refine V_sub [2, 3, 4, 5, 6] (L' := [(0, vR (some 0)), (1, vR x1), (2, vR x2), (3, vR x3), (4, vI x4)]) rfl ?_
          exact vB_L_law_569 F hm XF rc23 hrc23 x1 x2 x3 x4 h111
        · refine V_aload_n (pc := 557) F dL_law_557 5 rfl ?_
          refine V_iconst (pc := 558) F (x := (0 : Int32)) dL_law_558 (by decide) ?_
          refine V_lald (pc := 559) F dL_law_559 ?_
          intro z112
          refine V_iload (pc := 560) F dL_law_560 0 rfl ?_
          refine V_i2l (pc := 562) F dL_law_562 ?_
          intro z113
          refine V_lcmp (pc := 563) F dL_law_563 ?_
          intro z114
          refine V_if_eq (pc := 564) F 569 dL_law_564 (by decide) ?_ ?_
          · refine V_sub [2, 3, 4, 5, 6] (L' := [(0, vR (some 0)), (1, vR x1), (2, vR x2), (3, vR x3), (4, vI x4)]) rfl ?_
            exact vB_L_law_569 F hm XF rc23 hrc23 x1 x2 x3 x4 h111
          · refine V_iconst (pc := 567) F (x := (0 : Int32)) dL_law_567 (by decide) ?_
            exact V_lawret (pc := 568) F XF dL_law_568
      · refine V_iconst (pc := 550) F (x := (0 : Int32)) dL_law_550 (by decide) ?_
        exact V_lawret (pc := 551) F XF dL_law_551
    refine VT_peel (pc := 39) F (i := 6) (off := 533) (6 : Int32) 572 dL_law_39 (by decide) (by decide) (by decide) (by decide) ?_ ?_
    · refine V_aload_n (pc := 572) F dL_law_572 1 rfl ?_
      refine V_aload_n (pc := 573) F dL_law_573 0 rfl ?_
      refine V_iload (pc := 574) F dL_law_574 4 rfl ?_
      refine V_iconst (pc := 576) F (x := (1 : Int32)) dL_law_576 (by decide) ?_
      refine V_iadd (pc := 577) F dL_law_577 ?_
      intro z115
      refine V_sld (pc := 578) F XF dL_law_578 ?_
      intro z116
      refine V_aload_n (pc := 579) F dL_law_579 0 rfl ?_
      refine V_iload (pc := 580) F dL_law_580 4 rfl ?_
      refine V_iconst (pc := 582) F (x := (2 : Int32)) dL_law_582 (by decide) ?_
      refine V_iadd (pc := 583) F dL_law_583 ?_
      intro z117
      refine V_sld (pc := 584) F XF dL_law_584 ?_
      intro z118
      refine V_aload_n (pc := 585) F dL_law_585 3 rfl ?_
      refine V_cSW (pc := 586) F (as := [vR x1, vI z116, vI z118, vR x3]) (C_L_storm x1 z116 z118 x3 h) w_L_storm g_st_L_storm g_ml_RL_125 (by decide) (rest := []) rfl rfl (Nat.le_of_ble_eq_true rfl) dL_law_586 (k_I fun z119 h120 => ?_) (fun _ _ => VX_none)
      refine V_istore (pc := 589) F [(5, vI z119), (0, vR (some 0)), (1, vR x1), (2, vR x2), (3, vR x3), (4, vI x4)] dL_law_589 (lt_mx hm (by decide)) rfl ?_
      refine V_aload_n (pc := 591) F dL_law_591 3 rfl ?_
      refine V_aload_n (pc := 592) F dL_law_592 1 rfl ?_
      refine V_iload (pc := 593) F dL_law_593 5 rfl ?_
      refine V_iconst (pc := 595) F (x := (1 : Int32)) dL_law_595 (by decide) ?_
      refine V_iadd (pc := 596) F dL_law_596 ?_
      intro z121
      refine V_sld (pc := 597) F XF dL_law_597 ?_
      intro z122
      refine V_aload_n (pc := 598) F dL_law_598 1 rfl ?_
      refine V_iload (pc := 599) F dL_law_599 5 rfl ?_
      refine V_iconst (pc := 601) F (x := (2 : Int32)) dL_law_601 (by decide) ?_
      refine V_iadd (pc := 602) F dL_law_602 ?_
      intro z123
      refine V_sld (pc := 603) F XF dL_law_603 ?_
      intro z124
      refine V_cVM (pc := 604) F 9 (by decide) (as := [vI z122, vI z124]) (C_X9_storm x2 z122 z124 h120) w_X9_storm g_in_X9_storm g_se_X9_storm g_ml_RL_127 (by decide) (rest := []) rfl rfl (Nat.le_of_ble_eq_true rfl) dL_law_604 (k_I fun z125 h126 => ?_)
      refine V_istore (pc := 607) F [(6, vI z125), (5, vI z119), (0, vR (some 0)), (1, vR x1), (2, vR x2), (3, vR x3), (4, vI x4)] dL_law_607 (lt_mx hm (by decide)) rfl ?_
      refine V_aload_n (pc := 609) F dL_law_609 4 rfl ?_
      refine V_cVM (pc := 610) F 9 (by decide) (as := []) (C_X9_thrown x2 h126) w_X9_thrown g_in_X9_thrown g_se_X9_thrown g_ml_RL_104 (by decide) (rest := []) rfl rfl (Nat.le_of_ble_eq_true rfl) dL_law_610 (k_I fun z127 h128 => ?_)
      refine V_iload (pc := 613) F dL_law_613 1 rfl ?_
      refine V_icmp_eq (pc := 615) F 620 dL_law_615 (by decide) ?_ ?_
      · refine V_iload (pc := 620) F dL_law_620 1 rfl ?_
        refine V_if_ne (pc := 622) F 637 dL_law_622 (by decide) ?_ ?_
        · refine V_sub [2, 3, 4, 5, 6] (L' := [(0, vR (some 0)), (1, vR x1), (2, vR x2), (3, vR x3), (4, vI x4)]) rfl ?_
          exact vB_L_law_637 F hm XF rc23 hrc23 x1 x2 x3 x4 h128
        · refine V_aload_n (pc := 625) F dL_law_625 5 rfl ?_
          refine V_iconst (pc := 626) F (x := (0 : Int32)) dL_law_626 (by decide) ?_
          refine V_lald (pc := 627) F dL_law_627 ?_
          intro z129
          refine V_iload (pc := 628) F dL_law_628 0 rfl ?_
          refine V_i2l (pc := 630) F dL_law_630 ?_
          intro z130
          refine V_lcmp (pc := 631) F dL_law_631 ?_
          intro z131
          refine V_if_eq (pc := 632) F 637 dL_law_632 (by decide) ?_ ?_
          · refine V_sub [2, 3, 4, 5, 6] (L' := [(0, vR (some 0)), (1, vR x1), (2, vR x2), (3, vR x3), (4, vI x4)]) rfl ?_
            exact vB_L_law_637 F hm XF rc23 hrc23 x1 x2 x3 x4 h128
          · refine V_iconst (pc := 635) F (x := (0 : Int32)) dL_law_635 (by decide) ?_
            exact V_lawret (pc := 636) F XF dL_law_636
      · refine V_iconst (pc := 618) F (x := (0 : Int32)) dL_law_618 (by decide) ?_
        exact V_lawret (pc := 619) F XF dL_law_619
    refine VT_peel (pc := 39) F (i := 7) (off := 601) (7 : Int32) 640 dL_law_39 (by decide) (by decide) (by decide) (by decide) ?_ ?_
    · refine V_aload_n (pc := 640) F dL_law_640 1 rfl ?_
      refine V_aload_n (pc := 641) F dL_law_641 0 rfl ?_
      refine V_iload (pc := 642) F dL_law_642 4 rfl ?_
      refine V_iconst (pc := 644) F (x := (1 : Int32)) dL_law_644 (by decide) ?_
      refine V_iadd (pc := 645) F dL_law_645 ?_
      intro z132
      refine V_sld (pc := 646) F XF dL_law_646 ?_
      intro z133
      refine V_aload_n (pc := 647) F dL_law_647 3 rfl ?_
      refine V_cSW (pc := 648) F (as := [vR x1, vI z133, vR x3]) (C_L_calibrate x1 z133 x3 h) w_L_calibrate g_st_L_calibrate g_ml_RL_128 (by decide) (rest := []) rfl rfl (Nat.le_of_ble_eq_true rfl) dL_law_648 (k_I fun z134 h135 => ?_) (fun _ _ => VX_none)
      refine V_istore (pc := 651) F [(5, vI z134), (0, vR (some 0)), (1, vR x1), (2, vR x2), (3, vR x3), (4, vI x4)] dL_law_651 (lt_mx hm (by decide)) rfl ?_
      refine V_aload_n (pc := 653) F dL_law_653 3 rfl ?_
      refine V_aload_n (pc := 654) F dL_law_654 1 rfl ?_
      refine V_iload (pc := 655) F dL_law_655 5 rfl ?_
      refine V_iconst (pc := 657) F (x := (1 : Int32)) dL_law_657 (by decide) ?_
      refine V_iadd (pc := 658) F dL_law_658 ?_
      intro z136
      refine V_sld (pc := 659) F XF dL_law_659 ?_
      intro z137
      refine V_cVM (pc := 660) F 9 (by decide) (as := [vI z137]) (C_X9_calibrate x2 z137 h135) w_X9_calibrate g_in_X9_calibrate g_se_X9_calibrate g_ml_RL_130 (by decide) (rest := []) rfl rfl (Nat.le_of_ble_eq_true rfl) dL_law_660 (k_I fun z138 h139 => ?_)
      refine V_istore (pc := 663) F [(6, vI z138), (5, vI z134), (0, vR (some 0)), (1, vR x1), (2, vR x2), (3, vR x3), (4, vI x4)] dL_law_663 (lt_mx hm (by decide)) rfl ?_
      refine V_aload_n (pc := 665) F dL_law_665 4 rfl ?_
      refine V_cVM (pc := 666) F 9 (by decide) (as := []) (C_X9_thrown x2 h139) w_X9_thrown g_in_X9_thrown g_se_X9_thrown g_ml_RL_104 (by decide) (rest := []) rfl rfl (Nat.le_of_ble_eq_true rfl) dL_law_666 (k_I fun z140 h141 => ?_)
      refine V_iload (pc := 669) F dL_law_669 1 rfl ?_
      refine V_icmp_eq (pc := 671) F 676 dL_law_671 (by decide) ?_ ?_
      · refine V_iload (pc := 676) F dL_law_676 1 rfl ?_
        refine V_if_ne (pc := 678) F 693 dL_law_678 (by decide) ?_ ?_
        · refine V_sub [2, 3, 4, 5, 6] (L' := [(0, vR (some 0)), (1, vR x1), (2, vR x2), (3, vR x3), (4, vI x4)]) rfl ?_
          exact vB_L_law_693 F hm XF rc23 hrc23 x1 x2 x3 x4 h141
        · refine V_aload_n (pc := 681) F dL_law_681 5 rfl ?_
          refine V_iconst (pc := 682) F (x := (0 : Int32)) dL_law_682 (by decide) ?_
          refine V_lald (pc := 683) F dL_law_683 ?_
          intro z142
          refine V_iload (pc := 684) F dL_law_684 0 rfl ?_
          refine V_i2l (pc := 686) F dL_law_686 ?_
          intro z143
          refine V_lcmp (pc := 687) F dL_law_687 ?_
          intro z144
          refine V_if_eq (pc := 688) F 693 dL_law_688 (by decide) ?_ ?_
          · refine V_sub [2, 3, 4, 5, 6] (L' := [(0, vR (some 0)), (1, vR x1), (2, vR x2), (3, vR x3), (4, vI x4)]) rfl ?_
            exact vB_L_law_693 F hm XF rc23 hrc23 x1 x2 x3 x4 h141
          · refine V_iconst (pc := 691) F (x := (0 : Int32)) dL_law_691 (by decide) ?_
            exact V_lawret (pc := 692) F XF dL_law_692
      · refine V_iconst (pc := 674) F (x := (0 : Int32)) dL_law_674 (by decide) ?_
        exact V_lawret (pc := 675) F XF dL_law_675
    refine VT_peel (pc := 39) F (i := 8) (off := 657) (8 : Int32) 696 dL_law_39 (by decide) (by decide) (by decide) (by decide) ?_ ?_
    · refine V_aload_n (pc := 696) F dL_law_696 1 rfl ?_
      refine V_aload_n (pc := 697) F dL_law_697 0 rfl ?_
      refine V_iload (pc := 698) F dL_law_698 4 rfl ?_
      refine V_iconst (pc := 700) F (x := (1 : Int32)) dL_law_700 (by decide) ?_
      refine V_iadd (pc := 701) F dL_law_701 ?_
      intro z145
      refine V_sld (pc := 702) F XF dL_law_702 ?_
      intro z146
      refine V_aload_n (pc := 703) F dL_law_703 0 rfl ?_
      refine V_iload (pc := 704) F dL_law_704 4 rfl ?_
      refine V_iconst (pc := 706) F (x := (2 : Int32)) dL_law_706 (by decide) ?_
      refine V_iadd (pc := 707) F dL_law_707 ?_
      intro z147
      refine V_sld (pc := 708) F XF dL_law_708 ?_
      intro z148
      refine V_aload_n (pc := 709) F dL_law_709 3 rfl ?_
      refine V_cSW (pc := 710) F (as := [vR x1, vI z146, vI z148, vR x3]) (C_L_flag x1 z146 z148 x3 h) w_L_flag g_st_L_flag g_ml_RL_131 (by decide) (rest := []) rfl rfl (Nat.le_of_ble_eq_true rfl) dL_law_710 (k_I fun z149 h150 => ?_) (fun _ _ => VX_none)
      refine V_istore (pc := 713) F [(5, vI z149), (0, vR (some 0)), (1, vR x1), (2, vR x2), (3, vR x3), (4, vI x4)] dL_law_713 (lt_mx hm (by decide)) rfl ?_
      refine V_aload_n (pc := 715) F dL_law_715 3 rfl ?_
      refine V_aload_n (pc := 716) F dL_law_716 1 rfl ?_
      refine V_iload (pc := 717) F dL_law_717 5 rfl ?_
      refine V_iconst (pc := 719) F (x := (1 : Int32)) dL_law_719 (by decide) ?_
      refine V_iadd (pc := 720) F dL_law_720 ?_
      intro z151
      refine V_sld (pc := 721) F XF dL_law_721 ?_
      intro z152
      refine V_aload_n (pc := 722) F dL_law_722 1 rfl ?_
      refine V_iload (pc := 723) F dL_law_723 5 rfl ?_
      refine V_iconst (pc := 725) F (x := (2 : Int32)) dL_law_725 (by decide) ?_
      refine V_iadd (pc := 726) F dL_law_726 ?_
      intro z153
      refine V_sld (pc := 727) F XF dL_law_727 ?_
      intro z154
      refine V_cVM (pc := 728) F 9 (by decide) (as := [vI z152, vI z154]) (C_X9_flag x2 z152 z154 h150) w_X9_flag g_in_X9_flag g_se_X9_flag g_ml_RL_133 (by decide) (rest := []) rfl rfl (Nat.le_of_ble_eq_true rfl) dL_law_728 (k_I fun z155 h156 => ?_)
      refine V_istore (pc := 731) F [(6, vI z155), (5, vI z149), (0, vR (some 0)), (1, vR x1), (2, vR x2), (3, vR x3), (4, vI x4)] dL_law_731 (lt_mx hm (by decide)) rfl ?_
      refine V_aload_n (pc := 733) F dL_law_733 4 rfl ?_
      refine V_cVM (pc := 734) F 9 (by decide) (as := []) (C_X9_thrown x2 h156) w_X9_thrown g_in_X9_thrown g_se_X9_thrown g_ml_RL_104 (by decide) (rest := []) rfl rfl (Nat.le_of_ble_eq_true rfl) dL_law_734 (k_I fun z157 h158 => ?_)
      refine V_iload (pc := 737) F dL_law_737 1 rfl ?_
      refine V_icmp_eq (pc := 739) F 744 dL_law_739 (by decide) ?_ ?_
      · refine V_iload (pc := 744) F dL_law_744 1 rfl ?_
        refine V_if_ne (pc := 746) F 761 dL_law_746 (by decide) ?_ ?_
        · refine V_sub [2, 3, 4, 5, 6] (L' := [(0, vR (some 0)), (1, vR x1), (2, vR x2), (3, vR x3), (4, vI x4)]) rfl ?_
          exact vB_L_law_761 F hm XF rc23 hrc23 x1 x2 x3 x4 h158
        · refine V_aload_n (pc := 749) F dL_law_749 5 rfl ?_
          refine V_iconst (pc := 750) F (x := (0 : Int32)) dL_law_750 (by decide) ?_
          refine V_lald (pc := 751) F dL_law_751 ?_
          intro z159
          refine V_iload (pc := 752) F dL_law_752 0 rfl ?_
          refine V_i2l (pc := 754) F dL_law_754 ?_
          intro z160
          refine V_lcmp (pc := 755) F dL_law_755 ?_
          intro z161
          refine V_if_eq (pc := 756) F 761 dL_law_756 (by decide) ?_ ?_
          · refine V_sub [2, 3, 4, 5, 6] (L' := [(0, vR (some 0)), (1, vR x1), (2, vR x2), (3, vR x3), (4, vI x4)]) rfl ?_
            exact vB_L_law_761 F hm XF rc23 hrc23 x1 x2 x3 x4 h158
          · refine V_iconst (pc := 759) F (x := (0 : Int32)) dL_law_759 (by decide) ?_
            exact V_lawret (pc := 760) F XF dL_law_760
      · refine V_iconst (pc := 742) F (x := (0 : Int32)) dL_law_742 (by decide) ?_
        exact V_lawret (pc := 743) F XF dL_law_743
    refine VT_peel (pc := 39) F (i := 9) (off := 725) (9 : Int32) 764 dL_law_39 (by decide) (by decide) (by decide) (by decide) ?_ ?_
    · refine V_aload_n (pc := 764) F dL_law_764 1 rfl ?_
      refine V_aload_n (pc := 765) F dL_law_765 0 rfl ?_
      refine V_iload (pc := 766) F dL_law_766 4 rfl ?_
      refine V_iconst (pc := 768) F (x := (1 : Int32)) dL_law_768 (by decide) ?_
      refine V_iadd (pc := 769) F dL_law_769 ?_
      intro z162
      refine V_sld (pc := 770) F XF dL_law_770 ?_
      intro z163
      refine V_aload_n (pc := 771) F dL_law_771 3 rfl ?_
      refine V_cSW (pc := 772) F (as := [vR x1, vI z163, vR x3]) (C_L_bound x1 z163 x3 h) w_L_bound g_st_L_bound g_ml_RL_134 (by decide) (rest := []) rfl rfl (Nat.le_of_ble_eq_true rfl) dL_law_772 (k_I fun z164 h165 => ?_) (fun _ _ => VX_none)
      refine V_istore (pc := 775) F [(5, vI z164), (0, vR (some 0)), (1, vR x1), (2, vR x2), (3, vR x3), (4, vI x4)] dL_law_775 (lt_mx hm (by decide)) rfl ?_
      refine V_aload_n (pc := 777) F dL_law_777 3 rfl ?_
      refine V_aload_n (pc := 778) F dL_law_778 1 rfl ?_
      refine V_iload (pc := 779) F dL_law_779 5 rfl ?_
      refine V_iconst (pc := 781) F (x := (1 : Int32)) dL_law_781 (by decide) ?_
      refine V_iadd (pc := 782) F dL_law_782 ?_
      intro z166
      refine V_sld (pc := 783) F XF dL_law_783 ?_
      intro z167
      refine V_cVM (pc := 784) F 9 (by decide) (as := [vI z167]) (C_X9_bound x2 z167 h165) w_X9_bound g_in_X9_bound g_se_X9_bound g_ml_RL_136 (by decide) (rest := []) rfl rfl (Nat.le_of_ble_eq_true rfl) dL_law_784 (k_I fun z168 h169 => ?_)
      refine V_istore (pc := 787) F [(6, vI z168), (5, vI z164), (0, vR (some 0)), (1, vR x1), (2, vR x2), (3, vR x3), (4, vI x4)] dL_law_787 (lt_mx hm (by decide)) rfl ?_
      refine V_aload_n (pc := 789) F dL_law_789 4 rfl ?_
      refine V_cVM (pc := 790) F 9 (by decide) (as := []) (C_X9_thrown x2 h169) w_X9_thrown g_in_X9_thrown g_se_X9_thrown g_ml_RL_104 (by decide) (rest := []) rfl rfl (Nat.le_of_ble_eq_true rfl) dL_law_790 (k_I fun z170 h171 => ?_)
      refine V_iload (pc := 793) F dL_law_793 1 rfl ?_
      refine V_icmp_eq (pc := 795) F 800 dL_law_795 (by decide) ?_ ?_
      · refine V_iload (pc := 800) F dL_law_800 1 rfl ?_
        refine V_if_ne (pc := 802) F 817 dL_law_802 (by decide) ?_ ?_
        · refine V_sub [2, 3, 4, 5, 6] (L' := [(0, vR (some 0)), (1, vR x1), (2, vR x2), (3, vR x3), (4, vI x4)]) rfl ?_
          exact vB_L_law_817 F hm XF rc23 hrc23 x1 x2 x3 x4 h171
        · refine V_aload_n (pc := 805) F dL_law_805 5 rfl ?_
          refine V_iconst (pc := 806) F (x := (0 : Int32)) dL_law_806 (by decide) ?_
          refine V_lald (pc := 807) F dL_law_807 ?_
          intro z172
          refine V_iload (pc := 808) F dL_law_808 0 rfl ?_
          refine V_i2l (pc := 810) F dL_law_810 ?_
          intro z173
          refine V_lcmp (pc := 811) F dL_law_811 ?_
          intro z174
          refine V_if_eq (pc := 812) F 817 dL_law_812 (by decide) ?_ ?_
          · refine V_sub [2, 3, 4, 5, 6] (L' := [(0, vR (some 0)), (1, vR x1), (2, vR x2), (3, vR x3), (4, vI x4)]) rfl ?_
            exact vB_L_law_817 F hm XF rc23 hrc23 x1 x2 x3 x4 h171
          · refine V_iconst (pc := 815) F (x := (0 : Int32)) dL_law_815 (by decide) ?_
            exact V_lawret (pc := 816) F XF dL_law_816
      · refine V_iconst (pc := 798) F (x := (0 : Int32)) dL_law_798 (by decide) ?_
        exact V_lawret (pc := 799) F XF dL_law_799
    refine VT_peel (pc := 39) F (i := 10) (off := 781) (10 : Int32) 820 dL_law_39 (by decide) (by decide) (by decide) (by decide) ?_ ?_
    · refine V_aload_n (pc := 820) F dL_law_820 1 rfl ?_
      refine V_aload_n (pc := 821) F dL_law_821 0 rfl ?_
      refine V_iload (pc := 822) F dL_law_822 4 rfl ?_
      refine V_iconst (pc := 824) F (x := (1 : Int32)) dL_law_824 (by decide) ?_
      refine V_iadd (pc := 825) F dL_law_825 ?_
      intro z175
      refine V_sld (pc := 826) F XF dL_law_826 ?_
      intro z176
      refine V_aload_n (pc := 827) F dL_law_827 3 rfl ?_
      refine V_cSW (pc := 828) F (as := [vR x1, vI z176, vR x3]) (C_L_search x1 z176 x3 h) w_L_search g_st_L_search g_ml_RL_137 (by decide) (rest := []) rfl rfl (Nat.le_of_ble_eq_true rfl) dL_law_828 (k_I fun z177 h178 => ?_) (fun _ _ => VX_none)
      refine V_istore (pc := 831) F [(5, vI z177), (0, vR (some 0)), (1, vR x1), (2, vR x2), (3, vR x3), (4, vI x4)] dL_law_831 (lt_mx hm (by decide)) rfl ?_
      refine V_aload_n (pc := 833) F dL_law_833 3 rfl ?_
      refine V_aload_n (pc := 834) F dL_law_834 1 rfl ?_
      refine V_iload (pc := 835) F dL_law_835 5 rfl ?_
      refine V_iconst (pc := 837) F (x := (1 : Int32)) dL_law_837 (by decide) ?_
      refine V_iadd (pc := 838) F dL_law_838 ?_
      intro z179
      refine V_sld (pc := 839) F XF dL_law_839 ?_
      intro z180
      refine V_cVM (pc := 840) F 9 (by decide) (as := [vI z180]) (C_X9_search x2 z180 h178) w_X9_search g_in_X9_search g_se_X9_search g_ml_RL_139 (by decide) (rest := []) rfl rfl (Nat.le_of_ble_eq_true rfl) dL_law_840 (k_I fun z181 h182 => ?_)
      refine V_istore (pc := 843) F [(6, vI z181), (5, vI z177), (0, vR (some 0)), (1, vR x1), (2, vR x2), (3, vR x3), (4, vI x4)] dL_law_843 (lt_mx hm (by decide)) rfl ?_
      refine V_aload_n (pc := 845) F dL_law_845 4 rfl ?_
      refine V_cVM (pc := 846) F 9 (by decide) (as := []) (C_X9_thrown x2 h182) w_X9_thrown g_in_X9_thrown g_se_X9_thrown g_ml_RL_104 (by decide) (rest := []) rfl rfl (Nat.le_of_ble_eq_true rfl) dL_law_846 (k_I fun z183 h184 => ?_)
      refine V_iload (pc := 849) F dL_law_849 1 rfl ?_
      refine V_icmp_eq (pc := 851) F 856 dL_law_851 (by decide) ?_ ?_
      · refine V_iload (pc := 856) F dL_law_856 1 rfl ?_
        refine V_if_ne (pc := 858) F 873 dL_law_858 (by decide) ?_ ?_
        · refine V_sub [2, 3, 4, 5, 6] (L' := [(0, vR (some 0)), (1, vR x1), (2, vR x2), (3, vR x3), (4, vI x4)]) rfl ?_
          exact vB_L_law_873 F hm XF rc23 hrc23 x1 x2 x3 x4 h184
        · refine V_aload_n (pc := 861) F dL_law_861 5 rfl ?_
          refine V_iconst (pc := 862) F (x := (0 : Int32)) dL_law_862 (by decide) ?_
          refine V_lald (pc := 863) F dL_law_863 ?_
          intro z185
          refine V_iload (pc := 864) F dL_law_864 0 rfl ?_
          refine V_i2l (pc := 866) F dL_law_866 ?_
          intro z186
          refine V_lcmp (pc := 867) F dL_law_867 ?_
          intro z187
          refine V_if_eq (pc := 868) F 873 dL_law_868 (by decide) ?_ ?_
          · refine V_sub [2, 3, 4, 5, 6] (L' := [(0, vR (some 0)), (1, vR x1), (2, vR x2), (3, vR x3), (4, vI x4)]) rfl ?_
            exact vB_L_law_873 F hm XF rc23 hrc23 x1 x2 x3 x4 h184
          · refine V_iconst (pc := 871) F (x := (0 : Int32)) dL_law_871 (by decide) ?_
            exact V_lawret (pc := 872) F XF dL_law_872
      · refine V_iconst (pc := 854) F (x := (0 : Int32)) dL_law_854 (by decide) ?_
        exact V_lawret (pc := 855) F XF dL_law_855
    refine VT_peel (pc := 39) F (i := 11) (off := 837) (11 : Int32) 876 dL_law_39 (by decide) (by decide) (by decide) (by decide) ?_ ?_
    · refine V_aload_n (pc := 876) F dL_law_876 1 rfl ?_
      refine V_aload_n (pc := 877) F dL_law_877 0 rfl ?_
      refine V_iload (pc := 878) F dL_law_878 4 rfl ?_
      refine V_iconst (pc := 880) F (x := (1 : Int32)) dL_law_880 (by decide) ?_
      refine V_iadd (pc := 881) F dL_law_881 ?_
      intro z188
      refine V_sld (pc := 882) F XF dL_law_882 ?_
      intro z189
      refine V_aload_n (pc := 883) F dL_law_883 0 rfl ?_
      refine V_iload (pc := 884) F dL_law_884 4 rfl ?_
      refine V_iconst (pc := 886) F (x := (2 : Int32)) dL_law_886 (by decide) ?_
      refine V_iadd (pc := 887) F dL_law_887 ?_
      intro z190
      refine V_sld (pc := 888) F XF dL_law_888 ?_
      intro z191
      refine V_aload_n (pc := 889) F dL_law_889 0 rfl ?_
      refine V_iload (pc := 890) F dL_law_890 4 rfl ?_
      refine V_iconst (pc := 892) F (x := (3 : Int32)) dL_law_892 (by decide) ?_
      refine V_iadd (pc := 893) F dL_law_893 ?_
      intro z192
      refine V_sld (pc := 894) F XF dL_law_894 ?_
      intro z193
      refine V_aload_n (pc := 895) F dL_law_895 3 rfl ?_
      refine V_cSW (pc := 896) F (as := [vR x1, vI z189, vI z191, vI z193, vR x3]) (C_L_leg x1 z189 z191 z193 x3 h) w_L_leg g_st_L_leg g_ml_RL_140 (by decide) (rest := []) rfl rfl (Nat.le_of_ble_eq_true rfl) dL_law_896 (k_I fun z194 h195 => ?_) (fun _ _ => VX_none)
      refine V_istore (pc := 899) F [(5, vI z194), (0, vR (some 0)), (1, vR x1), (2, vR x2), (3, vR x3), (4, vI x4)] dL_law_899 (lt_mx hm (by decide)) rfl ?_
      refine V_aload_n (pc := 901) F dL_law_901 3 rfl ?_
      refine V_aload_n (pc := 902) F dL_law_902 1 rfl ?_
      refine V_iload (pc := 903) F dL_law_903 5 rfl ?_
      refine V_iconst (pc := 905) F (x := (1 : Int32)) dL_law_905 (by decide) ?_
      refine V_iadd (pc := 906) F dL_law_906 ?_
      intro z196
      refine V_sld (pc := 907) F XF dL_law_907 ?_
      intro z197
      refine V_aload_n (pc := 908) F dL_law_908 1 rfl ?_
      refine V_iload (pc := 909) F dL_law_909 5 rfl ?_
      refine V_iconst (pc := 911) F (x := (2 : Int32)) dL_law_911 (by decide) ?_
      refine V_iadd (pc := 912) F dL_law_912 ?_
      intro z198
      refine V_sld (pc := 913) F XF dL_law_913 ?_
      intro z199
      refine V_aload_n (pc := 914) F dL_law_914 1 rfl ?_
      refine V_iload (pc := 915) F dL_law_915 5 rfl ?_
      refine V_iconst (pc := 917) F (x := (3 : Int32)) dL_law_917 (by decide) ?_
      refine V_iadd (pc := 918) F dL_law_918 ?_
      intro z200
      refine V_sld (pc := 919) F XF dL_law_919 ?_
      intro z201
      refine V_cVM (pc := 920) F 9 (by decide) (as := [vI z197, vI z199, vI z201]) (C_X9_leg x2 z197 z199 z201 h195) w_X9_leg g_in_X9_leg g_se_X9_leg g_ml_RL_143 (by decide) (rest := []) rfl rfl (Nat.le_of_ble_eq_true rfl) dL_law_920 (k_I fun z202 h203 => ?_)
      refine V_istore (pc := 923) F [(6, vI z202), (5, vI z194), (0, vR (some 0)), (1, vR x1), (2, vR x2), (3, vR x3), (4, vI x4)] dL_law_923 (lt_mx hm (by decide)) rfl ?_
      refine V_aload_n (pc := 925) F dL_law_925 4 rfl ?_
      refine V_cVM (pc := 926) F 9 (by decide) (as := []) (C_X9_thrown x2 h203) w_X9_thrown g_in_X9_thrown g_se_X9_thrown g_ml_RL_104 (by decide) (rest := []) rfl rfl (Nat.le_of_ble_eq_true rfl) dL_law_926 (k_I fun z204 h205 => ?_)
      refine V_iload (pc := 929) F dL_law_929 1 rfl ?_
      refine V_icmp_eq (pc := 931) F 936 dL_law_931 (by decide) ?_ ?_
      · refine V_iload (pc := 936) F dL_law_936 1 rfl ?_
        refine V_if_ne (pc := 938) F 953 dL_law_938 (by decide) ?_ ?_
        · refine V_sub [2, 3, 4, 5, 6] (L' := [(0, vR (some 0)), (1, vR x1), (2, vR x2), (3, vR x3), (4, vI x4)]) rfl ?_
          exact vB_L_law_953 F hm XF rc23 hrc23 x1 x2 x3 x4 h205
        · refine V_aload_n (pc := 941) F dL_law_941 5 rfl ?_
          refine V_iconst (pc := 942) F (x := (0 : Int32)) dL_law_942 (by decide) ?_
          refine V_lald (pc := 943) F dL_law_943 ?_
          intro z206
          refine V_iload (pc := 944) F dL_law_944 0 rfl ?_
          refine V_i2l (pc := 946) F dL_law_946 ?_
          intro z207
          refine V_lcmp (pc := 947) F dL_law_947 ?_
          intro z208
          refine V_if_eq (pc := 948) F 953 dL_law_948 (by decide) ?_ ?_
          · refine V_sub [2, 3, 4, 5, 6] (L' := [(0, vR (some 0)), (1, vR x1), (2, vR x2), (3, vR x3), (4, vI x4)]) rfl ?_
            exact vB_L_law_953 F hm XF rc23 hrc23 x1 x2 x3 x4 h205
          · refine V_iconst (pc := 951) F (x := (0 : Int32)) dL_law_951 (by decide) ?_
            exact V_lawret (pc := 952) F XF dL_law_952
      · refine V_iconst (pc := 934) F (x := (0 : Int32)) dL_law_934 (by decide) ?_
        exact V_lawret (pc := 935) F XF dL_law_935
    refine VT_peel (pc := 39) F (i := 12) (off := 917) (12 : Int32) 956 dL_law_39 (by decide) (by decide) (by decide) (by decide) ?_ ?_
    · refine V_aload_n (pc := 956) F dL_law_956 1 rfl ?_
      refine V_aload_n (pc := 957) F dL_law_957 0 rfl ?_
      refine V_iload (pc := 958) F dL_law_958 4 rfl ?_
      refine V_iconst (pc := 960) F (x := (1 : Int32)) dL_law_960 (by decide) ?_
      refine V_iadd (pc := 961) F dL_law_961 ?_
      intro z209
      refine V_sld (pc := 962) F XF dL_law_962 ?_
      intro z210
      refine V_aload_n (pc := 963) F dL_law_963 0 rfl ?_
      refine V_iload (pc := 964) F dL_law_964 4 rfl ?_
      refine V_iconst (pc := 966) F (x := (2 : Int32)) dL_law_966 (by decide) ?_
      refine V_iadd (pc := 967) F dL_law_967 ?_
      intro z211
      refine V_sld (pc := 968) F XF dL_law_968 ?_
      intro z212
      refine V_aload_n (pc := 969) F dL_law_969 0 rfl ?_
      refine V_iload (pc := 970) F dL_law_970 4 rfl ?_
      refine V_iconst (pc := 972) F (x := (3 : Int32)) dL_law_972 (by decide) ?_
      refine V_iadd (pc := 973) F dL_law_973 ?_
      intro z213
      refine V_sld (pc := 974) F XF dL_law_974 ?_
      intro z214
      refine V_aload_n (pc := 975) F dL_law_975 3 rfl ?_
      refine V_cSW (pc := 976) F (as := [vR x1, vI z210, vI z212, vI z214, vR x3]) (C_L_part x1 z210 z212 z214 x3 h) w_L_part g_st_L_part g_ml_RL_144 (by decide) (rest := []) rfl rfl (Nat.le_of_ble_eq_true rfl) dL_law_976 (k_I fun z215 h216 => ?_) (fun _ _ => VX_none)
      refine V_istore (pc := 979) F [(5, vI z215), (0, vR (some 0)), (1, vR x1), (2, vR x2), (3, vR x3), (4, vI x4)] dL_law_979 (lt_mx hm (by decide)) rfl ?_
      refine V_aload_n (pc := 981) F dL_law_981 3 rfl ?_
      refine V_aload_n (pc := 982) F dL_law_982 1 rfl ?_
      refine V_iload (pc := 983) F dL_law_983 5 rfl ?_
      refine V_iconst (pc := 985) F (x := (1 : Int32)) dL_law_985 (by decide) ?_
      refine V_iadd (pc := 986) F dL_law_986 ?_
      intro z217
      refine V_sld (pc := 987) F XF dL_law_987 ?_
      intro z218
      refine V_aload_n (pc := 988) F dL_law_988 1 rfl ?_
      refine V_iload (pc := 989) F dL_law_989 5 rfl ?_
      refine V_iconst (pc := 991) F (x := (2 : Int32)) dL_law_991 (by decide) ?_
      refine V_iadd (pc := 992) F dL_law_992 ?_
      intro z219
      refine V_sld (pc := 993) F XF dL_law_993 ?_
      intro z220
      refine V_aload_n (pc := 994) F dL_law_994 1 rfl ?_
      refine V_iload (pc := 995) F dL_law_995 5 rfl ?_
      refine V_iconst (pc := 997) F (x := (3 : Int32)) dL_law_997 (by decide) ?_
      refine V_iadd (pc := 998) F dL_law_998 ?_
      intro z221
      refine V_sld (pc := 999) F XF dL_law_999 ?_
      intro z222
      refine V_cVM (pc := 1000) F 9 (by decide) (as := [vI z218, vI z220, vI z222]) (C_X9_part x2 z218 z220 z222 h216) w_X9_part g_in_X9_part g_se_X9_part g_ml_RL_146 (by decide) (rest := []) rfl rfl (Nat.le_of_ble_eq_true rfl) dL_law_1000 (k_I fun z223 h224 => ?_)
      refine V_istore (pc := 1003) F [(6, vI z223), (5, vI z215), (0, vR (some 0)), (1, vR x1), (2, vR x2), (3, vR x3), (4, vI x4)] dL_law_1003 (lt_mx hm (by decide)) rfl ?_
      refine V_aload_n (pc := 1005) F dL_law_1005 4 rfl ?_
      refine V_cVM (pc := 1006) F 9 (by decide) (as := []) (C_X9_thrown x2 h224) w_X9_thrown g_in_X9_thrown g_se_X9_thrown g_ml_RL_104 (by decide) (rest := []) rfl rfl (Nat.le_of_ble_eq_true rfl) dL_law_1006 (k_I fun z225 h226 => ?_)
      refine V_iload (pc := 1009) F dL_law_1009 1 rfl ?_
      refine V_icmp_eq (pc := 1011) F 1016 dL_law_1011 (by decide) ?_ ?_
      · refine V_iload (pc := 1016) F dL_law_1016 1 rfl ?_
        refine V_if_ne (pc := 1018) F 1033 dL_law_1018 (by decide) ?_ ?_
        · refine V_sub [2, 3, 4, 5, 6] (L' := [(0, vR (some 0)), (1, vR x1), (2, vR x2), (3, vR x3), (4, vI x4)]) rfl ?_
          exact vB_L_law_1033 F hm XF rc23 hrc23 x1 x2 x3 x4 h226
        · refine V_aload_n (pc := 1021) F dL_law_1021 5 rfl ?_
          refine V_iconst (pc := 1022) F (x := (0 : Int32)) dL_law_1022 (by decide) ?_
          refine V_lald (pc := 1023) F dL_law_1023 ?_
          intro z227
          refine V_iload (pc := 1024) F dL_law_1024 0 rfl ?_
          refine V_i2l (pc := 1026) F dL_law_1026 ?_
          intro z228
          refine V_lcmp (pc := 1027) F dL_law_1027 ?_
          intro z229
          refine V_if_eq (pc := 1028) F 1033 dL_law_1028 (by decide) ?_ ?_
          · refine V_sub [2, 3, 4, 5, 6] (L' := [(0, vR (some 0)), (1, vR x1), (2, vR x2), (3, vR x3), (4, vI x4)]) rfl ?_
            exact vB_L_law_1033 F hm XF rc23 hrc23 x1 x2 x3 x4 h226
          · refine V_iconst (pc := 1031) F (x := (0 : Int32)) dL_law_1031 (by decide) ?_
            exact V_lawret (pc := 1032) F XF dL_law_1032
      · refine V_iconst (pc := 1014) F (x := (0 : Int32)) dL_law_1014 (by decide) ?_
        exact V_lawret (pc := 1015) F XF dL_law_1015
    refine VT_peel (pc := 39) F (i := 13) (off := 997) (13 : Int32) 1036 dL_law_39 (by decide) (by decide) (by decide) (by decide) ?_ ?_
    · refine V_aload_n (pc := 1036) F dL_law_1036 1 rfl ?_
      refine V_cVM (pc := 1037) F 8 (by decide) (as := []) (C_X8_day x1 h) w_X8_day g_in_X8_day g_se_X8_day g_ml_RL_147 (by decide) (rest := []) rfl rfl (Nat.le_of_ble_eq_true rfl) dL_law_1037 (k_I fun z230 h231 => ?_)
      refine V_aload_n (pc := 1040) F dL_law_1040 2 rfl ?_
      refine V_cVM (pc := 1041) F 9 (by decide) (as := []) (C_X9_day x2 h231) w_X9_day g_in_X9_day g_se_X9_day g_ml_RL_150 (by decide) (rest := [vI z230]) rfl rfl (Nat.le_of_ble_eq_true rfl) dL_law_1041 (k_I fun z232 h233 => ?_)
      refine V_icmp_eq (pc := 1044) F 1903 dL_law_1044 (by decide) ?_ ?_
      · exact vB_L_law_1903 F hm XF rc23 hrc23 x1 x2 x3 x4 h233
      · refine V_iconst (pc := 1047) F (x := (0 : Int32)) dL_law_1047 (by decide) ?_
        exact V_lawret (pc := 1048) F XF dL_law_1048
    refine VT_peel (pc := 39) F (i := 14) (off := 1010) (14 : Int32) 1049 dL_law_39 (by decide) (by decide) (by decide) (by decide) ?_ ?_
    · refine V_aload_n (pc := 1049) F dL_law_1049 1 rfl ?_
      refine V_aload_n (pc := 1050) F dL_law_1050 0 rfl ?_
      refine V_iload (pc := 1051) F dL_law_1051 4 rfl ?_
      refine V_iconst (pc := 1053) F (x := (1 : Int32)) dL_law_1053 (by decide) ?_
      refine V_iadd (pc := 1054) F dL_law_1054 ?_
      intro z234
      refine V_sld (pc := 1055) F XF dL_law_1055 ?_
      intro z235
      refine V_aload_n (pc := 1056) F dL_law_1056 0 rfl ?_
      refine V_iload (pc := 1057) F dL_law_1057 4 rfl ?_
      refine V_iconst (pc := 1059) F (x := (2 : Int32)) dL_law_1059 (by decide) ?_
      refine V_iadd (pc := 1060) F dL_law_1060 ?_
      intro z236
      refine V_sld (pc := 1061) F XF dL_law_1061 ?_
      intro z237
      refine V_aload_n (pc := 1062) F dL_law_1062 0 rfl ?_
      refine V_iload (pc := 1063) F dL_law_1063 4 rfl ?_
      refine V_iconst (pc := 1065) F (x := (3 : Int32)) dL_law_1065 (by decide) ?_
      refine V_iadd (pc := 1066) F dL_law_1066 ?_
      intro z238
      refine V_sld (pc := 1067) F XF dL_law_1067 ?_
      intro z239
      refine V_aload_n (pc := 1068) F dL_law_1068 3 rfl ?_
      refine V_cSW (pc := 1069) F (as := [vR x1, vI z235, vI z237, vI z239, vR x3]) (C_L_ofLayer x1 z235 z237 z239 x3 h) w_L_ofLayer g_st_L_ofLayer g_ml_RL_151 (by decide) (rest := []) rfl rfl (Nat.le_of_ble_eq_true rfl) dL_law_1069 (k_I fun z240 h241 => ?_) (fun _ _ => VX_none)
      refine V_istore (pc := 1072) F [(5, vI z240), (0, vR (some 0)), (1, vR x1), (2, vR x2), (3, vR x3), (4, vI x4)] dL_law_1072 (lt_mx hm (by decide)) rfl ?_
      refine V_aload_n (pc := 1074) F dL_law_1074 3 rfl ?_
      refine V_aload_n (pc := 1075) F dL_law_1075 1 rfl ?_
      refine V_iload (pc := 1076) F dL_law_1076 5 rfl ?_
      refine V_iconst (pc := 1078) F (x := (1 : Int32)) dL_law_1078 (by decide) ?_
      refine V_iadd (pc := 1079) F dL_law_1079 ?_
      intro z242
      refine V_sld (pc := 1080) F XF dL_law_1080 ?_
      intro z243
      refine V_aload_n (pc := 1081) F dL_law_1081 1 rfl ?_
      refine V_iload (pc := 1082) F dL_law_1082 5 rfl ?_
      refine V_iconst (pc := 1084) F (x := (2 : Int32)) dL_law_1084 (by decide) ?_
      refine V_iadd (pc := 1085) F dL_law_1085 ?_
      intro z244
      refine V_sld (pc := 1086) F XF dL_law_1086 ?_
      intro z245
      refine V_aload_n (pc := 1087) F dL_law_1087 1 rfl ?_
      refine V_iload (pc := 1088) F dL_law_1088 5 rfl ?_
      refine V_iconst (pc := 1090) F (x := (3 : Int32)) dL_law_1090 (by decide) ?_
      refine V_iadd (pc := 1091) F dL_law_1091 ?_
      intro z246
      refine V_sld (pc := 1092) F XF dL_law_1092 ?_
      intro z247
      refine V_cVM (pc := 1093) F 9 (by decide) (as := [vI z243, vI z245, vI z247]) (C_X9_ofLayer x2 z243 z245 z247 h241) w_X9_ofLayer g_in_X9_ofLayer g_se_X9_ofLayer g_ml_RL_153 (by decide) (rest := []) rfl rfl (Nat.le_of_ble_eq_true rfl) dL_law_1093 (k_I fun z248 h249 => ?_)
      refine V_istore (pc := 1096) F [(6, vI z248), (5, vI z240), (0, vR (some 0)), (1, vR x1), (2, vR x2), (3, vR x3), (4, vI x4)] dL_law_1096 (lt_mx hm (by decide)) rfl ?_
      refine V_aload_n (pc := 1098) F dL_law_1098 4 rfl ?_
      refine V_cVM (pc := 1099) F 9 (by decide) (as := []) (C_X9_thrown x2 h249) w_X9_thrown g_in_X9_thrown g_se_X9_thrown g_ml_RL_104 (by decide) (rest := []) rfl rfl (Nat.le_of_ble_eq_true rfl) dL_law_1099 (k_I fun z250 h251 => ?_)
      refine V_iload (pc := 1102) F dL_law_1102 1 rfl ?_
      refine V_icmp_eq (pc := 1104) F 1109 dL_law_1104 (by decide) ?_ ?_
      · refine V_iload (pc := 1109) F dL_law_1109 1 rfl ?_
        refine V_if_ne (pc := 1111) F 1126 dL_law_1111 (by decide) ?_ ?_
        · refine V_sub [2, 3, 4, 5, 6] (L' := [(0, vR (some 0)), (1, vR x1), (2, vR x2), (3, vR x3), (4, vI x4)]) rfl ?_
          exact vB_L_law_1126 F hm XF rc23 hrc23 x1 x2 x3 x4 h251
        · refine V_aload_n (pc := 1114) F dL_law_1114 5 rfl ?_
          refine V_iconst (pc := 1115) F (x := (0 : Int32)) dL_law_1115 (by decide) ?_
          refine V_lald (pc := 1116) F dL_law_1116 ?_
          intro z252
          refine V_iload (pc := 1117) F dL_law_1117 0 rfl ?_
          refine V_i2l (pc := 1119) F dL_law_1119 ?_
          intro z253
          refine V_lcmp (pc := 1120) F dL_law_1120 ?_
          intro z254
          refine V_if_eq (pc := 1121) F 1126 dL_law_1121 (by decide) ?_ ?_
          · refine V_sub [2, 3, 4, 5, 6] (L' := [(0, vR (some 0)), (1, vR x1), (2, vR x2), (3, vR x3), (4, vI x4)]) rfl ?_
            exact vB_L_law_1126 F hm XF rc23 hrc23 x1 x2 x3 x4 h251
          · refine V_iconst (pc := 1124) F (x := (0 : Int32)) dL_law_1124 (by decide) ?_
            exact V_lawret (pc := 1125) F XF dL_law_1125
      · refine V_iconst (pc := 1107) F (x := (0 : Int32)) dL_law_1107 (by decide) ?_
        exact V_lawret (pc := 1108) F XF dL_law_1108
    refine VT_peel (pc := 39) F (i := 15) (off := 1090) (15 : Int32) 1129 dL_law_39 (by decide) (by decide) (by decide) (by decide) ?_ ?_
    · refine V_aload_n (pc := 1129) F dL_law_1129 1 rfl ?_
      refine V_aload_n (pc := 1130) F dL_law_1130 0 rfl ?_
      refine V_iload (pc := 1131) F dL_law_1131 4 rfl ?_
      refine V_iconst (pc := 1133) F (x := (1 : Int32)) dL_law_1133 (by decide) ?_
      refine V_iadd (pc := 1134) F dL_law_1134 ?_
      intro z255
      refine V_sld (pc := 1135) F XF dL_law_1135 ?_
      intro z256
      refine V_aload_n (pc := 1136) F dL_law_1136 3 rfl ?_
      refine V_cSW (pc := 1137) F (as := [vR x1, vI z256, vR x3]) (C_L_total x1 z256 x3 h) w_L_total g_st_L_total g_ml_RL_154 (by decide) (rest := []) rfl rfl (Nat.le_of_ble_eq_true rfl) dL_law_1137 (k_I fun z257 h258 => ?_) (fun _ _ => VX_none)
      refine V_istore (pc := 1140) F [(5, vI z257), (0, vR (some 0)), (1, vR x1), (2, vR x2), (3, vR x3), (4, vI x4)] dL_law_1140 (lt_mx hm (by decide)) rfl ?_
      refine V_aload_n (pc := 1142) F dL_law_1142 3 rfl ?_
      refine V_aload_n (pc := 1143) F dL_law_1143 1 rfl ?_
      refine V_iload (pc := 1144) F dL_law_1144 5 rfl ?_
      refine V_iconst (pc := 1146) F (x := (1 : Int32)) dL_law_1146 (by decide) ?_
      refine V_iadd (pc := 1147) F dL_law_1147 ?_
      intro z259
      refine V_sld (pc := 1148) F XF dL_law_1148 ?_
      intro z260
      refine V_cVM (pc := 1149) F 9 (by decide) (as := [vI z260]) (C_X9_total x2 z260 h258) w_X9_total g_in_X9_total g_se_X9_total g_ml_RL_156 (by decide) (rest := []) rfl rfl (Nat.le_of_ble_eq_true rfl) dL_law_1149 (k_I fun z261 h262 => ?_)
      refine V_istore (pc := 1152) F [(6, vI z261), (5, vI z257), (0, vR (some 0)), (1, vR x1), (2, vR x2), (3, vR x3), (4, vI x4)] dL_law_1152 (lt_mx hm (by decide)) rfl ?_
      refine V_aload_n (pc := 1154) F dL_law_1154 4 rfl ?_
      refine V_cVM (pc := 1155) F 9 (by decide) (as := []) (C_X9_thrown x2 h262) w_X9_thrown g_in_X9_thrown g_se_X9_thrown g_ml_RL_104 (by decide) (rest := []) rfl rfl (Nat.le_of_ble_eq_true rfl) dL_law_1155 (k_I fun z263 h264 => ?_)
      refine V_iload (pc := 1158) F dL_law_1158 1 rfl ?_
      refine V_icmp_eq (pc := 1160) F 1165 dL_law_1160 (by decide) ?_ ?_
      · refine V_iload (pc := 1165) F dL_law_1165 1 rfl ?_
        refine V_if_ne (pc := 1167) F 1182 dL_law_1167 (by decide) ?_ ?_
        · refine V_sub [2, 3, 4, 5, 6] (L' := [(0, vR (some 0)), (1, vR x1), (2, vR x2), (3, vR x3), (4, vI x4)]) rfl ?_
          exact vB_L_law_1182 F hm XF rc23 hrc23 x1 x2 x3 x4 h264
        · refine V_aload_n (pc := 1170) F dL_law_1170 5 rfl ?_
          refine V_iconst (pc := 1171) F (x := (0 : Int32)) dL_law_1171 (by decide) ?_
          refine V_lald (pc := 1172) F dL_law_1172 ?_
          intro z265
          refine V_iload (pc := 1173) F dL_law_1173 0 rfl ?_
          refine V_i2l (pc := 1175) F dL_law_1175 ?_
          intro z266
          refine V_lcmp (pc := 1176) F dL_law_1176 ?_
          intro z267
          refine V_if_eq (pc := 1177) F 1182 dL_law_1177 (by decide) ?_ ?_
          · refine V_sub [2, 3, 4, 5, 6] (L' := [(0, vR (some 0)), (1, vR x1), (2, vR x2), (3, vR x3), (4, vI x4)]) rfl ?_
            exact vB_L_law_1182 F hm XF rc23 hrc23 x1 x2 x3 x4 h264
          · refine V_iconst (pc := 1180) F (x := (0 : Int32)) dL_law_1180 (by decide) ?_
            exact V_lawret (pc := 1181) F XF dL_law_1181
      · refine V_iconst (pc := 1163) F (x := (0 : Int32)) dL_law_1163 (by decide) ?_
        exact V_lawret (pc := 1164) F XF dL_law_1164
    refine VT_peel (pc := 39) F (i := 16) (off := 1146) (16 : Int32) 1185 dL_law_39 (by decide) (by decide) (by decide) (by decide) ?_ ?_
    · refine V_aload_n (pc := 1185) F dL_law_1185 1 rfl ?_
      refine V_aload_n (pc := 1186) F dL_law_1186 0 rfl ?_
      refine V_iload (pc := 1187) F dL_law_1187 4 rfl ?_
      refine V_iconst (pc := 1189) F (x := (1 : Int32)) dL_law_1189 (by decide) ?_
      refine V_iadd (pc := 1190) F dL_law_1190 ?_
      intro z268
      refine V_sld (pc := 1191) F XF dL_law_1191 ?_
      intro z269
      refine V_aload_n (pc := 1192) F dL_law_1192 0 rfl ?_
      refine V_iload (pc := 1193) F dL_law_1193 4 rfl ?_
      refine V_iconst (pc := 1195) F (x := (2 : Int32)) dL_law_1195 (by decide) ?_
      refine V_iadd (pc := 1196) F dL_law_1196 ?_
      intro z270
      refine V_sld (pc := 1197) F XF dL_law_1197 ?_
      intro z271
      refine V_aload_n (pc := 1198) F dL_law_1198 3 rfl ?_
      refine V_cSW (pc := 1199) F (as := [vR x1, vI z269, vI z271, vR x3]) (C_L_ofFloat x1 z269 z271 x3 h) w_L_ofFloat g_st_L_ofFloat g_ml_RL_157 (by decide) (rest := []) rfl rfl (Nat.le_of_ble_eq_true rfl) dL_law_1199 (k_I fun z272 h273 => ?_) (fun _ _ => VX_none)
      refine V_istore (pc := 1202) F [(5, vI z272), (0, vR (some 0)), (1, vR x1), (2, vR x2), (3, vR x3), (4, vI x4)] dL_law_1202 (lt_mx hm (by decide)) rfl ?_
      refine V_aload_n (pc := 1204) F dL_law_1204 3 rfl ?_
      refine V_aload_n (pc := 1205) F dL_law_1205 1 rfl ?_
      refine V_iload (pc := 1206) F dL_law_1206 5 rfl ?_
      refine V_iconst (pc := 1208) F (x := (1 : Int32)) dL_law_1208 (by decide) ?_
      refine V_iadd (pc := 1209) F dL_law_1209 ?_
      intro z274
      refine V_sld (pc := 1210) F XF dL_law_1210 ?_
      intro z275
      refine V_aload_n (pc := 1211) F dL_law_1211 1 rfl ?_
      refine V_iload (pc := 1212) F dL_law_1212 5 rfl ?_
      refine V_iconst (pc := 1214) F (x := (2 : Int32)) dL_law_1214 (by decide) ?_
      refine V_iadd (pc := 1215) F dL_law_1215 ?_
      intro z276
      refine V_sld (pc := 1216) F XF dL_law_1216 ?_
      intro z277
      refine V_cVM (pc := 1217) F 9 (by decide) (as := [vI z275, vI z277]) (C_X9_ofFloat x2 z275 z277 h273) w_X9_ofFloat g_in_X9_ofFloat g_se_X9_ofFloat g_ml_RL_159 (by decide) (rest := []) rfl rfl (Nat.le_of_ble_eq_true rfl) dL_law_1217 (k_I fun z278 h279 => ?_)
      refine V_istore (pc := 1220) F [(6, vI z278), (5, vI z272), (0, vR (some 0)), (1, vR x1), (2, vR x2), (3, vR x3), (4, vI x4)] dL_law_1220 (lt_mx hm (by decide)) rfl ?_
      refine V_aload_n (pc := 1222) F dL_law_1222 4 rfl ?_
      refine V_cVM (pc := 1223) F 9 (by decide) (as := []) (C_X9_thrown x2 h279) w_X9_thrown g_in_X9_thrown g_se_X9_thrown g_ml_RL_104 (by decide) (rest := []) rfl rfl (Nat.le_of_ble_eq_true rfl) dL_law_1223 (k_I fun z280 h281 => ?_)
      refine V_iload (pc := 1226) F dL_law_1226 1 rfl ?_
      refine V_icmp_eq (pc := 1228) F 1233 dL_law_1228 (by decide) ?_ ?_
      · refine V_iload (pc := 1233) F dL_law_1233 1 rfl ?_
        refine V_if_ne (pc := 1235) F 1250 dL_law_1235 (by decide) ?_ ?_
        · refine V_sub [2, 3, 4, 5, 6] (L' := [(0, vR (some 0)), (1, vR x1), (2, vR x2), (3, vR x3), (4, vI x4)]) rfl ?_
          exact vB_L_law_1250 F hm XF rc23 hrc23 x1 x2 x3 x4 h281
        · refine V_aload_n (pc := 1238) F dL_law_1238 5 rfl ?_
          refine V_iconst (pc := 1239) F (x := (0 : Int32)) dL_law_1239 (by decide) ?_
          refine V_lald (pc := 1240) F dL_law_1240 ?_
          intro z282
          refine V_iload (pc := 1241) F dL_law_1241 0 rfl ?_
          refine V_i2l (pc := 1243) F dL_law_1243 ?_
          intro z283
          refine V_lcmp (pc := 1244) F dL_law_1244 ?_
          intro z284
          refine V_if_eq (pc := 1245) F 1250 dL_law_1245 (by decide) ?_ ?_
          · refine V_sub [2, 3, 4, 5, 6] (L' := [(0, vR (some 0)), (1, vR x1), (2, vR x2), (3, vR x3), (4, vI x4)]) rfl ?_
            exact vB_L_law_1250 F hm XF rc23 hrc23 x1 x2 x3 x4 h281
          · refine V_iconst (pc := 1248) F (x := (0 : Int32)) dL_law_1248 (by decide) ?_
            exact V_lawret (pc := 1249) F XF dL_law_1249
      · refine V_iconst (pc := 1231) F (x := (0 : Int32)) dL_law_1231 (by decide) ?_
        exact V_lawret (pc := 1232) F XF dL_law_1232
    refine VT_peel (pc := 39) F (i := 17) (off := 1214) (17 : Int32) 1253 dL_law_39 (by decide) (by decide) (by decide) (by decide) ?_ ?_
    · refine V_aload_n (pc := 1253) F dL_law_1253 1 rfl ?_
      refine V_cVM (pc := 1254) F 8 (by decide) (as := []) (C_X8_stations x1 h) w_X8_stations g_in_X8_stations g_se_X8_stations g_ml_RL_160 (by decide) (rest := []) rfl rfl (Nat.le_of_ble_eq_true rfl) dL_law_1254 (k_I fun z285 h286 => ?_)
      refine V_aload_n (pc := 1257) F dL_law_1257 2 rfl ?_
      refine V_cVM (pc := 1258) F 9 (by decide) (as := []) (C_X9_stations x2 h286) w_X9_stations g_in_X9_stations g_se_X9_stations g_ml_RL_163 (by decide) (rest := [vI z285]) rfl rfl (Nat.le_of_ble_eq_true rfl) dL_law_1258 (k_I fun z287 h288 => ?_)
      refine V_icmp_eq (pc := 1261) F 1903 dL_law_1261 (by decide) ?_ ?_
      · exact vB_L_law_1903 F hm XF rc23 hrc23 x1 x2 x3 x4 h288
      · refine V_iconst (pc := 1264) F (x := (0 : Int32)) dL_law_1264 (by decide) ?_
        exact V_lawret (pc := 1265) F XF dL_law_1265
    refine VT_peel (pc := 39) F (i := 18) (off := 1227) (18 : Int32) 1266 dL_law_39 (by decide) (by decide) (by decide) (by decide) ?_ ?_
    · refine V_aload_n (pc := 1266) F dL_law_1266 1 rfl ?_
      refine V_cVM (pc := 1267) F 8 (by decide) (as := []) (C_X8_readings x1 h) w_X8_readings g_in_X8_readings g_se_X8_readings g_ml_RL_164 (by decide) (rest := []) rfl rfl (Nat.le_of_ble_eq_true rfl) dL_law_1267 (k_I fun z289 h290 => ?_)
      refine V_aload_n (pc := 1270) F dL_law_1270 2 rfl ?_
      refine V_cVM (pc := 1271) F 9 (by decide) (as := []) (C_X9_readings x2 h290) w_X9_readings g_in_X9_readings g_se_X9_readings g_ml_RL_167 (by decide) (rest := [vI z289]) rfl rfl (Nat.le_of_ble_eq_true rfl) dL_law_1271 (k_I fun z291 h292 => ?_)
      refine V_icmp_eq (pc := 1274) F 1903 dL_law_1274 (by decide) ?_ ?_
      · exact vB_L_law_1903 F hm XF rc23 hrc23 x1 x2 x3 x4 h292
      · refine V_iconst (pc := 1277) F (x := (0 : Int32)) dL_law_1277 (by decide) ?_
        exact V_lawret (pc := 1278) F XF dL_law_1278
    refine VT_peel (pc := 39) F (i := 19) (off := 1240) (19 : Int32) 1279 dL_law_39 (by decide) (by decide) (by decide) (by decide) ?_ ?_
    · refine V_aload_n (pc := 1279) F dL_law_1279 1 rfl ?_
      refine V_aload_n (pc := 1280) F dL_law_1280 0 rfl ?_
      refine V_iload (pc := 1281) F dL_law_1281 4 rfl ?_
      refine V_iconst (pc := 1283) F (x := (1 : Int32)) dL_law_1283 (by decide) ?_
      refine V_iadd (pc := 1284) F dL_law_1284 ?_
      intro z293
      refine V_sld (pc := 1285) F XF dL_law_1285 ?_
      intro z294
      refine V_aload_n (pc := 1286) F dL_law_1286 0 rfl ?_
      refine V_iload (pc := 1287) F dL_law_1287 4 rfl ?_
      refine V_iconst (pc := 1289) F (x := (2 : Int32)) dL_law_1289 (by decide) ?_
      refine V_iadd (pc := 1290) F dL_law_1290 ?_
      intro z295
      refine V_sld (pc := 1291) F XF dL_law_1291 ?_
      intro z296
      refine V_aload_n (pc := 1292) F dL_law_1292 3 rfl ?_
      refine V_cSW (pc := 1293) F (as := [vR x1, vI z294, vI z296, vR x3]) (C_L_ofReading x1 z294 z296 x3 h) w_L_ofReading g_st_L_ofReading g_ml_RL_168 (by decide) (rest := []) rfl rfl (Nat.le_of_ble_eq_true rfl) dL_law_1293 (k_I fun z297 h298 => ?_) (fun _ _ => VX_none)
      refine V_istore (pc := 1296) F [(5, vI z297), (0, vR (some 0)), (1, vR x1), (2, vR x2), (3, vR x3), (4, vI x4)] dL_law_1296 (lt_mx hm (by decide)) rfl ?_
      refine V_aload_n (pc := 1298) F dL_law_1298 3 rfl ?_
      refine V_aload_n (pc := 1299) F dL_law_1299 1 rfl ?_
      refine V_iload (pc := 1300) F dL_law_1300 5 rfl ?_
      refine V_iconst (pc := 1302) F (x := (1 : Int32)) dL_law_1302 (by decide) ?_
      refine V_iadd (pc := 1303) F dL_law_1303 ?_
      intro z299
      refine V_sld (pc := 1304) F XF dL_law_1304 ?_
      intro z300
      refine V_aload_n (pc := 1305) F dL_law_1305 1 rfl ?_
      refine V_iload (pc := 1306) F dL_law_1306 5 rfl ?_
      refine V_iconst (pc := 1308) F (x := (2 : Int32)) dL_law_1308 (by decide) ?_
      refine V_iadd (pc := 1309) F dL_law_1309 ?_
      intro z301
      refine V_sld (pc := 1310) F XF dL_law_1310 ?_
      intro z302
      refine V_cVM (pc := 1311) F 9 (by decide) (as := [vI z300, vI z302]) (C_X9_ofReading x2 z300 z302 h298) w_X9_ofReading g_in_X9_ofReading g_se_X9_ofReading g_ml_RL_170 (by decide) (rest := []) rfl rfl (Nat.le_of_ble_eq_true rfl) dL_law_1311 (k_I fun z303 h304 => ?_)
      refine V_istore (pc := 1314) F [(6, vI z303), (5, vI z297), (0, vR (some 0)), (1, vR x1), (2, vR x2), (3, vR x3), (4, vI x4)] dL_law_1314 (lt_mx hm (by decide)) rfl ?_
      refine V_aload_n (pc := 1316) F dL_law_1316 4 rfl ?_
      refine V_cVM (pc := 1317) F 9 (by decide) (as := []) (C_X9_thrown x2 h304) w_X9_thrown g_in_X9_thrown g_se_X9_thrown g_ml_RL_104 (by decide) (rest := []) rfl rfl (Nat.le_of_ble_eq_true rfl) dL_law_1317 (k_I fun z305 h306 => ?_)
      refine V_iload (pc := 1320) F dL_law_1320 1 rfl ?_
      refine V_icmp_eq (pc := 1322) F 1327 dL_law_1322 (by decide) ?_ ?_
      · refine V_iload (pc := 1327) F dL_law_1327 1 rfl ?_
        refine V_if_ne (pc := 1329) F 1344 dL_law_1329 (by decide) ?_ ?_
        · refine V_sub [2, 3, 4, 5, 6] (L' := [(0, vR (some 0)), (1, vR x1), (2, vR x2), (3, vR x3), (4, vI x4)]) rfl ?_
          exact vB_L_law_1344 F hm XF rc23 hrc23 x1 x2 x3 x4 h306
        · refine V_aload_n (pc := 1332) F dL_law_1332 5 rfl ?_
          refine V_iconst (pc := 1333) F (x := (0 : Int32)) dL_law_1333 (by decide) ?_
          refine V_lald (pc := 1334) F dL_law_1334 ?_
          intro z307
          refine V_iload (pc := 1335) F dL_law_1335 0 rfl ?_
          refine V_i2l (pc := 1337) F dL_law_1337 ?_
          intro z308
          refine V_lcmp (pc := 1338) F dL_law_1338 ?_
          intro z309
          refine V_if_eq (pc := 1339) F 1344 dL_law_1339 (by decide) ?_ ?_
          · refine V_sub [2, 3, 4, 5, 6] (L' := [(0, vR (some 0)), (1, vR x1), (2, vR x2), (3, vR x3), (4, vI x4)]) rfl ?_
            exact vB_L_law_1344 F hm XF rc23 hrc23 x1 x2 x3 x4 h306
          · refine V_iconst (pc := 1342) F (x := (0 : Int32)) dL_law_1342 (by decide) ?_
            exact V_lawret (pc := 1343) F XF dL_law_1343
      · refine V_iconst (pc := 1325) F (x := (0 : Int32)) dL_law_1325 (by decide) ?_
        exact V_lawret (pc := 1326) F XF dL_law_1326
    refine VT_peel (pc := 39) F (i := 20) (off := 1308) (20 : Int32) 1347 dL_law_39 (by decide) (by decide) (by decide) (by decide) ?_ ?_
    · refine V_aload_n (pc := 1347) F dL_law_1347 1 rfl ?_
      refine V_aload_n (pc := 1348) F dL_law_1348 0 rfl ?_
      refine V_iload (pc := 1349) F dL_law_1349 4 rfl ?_
      refine V_iconst (pc := 1351) F (x := (1 : Int32)) dL_law_1351 (by decide) ?_
      refine V_iadd (pc := 1352) F dL_law_1352 ?_
      intro z310
      refine V_sld (pc := 1353) F XF dL_law_1353 ?_
      intro z311
      refine V_aload_n (pc := 1354) F dL_law_1354 0 rfl ?_
      refine V_iload (pc := 1355) F dL_law_1355 4 rfl ?_
      refine V_iconst (pc := 1357) F (x := (2 : Int32)) dL_law_1357 (by decide) ?_
      refine V_iadd (pc := 1358) F dL_law_1358 ?_
      intro z312
      refine V_sld (pc := 1359) F XF dL_law_1359 ?_
      intro z313
      refine V_aload_n (pc := 1360) F dL_law_1360 0 rfl ?_
      refine V_iload (pc := 1361) F dL_law_1361 4 rfl ?_
      refine V_iconst (pc := 1363) F (x := (3 : Int32)) dL_law_1363 (by decide) ?_
      refine V_iadd (pc := 1364) F dL_law_1364 ?_
      intro z314
      refine V_sld (pc := 1365) F XF dL_law_1365 ?_
      intro z315
      refine V_aload_n (pc := 1366) F dL_law_1366 3 rfl ?_
      refine V_cSW (pc := 1367) F (as := [vR x1, vI z311, vI z313, vI z315, vR x3]) (C_L_mean x1 z311 z313 z315 x3 h) w_L_mean g_st_L_mean g_ml_RL_171 (by decide) (rest := []) rfl rfl (Nat.le_of_ble_eq_true rfl) dL_law_1367 (k_I fun z316 h317 => ?_) (fun _ _ => VX_none)
      refine V_istore (pc := 1370) F [(5, vI z316), (0, vR (some 0)), (1, vR x1), (2, vR x2), (3, vR x3), (4, vI x4)] dL_law_1370 (lt_mx hm (by decide)) rfl ?_
      refine V_aload_n (pc := 1372) F dL_law_1372 3 rfl ?_
      refine V_aload_n (pc := 1373) F dL_law_1373 1 rfl ?_
      refine V_iload (pc := 1374) F dL_law_1374 5 rfl ?_
      refine V_iconst (pc := 1376) F (x := (1 : Int32)) dL_law_1376 (by decide) ?_
      refine V_iadd (pc := 1377) F dL_law_1377 ?_
      intro z318
      refine V_sld (pc := 1378) F XF dL_law_1378 ?_
      intro z319
      refine V_aload_n (pc := 1379) F dL_law_1379 1 rfl ?_
      refine V_iload (pc := 1380) F dL_law_1380 5 rfl ?_
      refine V_iconst (pc := 1382) F (x := (2 : Int32)) dL_law_1382 (by decide) ?_
      refine V_iadd (pc := 1383) F dL_law_1383 ?_
      intro z320
      refine V_sld (pc := 1384) F XF dL_law_1384 ?_
      intro z321
      refine V_aload_n (pc := 1385) F dL_law_1385 1 rfl ?_
      refine V_iload (pc := 1386) F dL_law_1386 5 rfl ?_
      refine V_iconst (pc := 1388) F (x := (3 : Int32)) dL_law_1388 (by decide) ?_
      refine V_iadd (pc := 1389) F dL_law_1389 ?_
      intro z322
      refine V_sld (pc := 1390) F XF dL_law_1390 ?_
      intro z323
      refine V_cVM (pc := 1391) F 9 (by decide) (as := [vI z319, vI z321, vI z323]) (C_X9_mean x2 z319 z321 z323 h317) w_X9_mean g_in_X9_mean g_se_X9_mean g_ml_RL_173 (by decide) (rest := []) rfl rfl (Nat.le_of_ble_eq_true rfl) dL_law_1391 (k_I fun z324 h325 => ?_)
      refine V_istore (pc := 1394) F [(6, vI z324), (5, vI z316), (0, vR (some 0)), (1, vR x1), (2, vR x2), (3, vR x3), (4, vI x4)] dL_law_1394 (lt_mx hm (by decide)) rfl ?_
      refine V_aload_n (pc := 1396) F dL_law_1396 4 rfl ?_
      refine V_cVM (pc := 1397) F 9 (by decide) (as := []) (C_X9_thrown x2 h325) w_X9_thrown g_in_X9_thrown g_se_X9_thrown g_ml_RL_104 (by decide) (rest := []) rfl rfl (Nat.le_of_ble_eq_true rfl) dL_law_1397 (k_I fun z326 h327 => ?_)
      refine V_iload (pc := 1400) F dL_law_1400 1 rfl ?_
      refine V_icmp_eq (pc := 1402) F 1407 dL_law_1402 (by decide) ?_ ?_
      · refine V_iload (pc := 1407) F dL_law_1407 1 rfl ?_
        refine V_if_ne (pc := 1409) F 1424 dL_law_1409 (by decide) ?_ ?_
        · refine V_sub [2, 3, 4, 5, 6] (L' := [(0, vR (some 0)), (1, vR x1), (2, vR x2), (3, vR x3), (4, vI x4)]) rfl ?_
          exact vB_L_law_1424 F hm XF rc23 hrc23 x1 x2 x3 x4 h327
        · refine V_aload_n (pc := 1412) F dL_law_1412 5 rfl ?_
          refine V_iconst (pc := 1413) F (x := (0 : Int32)) dL_law_1413 (by decide) ?_
          refine V_lald (pc := 1414) F dL_law_1414 ?_
          intro z328
          refine V_iload (pc := 1415) F dL_law_1415 0 rfl ?_
          refine V_i2l (pc := 1417) F dL_law_1417 ?_
          intro z329
          refine V_lcmp (pc := 1418) F dL_law_1418 ?_
          intro z330
          refine V_if_eq (pc := 1419) F 1424 dL_law_1419 (by decide) ?_ ?_
          · refine V_sub [2, 3, 4, 5, 6] (L' := [(0, vR (some 0)), (1, vR x1), (2, vR x2), (3, vR x3), (4, vI x4)]) rfl ?_
            exact vB_L_law_1424 F hm XF rc23 hrc23 x1 x2 x3 x4 h327
          · refine V_iconst (pc := 1422) F (x := (0 : Int32)) dL_law_1422 (by decide) ?_
            exact V_lawret (pc := 1423) F XF dL_law_1423
      · refine V_iconst (pc := 1405) F (x := (0 : Int32)) dL_law_1405 (by decide) ?_
        exact V_lawret (pc := 1406) F XF dL_law_1406
    refine VT_peel (pc := 39) F (i := 21) (off := 1388) (21 : Int32) 1427 dL_law_39 (by decide) (by decide) (by decide) (by decide) ?_ ?_
    · refine V_aload_n (pc := 1427) F dL_law_1427 1 rfl ?_
      refine V_aload_n (pc := 1428) F dL_law_1428 0 rfl ?_
      refine V_iload (pc := 1429) F dL_law_1429 4 rfl ?_
      refine V_iconst (pc := 1431) F (x := (1 : Int32)) dL_law_1431 (by decide) ?_
      refine V_iadd (pc := 1432) F dL_law_1432 ?_
      intro z331
      refine V_sld (pc := 1433) F XF dL_law_1433 ?_
      intro z332
      refine V_aload_n (pc := 1434) F dL_law_1434 0 rfl ?_
      refine V_iload (pc := 1435) F dL_law_1435 4 rfl ?_
      refine V_iconst (pc := 1437) F (x := (2 : Int32)) dL_law_1437 (by decide) ?_
      refine V_iadd (pc := 1438) F dL_law_1438 ?_
      intro z333
      refine V_sld (pc := 1439) F XF dL_law_1439 ?_
      intro z334
      refine V_aload_n (pc := 1440) F dL_law_1440 0 rfl ?_
      refine V_iload (pc := 1441) F dL_law_1441 4 rfl ?_
      refine V_iconst (pc := 1443) F (x := (3 : Int32)) dL_law_1443 (by decide) ?_
      refine V_iadd (pc := 1444) F dL_law_1444 ?_
      intro z335
      refine V_sld (pc := 1445) F XF dL_law_1445 ?_
      intro z336
      refine V_aload_n (pc := 1446) F dL_law_1446 3 rfl ?_
      refine V_cSW (pc := 1447) F (as := [vR x1, vI z332, vI z334, vI z336, vR x3]) (C_L_error x1 z332 z334 z336 x3 h) w_L_error g_st_L_error g_ml_RL_174 (by decide) (rest := []) rfl rfl (Nat.le_of_ble_eq_true rfl) dL_law_1447 (k_I fun z337 h338 => ?_) (fun _ _ => VX_none)
      refine V_istore (pc := 1450) F [(5, vI z337), (0, vR (some 0)), (1, vR x1), (2, vR x2), (3, vR x3), (4, vI x4)] dL_law_1450 (lt_mx hm (by decide)) rfl ?_
      refine V_aload_n (pc := 1452) F dL_law_1452 3 rfl ?_
      refine V_aload_n (pc := 1453) F dL_law_1453 1 rfl ?_
      refine V_iload (pc := 1454) F dL_law_1454 5 rfl ?_
      refine V_iconst (pc := 1456) F (x := (1 : Int32)) dL_law_1456 (by decide) ?_
      refine V_iadd (pc := 1457) F dL_law_1457 ?_
      intro z339
      refine V_sld (pc := 1458) F XF dL_law_1458 ?_
      intro z340
      refine V_aload_n (pc := 1459) F dL_law_1459 1 rfl ?_
      refine V_iload (pc := 1460) F dL_law_1460 5 rfl ?_
      refine V_iconst (pc := 1462) F (x := (2 : Int32)) dL_law_1462 (by decide) ?_
      refine V_iadd (pc := 1463) F dL_law_1463 ?_
      intro z341
      refine V_sld (pc := 1464) F XF dL_law_1464 ?_
      intro z342
      refine V_aload_n (pc := 1465) F dL_law_1465 1 rfl ?_
      refine V_iload (pc := 1466) F dL_law_1466 5 rfl ?_
      refine V_iconst (pc := 1468) F (x := (3 : Int32)) dL_law_1468 (by decide) ?_
      refine V_iadd (pc := 1469) F dL_law_1469 ?_
      intro z343
      refine V_sld (pc := 1470) F XF dL_law_1470 ?_
      intro z344
      refine V_cVM (pc := 1471) F 9 (by decide) (as := [vI z340, vI z342, vI z344]) (C_X9_error x2 z340 z342 z344 h338) w_X9_error g_in_X9_error g_se_X9_error g_ml_RL_176 (by decide) (rest := []) rfl rfl (Nat.le_of_ble_eq_true rfl) dL_law_1471 (k_I fun z345 h346 => ?_)
      refine V_istore (pc := 1474) F [(6, vI z345), (5, vI z337), (0, vR (some 0)), (1, vR x1), (2, vR x2), (3, vR x3), (4, vI x4)] dL_law_1474 (lt_mx hm (by decide)) rfl ?_
      refine V_aload_n (pc := 1476) F dL_law_1476 4 rfl ?_
      refine V_cVM (pc := 1477) F 9 (by decide) (as := []) (C_X9_thrown x2 h346) w_X9_thrown g_in_X9_thrown g_se_X9_thrown g_ml_RL_104 (by decide) (rest := []) rfl rfl (Nat.le_of_ble_eq_true rfl) dL_law_1477 (k_I fun z347 h348 => ?_)
      refine V_iload (pc := 1480) F dL_law_1480 1 rfl ?_
      refine V_icmp_eq (pc := 1482) F 1487 dL_law_1482 (by decide) ?_ ?_
      · refine V_iload (pc := 1487) F dL_law_1487 1 rfl ?_
        refine V_if_ne (pc := 1489) F 1504 dL_law_1489 (by decide) ?_ ?_
        · refine V_sub [2, 3, 4, 5, 6] (L' := [(0, vR (some 0)), (1, vR x1), (2, vR x2), (3, vR x3), (4, vI x4)]) rfl ?_
          exact vB_L_law_1504 F hm XF rc23 hrc23 x1 x2 x3 x4 h348
        · refine V_aload_n (pc := 1492) F dL_law_1492 5 rfl ?_
          refine V_iconst (pc := 1493) F (x := (0 : Int32)) dL_law_1493 (by decide) ?_
          refine V_lald (pc := 1494) F dL_law_1494 ?_
          intro z349
          refine V_iload (pc := 1495) F dL_law_1495 0 rfl ?_
          refine V_i2l (pc := 1497) F dL_law_1497 ?_
          intro z350
          refine V_lcmp (pc := 1498) F dL_law_1498 ?_
          intro z351
          refine V_if_eq (pc := 1499) F 1504 dL_law_1499 (by decide) ?_ ?_
          · refine V_sub [2, 3, 4, 5, 6] (L' := [(0, vR (some 0)), (1, vR x1), (2, vR x2), (3, vR x3), (4, vI x4)]) rfl ?_
            exact vB_L_law_1504 F hm XF rc23 hrc23 x1 x2 x3 x4 h348
          · refine V_iconst (pc := 1502) F (x := (0 : Int32)) dL_law_1502 (by decide) ?_
            exact V_lawret (pc := 1503) F XF dL_law_1503
      · refine V_iconst (pc := 1485) F (x := (0 : Int32)) dL_law_1485 (by decide) ?_
        exact V_lawret (pc := 1486) F XF dL_law_1486
    refine VT_peel (pc := 39) F (i := 22) (off := 1468) (22 : Int32) 1507 dL_law_39 (by decide) (by decide) (by decide) (by decide) ?_ ?_
    · refine V_aload_n (pc := 1507) F dL_law_1507 1 rfl ?_
      refine V_aload_n (pc := 1508) F dL_law_1508 0 rfl ?_
      refine V_iload (pc := 1509) F dL_law_1509 4 rfl ?_
      refine V_iconst (pc := 1511) F (x := (1 : Int32)) dL_law_1511 (by decide) ?_
      refine V_iadd (pc := 1512) F dL_law_1512 ?_
      intro z352
      refine V_sld (pc := 1513) F XF dL_law_1513 ?_
      intro z353
      refine V_aload_n (pc := 1514) F dL_law_1514 0 rfl ?_
      refine V_iload (pc := 1515) F dL_law_1515 4 rfl ?_
      refine V_iconst (pc := 1517) F (x := (2 : Int32)) dL_law_1517 (by decide) ?_
      refine V_iadd (pc := 1518) F dL_law_1518 ?_
      intro z354
      refine V_sld (pc := 1519) F XF dL_law_1519 ?_
      intro z355
      refine V_aload_n (pc := 1520) F dL_law_1520 3 rfl ?_
      refine V_cSW (pc := 1521) F (as := [vR x1, vI z353, vI z355, vR x3]) (C_L_residual x1 z353 z355 x3 h) w_L_residual g_st_L_residual g_ml_RL_177 (by decide) (rest := []) rfl rfl (Nat.le_of_ble_eq_true rfl) dL_law_1521 (k_I fun z356 h357 => ?_) (fun _ _ => VX_none)
      refine V_istore (pc := 1524) F [(5, vI z356), (0, vR (some 0)), (1, vR x1), (2, vR x2), (3, vR x3), (4, vI x4)] dL_law_1524 (lt_mx hm (by decide)) rfl ?_
      refine V_aload_n (pc := 1526) F dL_law_1526 3 rfl ?_
      refine V_aload_n (pc := 1527) F dL_law_1527 1 rfl ?_
      refine V_iload (pc := 1528) F dL_law_1528 5 rfl ?_
      refine V_iconst (pc := 1530) F (x := (1 : Int32)) dL_law_1530 (by decide) ?_
      refine V_iadd (pc := 1531) F dL_law_1531 ?_
      intro z358
      refine V_sld (pc := 1532) F XF dL_law_1532 ?_
      intro z359
      refine V_aload_n (pc := 1533) F dL_law_1533 1 rfl ?_
      refine V_iload (pc := 1534) F dL_law_1534 5 rfl ?_
      refine V_iconst (pc := 1536) F (x := (2 : Int32)) dL_law_1536 (by decide) ?_
      refine V_iadd (pc := 1537) F dL_law_1537 ?_
      intro z360
      refine V_sld (pc := 1538) F XF dL_law_1538 ?_
      intro z361
      refine V_cVM (pc := 1539) F 9 (by decide) (as := [vI z359, vI z361]) (C_X9_residual x2 z359 z361 h357) w_X9_residual g_in_X9_residual g_se_X9_residual g_ml_RL_179 (by decide) (rest := []) rfl rfl (Nat.le_of_ble_eq_true rfl) dL_law_1539 (k_I fun z362 h363 => ?_)
      refine V_istore (pc := 1542) F [(6, vI z362), (5, vI z356), (0, vR (some 0)), (1, vR x1), (2, vR x2), (3, vR x3), (4, vI x4)] dL_law_1542 (lt_mx hm (by decide)) rfl ?_
      refine V_aload_n (pc := 1544) F dL_law_1544 4 rfl ?_
      refine V_cVM (pc := 1545) F 9 (by decide) (as := []) (C_X9_thrown x2 h363) w_X9_thrown g_in_X9_thrown g_se_X9_thrown g_ml_RL_104 (by decide) (rest := []) rfl rfl (Nat.le_of_ble_eq_true rfl) dL_law_1545 (k_I fun z364 h365 => ?_)
      refine V_iload (pc := 1548) F dL_law_1548 1 rfl ?_
      refine V_icmp_eq (pc := 1550) F 1555 dL_law_1550 (by decide) ?_ ?_
      · refine V_iload (pc := 1555) F dL_law_1555 1 rfl ?_
        refine V_if_ne (pc := 1557) F 1572 dL_law_1557 (by decide) ?_ ?_
        · refine V_sub [2, 3, 4, 5, 6] (L' := [(0, vR (some 0)), (1, vR x1), (2, vR x2), (3, vR x3), (4, vI x4)]) rfl ?_
          exact vB_L_law_1572 F hm XF rc23 hrc23 x1 x2 x3 x4 h365
        · refine V_aload_n (pc := 1560) F dL_law_1560 5 rfl ?_
          refine V_iconst (pc := 1561) F (x := (0 : Int32)) dL_law_1561 (by decide) ?_
          refine V_lald (pc := 1562) F dL_law_1562 ?_
          intro z366
          refine V_iload (pc := 1563) F dL_law_1563 0 rfl ?_
          refine V_i2l (pc := 1565) F dL_law_1565 ?_
          intro z367
          refine V_lcmp (pc := 1566) F dL_law_1566 ?_
          intro z368
          refine V_if_eq (pc := 1567) F 1572 dL_law_1567 (by decide) ?_ ?_
          · refine V_sub [2, 3, 4, 5, 6] (L' := [(0, vR (some 0)), (1, vR x1), (2, vR x2), (3, vR x3), (4, vI x4)]) rfl ?_
            exact vB_L_law_1572 F hm XF rc23 hrc23 x1 x2 x3 x4 h365
          · refine V_iconst (pc := 1570) F (x := (0 : Int32)) dL_law_1570 (by decide) ?_
            exact V_lawret (pc := 1571) F XF dL_law_1571
      · refine V_iconst (pc := 1553) F (x := (0 : Int32)) dL_law_1553 (by decide) ?_
        exact V_lawret (pc := 1554) F XF dL_law_1554
    refine VT_peel (pc := 39) F (i := 23) (off := 1536) (23 : Int32) 1575 dL_law_39 (by decide) (by decide) (by decide) (by decide) ?_ ?_
    · refine V_aload_n (pc := 1575) F dL_law_1575 1 rfl ?_
      refine V_aload_n (pc := 1576) F dL_law_1576 0 rfl ?_
      refine V_iload (pc := 1577) F dL_law_1577 4 rfl ?_
      refine V_iconst (pc := 1579) F (x := (1 : Int32)) dL_law_1579 (by decide) ?_
      refine V_iadd (pc := 1580) F dL_law_1580 ?_
      intro z369
      refine V_sld (pc := 1581) F XF dL_law_1581 ?_
      intro z370
      refine V_aload_n (pc := 1582) F dL_law_1582 0 rfl ?_
      refine V_iload (pc := 1583) F dL_law_1583 4 rfl ?_
      refine V_iconst (pc := 1585) F (x := (2 : Int32)) dL_law_1585 (by decide) ?_
      refine V_iadd (pc := 1586) F dL_law_1586 ?_
      intro z371
      refine V_sld (pc := 1587) F XF dL_law_1587 ?_
      intro z372
      refine V_aload_n (pc := 1588) F dL_law_1588 3 rfl ?_
      refine V_cSW (pc := 1589) F (as := [vR x1, vI z370, vI z372, vR x3]) (C_L_chance x1 z370 z372 x3 h) w_L_chance g_st_L_chance g_ml_RL_180 (by decide) (rest := []) rfl rfl (Nat.le_of_ble_eq_true rfl) dL_law_1589 (k_I fun z373 h374 => ?_) (fun _ _ => VX_none)
      refine V_istore (pc := 1592) F [(5, vI z373), (0, vR (some 0)), (1, vR x1), (2, vR x2), (3, vR x3), (4, vI x4)] dL_law_1592 (lt_mx hm (by decide)) rfl ?_
      refine V_aload_n (pc := 1594) F dL_law_1594 3 rfl ?_
      refine V_aload_n (pc := 1595) F dL_law_1595 1 rfl ?_
      refine V_iload (pc := 1596) F dL_law_1596 5 rfl ?_
      refine V_iconst (pc := 1598) F (x := (1 : Int32)) dL_law_1598 (by decide) ?_
      refine V_iadd (pc := 1599) F dL_law_1599 ?_
      intro z375
      refine V_sld (pc := 1600) F XF dL_law_1600 ?_
      intro z376
      refine V_aload_n (pc := 1601) F dL_law_1601 1 rfl ?_
      refine V_iload (pc := 1602) F dL_law_1602 5 rfl ?_
      refine V_iconst (pc := 1604) F (x := (2 : Int32)) dL_law_1604 (by decide) ?_
      refine V_iadd (pc := 1605) F dL_law_1605 ?_
      intro z377
      refine V_sld (pc := 1606) F XF dL_law_1606 ?_
      intro z378
      refine V_cVM (pc := 1607) F 9 (by decide) (as := [vI z376, vI z378]) (C_X9_chance x2 z376 z378 h374) w_X9_chance g_in_X9_chance g_se_X9_chance g_ml_RL_182 (by decide) (rest := []) rfl rfl (Nat.le_of_ble_eq_true rfl) dL_law_1607 (k_I fun z379 h380 => ?_)
      refine V_istore (pc := 1610) F [(6, vI z379), (5, vI z373), (0, vR (some 0)), (1, vR x1), (2, vR x2), (3, vR x3), (4, vI x4)] dL_law_1610 (lt_mx hm (by decide)) rfl ?_
      refine V_aload_n (pc := 1612) F dL_law_1612 4 rfl ?_
      refine V_cVM (pc := 1613) F 9 (by decide) (as := []) (C_X9_thrown x2 h380) w_X9_thrown g_in_X9_thrown g_se_X9_thrown g_ml_RL_104 (by decide) (rest := []) rfl rfl (Nat.le_of_ble_eq_true rfl) dL_law_1613 (k_I fun z381 h382 => ?_)
      refine V_iload (pc := 1616) F dL_law_1616 1 rfl ?_
      refine V_icmp_eq (pc := 1618) F 1623 dL_law_1618 (by decide) ?_ ?_
      · refine V_iload (pc := 1623) F dL_law_1623 1 rfl ?_
        refine V_if_ne (pc := 1625) F 1640 dL_law_1625 (by decide) ?_ ?_
        · refine V_sub [2, 3, 4, 5, 6] (L' := [(0, vR (some 0)), (1, vR x1), (2, vR x2), (3, vR x3), (4, vI x4)]) rfl ?_
          exact vB_L_law_1640 F hm XF rc23 hrc23 x1 x2 x3 x4 h382
        · refine V_aload_n (pc := 1628) F dL_law_1628 5 rfl ?_
          refine V_iconst (pc := 1629) F (x := (0 : Int32)) dL_law_1629 (by decide) ?_
          refine V_lald (pc := 1630) F dL_law_1630 ?_
          intro z383
          refine V_iload (pc := 1631) F dL_law_1631 0 rfl ?_
          refine V_i2l (pc := 1633) F dL_law_1633 ?_
          intro z384
          refine V_lcmp (pc := 1634) F dL_law_1634 ?_
          intro z385
          refine V_if_eq (pc := 1635) F 1640 dL_law_1635 (by decide) ?_ ?_
          · refine V_sub [2, 3, 4, 5, 6] (L' := [(0, vR (some 0)), (1, vR x1), (2, vR x2), (3, vR x3), (4, vI x4)]) rfl ?_
            exact vB_L_law_1640 F hm XF rc23 hrc23 x1 x2 x3 x4 h382
          · refine V_iconst (pc := 1638) F (x := (0 : Int32)) dL_law_1638 (by decide) ?_
            exact V_lawret (pc := 1639) F XF dL_law_1639
      · refine V_iconst (pc := 1621) F (x := (0 : Int32)) dL_law_1621 (by decide) ?_
        exact V_lawret (pc := 1622) F XF dL_law_1622
    refine VT_peel (pc := 39) F (i := 24) (off := 1604) (24 : Int32) 1643 dL_law_39 (by decide) (by decide) (by decide) (by decide) ?_ ?_
    · refine V_aload_n (pc := 1643) F dL_law_1643 1 rfl ?_
      refine V_aload_n (pc := 1644) F dL_law_1644 0 rfl ?_
      refine V_iload (pc := 1645) F dL_law_1645 4 rfl ?_
      refine V_iconst (pc := 1647) F (x := (1 : Int32)) dL_law_1647 (by decide) ?_
      refine V_iadd (pc := 1648) F dL_law_1648 ?_
      intro z386
      refine V_sld (pc := 1649) F XF dL_law_1649 ?_
      intro z387
      refine V_aload_n (pc := 1650) F dL_law_1650 3 rfl ?_
      refine V_cSW (pc := 1651) F (as := [vR x1, vI z387, vR x3]) (C_L_best x1 z387 x3 h) w_L_best g_st_L_best g_ml_RL_183 (by decide) (rest := []) rfl rfl (Nat.le_of_ble_eq_true rfl) dL_law_1651 (k_I fun z388 h389 => ?_) (fun _ _ => VX_none)
      refine V_istore (pc := 1654) F [(5, vI z388), (0, vR (some 0)), (1, vR x1), (2, vR x2), (3, vR x3), (4, vI x4)] dL_law_1654 (lt_mx hm (by decide)) rfl ?_
      refine V_aload_n (pc := 1656) F dL_law_1656 3 rfl ?_
      refine V_aload_n (pc := 1657) F dL_law_1657 1 rfl ?_
      refine V_iload (pc := 1658) F dL_law_1658 5 rfl ?_
      refine V_iconst (pc := 1660) F (x := (1 : Int32)) dL_law_1660 (by decide) ?_
      refine V_iadd (pc := 1661) F dL_law_1661 ?_
      intro z390
      refine V_sld (pc := 1662) F XF dL_law_1662 ?_
      intro z391
      refine V_cVM (pc := 1663) F 9 (by decide) (as := [vI z391]) (C_X9_best x2 z391 h389) w_X9_best g_in_X9_best g_se_X9_best g_ml_RL_185 (by decide) (rest := []) rfl rfl (Nat.le_of_ble_eq_true rfl) dL_law_1663 (k_I fun z392 h393 => ?_)
      refine V_istore (pc := 1666) F [(6, vI z392), (5, vI z388), (0, vR (some 0)), (1, vR x1), (2, vR x2), (3, vR x3), (4, vI x4)] dL_law_1666 (lt_mx hm (by decide)) rfl ?_
      refine V_aload_n (pc := 1668) F dL_law_1668 4 rfl ?_
      refine V_cVM (pc := 1669) F 9 (by decide) (as := []) (C_X9_thrown x2 h393) w_X9_thrown g_in_X9_thrown g_se_X9_thrown g_ml_RL_104 (by decide) (rest := []) rfl rfl (Nat.le_of_ble_eq_true rfl) dL_law_1669 (k_I fun z394 h395 => ?_)
      refine V_iload (pc := 1672) F dL_law_1672 1 rfl ?_
      refine V_icmp_eq (pc := 1674) F 1679 dL_law_1674 (by decide) ?_ ?_
      · refine V_iload (pc := 1679) F dL_law_1679 1 rfl ?_
        refine V_if_ne (pc := 1681) F 1696 dL_law_1681 (by decide) ?_ ?_
        · refine V_sub [2, 3, 4, 5, 6] (L' := [(0, vR (some 0)), (1, vR x1), (2, vR x2), (3, vR x3), (4, vI x4)]) rfl ?_
          exact vB_L_law_1696 F hm XF rc23 hrc23 x1 x2 x3 x4 h395
        · refine V_aload_n (pc := 1684) F dL_law_1684 5 rfl ?_
          refine V_iconst (pc := 1685) F (x := (0 : Int32)) dL_law_1685 (by decide) ?_
          refine V_lald (pc := 1686) F dL_law_1686 ?_
          intro z396
          refine V_iload (pc := 1687) F dL_law_1687 0 rfl ?_
          refine V_i2l (pc := 1689) F dL_law_1689 ?_
          intro z397
          refine V_lcmp (pc := 1690) F dL_law_1690 ?_
          intro z398
          refine V_if_eq (pc := 1691) F 1696 dL_law_1691 (by decide) ?_ ?_
          · refine V_sub [2, 3, 4, 5, 6] (L' := [(0, vR (some 0)), (1, vR x1), (2, vR x2), (3, vR x3), (4, vI x4)]) rfl ?_
            exact vB_L_law_1696 F hm XF rc23 hrc23 x1 x2 x3 x4 h395
          · refine V_iconst (pc := 1694) F (x := (0 : Int32)) dL_law_1694 (by decide) ?_
            exact V_lawret (pc := 1695) F XF dL_law_1695
      · refine V_iconst (pc := 1677) F (x := (0 : Int32)) dL_law_1677 (by decide) ?_
        exact V_lawret (pc := 1678) F XF dL_law_1678
    refine VT_peel (pc := 39) F (i := 25) (off := 1660) (25 : Int32) 1699 dL_law_39 (by decide) (by decide) (by decide) (by decide) ?_ ?_
    · refine V_aload_n (pc := 1699) F dL_law_1699 1 rfl ?_
      refine V_aload_n (pc := 1700) F dL_law_1700 0 rfl ?_
      refine V_iload (pc := 1701) F dL_law_1701 4 rfl ?_
      refine V_iconst (pc := 1703) F (x := (1 : Int32)) dL_law_1703 (by decide) ?_
      refine V_iadd (pc := 1704) F dL_law_1704 ?_
      intro z399
      refine V_sld (pc := 1705) F XF dL_law_1705 ?_
      intro z400
      refine V_aload_n (pc := 1706) F dL_law_1706 0 rfl ?_
      refine V_iload (pc := 1707) F dL_law_1707 4 rfl ?_
      refine V_iconst (pc := 1709) F (x := (2 : Int32)) dL_law_1709 (by decide) ?_
      refine V_iadd (pc := 1710) F dL_law_1710 ?_
      intro z401
      refine V_sld (pc := 1711) F XF dL_law_1711 ?_
      intro z402
      refine V_aload_n (pc := 1712) F dL_law_1712 0 rfl ?_
      refine V_iload (pc := 1713) F dL_law_1713 4 rfl ?_
      refine V_iconst (pc := 1715) F (x := (3 : Int32)) dL_law_1715 (by decide) ?_
      refine V_iadd (pc := 1716) F dL_law_1716 ?_
      intro z403
      refine V_sld (pc := 1717) F XF dL_law_1717 ?_
      intro z404
      refine V_aload_n (pc := 1718) F dL_law_1718 3 rfl ?_
      refine V_cSW (pc := 1719) F (as := [vR x1, vI z400, vI z402, vI z404, vR x3]) (C_L_plan x1 z400 z402 z404 x3 h) w_L_plan g_st_L_plan g_ml_RL_186 (by decide) (rest := []) rfl rfl (Nat.le_of_ble_eq_true rfl) dL_law_1719 (k_I fun z405 h406 => ?_) (fun _ _ => VX_none)
      refine V_istore (pc := 1722) F [(5, vI z405), (0, vR (some 0)), (1, vR x1), (2, vR x2), (3, vR x3), (4, vI x4)] dL_law_1722 (lt_mx hm (by decide)) rfl ?_
      refine V_aload_n (pc := 1724) F dL_law_1724 3 rfl ?_
      refine V_aload_n (pc := 1725) F dL_law_1725 1 rfl ?_
      refine V_iload (pc := 1726) F dL_law_1726 5 rfl ?_
      refine V_iconst (pc := 1728) F (x := (1 : Int32)) dL_law_1728 (by decide) ?_
      refine V_iadd (pc := 1729) F dL_law_1729 ?_
      intro z407
      refine V_sld (pc := 1730) F XF dL_law_1730 ?_
      intro z408
      refine V_aload_n (pc := 1731) F dL_law_1731 1 rfl ?_
      refine V_iload (pc := 1732) F dL_law_1732 5 rfl ?_
      refine V_iconst (pc := 1734) F (x := (2 : Int32)) dL_law_1734 (by decide) ?_
      refine V_iadd (pc := 1735) F dL_law_1735 ?_
      intro z409
      refine V_sld (pc := 1736) F XF dL_law_1736 ?_
      intro z410
      refine V_aload_n (pc := 1737) F dL_law_1737 1 rfl ?_
      refine V_iload (pc := 1738) F dL_law_1738 5 rfl ?_
      refine V_iconst (pc := 1740) F (x := (3 : Int32)) dL_law_1740 (by decide) ?_
      refine V_iadd (pc := 1741) F dL_law_1741 ?_
      intro z411
      refine V_sld (pc := 1742) F XF dL_law_1742 ?_
      intro z412
      refine V_cVM (pc := 1743) F 9 (by decide) (as := [vI z408, vI z410, vI z412]) (C_X9_plan x2 z408 z410 z412 h406) w_X9_plan g_in_X9_plan g_se_X9_plan g_ml_RL_188 (by decide) (rest := []) rfl rfl (Nat.le_of_ble_eq_true rfl) dL_law_1743 (k_I fun z413 h414 => ?_)
      refine V_istore (pc := 1746) F [(6, vI z413), (5, vI z405), (0, vR (some 0)), (1, vR x1), (2, vR x2), (3, vR x3), (4, vI x4)] dL_law_1746 (lt_mx hm (by decide)) rfl ?_
      refine V_aload_n (pc := 1748) F dL_law_1748 4 rfl ?_
      refine V_cVM (pc := 1749) F 9 (by decide) (as := []) (C_X9_thrown x2 h414) w_X9_thrown g_in_X9_thrown g_se_X9_thrown g_ml_RL_104 (by decide) (rest := []) rfl rfl (Nat.le_of_ble_eq_true rfl) dL_law_1749 (k_I fun z415 h416 => ?_)
      refine V_iload (pc := 1752) F dL_law_1752 1 rfl ?_
      refine V_icmp_eq (pc := 1754) F 1759 dL_law_1754 (by decide) ?_ ?_
      · refine V_iload (pc := 1759) F dL_law_1759 1 rfl ?_
        refine V_if_ne (pc := 1761) F 1776 dL_law_1761 (by decide) ?_ ?_
        · refine V_sub [2, 3, 4, 5, 6] (L' := [(0, vR (some 0)), (1, vR x1), (2, vR x2), (3, vR x3), (4, vI x4)]) rfl ?_
          exact vB_L_law_1776 F hm XF rc23 hrc23 x1 x2 x3 x4 h416
        · refine V_aload_n (pc := 1764) F dL_law_1764 5 rfl ?_
          refine V_iconst (pc := 1765) F (x := (0 : Int32)) dL_law_1765 (by decide) ?_
          refine V_lald (pc := 1766) F dL_law_1766 ?_
          intro z417
          refine V_iload (pc := 1767) F dL_law_1767 0 rfl ?_
          refine V_i2l (pc := 1769) F dL_law_1769 ?_
          intro z418
          refine V_lcmp (pc := 1770) F dL_law_1770 ?_
          intro z419
          refine V_if_eq (pc := 1771) F 1776 dL_law_1771 (by decide) ?_ ?_
          · refine V_sub [2, 3, 4, 5, 6] (L' := [(0, vR (some 0)), (1, vR x1), (2, vR x2), (3, vR x3), (4, vI x4)]) rfl ?_
            exact vB_L_law_1776 F hm XF rc23 hrc23 x1 x2 x3 x4 h416
          · refine V_iconst (pc := 1774) F (x := (0 : Int32)) dL_law_1774 (by decide) ?_
            exact V_lawret (pc := 1775) F XF dL_law_1775
      · refine V_iconst (pc := 1757) F (x := (0 : Int32)) dL_law_1757 (by decide) ?_
        exact V_lawret (pc := 1758) F XF dL_law_1758
    refine VT_peel (pc := 39) F (i := 26) (off := 1740) (26 : Int32) 1779 dL_law_39 (by decide) (by decide) (by decide) (by decide) ?_ ?_
    · refine V_aload_n (pc := 1779) F dL_law_1779 1 rfl ?_
      refine V_aload_n (pc := 1780) F dL_law_1780 0 rfl ?_
      refine V_iload (pc := 1781) F dL_law_1781 4 rfl ?_
      refine V_iconst (pc := 1783) F (x := (1 : Int32)) dL_law_1783 (by decide) ?_
      refine V_iadd (pc := 1784) F dL_law_1784 ?_
      intro z420
      refine V_sld (pc := 1785) F XF dL_law_1785 ?_
      intro z421
      refine V_aload_n (pc := 1786) F dL_law_1786 3 rfl ?_
      refine V_cSW (pc := 1787) F (as := [vR x1, vI z421, vR x3]) (C_L_tide x1 z421 x3 h) w_L_tide g_st_L_tide g_ml_RL_189 (by decide) (rest := []) rfl rfl (Nat.le_of_ble_eq_true rfl) dL_law_1787 (k_I fun z422 h423 => ?_) (fun _ _ => VX_none)
      refine V_istore (pc := 1790) F [(5, vI z422), (0, vR (some 0)), (1, vR x1), (2, vR x2), (3, vR x3), (4, vI x4)] dL_law_1790 (lt_mx hm (by decide)) rfl ?_
      refine V_aload_n (pc := 1792) F dL_law_1792 3 rfl ?_
      refine V_aload_n (pc := 1793) F dL_law_1793 1 rfl ?_
      refine V_iload (pc := 1794) F dL_law_1794 5 rfl ?_
      refine V_iconst (pc := 1796) F (x := (1 : Int32)) dL_law_1796 (by decide) ?_
      refine V_iadd (pc := 1797) F dL_law_1797 ?_
      intro z424
      refine V_sld (pc := 1798) F XF dL_law_1798 ?_
      intro z425
      refine V_cVM (pc := 1799) F 9 (by decide) (as := [vI z425]) (C_X9_tide x2 z425 h423) w_X9_tide g_in_X9_tide g_se_X9_tide g_ml_RL_191 (by decide) (rest := []) rfl rfl (Nat.le_of_ble_eq_true rfl) dL_law_1799 (k_I fun z426 h427 => ?_)
      refine V_istore (pc := 1802) F [(6, vI z426), (5, vI z422), (0, vR (some 0)), (1, vR x1), (2, vR x2), (3, vR x3), (4, vI x4)] dL_law_1802 (lt_mx hm (by decide)) rfl ?_
      refine V_aload_n (pc := 1804) F dL_law_1804 4 rfl ?_
      refine V_cVM (pc := 1805) F 9 (by decide) (as := []) (C_X9_thrown x2 h427) w_X9_thrown g_in_X9_thrown g_se_X9_thrown g_ml_RL_104 (by decide) (rest := []) rfl rfl (Nat.le_of_ble_eq_true rfl) dL_law_1805 (k_I fun z428 h429 => ?_)
      refine V_iload (pc := 1808) F dL_law_1808 1 rfl ?_
      refine V_icmp_eq (pc := 1810) F 1815 dL_law_1810 (by decide) ?_ ?_
      · refine V_iload (pc := 1815) F dL_law_1815 1 rfl ?_
        refine V_if_ne (pc := 1817) F 1832 dL_law_1817 (by decide) ?_ ?_
        · refine V_sub [2, 3, 4, 5, 6] (L' := [(0, vR (some 0)), (1, vR x1), (2, vR x2), (3, vR x3), (4, vI x4)]) rfl ?_
          exact vB_L_law_1832 F hm XF rc23 hrc23 x1 x2 x3 x4 h429
        · refine V_aload_n (pc := 1820) F dL_law_1820 5 rfl ?_
          refine V_iconst (pc := 1821) F (x := (0 : Int32)) dL_law_1821 (by decide) ?_
          refine V_lald (pc := 1822) F dL_law_1822 ?_
          intro z430
          refine V_iload (pc := 1823) F dL_law_1823 0 rfl ?_
          refine V_i2l (pc := 1825) F dL_law_1825 ?_
          intro z431
          refine V_lcmp (pc := 1826) F dL_law_1826 ?_
          intro z432
          refine V_if_eq (pc := 1827) F 1832 dL_law_1827 (by decide) ?_ ?_
          · refine V_sub [2, 3, 4, 5, 6] (L' := [(0, vR (some 0)), (1, vR x1), (2, vR x2), (3, vR x3), (4, vI x4)]) rfl ?_
            exact vB_L_law_1832 F hm XF rc23 hrc23 x1 x2 x3 x4 h429
          · refine V_iconst (pc := 1830) F (x := (0 : Int32)) dL_law_1830 (by decide) ?_
            exact V_lawret (pc := 1831) F XF dL_law_1831
      · refine V_iconst (pc := 1813) F (x := (0 : Int32)) dL_law_1813 (by decide) ?_
        exact V_lawret (pc := 1814) F XF dL_law_1814
    refine VT_peel (pc := 39) F (i := 27) (off := 1796) (27 : Int32) 1835 dL_law_39 (by decide) (by decide) (by decide) (by decide) ?_ ?_
    · refine V_aload_n (pc := 1835) F dL_law_1835 1 rfl ?_
      refine V_aload_n (pc := 1836) F dL_law_1836 0 rfl ?_
      refine V_iload (pc := 1837) F dL_law_1837 4 rfl ?_
      refine V_iconst (pc := 1839) F (x := (1 : Int32)) dL_law_1839 (by decide) ?_
      refine V_iadd (pc := 1840) F dL_law_1840 ?_
      intro z433
      refine V_sld (pc := 1841) F XF dL_law_1841 ?_
      intro z434
      refine V_aload_n (pc := 1842) F dL_law_1842 0 rfl ?_
      refine V_iload (pc := 1843) F dL_law_1843 4 rfl ?_
      refine V_iconst (pc := 1845) F (x := (2 : Int32)) dL_law_1845 (by decide) ?_
      refine V_iadd (pc := 1846) F dL_law_1846 ?_
      intro z435
      refine V_sld (pc := 1847) F XF dL_law_1847 ?_
      intro z436
      refine V_aload_n (pc := 1848) F dL_law_1848 3 rfl ?_
      refine V_cSW (pc := 1849) F (as := [vR x1, vI z434, vI z436, vR x3]) (C_L_highest x1 z434 z436 x3 h) w_L_highest g_st_L_highest g_ml_RL_192 (by decide) (rest := []) rfl rfl (Nat.le_of_ble_eq_true rfl) dL_law_1849 (k_I fun z437 h438 => ?_) (fun _ _ => VX_none)
      refine V_istore (pc := 1852) F [(5, vI z437), (0, vR (some 0)), (1, vR x1), (2, vR x2), (3, vR x3), (4, vI x4)] dL_law_1852 (lt_mx hm (by decide)) rfl ?_
      refine V_aload_n (pc := 1854) F dL_law_1854 3 rfl ?_
      refine V_aload_n (pc := 1855) F dL_law_1855 1 rfl ?_
      refine V_iload (pc := 1856) F dL_law_1856 5 rfl ?_
      refine V_iconst (pc := 1858) F (x := (1 : Int32)) dL_law_1858 (by decide) ?_
      refine V_iadd (pc := 1859) F dL_law_1859 ?_
      intro z439
      refine V_sld (pc := 1860) F XF dL_law_1860 ?_
      intro z440
      refine V_aload_n (pc := 1861) F dL_law_1861 1 rfl ?_
      refine V_iload (pc := 1862) F dL_law_1862 5 rfl ?_
      refine V_iconst (pc := 1864) F (x := (2 : Int32)) dL_law_1864 (by decide) ?_
      refine V_iadd (pc := 1865) F dL_law_1865 ?_
      intro z441
      refine V_sld (pc := 1866) F XF dL_law_1866 ?_
      intro z442
      refine V_cVM (pc := 1867) F 9 (by decide) (as := [vI z440, vI z442]) (C_X9_highest x2 z440 z442 h438) w_X9_highest g_in_X9_highest g_se_X9_highest g_ml_RL_194 (by decide) (rest := []) rfl rfl (Nat.le_of_ble_eq_true rfl) dL_law_1867 (k_I fun z443 h444 => ?_)
      refine V_istore (pc := 1870) F [(6, vI z443), (5, vI z437), (0, vR (some 0)), (1, vR x1), (2, vR x2), (3, vR x3), (4, vI x4)] dL_law_1870 (lt_mx hm (by decide)) rfl ?_
      refine V_aload_n (pc := 1872) F dL_law_1872 4 rfl ?_
      refine V_cVM (pc := 1873) F 9 (by decide) (as := []) (C_X9_thrown x2 h444) w_X9_thrown g_in_X9_thrown g_se_X9_thrown g_ml_RL_104 (by decide) (rest := []) rfl rfl (Nat.le_of_ble_eq_true rfl) dL_law_1873 (k_I fun z445 h446 => ?_)
      refine V_iload (pc := 1876) F dL_law_1876 1 rfl ?_
      refine V_icmp_eq (pc := 1878) F 1883 dL_law_1878 (by decide) ?_ ?_
      · refine V_iload (pc := 1883) F dL_law_1883 1 rfl ?_
        refine V_if_ne (pc := 1885) F 1900 dL_law_1885 (by decide) ?_ ?_
        · refine V_sub [2, 3, 4, 5, 6] (L' := [(0, vR (some 0)), (1, vR x1), (2, vR x2), (3, vR x3), (4, vI x4)]) rfl ?_
          exact vB_L_law_1900 F hm XF rc23 hrc23 x1 x2 x3 x4 h446
        · refine V_aload_n (pc := 1888) F dL_law_1888 5 rfl ?_
          refine V_iconst (pc := 1889) F (x := (0 : Int32)) dL_law_1889 (by decide) ?_
          refine V_lald (pc := 1890) F dL_law_1890 ?_
          intro z447
          refine V_iload (pc := 1891) F dL_law_1891 0 rfl ?_
          refine V_i2l (pc := 1893) F dL_law_1893 ?_
          intro z448
          refine V_lcmp (pc := 1894) F dL_law_1894 ?_
          intro z449
          refine V_if_eq (pc := 1895) F 1900 dL_law_1895 (by decide) ?_ ?_
          · refine V_sub [2, 3, 4, 5, 6] (L' := [(0, vR (some 0)), (1, vR x1), (2, vR x2), (3, vR x3), (4, vI x4)]) rfl ?_
            exact vB_L_law_1900 F hm XF rc23 hrc23 x1 x2 x3 x4 h446
          · refine V_iconst (pc := 1898) F (x := (0 : Int32)) dL_law_1898 (by decide) ?_
            exact V_lawret (pc := 1899) F XF dL_law_1899
      · refine V_iconst (pc := 1881) F (x := (0 : Int32)) dL_law_1881 (by decide) ?_
        exact V_lawret (pc := 1882) F XF dL_law_1882
    refine VT_end (pc := 39) F 1903 dL_law_39 (by decide) (by decide) ?_
    exact vB_L_law_1903 F hm XF rc23 hrc23 x1 x2 x3 x4 h
theorem vL_L_law_23 {K : CT} (F : Fr K cL_law R_law Jvm.Pilot.CGyreWatchLaw_law_r1115_220210.ret [] 10 2) (hm : mxL K = 7) {Ls : Nat} {xs : Nat → Int32} (XF : XL K Ls xs) (n : Nat) : ∀ x1 x2 x3 x4 h, V K 23 [(0, vR (some 0)), (1, vR x1), (2, vR x2), (3, vR x3), (4, vI x4)] [] h (L_L_law_23 Ls xs n x1 x2 x3 x4 h) := by
  induction n with
  | zero => intros; exact V_none
  | succ n ih => intro x1 x2 x3 x4 h; exact vB_L_law_23 F hm XF _ ih x1 x2 x3 x4 h
theorem vM_L_law {K : CT} (F : Fr K cL_law R_law Jvm.Pilot.CGyreWatchLaw_law_r1115_220210.ret [] 10 2) (hm : mxL K = 7) {Ls : Nat} {xs : Nat → Int32} (XF : XL K Ls xs) (h : MH) : V K 0 [(0, vR (some 0))] [] h (M_L_law Ls xs h) := by
  unfold M_L_law
  refine V_new (pc := 0) F 8 (by decide) rfl g_clN_RL_8 g_inst_8 g_iniN_8 dL_law_0 ?_
  intro r1 h2
  refine V_dup (pc := 3) F dL_law_3 rfl ?_
  refine V_cI (pc := 4) F (as := []) (C_X8_init r1 h2) rfl w_X8_init g_in_X8_init g_ml_RL_94 (by decide) (rest := [vR r1]) rfl rfl (Nat.le_of_ble_eq_true rfl) dL_law_4 (k_V fun h3 => ?_)
  refine V_astore_n (pc := 7) F [(1, vR r1), (0, vR (some 0))] dL_law_7 (lt_mx hm (by decide)) rfl ?_
  refine V_new (pc := 8) F 9 (by decide) rfl g_clN_RL_95 g_inst_9 g_iniN_9 dL_law_8 ?_
  intro r4 h5
  refine V_dup (pc := 11) F dL_law_11 rfl ?_
  refine V_cI (pc := 12) F (as := []) (C_X9_init r4 h5) rfl w_X9_init g_in_X9_init g_ml_RL_97 (by decide) (rest := [vR r4]) rfl rfl (Nat.le_of_ble_eq_true rfl) dL_law_12 (k_V fun h6 => ?_)
  refine V_astore_n (pc := 15) F [(2, vR r4), (1, vR r1), (0, vR (some 0))] dL_law_15 (lt_mx hm (by decide)) rfl ?_
  refine V_iconst (pc := 16) F (x := (1 : Int32)) dL_law_16 (by decide) ?_
  refine V_newa (pc := 17) F 30 (by decide) g_arr_30 dL_law_17 ?_
  intro r7 h8
  refine V_astore_n (pc := 19) F [(3, vR r7), (2, vR r4), (1, vR r1), (0, vR (some 0))] dL_law_19 (lt_mx hm (by decide)) rfl ?_
  refine V_iconst (pc := 20) F (x := (0 : Int32)) dL_law_20 (by decide) ?_
  refine V_istore (pc := 21) F [(4, vI (0 : Int32)), (3, vR r7), (2, vR r4), (1, vR r1), (0, vR (some 0))] dL_law_21 (lt_mx hm (by decide)) rfl ?_
  refine V_sub [4, 3, 2, 1, 0] (L' := [(0, vR (some 0)), (1, vR r1), (2, vR r4), (3, vR r7), (4, vI (0 : Int32))]) rfl ?_
  exact vL_L_law_23 F hm XF fuel r1 r4 r7 (0 : Int32) h8
