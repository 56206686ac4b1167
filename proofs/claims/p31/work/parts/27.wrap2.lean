def B_L_passes_67 (rc11 : Option Nat → Option Nat → Option Nat → Option Nat → Option Nat → Option Nat → Option Nat → Option Nat → Option Nat → Option Nat → Option Nat → Option Nat → Option Nat → Option Nat → Option Nat → Option Nat → Int32 → MH → Res) (x0 : Option Nat) (x1 : Option Nat) (x2 : Option Nat) (x3 : Option Nat) (x4 : Option Nat) (x5 : Option Nat) (x6 : Option Nat) (x7 : Option Nat) (x8 : Option Nat) (x9 : Option Nat) (x10 : Option Nat) (x11 : Option Nat) (x12 : Option Nat) (x13 : Option Nat) (x14 : Option Nat) (x15 : Option Nat) (x16 : Int32) (s0 : Option Nat) (s1 : Int32) (s2 : Int32) (h : MH) : Res := wrI h s0 20 s1 s2 fun h12 => bnd (x16 + (1)) fun z13 => rc11 x0 x1 x2 x3 x4 x5 x6 x7 x8 x9 x10 x11 x12 x13 x14 x15 z13 h12
def B_L_passes_42 (rc11 : Option Nat → Option Nat → Option Nat → Option Nat → Option Nat → Option Nat → Option Nat → Option Nat → Option Nat → Option Nat → Option Nat → Option Nat → Option Nat → Option Nat → Option Nat → Option Nat → Int32 → MH → Res) (x0 : Option Nat) (x1 : Option Nat) (x2 : Option Nat) (x3 : Option Nat) (x4 : Option Nat) (x5 : Option Nat) (x6 : Option Nat) (x7 : Option Nat) (x8 : Option Nat) (x9 : Option Nat) (x10 : Option Nat) (x11 : Option Nat) (x12 : Option Nat) (x13 : Option Nat) (x14 : Option Nat) (x15 : Option Nat) (x16 : Int32) (s0 : Option Nat) (s1 : Int32) (s2 : Int32) (h : MH) : Res := wrI h s0 20 s1 s2 fun h8 => rdI h8 x0 20 x16 fun z9 => if (8 : Int32) ≤ z9 then (B_L_passes_67 rc11 x0 x1 x2 x3 x4 x5 x6 x7 x8 x9 x10 x11 x12 x13 x14 x15 x16 x14 x16 (0 : Int32) h8) else (calI (M_L_flowed x16 x0 x3 h8) fun z10 h11 => B_L_passes_67 rc11 x0 x1 x2 x3 x4 x5 x6 x7 x8 x9 x10 x11 x12 x13 x14 x15 x16 x14 x16 z10 h11)
def B_L_passes_247 (rc83 : Option Nat → Option Nat → Option Nat → Option Nat → Option Nat → Option Nat → Option Nat → Option Nat → Option Nat → Option Nat → Option Nat → Option Nat → Option Nat → Option Nat → Option Nat → Option Nat → Int32 → MH → Res) (x0 : Option Nat) (x1 : Option Nat) (x2 : Option Nat) (x3 : Option Nat) (x4 : Option Nat) (x5 : Option Nat) (x6 : Option Nat) (x7 : Option Nat) (x8 : Option Nat) (x9 : Option Nat) (x10 : Option Nat) (x11 : Option Nat) (x12 : Option Nat) (x13 : Option Nat) (x14 : Option Nat) (x15 : Option Nat) (x16 : Int32) (h : MH) : Res := bnd (x16 + (1)) fun z50 => rc83 x0 x1 x2 x3 x4 x5 x6 x7 x8 x9 x10 x11 x12 x13 x14 x15 z50 h
def B_L_passes_129 (rc83 : Option Nat → Option Nat → Option Nat → Option Nat → Option Nat → Option Nat → Option Nat → Option Nat → Option Nat → Option Nat → Option Nat → Option Nat → Option Nat → Option Nat → Option Nat → Option Nat → Int32 → MH → Res) (x0 : Option Nat) (x1 : Option Nat) (x2 : Option Nat) (x3 : Option Nat) (x4 : Option Nat) (x5 : Option Nat) (x6 : Option Nat) (x7 : Option Nat) (x8 : Option Nat) (x9 : Option Nat) (x10 : Option Nat) (x11 : Option Nat) (x12 : Option Nat) (x13 : Option Nat) (x14 : Option Nat) (x15 : Option Nat) (x16 : Int32) (s0 : Int32) (h : MH) : Res := rdI h x15 20 (1 : Int32) fun z20 => rdI h x13 20 x16 fun z21 => bnd (s0 - z21) fun z22 => bnd (z20 + z22) fun z23 => wrI h x15 20 (1 : Int32) z23 fun h24 => wrI h24 x1 20 x16 s0 fun h25 => rdI h25 x0 20 x16 fun z26 => if (8 : Int32) ≤ z26 then (B_L_passes_247 rc83 x0 x1 x2 x3 x4 x5 x6 x7 x8 x9 x10 x11 x12 x13 x14 x15 x16 h25) else (rdI h25 x1 20 x16 fun z27 => rdI h25 x2 20 x16 fun z28 => bnd (z27 - z28) fun z29 => rdI h25 x3 20 x16 fun z30 => rdI h25 x4 20 x16 fun z31 => bnd (z30 - z31) fun z32 => bnd ((5 : Int32) * z32) fun z33 => if z33 ≤ z29 then (B_L_passes_247 rc83 x0 x1 x2 x3 x4 x5 x6 x7 x8 x9 x10 x11 x12 x13 x14 x15 x16 h25) else (rdI h25 x1 20 x16 fun z34 => rdI h25 x2 20 x16 fun z35 => bnd (z34 + z35) fun z36 => rdI h25 x3 20 x16 fun z37 => rdI h25 x4 20 x16 fun z38 => bnd (z37 + z38) fun z39 => dvI z36 (2 : Int32) fun z40 => wrI h25 x1 20 x16 z40 fun h41 => dvI z39 (2 : Int32) fun z42 => wrI h41 x3 20 x16 z42 fun h43 => rdI h43 x1 20 x16 fun z44 => bnd (z36 - z44) fun z45 => wrI h43 x2 20 x16 z45 fun h46 => rdI h46 x3 20 x16 fun z47 => bnd (z39 - z47) fun z48 => wrI h46 x4 20 x16 z48 fun h49 => B_L_passes_247 rc83 x0 x1 x2 x3 x4 x5 x6 x7 x8 x9 x10 x11 x12 x13 x14 x15 x16 h49))
def B_L_passes_123 (rc83 : Option Nat → Option Nat → Option Nat → Option Nat → Option Nat → Option Nat → Option Nat → Option Nat → Option Nat → Option Nat → Option Nat → Option Nat → Option Nat → Option Nat → Option Nat → Option Nat → Int32 → MH → Res) (x0 : Option Nat) (x1 : Option Nat) (x2 : Option Nat) (x3 : Option Nat) (x4 : Option Nat) (x5 : Option Nat) (x6 : Option Nat) (x7 : Option Nat) (x8 : Option Nat) (x9 : Option Nat) (x10 : Option Nat) (x11 : Option Nat) (x12 : Option Nat) (x13 : Option Nat) (x14 : Option Nat) (x15 : Option Nat) (x16 : Int32) (h : MH) : Res := B_L_passes_129 rc83 x0 x1 x2 x3 x4 x5 x6 x7 x8 x9 x10 x11 x12 x13 x14 x15 x16 (0 : Int32) h
def B_L_passes_457 (rc256 : Option Nat → Option Nat → Option Nat → Option Nat → Option Nat → Option Nat → Option Nat → Option Nat → Option Nat → Option Nat → Option Nat → Option Nat → Option Nat → Int32 → MH → Res) (x0 : Option Nat) (x1 : Option Nat) (x5 : Option Nat) (x6 : Option Nat) (x7 : Option Nat) (x8 : Option Nat) (x9 : Option Nat) (x10 : Option Nat) (x11 : Option Nat) (x12 : Option Nat) (x13 : Option Nat) (x14 : Option Nat) (x15 : Option Nat) (x16 : Int32) (h : MH) : Res := bnd (x16 + (1)) fun z99 => rc256 x0 x1 x5 x6 x7 x8 x9 x10 x11 x12 x13 x14 x15 z99 h
def B_L_passes_456 (rc256 : Option Nat → Option Nat → Option Nat → Option Nat → Option Nat → Option Nat → Option Nat → Option Nat → Option Nat → Option Nat → Option Nat → Option Nat → Option Nat → Int32 → MH → Res) (x0 : Option Nat) (x1 : Option Nat) (x5 : Option Nat) (x6 : Option Nat) (x7 : Option Nat) (x8 : Option Nat) (x9 : Option Nat) (x10 : Option Nat) (x11 : Option Nat) (x12 : Option Nat) (x13 : Option Nat) (x14 : Option Nat) (x15 : Option Nat) (x16 : Int32) (s0 : Option Nat) (s1 : Int32) (s2 : Int32) (h : MH) : Res := wrI h s0 20 s1 s2 fun h98 => B_L_passes_457 rc256 x0 x1 x5 x6 x7 x8 x9 x10 x11 x12 x13 x14 x15 x16 h98
def B_L_passes_361 (rc256 : Option Nat → Option Nat → Option Nat → Option Nat → Option Nat → Option Nat → Option Nat → Option Nat → Option Nat → Option Nat → Option Nat → Option Nat → Option Nat → Int32 → MH → Res) (x0 : Option Nat) (x1 : Option Nat) (x5 : Option Nat) (x6 : Option Nat) (x7 : Option Nat) (x8 : Option Nat) (x9 : Option Nat) (x10 : Option Nat) (x11 : Option Nat) (x12 : Option Nat) (x13 : Option Nat) (x14 : Option Nat) (x15 : Option Nat) (x16 : Int32) (s0 : Option Nat) (s1 : Int32) (s2 : Int32) (h : MH) : Res := wrI h s0 20 s1 s2 fun h73 => bnd ((8 : Int32) * x16) fun z74 => rdI h73 x5 20 z74 fun z75 => bnd (x16 + (1 : Int32)) fun z76 => bnd ((8 : Int32) * x16) fun z77 => rdI h73 x5 20 z77 fun z78 => rdI h73 x1 20 z78 fun z79 => bnd ((8 : Int32) * x16) fun z80 => bnd (z80 + (4 : Int32)) fun z81 => rdI h73 x5 20 z81 fun z82 => bnd (z79 + z82) fun z83 => calV (M_L_reads z75 z76 z83 x8 x9 x10 x15 h73) fun h84 => bnd ((8 : Int32) * x16) fun z85 => bnd (z85 + (3 : Int32)) fun z86 => rdI h84 x5 20 z86 fun z87 => bnd (z87 - (1 : Int32)) fun z88 => wrI h84 x5 20 z86 z88 fun h89 => bnd ((8 : Int32) * x16) fun z90 => bnd (z90 + (2 : Int32)) fun z91 => bnd ((8 : Int32) * x16) fun z92 => bnd (z92 + (3 : Int32)) fun z93 => rdI h89 x5 20 z93 fun z94 => if z94 ≤ 0 then (B_L_passes_456 rc256 x0 x1 x5 x6 x7 x8 x9 x10 x11 x12 x13 x14 x15 x16 x5 z91 (0 : Int32) h89) else (bnd ((8 : Int32) * x16) fun z95 => bnd (z95 + (1 : Int32)) fun z96 => rdI h89 x5 20 z96 fun z97 => B_L_passes_456 rc256 x0 x1 x5 x6 x7 x8 x9 x10 x11 x12 x13 x14 x15 x16 x5 z91 z97 h89)
def B_L_passes_294 (rc256 : Option Nat → Option Nat → Option Nat → Option Nat → Option Nat → Option Nat → Option Nat → Option Nat → Option Nat → Option Nat → Option Nat → Option Nat → Option Nat → Int32 → MH → Res) (x0 : Option Nat) (x1 : Option Nat) (x5 : Option Nat) (x6 : Option Nat) (x7 : Option Nat) (x8 : Option Nat) (x9 : Option Nat) (x10 : Option Nat) (x11 : Option Nat) (x12 : Option Nat) (x13 : Option Nat) (x14 : Option Nat) (x15 : Option Nat) (x16 : Int32) (s0 : Option Nat) (s1 : Int32) (s2 : Int32) (s3 : Int32) (h : MH) : Res := bnd (s2 - s3) fun z58 => wrI h s0 20 s1 z58 fun h59 => bnd ((8 : Int32) * x16) fun z60 => bnd (z60 + (3 : Int32)) fun z61 => rdI h59 x5 20 z61 fun z62 => if z62 ≤ 0 then (B_L_passes_457 rc256 x0 x1 x5 x6 x7 x8 x9 x10 x11 x12 x13 x14 x15 x16 h59) else (bnd ((8 : Int32) * x16) fun z63 => bnd (z63 + (2 : Int32)) fun z64 => rdI h59 x5 20 z64 fun z65 => if z65 ≠ 0 then (B_L_passes_457 rc256 x0 x1 x5 x6 x7 x8 x9 x10 x11 x12 x13 x14 x15 x16 h59) else (bnd ((8 : Int32) * x16) fun z66 => rdI h59 x5 20 z66 fun z67 => calI (M_L_leads z67 x0 h59) fun z68 h69 => bnd ((8 : Int32) * x16) fun z70 => if 0 ≤ z68 then (B_L_passes_361 rc256 x0 x1 x5 x6 x7 x8 x9 x10 x11 x12 x13 x14 x15 x16 x5 z70 z68 h69) else (bnd ((8 : Int32) * x16) fun z71 => rdI h69 x5 20 z71 fun z72 => B_L_passes_361 rc256 x0 x1 x5 x6 x7 x8 x9 x10 x11 x12 x13 x14 x15 x16 x5 z70 z72 h69)))
def B_L_passes_524 (rc466 : Option Nat → Option Nat → Option Nat → Option Nat → Option Nat → Option Nat → Option Nat → Option Nat → Option Nat → Option Nat → Option Nat → Option Nat → Int32 → MH → Res) (x0 : Option Nat) (x1 : Option Nat) (x6 : Option Nat) (x7 : Option Nat) (x8 : Option Nat) (x9 : Option Nat) (x10 : Option Nat) (x11 : Option Nat) (x12 : Option Nat) (x13 : Option Nat) (x14 : Option Nat) (x15 : Option Nat) (x16 : Int32) (s0 : Option Nat) (s1 : Int32) (s2 : Int32) (h : MH) : Res := wrI h s0 20 s1 s2 fun h109 => bnd (x16 + (1)) fun z110 => rc466 x0 x1 x6 x7 x8 x9 x10 x11 x12 x13 x14 x15 z110 h109
def B_L_passes_498 (rc466 : Option Nat → Option Nat → Option Nat → Option Nat → Option Nat → Option Nat → Option Nat → Option Nat → Option Nat → Option Nat → Option Nat → Option Nat → Int32 → MH → Res) (x0 : Option Nat) (x1 : Option Nat) (x6 : Option Nat) (x7 : Option Nat) (x8 : Option Nat) (x9 : Option Nat) (x10 : Option Nat) (x11 : Option Nat) (x12 : Option Nat) (x13 : Option Nat) (x14 : Option Nat) (x15 : Option Nat) (x16 : Int32) (s0 : Option Nat) (s1 : Int32) (s2 : Int32) (h : MH) : Res := wrI h s0 20 s1 s2 fun h105 => rdI h105 x0 20 x16 fun z106 => if z106 ≤ (7 : Int32) then (calI (M_L_drifted x16 x0 x12 h105) fun z107 h108 => B_L_passes_524 rc466 x0 x1 x6 x7 x8 x9 x10 x11 x12 x13 x14 x15 x16 x14 x16 z107 h108) else (B_L_passes_524 rc466 x0 x1 x6 x7 x8 x9 x10 x11 x12 x13 x14 x15 x16 x14 x16 (0 : Int32) h105)
def B_L_passes_637 (rc548 : Option Nat → Option Nat → Option Nat → Option Nat → Option Nat → Option Nat → Option Nat → Int32 → MH → Res) (rc564 : Option Nat → Option Nat → Option Nat → Option Nat → Option Nat → Option Nat → Option Nat → Int32 → Int32 → Int32 → Int32 → MH → Res) (x1 : Option Nat) (x6 : Option Nat) (x7 : Option Nat) (x8 : Option Nat) (x9 : Option Nat) (x10 : Option Nat) (x15 : Option Nat) (x16 : Int32) (x18 : Int32) (x19 : Int32) (s0 : Int32) (s1 : Int32) (h : MH) : Res := bnd (s0 + s1) fun z124 => bnd (x19 + (1)) fun z125 => rc564 x1 x6 x7 x8 x9 x10 x15 x16 z124 x18 z125 h
def B_L_passes_613 (rc548 : Option Nat → Option Nat → Option Nat → Option Nat → Option Nat → Option Nat → Option Nat → Int32 → MH → Res) (rc564 : Option Nat → Option Nat → Option Nat → Option Nat → Option Nat → Option Nat → Option Nat → Int32 → Int32 → Int32 → Int32 → MH → Res) (x1 : Option Nat) (x6 : Option Nat) (x7 : Option Nat) (x8 : Option Nat) (x9 : Option Nat) (x10 : Option Nat) (x15 : Option Nat) (x16 : Int32) (x17 : Int32) (x19 : Int32) (x20 : Int32) (s0 : Int32) (h : MH) : Res := rdI h x6 20 x19 fun z122 => wrI h x6 20 x17 z122 fun h123 => if x20 = 0 then (B_L_passes_637 rc548 rc564 x1 x6 x7 x8 x9 x10 x15 x16 s0 x19 x17 (1 : Int32) h123) else (B_L_passes_637 rc548 rc564 x1 x6 x7 x8 x9 x10 x15 x16 s0 x19 x17 (0 : Int32) h123)
def B_L_passes_608 (rc548 : Option Nat → Option Nat → Option Nat → Option Nat → Option Nat → Option Nat → Option Nat → Int32 → MH → Res) (rc564 : Option Nat → Option Nat → Option Nat → Option Nat → Option Nat → Option Nat → Option Nat → Int32 → Int32 → Int32 → Int32 → MH → Res) (x1 : Option Nat) (x6 : Option Nat) (x7 : Option Nat) (x8 : Option Nat) (x9 : Option Nat) (x10 : Option Nat) (x15 : Option Nat) (x16 : Int32) (x17 : Int32) (x19 : Int32) (x20 : Int32) (h : MH) : Res := B_L_passes_613 rc548 rc564 x1 x6 x7 x8 x9 x10 x15 x16 x17 x19 x20 (1 : Int32) h
def B_L_passes_596 (rc548 : Option Nat → Option Nat → Option Nat → Option Nat → Option Nat → Option Nat → Option Nat → Int32 → MH → Res) (rc564 : Option Nat → Option Nat → Option Nat → Option Nat → Option Nat → Option Nat → Option Nat → Int32 → Int32 → Int32 → Int32 → MH → Res) (x1 : Option Nat) (x6 : Option Nat) (x7 : Option Nat) (x8 : Option Nat) (x9 : Option Nat) (x10 : Option Nat) (x15 : Option Nat) (x16 : Int32) (x17 : Int32) (x18 : Int32) (x19 : Int32) (s0 : Int32) (h : MH) : Res := if x18 ≠ 0 then (B_L_passes_608 rc548 rc564 x1 x6 x7 x8 x9 x10 x15 x16 x17 x19 s0 h) else (if s0 = 0 then (B_L_passes_613 rc548 rc564 x1 x6 x7 x8 x9 x10 x15 x16 x17 x19 s0 (0 : Int32) h) else (B_L_passes_608 rc548 rc564 x1 x6 x7 x8 x9 x10 x15 x16 x17 x19 s0 h))
def B_L_passes_689 (rc548 : Option Nat → Option Nat → Option Nat → Option Nat → Option Nat → Option Nat → Option Nat → Int32 → MH → Res) (x1 : Option Nat) (x6 : Option Nat) (x7 : Option Nat) (x8 : Option Nat) (x9 : Option Nat) (x10 : Option Nat) (x15 : Option Nat) (x16 : Int32) (h : MH) : Res := bnd (x16 + (1)) fun z126 => rc548 x1 x6 x7 x8 x9 x10 x15 z126 h
def B_L_passes_564 (rc548 : Option Nat → Option Nat → Option Nat → Option Nat → Option Nat → Option Nat → Option Nat → Int32 → MH → Res) (rc564 : Option Nat → Option Nat → Option Nat → Option Nat → Option Nat → Option Nat → Option Nat → Int32 → Int32 → Int32 → Int32 → MH → Res) (x1 : Option Nat) (x6 : Option Nat) (x7 : Option Nat) (x8 : Option Nat) (x9 : Option Nat) (x10 : Option Nat) (x15 : Option Nat) (x16 : Int32) (x17 : Int32) (x18 : Int32) (x19 : Int32) (h : MH) : Res := rdI h x15 20 (3 : Int32) fun z111 => if z111 ≤ x19 then (wrI h x15 20 (3 : Int32) x17 fun h112 => if x18 = 0 then (B_L_passes_689 rc548 x1 x6 x7 x8 x9 x10 x15 x16 h112) else (rdI h112 x15 20 (0 : Int32) fun z113 => calI (M_L_isStorm z113 x7 x15 h112) fun z114 h115 => if z114 ≠ 0 then (B_L_passes_689 rc548 x1 x6 x7 x8 x9 x10 x15 x16 h115) else (rdI h115 x1 20 x16 fun z116 => calV (M_L_reads x16 (0 : Int32) z116 x8 x9 x10 x15 h115) fun h117 => B_L_passes_689 rc548 x1 x6 x7 x8 x9 x10 x15 x16 h117))) else (rdI h x6 20 x19 fun z118 => rdI h x15 20 (0 : Int32) fun z119 => bnd ((64 : Int32) * z119) fun z120 => bnd (z120 + x16) fun z121 => if z118 ≠ z121 then (B_L_passes_596 rc548 rc564 x1 x6 x7 x8 x9 x10 x15 x16 x17 x18 x19 (0 : Int32) h) else (B_L_passes_596 rc548 rc564 x1 x6 x7 x8 x9 x10 x15 x16 x17 x18 x19 (1 : Int32) h))
def L_L_passes_564 (rc548 : Option Nat → Option Nat → Option Nat → Option Nat → Option Nat → Option Nat → Option Nat → Int32 → MH → Res) : Nat → Option Nat → Option Nat → Option Nat → Option Nat → Option Nat → Option Nat → Option Nat → Int32 → Int32 → Int32 → Int32 → MH → Res
  | 0 => fun _ _ _ _ _ _ _ _ _ _ _ _ => none
  | n + 1 => B_L_passes_564 rc548 (L_L_passes_564 rc548 n)
def B_L_passes_548 (rc548 : Option Nat → Option Nat → Option Nat → Option Nat → Option Nat → Option Nat → Option Nat → Int32 → MH → Res) (x1 : Option Nat) (x6 : Option Nat) (x7 : Option Nat) (x8 : Option Nat) (x9 : Option Nat) (x10 : Option Nat) (x15 : Option Nat) (x16 : Int32) (h : MH) : Res := if (60 : Int32) ≤ x16 then (rtV h) else (L_L_passes_564 rc548 fuel x1 x6 x7 x8 x9 x10 x15 x16 (0 : Int32) (0 : Int32) (0 : Int32) h)
def L_L_passes_548 : Nat → Option Nat → Option Nat → Option Nat → Option Nat → Option Nat → Option Nat → Option Nat → Int32 → MH → Res
  | 0 => fun _ _ _ _ _ _ _ _ _ => none
  | n + 1 => B_L_passes_548 (L_L_passes_548 n)
def B_L_passes_466 (rc466 : Option Nat → Option Nat → Option Nat → Option Nat → Option Nat → Option Nat → Option Nat → Option Nat → Option Nat → Option Nat → Option Nat → Option Nat → Int32 → MH → Res) (x0 : Option Nat) (x1 : Option Nat) (x6 : Option Nat) (x7 : Option Nat) (x8 : Option Nat) (x9 : Option Nat) (x10 : Option Nat) (x11 : Option Nat) (x12 : Option Nat) (x13 : Option Nat) (x14 : Option Nat) (x15 : Option Nat) (x16 : Int32) (h : MH) : Res := if (60 : Int32) ≤ x16 then (calV (M_L_copies x13 x11 h) fun h100 => calV (M_L_copies x14 x12 h100) fun h101 => L_L_passes_548 fuel x1 x6 x7 x8 x9 x10 x15 (0 : Int32) h101) else (rdI h x0 20 x16 fun z102 => if z102 ≤ (7 : Int32) then (calI (M_L_drifted x16 x0 x11 h) fun z103 h104 => B_L_passes_498 rc466 x0 x1 x6 x7 x8 x9 x10 x11 x12 x13 x14 x15 x16 x13 x16 z103 h104) else (B_L_passes_498 rc466 x0 x1 x6 x7 x8 x9 x10 x11 x12 x13 x14 x15 x16 x13 x16 (0 : Int32) h))
def L_L_passes_466 : Nat → Option Nat → Option Nat → Option Nat → Option Nat → Option Nat → Option Nat → Option Nat → Option Nat → Option Nat → Option Nat → Option Nat → Option Nat → Int32 → MH → Res
  | 0 => fun _ _ _ _ _ _ _ _ _ _ _ _ _ _ => none
  | n + 1 => B_L_passes_466 (L_L_passes_466 n)
def B_L_passes_256 (rc256 : Option Nat → Option Nat → Option Nat → Option Nat → Option Nat → Option Nat → Option Nat → Option Nat → Option Nat → Option Nat → Option Nat → Option Nat → Option Nat → Int32 → MH → Res) (x0 : Option Nat) (x1 : Option Nat) (x5 : Option Nat) (x6 : Option Nat) (x7 : Option Nat) (x8 : Option Nat) (x9 : Option Nat) (x10 : Option Nat) (x11 : Option Nat) (x12 : Option Nat) (x13 : Option Nat) (x14 : Option Nat) (x15 : Option Nat) (x16 : Int32) (h : MH) : Res := rdI h x15 20 (2 : Int32) fun z51 => if z51 ≤ x16 then (L_L_passes_466 fuel x0 x1 x6 x7 x8 x9 x10 x11 x12 x13 x14 x15 (0 : Int32) h) else (bnd ((8 : Int32) * x16) fun z52 => bnd (z52 + (2 : Int32)) fun z53 => rdI h x5 20 z53 fun z54 => bnd ((8 : Int32) * x16) fun z55 => bnd (z55 + (3 : Int32)) fun z56 => rdI h x5 20 z56 fun z57 => if z57 ≤ 0 then (B_L_passes_294 rc256 x0 x1 x5 x6 x7 x8 x9 x10 x11 x12 x13 x14 x15 x16 x5 z53 z54 (0 : Int32) h) else (B_L_passes_294 rc256 x0 x1 x5 x6 x7 x8 x9 x10 x11 x12 x13 x14 x15 x16 x5 z53 z54 (1 : Int32) h))
def L_L_passes_256 : Nat → Option Nat → Option Nat → Option Nat → Option Nat → Option Nat → Option Nat → Option Nat → Option Nat → Option Nat → Option Nat → Option Nat → Option Nat → Option Nat → Int32 → MH → Res
  | 0 => fun _ _ _ _ _ _ _ _ _ _ _ _ _ _ _ => none
  | n + 1 => B_L_passes_256 (L_L_passes_256 n)
def B_L_passes_83 (rc83 : Option Nat → Option Nat → Option Nat → Option Nat → Option Nat → Option Nat → Option Nat → Option Nat → Option Nat → Option Nat → Option Nat → Option Nat → Option Nat → Option Nat → Option Nat → Option Nat → Int32 → MH → Res) (x0 : Option Nat) (x1 : Option Nat) (x2 : Option Nat) (x3 : Option Nat) (x4 : Option Nat) (x5 : Option Nat) (x6 : Option Nat) (x7 : Option Nat) (x8 : Option Nat) (x9 : Option Nat) (x10 : Option Nat) (x11 : Option Nat) (x12 : Option Nat) (x13 : Option Nat) (x14 : Option Nat) (x15 : Option Nat) (x16 : Int32) (h : MH) : Res := if (60 : Int32) ≤ x16 then (L_L_passes_256 fuel x0 x1 x5 x6 x7 x8 x9 x10 x11 x12 x13 x14 x15 (0 : Int32) h) else (rdI h x13 20 x16 fun z14 => dvI x16 (10 : Int32) fun z15 => bnd ((8 : Int32) + z15) fun z16 => rdI h x15 20 z16 fun z17 => bnd (z14 + z17) fun z18 => rdI h x0 20 x16 fun z19 => if (7 : Int32) < z19 then (B_L_passes_123 rc83 x0 x1 x2 x3 x4 x5 x6 x7 x8 x9 x10 x11 x12 x13 x14 x15 x16 h) else (if 0 ≤ z18 then (B_L_passes_129 rc83 x0 x1 x2 x3 x4 x5 x6 x7 x8 x9 x10 x11 x12 x13 x14 x15 x16 z18 h) else (B_L_passes_123 rc83 x0 x1 x2 x3 x4 x5 x6 x7 x8 x9 x10 x11 x12 x13 x14 x15 x16 h)))
def L_L_passes_83 : Nat → Option Nat → Option Nat → Option Nat → Option Nat → Option Nat → Option Nat → Option Nat → Option Nat → Option Nat → Option Nat → Option Nat → Option Nat → Option Nat → Option Nat → Option Nat → Option Nat → Int32 → MH → Res
  | 0 => fun _ _ _ _ _ _ _ _ _ _ _ _ _ _ _ _ _ _ => none
  | n + 1 => B_L_passes_83 (L_L_passes_83 n)
def B_L_passes_11 (rc11 : Option Nat → Option Nat → Option Nat → Option Nat → Option Nat → Option Nat → Option Nat → Option Nat → Option Nat → Option Nat → Option Nat → Option Nat → Option Nat → Option Nat → Option Nat → Option Nat → Int32 → MH → Res) (x0 : Option Nat) (x1 : Option Nat) (x2 : Option Nat) (x3 : Option Nat) (x4 : Option Nat) (x5 : Option Nat) (x6 : Option Nat) (x7 : Option Nat) (x8 : Option Nat) (x9 : Option Nat) (x10 : Option Nat) (x11 : Option Nat) (x12 : Option Nat) (x13 : Option Nat) (x14 : Option Nat) (x15 : Option Nat) (x16 : Int32) (h : MH) : Res := if (60 : Int32) ≤ x16 then (calV (M_L_copies x14 x3 h) fun h4 => L_L_passes_83 fuel x0 x1 x2 x3 x4 x5 x6 x7 x8 x9 x10 x11 x12 x13 x14 x15 (0 : Int32) h4) else (rdI h x0 20 x16 fun z5 => if (8 : Int32) ≤ z5 then (B_L_passes_42 rc11 x0 x1 x2 x3 x4 x5 x6 x7 x8 x9 x10 x11 x12 x13 x14 x15 x16 x13 x16 (0 : Int32) h) else (calI (M_L_flowed x16 x0 x1 h) fun z6 h7 => B_L_passes_42 rc11 x0 x1 x2 x3 x4 x5 x6 x7 x8 x9 x10 x11 x12 x13 x14 x15 x16 x13 x16 z6 h7))
def L_L_passes_11 : Nat → Option Nat → Option Nat → Option Nat → Option Nat → Option Nat → Option Nat → Option Nat → Option Nat → Option Nat → Option Nat → Option Nat → Option Nat → Option Nat → Option Nat → Option Nat → Option Nat → Int32 → MH → Res
  | 0 => fun _ _ _ _ _ _ _ _ _ _ _ _ _ _ _ _ _ _ => none
  | n + 1 => B_L_passes_11 (L_L_passes_11 n)
def M_L_passes (x0 : Option Nat) (x1 : Option Nat) (x2 : Option Nat) (x3 : Option Nat) (x4 : Option Nat) (x5 : Option Nat) (x6 : Option Nat) (x7 : Option Nat) (x8 : Option Nat) (x9 : Option Nat) (x10 : Option Nat) (x11 : Option Nat) (x12 : Option Nat) (x13 : Option Nat) (x14 : Option Nat) (x15 : Option Nat) (h : MH) : Res := rdI h x15 20 (0 : Int32) fun z1 => bnd (z1 + (1 : Int32)) fun z2 => wrI h x15 20 (0 : Int32) z2 fun h3 => L_L_passes_11 fuel x0 x1 x2 x3 x4 x5 x6 x7 x8 x9 x10 x11 x12 x13 x14 x15 (0 : Int32) h3
theorem vB_L_passes_67 {K : CT} (F : Fr K cL_passes RL none [] 3 0) (hm : mxL K = 21) (rc11 : Option Nat → Option Nat → Option Nat → Option Nat → Option Nat → Option Nat → Option Nat → Option Nat → Option Nat → Option Nat → Option Nat → Option Nat → Option Nat → Option Nat → Option Nat → Option Nat → Int32 → MH → Res) (hrc11 : ∀ x0 x1 x2 x3 x4 x5 x6 x7 x8 x9 x10 x11 x12 x13 x14 x15 x16 h, V K 11 [(0, vR x0), (1, vR x1), (2, vR x2), (3, vR x3), (4, vR x4), (5, vR x5), (6, vR x6), (7, vR x7), (8, vR x8), (9, vR x9), (10, vR x10), (11, vR x11), (12, vR x12), (13, vR x13), (14, vR x14), (15, vR x15), (16, vI x16)] [] h (rc11 x0 x1 x2 x3 x4 x5 x6 x7 x8 x9 x10 x11 x12 x13 x14 x15 x16 h)) (x0 : Option Nat) (x1 : Option Nat) (x2 : Option Nat) (x3 : Option Nat) (x4 : Option Nat) (x5 : Option Nat) (x6 : Option Nat) (x7 : Option Nat) (x8 : Option Nat) (x9 : Option Nat) (x10 : Option Nat) (x11 : Option Nat) (x12 : Option Nat) (x13 : Option Nat) (x14 : Option Nat) (x15 : Option Nat) (x16 : Int32) (s0 : Option Nat) (s1 : Int32) (s2 : Int32) (h : MH) : V K 67 [(0, vR x0), (1, vR x1), (2, vR x2), (3, vR x3), (4, vR x4), (5, vR x5), (6, vR x6), (7, vR x7), (8, vR x8), (9, vR x9), (10, vR x10), (11, vR x11), (12, vR x12), (13, vR x13), (14, vR x14), (15, vR x15), (16, vI x16)] [vI s2, vI s1, vR s0] h (B_L_passes_67 rc11 x0 x1 x2 x3 x4 x5 x6 x7 x8 x9 x10 x11 x12 x13 x14 x15 x16 s0 s1 s2 h) := by
  unfold B_L_passes_67
  refine V_iast (pc := 67) F dL_passes_67 ?_
  intro h12
  refine V_iinc (pc := 68) F (fun z13 => [(16, vI z13), (0, vR x0), (1, vR x1), (2, vR x2), (3, vR x3), (4, vR x4), (5, vR x5), (6, vR x6), (7, vR x7), (8, vR x8), (9, vR x9), (10, vR x10), (11, vR x11), (12, vR x12), (13, vR x13), (14, vR x14), (15, vR x15)]) dL_passes_68 (lt_mx hm (by decide)) 16 rfl (dx := (1 : Int32)) (by decide) (fun _ => rfl) ?_
  intro z13
  refine V_goto (pc := 71) F 11 dL_passes_71 (by decide) ?_
  refine V_sub [1, 2, 3, 4, 5, 6, 7, 8, 9, 10, 11, 12, 13, 14, 15, 16, 0] (L' := [(0, vR x0), (1, vR x1), (2, vR x2), (3, vR x3), (4, vR x4), (5, vR x5), (6, vR x6), (7, vR x7), (8, vR x8), (9, vR x9), (10, vR x10), (11, vR x11), (12, vR x12), (13, vR x13), (14, vR x14), (15, vR x15), (16, vI z13)]) rfl ?_
  exact hrc11 x0 x1 x2 x3 x4 x5 x6 x7 x8 x9 x10 x11 x12 x13 x14 x15 z13 h12
theorem vB_L_passes_42 {K : CT} (F : Fr K cL_passes RL none [] 3 0) (hm : mxL K = 21) (rc11 : Option Nat → Option Nat → Option Nat → Option Nat → Option Nat → Option Nat → Option Nat → Option Nat → Option Nat → Option Nat → Option Nat → Option Nat → Option Nat → Option Nat → Option Nat → Option Nat → Int32 → MH → Res) (hrc11 : ∀ x0 x1 x2 x3 x4 x5 x6 x7 x8 x9 x10 x11 x12 x13 x14 x15 x16 h, V K 11 [(0, vR x0), (1, vR x1), (2, vR x2), (3, vR x3), (4, vR x4), (5, vR x5), (6, vR x6), (7, vR x7), (8, vR x8), (9, vR x9), (10, vR x10), (11, vR x11), (12, vR x12), (13, vR x13), (14, vR x14), (15, vR x15), (16, vI x16)] [] h (rc11 x0 x1 x2 x3 x4 x5 x6 x7 x8 x9 x10 x11 x12 x13 x14 x15 x16 h)) (x0 : Option Nat) (x1 : Option Nat) (x2 : Option Nat) (x3 : Option Nat) (x4 : Option Nat) (x5 : Option Nat) (x6 : Option Nat) (x7 : Option Nat) (x8 : Option Nat) (x9 : Option Nat) (x10 : Option Nat) (x11 : Option Nat) (x12 : Option Nat) (x13 : Option Nat) (x14 : Option Nat) (x15 : Option Nat) (x16 : Int32) (s0 : Option Nat) (s1 : Int32) (s2 : Int32) (h : MH) : V K 42 [(0, vR x0), (1, vR x1), (2, vR x2), (3, vR x3), (4, vR x4), (5, vR x5), (6, vR x6), (7, vR x7), (8, vR x8), (9, vR x9), (10, vR x10), (11, vR x11), (12, vR x12), (13, vR x13), (14, vR x14), (15, vR x15), (16, vI x16)] [vI s2, vI s1, vR s0] h (B_L_passes_42 rc11 x0 x1 x2 x3 x4 x5 x6 x7 x8 x9 x10 x11 x12 x13 x14 x15 x16 s0 s1 s2 h) := by
  unfold B_L_passes_42
  refine V_iast (pc := 42) F dL_passes_42 ?_
  intro h8
  refine V_aload (pc := 43) F dL_passes_43 14 rfl ?_
  refine V_iload (pc := 45) F dL_passes_45 16 rfl ?_
  refine V_aload_n (pc := 47) F dL_passes_47 0 rfl ?_
  refine V_iload (pc := 48) F dL_passes_48 16 rfl ?_
  refine V_iald (pc := 50) F dL_passes_50 ?_
  intro z9
  refine V_bipush (pc := 51) F (x := (8 : Int32)) dL_passes_51 (by decide) ?_
  refine V_icmp_ge (pc := 53) F 66 dL_passes_53 (by decide) ?_ ?_
  · refine V_iconst (pc := 66) F (x := (0 : Int32)) dL_passes_66 (by decide) ?_
    exact vB_L_passes_67 F hm rc11 hrc11 x0 x1 x2 x3 x4 x5 x6 x7 x8 x9 x10 x11 x12 x13 x14 x15 x16 x14 x16 (0 : Int32) h8
  · refine V_iload (pc := 56) F dL_passes_56 16 rfl ?_
    refine V_aload_n (pc := 58) F dL_passes_58 0 rfl ?_
    refine V_aload_n (pc := 59) F dL_passes_59 3 rfl ?_
    refine V_cSM (pc := 60) F (as := [vI x16, vR x0, vR x3]) (C_L_flowed x16 x0 x3 h8) w_L_flowed g_st_L_flowed g_ml_RL_59 (by decide) (rest := [vI x16, vR x14]) rfl rfl (Nat.le_of_ble_eq_true rfl) dL_passes_60 (k_I fun z10 h11 => ?_)
    refine V_goto (pc := 63) F 67 dL_passes_63 (by decide) ?_
    exact vB_L_passes_67 F hm rc11 hrc11 x0 x1 x2 x3 x4 x5 x6 x7 x8 x9 x10 x11 x12 x13 x14 x15 x16 x14 x16 z10 h11
theorem vB_L_passes_247 {K : CT} (F : Fr K cL_passes RL none [] 3 0) (hm : mxL K = 21) (rc83 : Option Nat → Option Nat → Option Nat → Option Nat → Option Nat → Option Nat → Option Nat → Option Nat → Option Nat → Option Nat → Option Nat → Option Nat → Option Nat → Option Nat → Option Nat → Option Nat → Int32 → MH → Res) (hrc83 : ∀ x0 x1 x2 x3 x4 x5 x6 x7 x8 x9 x10 x11 x12 x13 x14 x15 x16 h, V K 83 [(0, vR x0), (1, vR x1), (2, vR x2), (3, vR x3), (4, vR x4), (5, vR x5), (6, vR x6), (7, vR x7), (8, vR x8), (9, vR x9), (10, vR x10), (11, vR x11), (12, vR x12), (13, vR x13), (14, vR x14), (15, vR x15), (16, vI x16)] [] h (rc83 x0 x1 x2 x3 x4 x5 x6 x7 x8 x9 x10 x11 x12 x13 x14 x15 x16 h)) (x0 : Option Nat) (x1 : Option Nat) (x2 : Option Nat) (x3 : Option Nat) (x4 : Option Nat) (x5 : Option Nat) (x6 : Option Nat) (x7 : Option Nat) (x8 : Option Nat) (x9 : Option Nat) (x10 : Option Nat) (x11 : Option Nat) (x12 : Option Nat) (x13 : Option Nat) (x14 : Option Nat) (x15 : Option Nat) (x16 : Int32) (h : MH) : V K 247 [(0, vR x0), (1, vR x1), (2, vR x2), (3, vR x3), (4, vR x4), (5, vR x5), (6, vR x6), (7, vR x7), (8, vR x8), (9, vR x9), (10, vR x10), (11, vR x11), (12, vR x12), (13, vR x13), (14, vR x14), (15, vR x15), (16, vI x16)] [] h (B_L_passes_247 rc83 x0 x1 x2 x3 x4 x5 x6 x7 x8 x9 x10 x11 x12 x13 x14 x15 x16 h) := by
  unfold B_L_passes_247
  refine V_iinc (pc := 247) F (fun z50 => [(16, vI z50), (0, vR x0), (1, vR x1), (2, vR x2), (3, vR x3), (4, vR x4), (5, vR x5), (6, vR x6), (7, vR x7), (8, vR x8), (9, vR x9), (10, vR x10), (11, vR x11), (12, vR x12), (13, vR x13), (14, vR x14), (15, vR x15)]) dL_passes_247 (lt_mx hm (by decide)) 16 rfl (dx := (1 : Int32)) (by decide) (fun _ => rfl) ?_
  intro z50
  refine V_goto (pc := 250) F 83 dL_passes_250 (by decide) ?_
  refine V_sub [1, 2, 3, 4, 5, 6, 7, 8, 9, 10, 11, 12, 13, 14, 15, 16, 0] (L' := [(0, vR x0), (1, vR x1), (2, vR x2), (3, vR x3), (4, vR x4), (5, vR x5), (6, vR x6), (7, vR x7), (8, vR x8), (9, vR x9), (10, vR x10), (11, vR x11), (12, vR x12), (13, vR x13), (14, vR x14), (15, vR x15), (16, vI z50)]) rfl ?_
  exact hrc83 x0 x1 x2 x3 x4 x5 x6 x7 x8 x9 x10 x11 x12 x13 x14 x15 z50 h
theorem vB_L_passes_129 {K : CT} (F : Fr K cL_passes RL none [] 3 0) (hm : mxL K = 21) (rc83 : Option Nat → Option Nat → Option Nat → Option Nat → Option Nat → Option Nat → Option Nat → Option Nat → Option Nat → Option Nat → Option Nat → Option Nat → Option Nat → Option Nat → Option Nat → Option Nat → Int32 → MH → Res) (hrc83 : ∀ x0 x1 x2 x3 x4 x5 x6 x7 x8 x9 x10 x11 x12 x13 x14 x15 x16 h, V K 83 [(0, vR x0), (1, vR x1), (2, vR x2), (3, vR x3), (4, vR x4), (5, vR x5), (6, vR x6), (7, vR x7), (8, vR x8), (9, vR x9), (10, vR x10), (11, vR x11), (12, vR x12), (13, vR x13), (14, vR x14), (15, vR x15), (16, vI x16)] [] h (rc83 x0 x1 x2 x3 x4 x5 x6 x7 x8 x9 x10 x11 x12 x13 x14 x15 x16 h)) (x0 : Option Nat) (x1 : Option Nat) (x2 : Option Nat) (x3 : Option Nat) (x4 : Option Nat) (x5 : Option Nat) (x6 : Option Nat) (x7 : Option Nat) (x8 : Option Nat) (x9 : Option Nat) (x10 : Option Nat) (x11 : Option Nat) (x12 : Option Nat) (x13 : Option Nat) (x14 : Option Nat) (x15 : Option Nat) (x16 : Int32) (s0 : Int32) (h : MH) : V K 129 [(0, vR x0), (1, vR x1), (2, vR x2), (3, vR x3), (4, vR x4), (5, vR x5), (6, vR x6), (7, vR x7), (8, vR x8), (9, vR x9), (10, vR x10), (11, vR x11), (12, vR x12), (13, vR x13), (14, vR x14), (15, vR x15), (16, vI x16)] [vI s0] h (B_L_passes_129 rc83 x0 x1 x2 x3 x4 x5 x6 x7 x8 x9 x10 x11 x12 x13 x14 x15 x16 s0 h) := by
  unfold B_L_passes_129
  refine V_istore (pc := 129) F [(17, vI s0), (0, vR x0), (1, vR x1), (2, vR x2), (3, vR x3), (4, vR x4), (5, vR x5), (6, vR x6), (7, vR x7), (8, vR x8), (9, vR x9), (10, vR x10), (11, vR x11), (12, vR x12), (13, vR x13), (14, vR x14), (15, vR x15), (16, vI x16)] dL_passes_129 (lt_mx hm (by decide)) rfl ?_
  refine V_aload (pc := 131) F dL_passes_131 16 rfl ?_
  refine V_iconst (pc := 133) F (x := (1 : Int32)) dL_passes_133 (by decide) ?_
  refine V_dup2 (pc := 134) F dL_passes_134 rfl rfl ?_
  refine V_iald (pc := 135) F dL_passes_135 ?_
  intro z20
  refine V_iload (pc := 136) F dL_passes_136 0 rfl ?_
  refine V_aload (pc := 138) F dL_passes_138 14 rfl ?_
  refine V_iload (pc := 140) F dL_passes_140 17 rfl ?_
  refine V_iald (pc := 142) F dL_passes_142 ?_
  intro z21
  refine V_isub (pc := 143) F dL_passes_143 ?_
  intro z22
  refine V_iadd (pc := 144) F dL_passes_144 ?_
  intro z23
  refine V_iast (pc := 145) F dL_passes_145 ?_
  intro h24
  refine V_aload_n (pc := 146) F dL_passes_146 2 rfl ?_
  refine V_iload (pc := 147) F dL_passes_147 17 rfl ?_
  refine V_iload (pc := 149) F dL_passes_149 0 rfl ?_
  refine V_iast (pc := 151) F dL_passes_151 ?_
  intro h25
  refine V_aload_n (pc := 152) F dL_passes_152 1 rfl ?_
  refine V_iload (pc := 153) F dL_passes_153 17 rfl ?_
  refine V_iald (pc := 155) F dL_passes_155 ?_
  intro z26
  refine V_bipush (pc := 156) F (x := (8 : Int32)) dL_passes_156 (by decide) ?_
  refine V_icmp_ge (pc := 158) F 247 dL_passes_158 (by decide) ?_ ?_
  · refine V_sub [1, 2, 3, 4, 5, 6, 7, 8, 9, 10, 11, 12, 13, 14, 15, 16, 17] (L' := [(0, vR x0), (1, vR x1), (2, vR x2), (3, vR x3), (4, vR x4), (5, vR x5), (6, vR x6), (7, vR x7), (8, vR x8), (9, vR x9), (10, vR x10), (11, vR x11), (12, vR x12), (13, vR x13), (14, vR x14), (15, vR x15), (16, vI x16)]) rfl ?_
    exact vB_L_passes_247 F hm rc83 hrc83 x0 x1 x2 x3 x4 x5 x6 x7 x8 x9 x10 x11 x12 x13 x14 x15 x16 h25
  · refine V_aload_n (pc := 161) F dL_passes_161 2 rfl ?_
    refine V_iload (pc := 162) F dL_passes_162 17 rfl ?_
    refine V_iald (pc := 164) F dL_passes_164 ?_
    intro z27
    refine V_aload_n (pc := 165) F dL_passes_165 3 rfl ?_
    refine V_iload (pc := 166) F dL_passes_166 17 rfl ?_
    refine V_iald (pc := 168) F dL_passes_168 ?_
    intro z28
    refine V_isub (pc := 169) F dL_passes_169 ?_
    intro z29
    refine V_iconst (pc := 170) F (x := (5 : Int32)) dL_passes_170 (by decide) ?_
    refine V_aload_n (pc := 171) F dL_passes_171 4 rfl ?_
    refine V_iload (pc := 172) F dL_passes_172 17 rfl ?_
    refine V_iald (pc := 174) F dL_passes_174 ?_
    intro z30
    refine V_aload (pc := 175) F dL_passes_175 5 rfl ?_
    refine V_iload (pc := 177) F dL_passes_177 17 rfl ?_
    refine V_iald (pc := 179) F dL_passes_179 ?_
    intro z31
    refine V_isub (pc := 180) F dL_passes_180 ?_
    intro z32
    refine V_imul (pc := 181) F dL_passes_181 ?_
    intro z33
    refine V_icmp_ge (pc := 182) F 247 dL_passes_182 (by decide) ?_ ?_
    · refine V_sub [1, 2, 3, 4, 5, 6, 7, 8, 9, 10, 11, 12, 13, 14, 15, 16, 17] (L' := [(0, vR x0), (1, vR x1), (2, vR x2), (3, vR x3), (4, vR x4), (5, vR x5), (6, vR x6), (7, vR x7), (8, vR x8), (9, vR x9), (10, vR x10), (11, vR x11), (12, vR x12), (13, vR x13), (14, vR x14), (15, vR x15), (16, vI x16)]) rfl ?_
      exact vB_L_passes_247 F hm rc83 hrc83 x0 x1 x2 x3 x4 x5 x6 x7 x8 x9 x10 x11 x12 x13 x14 x15 x16 h25
    · refine V_aload_n (pc := 185) F dL_passes_185 2 rfl ?_
      refine V_iload (pc := 186) F dL_passes_186 17 rfl ?_
      refine V_iald (pc := 188) F dL_passes_188 ?_
      intro z34
      refine V_aload_n (pc := 189) F dL_passes_189 3 rfl ?_
      refine V_iload (pc := 190) F dL_passes_190 17 rfl ?_
      refine V_iald (pc := 192) F dL_passes_192 ?_
      intro z35
      refine V_iadd (pc := 193) F dL_passes_193 ?_
      intro z36
      refine V_istore (pc := 194) F [(18, vI z36), (17, vI s0), (0, vR x0), (1, vR x1), (2, vR x2), (3, vR x3), (4, vR x4), (5, vR x5), (6, vR x6), (7, vR x7), (8, vR x8), (9, vR x9), (10, vR x10), (11, vR x11), (12, vR x12), (13, vR x13), (14, vR x14), (15, vR x15), (16, vI x16)] dL_passes_194 (lt_mx hm (by decide)) rfl ?_
      refine V_aload_n (pc := 196) F dL_passes_196 5 rfl ?_
      refine V_iload (pc := 197) F dL_passes_197 18 rfl ?_
      refine V_iald (pc := 199) F dL_passes_199 ?_
      intro z37
      refine V_aload (pc := 200) F dL_passes_200 6 rfl ?_
      refine V_iload (pc := 202) F dL_passes_202 18 rfl ?_
      refine V_iald (pc := 204) F dL_passes_204 ?_
      intro z38
      refine V_iadd (pc := 205) F dL_passes_205 ?_
      intro z39
      refine V_istore (pc := 206) F [(19, vI z39), (18, vI z36), (17, vI s0), (0, vR x0), (1, vR x1), (2, vR x2), (3, vR x3), (4, vR x4), (5, vR x5), (6, vR x6), (7, vR x7), (8, vR x8), (9, vR x9), (10, vR x10), (11, vR x11), (12, vR x12), (13, vR x13), (14, vR x14), (15, vR x15), (16, vI x16)] dL_passes_206 (lt_mx hm (by decide)) rfl ?_
      refine V_aload_n (pc := 208) F dL_passes_208 4 rfl ?_
      refine V_iload (pc := 209) F dL_passes_209 19 rfl ?_
      refine V_iload (pc := 211) F dL_passes_211 1 rfl ?_
      refine V_iconst (pc := 213) F (x := (2 : Int32)) dL_passes_213 (by decide) ?_
      refine V_idiv (pc := 214) F dL_passes_214 ?_
      intro z40
      refine V_iast (pc := 215) F dL_passes_215 ?_
      intro h41
      refine V_aload_n (pc := 216) F dL_passes_216 6 rfl ?_
      refine V_iload (pc := 217) F dL_passes_217 19 rfl ?_
      refine V_iload (pc := 219) F dL_passes_219 0 rfl ?_
      refine V_iconst (pc := 221) F (x := (2 : Int32)) dL_passes_221 (by decide) ?_
      refine V_idiv (pc := 222) F dL_passes_222 ?_
      intro z42
      refine V_iast (pc := 223) F dL_passes_223 ?_
      intro h43
      refine V_aload_n (pc := 224) F dL_passes_224 5 rfl ?_
      refine V_iload (pc := 225) F dL_passes_225 19 rfl ?_
      refine V_iload (pc := 227) F dL_passes_227 1 rfl ?_
      refine V_aload_n (pc := 229) F dL_passes_229 4 rfl ?_
      refine V_iload (pc := 230) F dL_passes_230 19 rfl ?_
      refine V_iald (pc := 232) F dL_passes_232 ?_
      intro z44
      refine V_isub (pc := 233) F dL_passes_233 ?_
      intro z45
      refine V_iast (pc := 234) F dL_passes_234 ?_
      intro h46
      refine V_aload (pc := 235) F dL_passes_235 7 rfl ?_
      refine V_iload (pc := 237) F dL_passes_237 19 rfl ?_
      refine V_iload (pc := 239) F dL_passes_239 0 rfl ?_
      refine V_aload_n (pc := 241) F dL_passes_241 6 rfl ?_
      refine V_iload (pc := 242) F dL_passes_242 19 rfl ?_
      refine V_iald (pc := 244) F dL_passes_244 ?_
      intro z47
      refine V_isub (pc := 245) F dL_passes_245 ?_
      intro z48
      refine V_iast (pc := 246) F dL_passes_246 ?_
      intro h49
      refine V_sub [3, 4, 5, 6, 7, 8, 9, 10, 11, 12, 13, 14, 15, 16, 17, 18, 19] (L' := [(0, vR x0), (1, vR x1), (2, vR x2), (3, vR x3), (4, vR x4), (5, vR x5), (6, vR x6), (7, vR x7), (8, vR x8), (9, vR x9), (10, vR x10), (11, vR x11), (12, vR x12), (13, vR x13), (14, vR x14), (15, vR x15), (16, vI x16)]) rfl ?_
      exact vB_L_passes_247 F hm rc83 hrc83 x0 x1 x2 x3 x4 x5 x6 x7 x8 x9 x10 x11 x12 x13 x14 x15 x16 h49
theorem vB_L_passes_123 {K : CT} (F : Fr K cL_passes RL none [] 3 0) (hm : mxL K = 21) (rc83 : Option Nat → Option Nat → Option Nat → Option Nat → Option Nat → Option Nat → Option Nat → Option Nat → Option Nat → Option Nat → Option Nat → Option Nat → Option Nat → Option Nat → Option Nat → Option Nat → Int32 → MH → Res) (hrc83 : ∀ x0 x1 x2 x3 x4 x5 x6 x7 x8 x9 x10 x11 x12 x13 x14 x15 x16 h, V K 83 [(0, vR x0), (1, vR x1), (2, vR x2), (3, vR x3), (4, vR x4), (5, vR x5), (6, vR x6), (7, vR x7), (8, vR x8), (9, vR x9), (10, vR x10), (11, vR x11), (12, vR x12), (13, vR x13), (14, vR x14), (15, vR x15), (16, vI x16)] [] h (rc83 x0 x1 x2 x3 x4 x5 x6 x7 x8 x9 x10 x11 x12 x13 x14 x15 x16 h)) (x0 : Option Nat) (x1 : Option Nat) (x2 : Option Nat) (x3 : Option Nat) (x4 : Option Nat) (x5 : Option Nat) (x6 : Option Nat) (x7 : Option Nat) (x8 : Option Nat) (x9 : Option Nat) (x10 : Option Nat) (x11 : Option Nat) (x12 : Option Nat) (x13 : Option Nat) (x14 : Option Nat) (x15 : Option Nat) (x16 : Int32) (h : MH) : V K 123 [(0, vR x0), (1, vR x1), (2, vR x2), (3, vR x3), (4, vR x4), (5, vR x5), (6, vR x6), (7, vR x7), (8, vR x8), (9, vR x9), (10, vR x10), (11, vR x11), (12, vR x12), (13, vR x13), (14, vR x14), (15, vR x15), (16, vI x16)] [] h (B_L_passes_123 rc83 x0 x1 x2 x3 x4 x5 x6 x7 x8 x9 x10 x11 x12 x13 x14 x15 x16 h) := by
  unfold B_L_passes_123
  refine V_iconst (pc := 123) F (x := (0 : Int32)) dL_passes_123 (by decide) ?_
  refine V_goto (pc := 124) F 129 dL_passes_124 (by decide) ?_
  exact vB_L_passes_129 F hm rc83 hrc83 x0 x1 x2 x3 x4 x5 x6 x7 x8 x9 x10 x11 x12 x13 x14 x15 x16 (0 : Int32) h
theorem vB_L_passes_457 {K : CT} (F : Fr K cL_passes RL none [] 3 0) (hm : mxL K = 21) (rc256 : Option Nat → Option Nat → Option Nat → Option Nat → Option Nat → Option Nat → Option Nat → Option Nat → Option Nat → Option Nat → Option Nat → Option Nat → Option Nat → Int32 → MH → Res) (hrc256 : ∀ x0 x1 x5 x6 x7 x8 x9 x10 x11 x12 x13 x14 x15 x16 h, V K 256 [(0, vR x0), (1, vR x1), (5, vR x5), (6, vR x6), (7, vR x7), (8, vR x8), (9, vR x9), (10, vR x10), (11, vR x11), (12, vR x12), (13, vR x13), (14, vR x14), (15, vR x15), (16, vI x16)] [] h (rc256 x0 x1 x5 x6 x7 x8 x9 x10 x11 x12 x13 x14 x15 x16 h)) (x0 : Option Nat) (x1 : Option Nat) (x5 : Option Nat) (x6 : Option Nat) (x7 : Option Nat) (x8 : Option Nat) (x9 : Option Nat) (x10 : Option Nat) (x11 : Option Nat) (x12 : Option Nat) (x13 : Option Nat) (x14 : Option Nat) (x15 : Option Nat) (x16 : Int32) (h : MH) : V K 457 [(0, vR x0), (1, vR x1), (5, vR x5), (6, vR x6), (7, vR x7), (8, vR x8), (9, vR x9), (10, vR x10), (11, vR x11), (12, vR x12), (13, vR x13), (14, vR x14), (15, vR x15), (16, vI x16)] [] h (B_L_passes_457 rc256 x0 x1 x5 x6 x7 x8 x9 x10 x11 x12 x13 x14 x15 x16 h) := by
  unfold B_L_passes_457
  refine V_iinc (pc := 457) F (fun z99 => [(16, vI z99), (0, vR x0), (1, vR x1), (5, vR x5), (6, vR x6), (7, vR x7), (8, vR x8), (9, vR x9), (10, vR x10), (11, vR x11), (12, vR x12), (13, vR x13), (14, vR x14), (15, vR x15)]) dL_passes_457 (lt_mx hm (by decide)) 13 rfl (dx := (1 : Int32)) (by decide) (fun _ => rfl) ?_
  intro z99
  refine V_goto (pc := 460) F 256 dL_passes_460 (by decide) ?_
  refine V_sub [1, 2, 3, 4, 5, 6, 7, 8, 9, 10, 11, 12, 13, 0] (L' := [(0, vR x0), (1, vR x1), (5, vR x5), (6, vR x6), (7, vR x7), (8, vR x8), (9, vR x9), (10, vR x10), (11, vR x11), (12, vR x12), (13, vR x13), (14, vR x14), (15, vR x15), (16, vI z99)]) rfl ?_
  exact hrc256 x0 x1 x5 x6 x7 x8 x9 x10 x11 x12 x13 x14 x15 z99 h
theorem vB_L_passes_456 {K : CT} (F : Fr K cL_passes RL none [] 3 0) (hm : mxL K = 21) (rc256 : Option Nat → Option Nat → Option Nat → Option Nat → Option Nat → Option Nat → Option Nat → Option Nat → Option Nat → Option Nat → Option Nat → Option Nat → Option Nat → Int32 → MH → Res) (hrc256 : ∀ x0 x1 x5 x6 x7 x8 x9 x10 x11 x12 x13 x14 x15 x16 h, V K 256 [(0, vR x0), (1, vR x1), (5, vR x5), (6, vR x6), (7, vR x7), (8, vR x8), (9, vR x9), (10, vR x10), (11, vR x11), (12, vR x12), (13, vR x13), (14, vR x14), (15, vR x15), (16, vI x16)] [] h (rc256 x0 x1 x5 x6 x7 x8 x9 x10 x11 x12 x13 x14 x15 x16 h)) (x0 : Option Nat) (x1 : Option Nat) (x5 : Option Nat) (x6 : Option Nat) (x7 : Option Nat) (x8 : Option Nat) (x9 : Option Nat) (x10 : Option Nat) (x11 : Option Nat) (x12 : Option Nat) (x13 : Option Nat) (x14 : Option Nat) (x15 : Option Nat) (x16 : Int32) (s0 : Option Nat) (s1 : Int32) (s2 : Int32) (h : MH) : V K 456 [(0, vR x0), (1, vR x1), (5, vR x5), (6, vR x6), (7, vR x7), (8, vR x8), (9, vR x9), (10, vR x10), (11, vR x11), (12, vR x12), (13, vR x13), (14, vR x14), (15, vR x15), (16, vI x16)] [vI s2, vI s1, vR s0] h (B_L_passes_456 rc256 x0 x1 x5 x6 x7 x8 x9 x10 x11 x12 x13 x14 x15 x16 s0 s1 s2 h) := by
  unfold B_L_passes_456
  refine V_iast (pc := 456) F dL_passes_456 ?_
  intro h98
  exact vB_L_passes_457 F hm rc256 hrc256 x0 x1 x5 x6 x7 x8 x9 x10 x11 x12 x13 x14 x15 x16 h98
theorem vB_L_passes_361 {K : CT} (F : Fr K cL_passes RL none [] 3 0) (hm : mxL K = 21) (rc256 : Option Nat → Option Nat → Option Nat → Option Nat → Option Nat → Option Nat → Option Nat → Option Nat → Option Nat → Option Nat → Option Nat → Option Nat → Option Nat → Int32 → MH → Res) (hrc256 : ∀ x0 x1 x5 x6 x7 x8 x9 x10 x11 x12 x13 x14 x15 x16 h, V K 256 [(0, vR x0), (1, vR x1), (5, vR x5), (6, vR x6), (7, vR x7), (8, vR x8), (9, vR x9), (10, vR x10), (11, vR x11), (12, vR x12), (13, vR x13), (14, vR x14), (15, vR x15), (16, vI x16)] [] h (rc256 x0 x1 x5 x6 x7 x8 x9 x10 x11 x12 x13 x14 x15 x16 h)) (x0 : Option Nat) (x1 : Option Nat) (x5 : Option Nat) (x6 : Option Nat) (x7 : Option Nat) (x8 : Option Nat) (x9 : Option Nat) (x10 : Option Nat) (x11 : Option Nat) (x12 : Option Nat) (x13 : Option Nat) (x14 : Option Nat) (x15 : Option Nat) (x16 : Int32) (s0 : Option Nat) (s1 : Int32) (s2 : Int32) (h : MH) : V K 361 [(0, vR x0), (1, vR x1), (5, vR x5), (6, vR x6), (7, vR x7), (8, vR x8), (9, vR x9), (10, vR x10), (11, vR x11), (12, vR x12), (13, vR x13), (14, vR x14), (15, vR x15), (16, vI x16)] [vI s2, vI s1, vR s0] h (B_L_passes_361 rc256 x0 x1 x5 x6 x7 x8 x9 x10 x11 x12 x13 x14 x15 x16 s0 s1 s2 h) := by
  unfold B_L_passes_361
  refine V_iast (pc := 361) F dL_passes_361 ?_
  intro h73
  refine V_aload (pc := 362) F dL_passes_362 2 rfl ?_
  refine V_bipush (pc := 364) F (x := (8 : Int32)) dL_passes_364 (by decide) ?_
  refine V_iload (pc := 366) F dL_passes_366 13 rfl ?_
  refine V_imul (pc := 368) F dL_passes_368 ?_
  intro z74
  refine V_iald (pc := 369) F dL_passes_369 ?_
  intro z75
  refine V_iload (pc := 370) F dL_passes_370 13 rfl ?_
  refine V_iconst (pc := 372) F (x := (1 : Int32)) dL_passes_372 (by decide) ?_
  refine V_iadd (pc := 373) F dL_passes_373 ?_
  intro z76
  refine V_aload_n (pc := 374) F dL_passes_374 1 rfl ?_
  refine V_aload (pc := 375) F dL_passes_375 2 rfl ?_
  refine V_bipush (pc := 377) F (x := (8 : Int32)) dL_passes_377 (by decide) ?_
  refine V_iload (pc := 379) F dL_passes_379 13 rfl ?_
  refine V_imul (pc := 381) F dL_passes_381 ?_
  intro z77
  refine V_iald (pc := 382) F dL_passes_382 ?_
  intro z78
  refine V_iald (pc := 383) F dL_passes_383 ?_
  intro z79
  refine V_aload (pc := 384) F dL_passes_384 2 rfl ?_
  refine V_bipush (pc := 386) F (x := (8 : Int32)) dL_passes_386 (by decide) ?_
  refine V_iload (pc := 388) F dL_passes_388 13 rfl ?_
  refine V_imul (pc := 390) F dL_passes_390 ?_
  intro z80
  refine V_iconst (pc := 391) F (x := (4 : Int32)) dL_passes_391 (by decide) ?_
  refine V_iadd (pc := 392) F dL_passes_392 ?_
  intro z81
  refine V_iald (pc := 393) F dL_passes_393 ?_
  intro z82
  refine V_iadd (pc := 394) F dL_passes_394 ?_
  intro z83
  refine V_aload (pc := 395) F dL_passes_395 5 rfl ?_
  refine V_aload (pc := 397) F dL_passes_397 6 rfl ?_
  refine V_aload (pc := 399) F dL_passes_399 7 rfl ?_
  refine V_aload (pc := 401) F dL_passes_401 12 rfl ?_
  refine V_cSM (pc := 403) F (as := [vI z75, vI z76, vI z83, vR x8, vR x9, vR x10, vR x15]) (C_L_reads z75 z76 z83 x8 x9 x10 x15 h73) w_L_reads g_st_L_reads g_ml_RL_67 (by decide) (rest := []) rfl rfl (Nat.le_of_ble_eq_true rfl) dL_passes_403 (k_V fun h84 => ?_)
  refine V_aload (pc := 406) F dL_passes_406 2 rfl ?_
  refine V_bipush (pc := 408) F (x := (8 : Int32)) dL_passes_408 (by decide) ?_
  refine V_iload (pc := 410) F dL_passes_410 13 rfl ?_
  refine V_imul (pc := 412) F dL_passes_412 ?_
  intro z85
  refine V_iconst (pc := 413) F (x := (3 : Int32)) dL_passes_413 (by decide) ?_
  refine V_iadd (pc := 414) F dL_passes_414 ?_
  intro z86
  refine V_dup2 (pc := 415) F dL_passes_415 rfl rfl ?_
  refine V_iald (pc := 416) F dL_passes_416 ?_
  intro z87
  refine V_iconst (pc := 417) F (x := (1 : Int32)) dL_passes_417 (by decide) ?_
  refine V_isub (pc := 418) F dL_passes_418 ?_
  intro z88
  refine V_iast (pc := 419) F dL_passes_419 ?_
  intro h89
  refine V_aload (pc := 420) F dL_passes_420 2 rfl ?_
  refine V_bipush (pc := 422) F (x := (8 : Int32)) dL_passes_422 (by decide) ?_
  refine V_iload (pc := 424) F dL_passes_424 13 rfl ?_
  refine V_imul (pc := 426) F dL_passes_426 ?_
  intro z90
  refine V_iconst (pc := 427) F (x := (2 : Int32)) dL_passes_427 (by decide) ?_
  refine V_iadd (pc := 428) F dL_passes_428 ?_
  intro z91
  refine V_aload (pc := 429) F dL_passes_429 2 rfl ?_
  refine V_bipush (pc := 431) F (x := (8 : Int32)) dL_passes_431 (by decide) ?_
  refine V_iload (pc := 433) F dL_passes_433 13 rfl ?_
  refine V_imul (pc := 435) F dL_passes_435 ?_
  intro z92
  refine V_iconst (pc := 436) F (x := (3 : Int32)) dL_passes_436 (by decide) ?_
  refine V_iadd (pc := 437) F dL_passes_437 ?_
  intro z93
  refine V_iald (pc := 438) F dL_passes_438 ?_
  intro z94
  refine V_if_le (pc := 439) F 455 dL_passes_439 (by decide) ?_ ?_
  · refine V_iconst (pc := 455) F (x := (0 : Int32)) dL_passes_455 (by decide) ?_
    exact vB_L_passes_456 F hm rc256 hrc256 x0 x1 x5 x6 x7 x8 x9 x10 x11 x12 x13 x14 x15 x16 x5 z91 (0 : Int32) h89
  · refine V_aload (pc := 442) F dL_passes_442 2 rfl ?_
    refine V_bipush (pc := 444) F (x := (8 : Int32)) dL_passes_444 (by decide) ?_
    refine V_iload (pc := 446) F dL_passes_446 13 rfl ?_
    refine V_imul (pc := 448) F dL_passes_448 ?_
    intro z95
    refine V_iconst (pc := 449) F (x := (1 : Int32)) dL_passes_449 (by decide) ?_
    refine V_iadd (pc := 450) F dL_passes_450 ?_
    intro z96
    refine V_iald (pc := 451) F dL_passes_451 ?_
    intro z97
    refine V_goto (pc := 452) F 456 dL_passes_452 (by decide) ?_
    exact vB_L_passes_456 F hm rc256 hrc256 x0 x1 x5 x6 x7 x8 x9 x10 x11 x12 x13 x14 x15 x16 x5 z91 z97 h89
theorem vB_L_passes_294 {K : CT} (F : Fr K cL_passes RL none [] 3 0) (hm : mxL K = 21) (rc256 : Option Nat → Option Nat → Option Nat → Option Nat → Option Nat → Option Nat → Option Nat → Option Nat → Option Nat → Option Nat → Option Nat → Option Nat → Option Nat → Int32 → MH → Res) (hrc256 : ∀ x0 x1 x5 x6 x7 x8 x9 x10 x11 x12 x13 x14 x15 x16 h, V K 256 [(0, vR x0), (1, vR x1), (5, vR x5), (6, vR x6), (7, vR x7), (8, vR x8), (9, vR x9), (10, vR x10), (11, vR x11), (12, vR x12), (13, vR x13), (14, vR x14), (15, vR x15), (16, vI x16)] [] h (rc256 x0 x1 x5 x6 x7 x8 x9 x10 x11 x12 x13 x14 x15 x16 h)) (x0 : Option Nat) (x1 : Option Nat) (x5 : Option Nat) (x6 : Option Nat) (x7 : Option Nat) (x8 : Option Nat) (x9 : Option Nat) (x10 : Option Nat) (x11 : Option Nat) (x12 : Option Nat) (x13 : Option Nat) (x14 : Option Nat) (x15 : Option Nat) (x16 : Int32) (s0 : Option Nat) (s1 : Int32) (s2 : Int32) (s3 : Int32) (h : MH) : V K 294 [(0, vR x0), (1, vR x1), (5, vR x5), (6, vR x6), (7, vR x7), (8, vR x8), (9, vR x9), (10, vR x10), (11, vR x11), (12, vR x12), (13, vR x13), (14, vR x14), (15, vR x15), (16, vI x16)] [vI s3, vI s2, vI s1, vR s0] h (B_L_passes_294 rc256 x0 x1 x5 x6 x7 x8 x9 x10 x11 x12 x13 x14 x15 x16 s0 s1 s2 s3 h) := by
  unfold B_L_passes_294
  refine V_isub (pc := 294) F dL_passes_294 ?_
  intro z58
  refine V_iast (pc := 295) F dL_passes_295 ?_
  intro h59
  refine V_aload (pc := 296) F dL_passes_296 2 rfl ?_
  refine V_bipush (pc := 298) F (x := (8 : Int32)) dL_passes_298 (by decide) ?_
  refine V_iload (pc := 300) F dL_passes_300 13 rfl ?_
  refine V_imul (pc := 302) F dL_passes_302 ?_
  intro z60
  refine V_iconst (pc := 303) F (x := (3 : Int32)) dL_passes_303 (by decide) ?_
  refine V_iadd (pc := 304) F dL_passes_304 ?_
  intro z61
  refine V_iald (pc := 305) F dL_passes_305 ?_
  intro z62
  refine V_if_le (pc := 306) F 457 dL_passes_306 (by decide) ?_ ?_
  · exact vB_L_passes_457 F hm rc256 hrc256 x0 x1 x5 x6 x7 x8 x9 x10 x11 x12 x13 x14 x15 x16 h59
  · refine V_aload (pc := 309) F dL_passes_309 2 rfl ?_
    refine V_bipush (pc := 311) F (x := (8 : Int32)) dL_passes_311 (by decide) ?_
    refine V_iload (pc := 313) F dL_passes_313 13 rfl ?_
    refine V_imul (pc := 315) F dL_passes_315 ?_
    intro z63
    refine V_iconst (pc := 316) F (x := (2 : Int32)) dL_passes_316 (by decide) ?_
    refine V_iadd (pc := 317) F dL_passes_317 ?_
    intro z64
    refine V_iald (pc := 318) F dL_passes_318 ?_
    intro z65
    refine V_if_ne (pc := 319) F 457 dL_passes_319 (by decide) ?_ ?_
    · exact vB_L_passes_457 F hm rc256 hrc256 x0 x1 x5 x6 x7 x8 x9 x10 x11 x12 x13 x14 x15 x16 h59
    · refine V_aload (pc := 322) F dL_passes_322 2 rfl ?_
      refine V_bipush (pc := 324) F (x := (8 : Int32)) dL_passes_324 (by decide) ?_
      refine V_iload (pc := 326) F dL_passes_326 13 rfl ?_
      refine V_imul (pc := 328) F dL_passes_328 ?_
      intro z66
      refine V_iald (pc := 329) F dL_passes_329 ?_
      intro z67
      refine V_aload_n (pc := 330) F dL_passes_330 0 rfl ?_
      refine V_cSM (pc := 331) F (as := [vI z67, vR x0]) (C_L_leads z67 x0 h59) w_L_leads g_st_L_leads g_ml_RL_55 (by decide) (rest := []) rfl rfl (Nat.le_of_ble_eq_true rfl) dL_passes_331 (k_I fun z68 h69 => ?_)
      refine V_istore (pc := 334) F [(17, vI z68), (0, vR x0), (1, vR x1), (5, vR x5), (6, vR x6), (7, vR x7), (8, vR x8), (9, vR x9), (10, vR x10), (11, vR x11), (12, vR x12), (13, vR x13), (14, vR x14), (15, vR x15), (16, vI x16)] dL_passes_334 (lt_mx hm (by decide)) rfl ?_
      refine V_aload (pc := 336) F dL_passes_336 3 rfl ?_
      refine V_bipush (pc := 338) F (x := (8 : Int32)) dL_passes_338 (by decide) ?_
      refine V_iload (pc := 340) F dL_passes_340 14 rfl ?_
      refine V_imul (pc := 342) F dL_passes_342 ?_
      intro z70
      refine V_iload (pc := 343) F dL_passes_343 0 rfl ?_
      refine V_if_ge (pc := 345) F 359 dL_passes_345 (by decide) ?_ ?_
      · refine V_iload (pc := 359) F dL_passes_359 0 rfl ?_
        refine V_sub [1, 2, 3, 4, 5, 6, 7, 8, 9, 10, 11, 12, 13, 14] (L' := [(0, vR x0), (1, vR x1), (5, vR x5), (6, vR x6), (7, vR x7), (8, vR x8), (9, vR x9), (10, vR x10), (11, vR x11), (12, vR x12), (13, vR x13), (14, vR x14), (15, vR x15), (16, vI x16)]) rfl ?_
        exact vB_L_passes_361 F hm rc256 hrc256 x0 x1 x5 x6 x7 x8 x9 x10 x11 x12 x13 x14 x15 x16 x5 z70 z68 h69
      · refine V_aload (pc := 348) F dL_passes_348 3 rfl ?_
        refine V_bipush (pc := 350) F (x := (8 : Int32)) dL_passes_350 (by decide) ?_
        refine V_iload (pc := 352) F dL_passes_352 14 rfl ?_
        refine V_imul (pc := 354) F dL_passes_354 ?_
        intro z71
        refine V_iald (pc := 355) F dL_passes_355 ?_
        intro z72
        refine V_goto (pc := 356) F 361 dL_passes_356 (by decide) ?_
        refine V_sub [1, 2, 3, 4, 5, 6, 7, 8, 9, 10, 11, 12, 13, 14] (L' := [(0, vR x0), (1, vR x1), (5, vR x5), (6, vR x6), (7, vR x7), (8, vR x8), (9, vR x9), (10, vR x10), (11, vR x11), (12, vR x12), (13, vR x13), (14, vR x14), (15, vR x15), (16, vI x16)]) rfl ?_
        exact vB_L_passes_361 F hm rc256 hrc256 x0 x1 x5 x6 x7 x8 x9 x10 x11 x12 x13 x14 x15 x16 x5 z70 z72 h69
theorem vB_L_passes_524 {K : CT} (F : Fr K cL_passes RL none [] 3 0) (hm : mxL K = 21) (rc466 : Option Nat → Option Nat → Option Nat → Option Nat → Option Nat → Option Nat → Option Nat → Option Nat → Option Nat → Option Nat → Option Nat → Option Nat → Int32 → MH → Res) (hrc466 : ∀ x0 x1 x6 x7 x8 x9 x10 x11 x12 x13 x14 x15 x16 h, V K 466 [(0, vR x0), (1, vR x1), (6, vR x6), (7, vR x7), (8, vR x8), (9, vR x9), (10, vR x10), (11, vR x11), (12, vR x12), (13, vR x13), (14, vR x14), (15, vR x15), (16, vI x16)] [] h (rc466 x0 x1 x6 x7 x8 x9 x10 x11 x12 x13 x14 x15 x16 h)) (x0 : Option Nat) (x1 : Option Nat) (x6 : Option Nat) (x7 : Option Nat) (x8 : Option Nat) (x9 : Option Nat) (x10 : Option Nat) (x11 : Option Nat) (x12 : Option Nat) (x13 : Option Nat) (x14 : Option Nat) (x15 : Option Nat) (x16 : Int32) (s0 : Option Nat) (s1 : Int32) (s2 : Int32) (h : MH) : V K 524 [(0, vR x0), (1, vR x1), (6, vR x6), (7, vR x7), (8, vR x8), (9, vR x9), (10, vR x10), (11, vR x11), (12, vR x12), (13, vR x13), (14, vR x14), (15, vR x15), (16, vI x16)] [vI s2, vI s1, vR s0] h (B_L_passes_524 rc466 x0 x1 x6 x7 x8 x9 x10 x11 x12 x13 x14 x15 x16 s0 s1 s2 h) := by
  unfold B_L_passes_524
  refine V_iast (pc := 524) F dL_passes_524 ?_
  intro h109
  refine V_iinc (pc := 525) F (fun z110 => [(16, vI z110), (0, vR x0), (1, vR x1), (6, vR x6), (7, vR x7), (8, vR x8), (9, vR x9), (10, vR x10), (11, vR x11), (12, vR x12), (13, vR x13), (14, vR x14), (15, vR x15)]) dL_passes_525 (lt_mx hm (by decide)) 12 rfl (dx := (1 : Int32)) (by decide) (fun _ => rfl) ?_
  intro z110
  refine V_goto (pc := 528) F 466 dL_passes_528 (by decide) ?_
  refine V_sub [1, 2, 3, 4, 5, 6, 7, 8, 9, 10, 11, 12, 0] (L' := [(0, vR x0), (1, vR x1), (6, vR x6), (7, vR x7), (8, vR x8), (9, vR x9), (10, vR x10), (11, vR x11), (12, vR x12), (13, vR x13), (14, vR x14), (15, vR x15), (16, vI z110)]) rfl ?_
  exact hrc466 x0 x1 x6 x7 x8 x9 x10 x11 x12 x13 x14 x15 z110 h109
theorem vB_L_passes_498 {K : CT} (F : Fr K cL_passes RL none [] 3 0) (hm : mxL K = 21) (rc466 : Option Nat → Option Nat → Option Nat → Option Nat → Option Nat → Option Nat → Option Nat → Option Nat → Option Nat → Option Nat → Option Nat → Option Nat → Int32 → MH → Res) (hrc466 : ∀ x0 x1 x6 x7 x8 x9 x10 x11 x12 x13 x14 x15 x16 h, V K 466 [(0, vR x0), (1, vR x1), (6, vR x6), (7, vR x7), (8, vR x8), (9, vR x9), (10, vR x10), (11, vR x11), (12, vR x12), (13, vR x13), (14, vR x14), (15, vR x15), (16, vI x16)] [] h (rc466 x0 x1 x6 x7 x8 x9 x10 x11 x12 x13 x14 x15 x16 h)) (x0 : Option Nat) (x1 : Option Nat) (x6 : Option Nat) (x7 : Option Nat) (x8 : Option Nat) (x9 : Option Nat) (x10 : Option Nat) (x11 : Option Nat) (x12 : Option Nat) (x13 : Option Nat) (x14 : Option Nat) (x15 : Option Nat) (x16 : Int32) (s0 : Option Nat) (s1 : Int32) (s2 : Int32) (h : MH) : V K 498 [(0, vR x0), (1, vR x1), (6, vR x6), (7, vR x7), (8, vR x8), (9, vR x9), (10, vR x10), (11, vR x11), (12, vR x12), (13, vR x13), (14, vR x14), (15, vR x15), (16, vI x16)] [vI s2, vI s1, vR s0] h (B_L_passes_498 rc466 x0 x1 x6 x7 x8 x9 x10 x11 x12 x13 x14 x15 x16 s0 s1 s2 h) := by
  unfold B_L_passes_498
  refine V_iast (pc := 498) F dL_passes_498 ?_
  intro h105
  refine V_aload (pc := 499) F dL_passes_499 10 rfl ?_
  refine V_iload (pc := 501) F dL_passes_501 12 rfl ?_
  refine V_aload_n (pc := 503) F dL_passes_503 0 rfl ?_
  refine V_iload (pc := 504) F dL_passes_504 12 rfl ?_
  refine V_iald (pc := 506) F dL_passes_506 ?_
  intro z106
  refine V_bipush (pc := 507) F (x := (7 : Int32)) dL_passes_507 (by decide) ?_
  refine V_icmp_le (pc := 509) F 516 dL_passes_509 (by decide) ?_ ?_
  · refine V_iload (pc := 516) F dL_passes_516 12 rfl ?_
    refine V_aload_n (pc := 518) F dL_passes_518 0 rfl ?_
    refine V_aload (pc := 519) F dL_passes_519 8 rfl ?_
    refine V_cSM (pc := 521) F (as := [vI x16, vR x0, vR x12]) (C_L_drifted x16 x0 x12 h105) w_L_drifted g_st_L_drifted g_ml_RL_71 (by decide) (rest := [vI x16, vR x14]) rfl rfl (Nat.le_of_ble_eq_true rfl) dL_passes_521 (k_I fun z107 h108 => ?_)
    exact vB_L_passes_524 F hm rc466 hrc466 x0 x1 x6 x7 x8 x9 x10 x11 x12 x13 x14 x15 x16 x14 x16 z107 h108
  · refine V_iconst (pc := 512) F (x := (0 : Int32)) dL_passes_512 (by decide) ?_
    refine V_goto (pc := 513) F 524 dL_passes_513 (by decide) ?_
    exact vB_L_passes_524 F hm rc466 hrc466 x0 x1 x6 x7 x8 x9 x10 x11 x12 x13 x14 x15 x16 x14 x16 (0 : Int32) h105
theorem vB_L_passes_637 {K : CT} (F : Fr K cL_passes RL none [] 3 0) (hm : mxL K = 21) (rc548 : Option Nat → Option Nat → Option Nat → Option Nat → Option Nat → Option Nat → Option Nat → Int32 → MH → Res) (hrc548 : ∀ x1 x6 x7 x8 x9 x10 x15 x16 h, V K 548 [(1, vR x1), (6, vR x6), (7, vR x7), (8, vR x8), (9, vR x9), (10, vR x10), (15, vR x15), (16, vI x16)] [] h (rc548 x1 x6 x7 x8 x9 x10 x15 x16 h)) (rc564 : Option Nat → Option Nat → Option Nat → Option Nat → Option Nat → Option Nat → Option Nat → Int32 → Int32 → Int32 → Int32 → MH → Res) (hrc564 : ∀ x1 x6 x7 x8 x9 x10 x15 x16 x17 x18 x19 h, V K 564 [(1, vR x1), (6, vR x6), (7, vR x7), (8, vR x8), (9, vR x9), (10, vR x10), (15, vR x15), (16, vI x16), (17, vI x17), (18, vI x18), (19, vI x19)] [] h (rc564 x1 x6 x7 x8 x9 x10 x15 x16 x17 x18 x19 h)) (x1 : Option Nat) (x6 : Option Nat) (x7 : Option Nat) (x8 : Option Nat) (x9 : Option Nat) (x10 : Option Nat) (x15 : Option Nat) (x16 : Int32) (x18 : Int32) (x19 : Int32) (s0 : Int32) (s1 : Int32) (h : MH) : V K 637 [(1, vR x1), (6, vR x6), (7, vR x7), (8, vR x8), (9, vR x9), (10, vR x10), (15, vR x15), (16, vI x16), (18, vI x18), (19, vI x19)] [vI s1, vI s0] h (B_L_passes_637 rc548 rc564 x1 x6 x7 x8 x9 x10 x15 x16 x18 x19 s0 s1 h) := by
  unfold B_L_passes_637
  refine V_iadd (pc := 637) F dL_passes_637 ?_
  intro z124
  refine V_istore (pc := 638) F [(17, vI z124), (1, vR x1), (6, vR x6), (7, vR x7), (8, vR x8), (9, vR x9), (10, vR x10), (15, vR x15), (16, vI x16), (18, vI x18), (19, vI x19)] dL_passes_638 (lt_mx hm (by decide)) rfl ?_
  refine V_iinc (pc := 640) F (fun z125 => [(19, vI z125), (17, vI z124), (1, vR x1), (6, vR x6), (7, vR x7), (8, vR x8), (9, vR x9), (10, vR x10), (15, vR x15), (16, vI x16), (18, vI x18)]) dL_passes_640 (lt_mx hm (by decide)) 10 rfl (dx := (1 : Int32)) (by decide) (fun _ => rfl) ?_
  intro z125
  refine V_goto (pc := 643) F 564 dL_passes_643 (by decide) ?_
  refine V_sub [2, 3, 4, 5, 6, 7, 8, 9, 1, 10, 0] (L' := [(1, vR x1), (6, vR x6), (7, vR x7), (8, vR x8), (9, vR x9), (10, vR x10), (15, vR x15), (16, vI x16), (17, vI z124), (18, vI x18), (19, vI z125)]) rfl ?_
  exact hrc564 x1 x6 x7 x8 x9 x10 x15 x16 z124 x18 z125 h
theorem vB_L_passes_613 {K : CT} (F : Fr K cL_passes RL none [] 3 0) (hm : mxL K = 21) (rc548 : Option Nat → Option Nat → Option Nat → Option Nat → Option Nat → Option Nat → Option Nat → Int32 → MH → Res) (hrc548 : ∀ x1 x6 x7 x8 x9 x10 x15 x16 h, V K 548 [(1, vR x1), (6, vR x6), (7, vR x7), (8, vR x8), (9, vR x9), (10, vR x10), (15, vR x15), (16, vI x16)] [] h (rc548 x1 x6 x7 x8 x9 x10 x15 x16 h)) (rc564 : Option Nat → Option Nat → Option Nat → Option Nat → Option Nat → Option Nat → Option Nat → Int32 → Int32 → Int32 → Int32 → MH → Res) (hrc564 : ∀ x1 x6 x7 x8 x9 x10 x15 x16 x17 x18 x19 h, V K 564 [(1, vR x1), (6, vR x6), (7, vR x7), (8, vR x8), (9, vR x9), (10, vR x10), (15, vR x15), (16, vI x16), (17, vI x17), (18, vI x18), (19, vI x19)] [] h (rc564 x1 x6 x7 x8 x9 x10 x15 x16 x17 x18 x19 h)) (x1 : Option Nat) (x6 : Option Nat) (x7 : Option Nat) (x8 : Option Nat) (x9 : Option Nat) (x10 : Option Nat) (x15 : Option Nat) (x16 : Int32) (x17 : Int32) (x19 : Int32) (x20 : Int32) (s0 : Int32) (h : MH) : V K 613 [(1, vR x1), (6, vR x6), (7, vR x7), (8, vR x8), (9, vR x9), (10, vR x10), (15, vR x15), (16, vI x16), (17, vI x17), (19, vI x19), (20, vI x20)] [vI s0] h (B_L_passes_613 rc548 rc564 x1 x6 x7 x8 x9 x10 x15 x16 x17 x19 x20 s0 h) := by
  unfold B_L_passes_613
  refine V_istore (pc := 613) F [(18, vI s0), (1, vR x1), (6, vR x6), (7, vR x7), (8, vR x8), (9, vR x9), (10, vR x10), (15, vR x15), (16, vI x16), (17, vI x17), (19, vI x19), (20, vI x20)] dL_passes_613 (lt_mx hm (by decide)) rfl ?_
  refine V_aload (pc := 615) F dL_passes_615 2 rfl ?_
  refine V_iload (pc := 617) F dL_passes_617 9 rfl ?_
  refine V_aload (pc := 619) F dL_passes_619 2 rfl ?_
  refine V_iload (pc := 621) F dL_passes_621 10 rfl ?_
  refine V_iald (pc := 623) F dL_passes_623 ?_
  intro z122
  refine V_iast (pc := 624) F dL_passes_624 ?_
  intro h123
  refine V_iload (pc := 625) F dL_passes_625 9 rfl ?_
  refine V_iload (pc := 627) F dL_passes_627 11 rfl ?_
  refine V_if_eq (pc := 629) F 636 dL_passes_629 (by decide) ?_ ?_
  · refine V_iconst (pc := 636) F (x := (1 : Int32)) dL_passes_636 (by decide) ?_
    refine V_sub [1, 2, 3, 4, 5, 6, 7, 8, 0, 10] (L' := [(1, vR x1), (6, vR x6), (7, vR x7), (8, vR x8), (9, vR x9), (10, vR x10), (15, vR x15), (16, vI x16), (18, vI s0), (19, vI x19)]) rfl ?_
    exact vB_L_passes_637 F hm rc548 hrc548 rc564 hrc564 x1 x6 x7 x8 x9 x10 x15 x16 s0 x19 x17 (1 : Int32) h123
  · refine V_iconst (pc := 632) F (x := (0 : Int32)) dL_passes_632 (by decide) ?_
    refine V_goto (pc := 633) F 637 dL_passes_633 (by decide) ?_
    refine V_sub [1, 2, 3, 4, 5, 6, 7, 8, 0, 10] (L' := [(1, vR x1), (6, vR x6), (7, vR x7), (8, vR x8), (9, vR x9), (10, vR x10), (15, vR x15), (16, vI x16), (18, vI s0), (19, vI x19)]) rfl ?_
    exact vB_L_passes_637 F hm rc548 hrc548 rc564 hrc564 x1 x6 x7 x8 x9 x10 x15 x16 s0 x19 x17 (0 : Int32) h123
theorem vB_L_passes_608 {K : CT} (F : Fr K cL_passes RL none [] 3 0) (hm : mxL K = 21) (rc548 : Option Nat → Option Nat → Option Nat → Option Nat → Option Nat → Option Nat → Option Nat → Int32 → MH → Res) (hrc548 : ∀ x1 x6 x7 x8 x9 x10 x15 x16 h, V K 548 [(1, vR x1), (6, vR x6), (7, vR x7), (8, vR x8), (9, vR x9), (10, vR x10), (15, vR x15), (16, vI x16)] [] h (rc548 x1 x6 x7 x8 x9 x10 x15 x16 h)) (rc564 : Option Nat → Option Nat → Option Nat → Option Nat → Option Nat → Option Nat → Option Nat → Int32 → Int32 → Int32 → Int32 → MH → Res) (hrc564 : ∀ x1 x6 x7 x8 x9 x10 x15 x16 x17 x18 x19 h, V K 564 [(1, vR x1), (6, vR x6), (7, vR x7), (8, vR x8), (9, vR x9), (10, vR x10), (15, vR x15), (16, vI x16), (17, vI x17), (18, vI x18), (19, vI x19)] [] h (rc564 x1 x6 x7 x8 x9 x10 x15 x16 x17 x18 x19 h)) (x1 : Option Nat) (x6 : Option Nat) (x7 : Option Nat) (x8 : Option Nat) (x9 : Option Nat) (x10 : Option Nat) (x15 : Option Nat) (x16 : Int32) (x17 : Int32) (x19 : Int32) (x20 : Int32) (h : MH) : V K 608 [(1, vR x1), (6, vR x6), (7, vR x7), (8, vR x8), (9, vR x9), (10, vR x10), (15, vR x15), (16, vI x16), (17, vI x17), (19, vI x19), (20, vI x20)] [] h (B_L_passes_608 rc548 rc564 x1 x6 x7 x8 x9 x10 x15 x16 x17 x19 x20 h) := by
  unfold B_L_passes_608
  refine V_iconst (pc := 608) F (x := (1 : Int32)) dL_passes_608 (by decide) ?_
  refine V_goto (pc := 609) F 613 dL_passes_609 (by decide) ?_
  exact vB_L_passes_613 F hm rc548 hrc548 rc564 hrc564 x1 x6 x7 x8 x9 x10 x15 x16 x17 x19 x20 (1 : Int32) h
theorem vB_L_passes_596 {K : CT} (F : Fr K cL_passes RL none [] 3 0) (hm : mxL K = 21) (rc548 : Option Nat → Option Nat → Option Nat → Option Nat → Option Nat → Option Nat → Option Nat → Int32 → MH → Res) (hrc548 : ∀ x1 x6 x7 x8 x9 x10 x15 x16 h, V K 548 [(1, vR x1), (6, vR x6), (7, vR x7), (8, vR x8), (9, vR x9), (10, vR x10), (15, vR x15), (16, vI x16)] [] h (rc548 x1 x6 x7 x8 x9 x10 x15 x16 h)) (rc564 : Option Nat → Option Nat → Option Nat → Option Nat → Option Nat → Option Nat → Option Nat → Int32 → Int32 → Int32 → Int32 → MH → Res) (hrc564 : ∀ x1 x6 x7 x8 x9 x10 x15 x16 x17 x18 x19 h, V K 564 [(1, vR x1), (6, vR x6), (7, vR x7), (8, vR x8), (9, vR x9), (10, vR x10), (15, vR x15), (16, vI x16), (17, vI x17), (18, vI x18), (19, vI x19)] [] h (rc564 x1 x6 x7 x8 x9 x10 x15 x16 x17 x18 x19 h)) (x1 : Option Nat) (x6 : Option Nat) (x7 : Option Nat) (x8 : Option Nat) (x9 : Option Nat) (x10 : Option Nat) (x15 : Option Nat) (x16 : Int32) (x17 : Int32) (x18 : Int32) (x19 : Int32) (s0 : Int32) (h : MH) : V K 596 [(1, vR x1), (6, vR x6), (7, vR x7), (8, vR x8), (9, vR x9), (10, vR x10), (15, vR x15), (16, vI x16), (17, vI x17), (18, vI x18), (19, vI x19)] [vI s0] h (B_L_passes_596 rc548 rc564 x1 x6 x7 x8 x9 x10 x15 x16 x17 x18 x19 s0 h) := by
  unfold B_L_passes_596
  refine V_istore (pc := 596) F [(20, vI s0), (1, vR x1), (6, vR x6), (7, vR x7), (8, vR x8), (9, vR x9), (10, vR x10), (15, vR x15), (16, vI x16), (17, vI x17), (18, vI x18), (19, vI x19)] dL_passes_596 (lt_mx hm (by decide)) rfl ?_
  refine V_iload (pc := 598) F dL_passes_598 10 rfl ?_
  refine V_if_ne (pc := 600) F 608 dL_passes_600 (by decide) ?_ ?_
  · refine V_sub [1, 2, 3, 4, 5, 6, 7, 8, 9, 11, 0] (L' := [(1, vR x1), (6, vR x6), (7, vR x7), (8, vR x8), (9, vR x9), (10, vR x10), (15, vR x15), (16, vI x16), (17, vI x17), (19, vI x19), (20, vI s0)]) rfl ?_
    exact vB_L_passes_608 F hm rc548 hrc548 rc564 hrc564 x1 x6 x7 x8 x9 x10 x15 x16 x17 x19 s0 h
  · refine V_iload (pc := 603) F dL_passes_603 0 rfl ?_
    refine V_if_eq (pc := 605) F 612 dL_passes_605 (by decide) ?_ ?_
    · refine V_iconst (pc := 612) F (x := (0 : Int32)) dL_passes_612 (by decide) ?_
      refine V_sub [1, 2, 3, 4, 5, 6, 7, 8, 9, 11, 0] (L' := [(1, vR x1), (6, vR x6), (7, vR x7), (8, vR x8), (9, vR x9), (10, vR x10), (15, vR x15), (16, vI x16), (17, vI x17), (19, vI x19), (20, vI s0)]) rfl ?_
      exact vB_L_passes_613 F hm rc548 hrc548 rc564 hrc564 x1 x6 x7 x8 x9 x10 x15 x16 x17 x19 s0 (0 : Int32) h
    · refine V_sub [1, 2, 3, 4, 5, 6, 7, 8, 9, 11, 0] (L' := [(1, vR x1), (6, vR x6), (7, vR x7), (8, vR x8), (9, vR x9), (10, vR x10), (15, vR x15), (16, vI x16), (17, vI x17), (19, vI x19), (20, vI s0)]) rfl ?_
      exact vB_L_passes_608 F hm rc548 hrc548 rc564 hrc564 x1 x6 x7 x8 x9 x10 x15 x16 x17 x19 s0 h
theorem vB_L_passes_689 {K : CT} (F : Fr K cL_passes RL none [] 3 0) (hm : mxL K = 21) (rc548 : Option Nat → Option Nat → Option Nat → Option Nat → Option Nat → Option Nat → Option Nat → Int32 → MH → Res) (hrc548 : ∀ x1 x6 x7 x8 x9 x10 x15 x16 h, V K 548 [(1, vR x1), (6, vR x6), (7, vR x7), (8, vR x8), (9, vR x9), (10, vR x10), (15, vR x15), (16, vI x16)] [] h (rc548 x1 x6 x7 x8 x9 x10 x15 x16 h)) (x1 : Option Nat) (x6 : Option Nat) (x7 : Option Nat) (x8 : Option Nat) (x9 : Option Nat) (x10 : Option Nat) (x15 : Option Nat) (x16 : Int32) (h : MH) : V K 689 [(1, vR x1), (6, vR x6), (7, vR x7), (8, vR x8), (9, vR x9), (10, vR x10), (15, vR x15), (16, vI x16)] [] h (B_L_passes_689 rc548 x1 x6 x7 x8 x9 x10 x15 x16 h) := by
  unfold B_L_passes_689
  refine V_iinc (pc := 689) F (fun z126 => [(16, vI z126), (1, vR x1), (6, vR x6), (7, vR x7), (8, vR x8), (9, vR x9), (10, vR x10), (15, vR x15)]) dL_passes_689 (lt_mx hm (by decide)) 7 rfl (dx := (1 : Int32)) (by decide) (fun _ => rfl) ?_
  intro z126
  refine V_goto (pc := 692) F 548 dL_passes_692 (by decide) ?_
  refine V_sub [1, 2, 3, 4, 5, 6, 7, 0] (L' := [(1, vR x1), (6, vR x6), (7, vR x7), (8, vR x8), (9, vR x9), (10, vR x10), (15, vR x15), (16, vI z126)]) rfl ?_
  exact hrc548 x1 x6 x7 x8 x9 x10 x15 z126 h
theorem vB_L_passes_564 {K : CT} (F : Fr K cL_passes RL none [] 3 0) (hm : mxL K = 21) (rc548 : Option Nat → Option Nat → Option Nat → Option Nat → Option Nat → Option Nat → Option Nat → Int32 → MH → Res) (hrc548 : ∀ x1 x6 x7 x8 x9 x10 x15 x16 h, V K 548 [(1, vR x1), (6, vR x6), (7, vR x7), (8, vR x8), (9, vR x9), (10, vR x10), (15, vR x15), (16, vI x16)] [] h (rc548 x1 x6 x7 x8 x9 x10 x15 x16 h)) (rc564 : Option Nat → Option Nat → Option Nat → Option Nat → Option Nat → Option Nat → Option Nat → Int32 → Int32 → Int32 → Int32 → MH → Res) (hrc564 : ∀ x1 x6 x7 x8 x9 x10 x15 x16 x17 x18 x19 h, V K 564 [(1, vR x1), (6, vR x6), (7, vR x7), (8, vR x8), (9, vR x9), (10, vR x10), (15, vR x15), (16, vI x16), (17, vI x17), (18, vI x18), (19, vI x19)] [] h (rc564 x1 x6 x7 x8 x9 x10 x15 x16 x17 x18 x19 h)) (x1 : Option Nat) (x6 : Option Nat) (x7 : Option Nat) (x8 : Option Nat) (x9 : Option Nat) (x10 : Option Nat) (x15 : Option Nat) (x16 : Int32) (x17 : Int32) (x18 : Int32) (x19 : Int32) (h : MH) : V K 564 [(1, vR x1), (6, vR x6), (7, vR x7), (8, vR x8), (9, vR x9), (10, vR x10), (15, vR x15), (16, vI x16), (17, vI x17), (18, vI x18), (19, vI x19)] [] h (B_L_passes_564 rc548 rc564 x1 x6 x7 x8 x9 x10 x15 x16 x17 x18 x19 h) := by
  unfold B_L_passes_564
  refine V_iload (pc := 564) F dL_passes_564 10 rfl ?_
  refine V_aload (pc := 566) F dL_passes_566 6 rfl ?_
  refine V_iconst (pc := 568) F (x := (3 : Int32)) dL_passes_568 (by decide) ?_
  refine V_iald (pc := 569) F dL_passes_569 ?_
  intro z111
  refine V_icmp_ge (pc := 570) F 646 dL_passes_570 (by decide) ?_ ?_
  · refine V_aload (pc := 646) F dL_passes_646 6 rfl ?_
    refine V_iconst (pc := 648) F (x := (3 : Int32)) dL_passes_648 (by decide) ?_
    refine V_iload (pc := 649) F dL_passes_649 8 rfl ?_
    refine V_iast (pc := 651) F dL_passes_651 ?_
    intro h112
    refine V_iload (pc := 652) F dL_passes_652 9 rfl ?_
    refine V_if_eq (pc := 654) F 689 dL_passes_654 (by decide) ?_ ?_
    · refine V_sub [0, 1, 2, 3, 4, 5, 6, 7] (L' := [(1, vR x1), (6, vR x6), (7, vR x7), (8, vR x8), (9, vR x9), (10, vR x10), (15, vR x15), (16, vI x16)]) rfl ?_
      exact vB_L_passes_689 F hm rc548 hrc548 x1 x6 x7 x8 x9 x10 x15 x16 h112
    · refine V_aload (pc := 657) F dL_passes_657 6 rfl ?_
      refine V_iconst (pc := 659) F (x := (0 : Int32)) dL_passes_659 (by decide) ?_
      refine V_iald (pc := 660) F dL_passes_660 ?_
      intro z113
      refine V_aload (pc := 661) F dL_passes_661 2 rfl ?_
      refine V_aload (pc := 663) F dL_passes_663 6 rfl ?_
      refine V_cSM (pc := 665) F (as := [vI z113, vR x7, vR x15]) (C_L_isStorm z113 x7 x15 h112) w_L_isStorm g_st_L_isStorm g_ml_RL_74 (by decide) (rest := []) rfl rfl (Nat.le_of_ble_eq_true rfl) dL_passes_665 (k_I fun z114 h115 => ?_)
      refine V_if_ne (pc := 668) F 689 dL_passes_668 (by decide) ?_ ?_
      · refine V_sub [0, 1, 2, 3, 4, 5, 6, 7] (L' := [(1, vR x1), (6, vR x6), (7, vR x7), (8, vR x8), (9, vR x9), (10, vR x10), (15, vR x15), (16, vI x16)]) rfl ?_
        exact vB_L_passes_689 F hm rc548 hrc548 x1 x6 x7 x8 x9 x10 x15 x16 h115
      · refine V_iload (pc := 671) F dL_passes_671 7 rfl ?_
        refine V_iconst (pc := 673) F (x := (0 : Int32)) dL_passes_673 (by decide) ?_
        refine V_aload_n (pc := 674) F dL_passes_674 0 rfl ?_
        refine V_iload (pc := 675) F dL_passes_675 7 rfl ?_
        refine V_iald (pc := 677) F dL_passes_677 ?_
        intro z116
        refine V_aload (pc := 678) F dL_passes_678 3 rfl ?_
        refine V_aload (pc := 680) F dL_passes_680 4 rfl ?_
        refine V_aload (pc := 682) F dL_passes_682 5 rfl ?_
        refine V_aload (pc := 684) F dL_passes_684 6 rfl ?_
        refine V_cSM (pc := 686) F (as := [vI x16, vI (0 : Int32), vI z116, vR x8, vR x9, vR x10, vR x15]) (C_L_reads x16 (0 : Int32) z116 x8 x9 x10 x15 h115) w_L_reads g_st_L_reads g_ml_RL_67 (by decide) (rest := []) rfl rfl (Nat.le_of_ble_eq_true rfl) dL_passes_686 (k_V fun h117 => ?_)
        refine V_sub [0, 1, 2, 3, 4, 5, 6, 7] (L' := [(1, vR x1), (6, vR x6), (7, vR x7), (8, vR x8), (9, vR x9), (10, vR x10), (15, vR x15), (16, vI x16)]) rfl ?_
        exact vB_L_passes_689 F hm rc548 hrc548 x1 x6 x7 x8 x9 x10 x15 x16 h117
  · refine V_aload (pc := 573) F dL_passes_573 1 rfl ?_
    refine V_iload (pc := 575) F dL_passes_575 10 rfl ?_
    refine V_iald (pc := 577) F dL_passes_577 ?_
    intro z118
    refine V_bipush (pc := 578) F (x := (64 : Int32)) dL_passes_578 (by decide) ?_
    refine V_aload (pc := 580) F dL_passes_580 6 rfl ?_
    refine V_iconst (pc := 582) F (x := (0 : Int32)) dL_passes_582 (by decide) ?_
    refine V_iald (pc := 583) F dL_passes_583 ?_
    intro z119
    refine V_imul (pc := 584) F dL_passes_584 ?_
    intro z120
    refine V_iload (pc := 585) F dL_passes_585 7 rfl ?_
    refine V_iadd (pc := 587) F dL_passes_587 ?_
    intro z121
    refine V_icmp_ne (pc := 588) F 595 dL_passes_588 (by decide) ?_ ?_
    · refine V_iconst (pc := 595) F (x := (0 : Int32)) dL_passes_595 (by decide) ?_
      exact vB_L_passes_596 F hm rc548 hrc548 rc564 hrc564 x1 x6 x7 x8 x9 x10 x15 x16 x17 x18 x19 (0 : Int32) h
    · refine V_iconst (pc := 591) F (x := (1 : Int32)) dL_passes_591 (by decide) ?_
      refine V_goto (pc := 592) F 596 dL_passes_592 (by decide) ?_
      exact vB_L_passes_596 F hm rc548 hrc548 rc564 hrc564 x1 x6 x7 x8 x9 x10 x15 x16 x17 x18 x19 (1 : Int32) h
theorem vL_L_passes_564 {K : CT} (F : Fr K cL_passes RL none [] 3 0) (hm : mxL K = 21) (rc548 : Option Nat → Option Nat → Option Nat → Option Nat → Option Nat → Option Nat → Option Nat → Int32 → MH → Res) (hrc548 : ∀ x1 x6 x7 x8 x9 x10 x15 x16 h, V K 548 [(1, vR x1), (6, vR x6), (7, vR x7), (8, vR x8), (9, vR x9), (10, vR x10), (15, vR x15), (16, vI x16)] [] h (rc548 x1 x6 x7 x8 x9 x10 x15 x16 h)) (n : Nat) : ∀ x1 x6 x7 x8 x9 x10 x15 x16 x17 x18 x19 h, V K 564 [(1, vR x1), (6, vR x6), (7, vR x7), (8, vR x8), (9, vR x9), (10, vR x10), (15, vR x15), (16, vI x16), (17, vI x17), (18, vI x18), (19, vI x19)] [] h (L_L_passes_564 rc548 n x1 x6 x7 x8 x9 x10 x15 x16 x17 x18 x19 h) := by
  induction n with
  | zero => intros; exact V_none
  | succ n ih => intro x1 x6 x7 x8 x9 x10 x15 x16 x17 x18 x19 h; exact vB_L_passes_564 F hm rc548 hrc548 _ ih x1 x6 x7 x8 x9 x10 x15 x16 x17 x18 x19 h
theorem vB_L_passes_548 {K : CT} (F : Fr K cL_passes RL none [] 3 0) (hm : mxL K = 21) (rc548 : Option Nat → Option Nat → Option Nat → Option Nat → Option Nat → Option Nat → Option Nat → Int32 → MH → Res) (hrc548 : ∀ x1 x6 x7 x8 x9 x10 x15 x16 h, V K 548 [(1, vR x1), (6, vR x6), (7, vR x7), (8, vR x8), (9, vR x9), (10, vR x10), (15, vR x15), (16, vI x16)] [] h (rc548 x1 x6 x7 x8 x9 x10 x15 x16 h)) (x1 : Option Nat) (x6 : Option Nat) (x7 : Option Nat) (x8 : Option Nat) (x9 : Option Nat) (x10 : Option Nat) (x15 : Option Nat) (x16 : Int32) (h : MH) : V K 548 [(1, vR x1), (6, vR x6), (7, vR x7), (8, vR x8), (9, vR x9), (10, vR x10), (15, vR x15), (16, vI x16)] [] h (B_L_passes_548 rc548 x1 x6 x7 x8 x9 x10 x15 x16 h) := by
  unfold B_L_passes_548
  refine V_iload (pc := 548) F dL_passes_548 7 rfl ?_
  refine V_bipush (pc := 550) F (x := (60 : Int32)) dL_passes_550 (by decide) ?_
  refine V_icmp_ge (pc := 552) F 695 dL_passes_552 (by decide) ?_ ?_
  · exact V_vret (pc := 695) F (Or.inl rfl) dL_passes_695
  · refine V_iconst (pc := 555) F (x := (0 : Int32)) dL_passes_555 (by decide) ?_
    refine V_istore (pc := 556) F [(17, vI (0 : Int32)), (1, vR x1), (6, vR x6), (7, vR x7), (8, vR x8), (9, vR x9), (10, vR x10), (15, vR x15), (16, vI x16)] dL_passes_556 (lt_mx hm (by decide)) rfl ?_
    refine V_iconst (pc := 558) F (x := (0 : Int32)) dL_passes_558 (by decide) ?_
    refine V_istore (pc := 559) F [(18, vI (0 : Int32)), (17, vI (0 : Int32)), (1, vR x1), (6, vR x6), (7, vR x7), (8, vR x8), (9, vR x9), (10, vR x10), (15, vR x15), (16, vI x16)] dL_passes_559 (lt_mx hm (by decide)) rfl ?_
    refine V_iconst (pc := 561) F (x := (0 : Int32)) dL_passes_561 (by decide) ?_
    refine V_istore (pc := 562) F [(19, vI (0 : Int32)), (18, vI (0 : Int32)), (17, vI (0 : Int32)), (1, vR x1), (6, vR x6), (7, vR x7), (8, vR x8), (9, vR x9), (10, vR x10), (15, vR x15), (16, vI x16)] dL_passes_562 (lt_mx hm (by decide)) rfl ?_
    refine V_sub [3, 4, 5, 6, 7, 8, 9, 10, 2, 1, 0] (L' := [(1, vR x1), (6, vR x6), (7, vR x7), (8, vR x8), (9, vR x9), (10, vR x10), (15, vR x15), (16, vI x16), (17, vI (0 : Int32)), (18, vI (0 : Int32)), (19, vI (0 : Int32))]) rfl ?_
    exact vL_L_passes_564 F hm rc548 hrc548 fuel x1 x6 x7 x8 x9 x10 x15 x16 (0 : Int32) (0 : Int32) (0 : Int32) h
theorem vL_L_passes_548 {K : CT} (F : Fr K cL_passes RL none [] 3 0) (hm : mxL K = 21) (n : Nat) : ∀ x1 x6 x7 x8 x9 x10 x15 x16 h, V K 548 [(1, vR x1), (6, vR x6), (7, vR x7), (8, vR x8), (9, vR x9), (10, vR x10), (15, vR x15), (16, vI x16)] [] h (L_L_passes_548 n x1 x6 x7 x8 x9 x10 x15 x16 h) := by
  induction n with
  | zero => intros; exact V_none
  | succ n ih => intro x1 x6 x7 x8 x9 x10 x15 x16 h; exact vB_L_passes_548 F hm _ ih x1 x6 x7 x8 x9 x10 x15 x16 h
theorem vB_L_passes_466 {K : CT} (F : Fr K cL_passes RL none [] 3 0) (hm : mxL K = 21) (rc466 : Option Nat → Option Nat → Option Nat → Option Nat → Option Nat → Option Nat → Option Nat → Option Nat → Option Nat → Option Nat → Option Nat → Option Nat → Int32 → MH → Res) (hrc466 : ∀ x0 x1 x6 x7 x8 x9 x10 x11 x12 x13 x14 x15 x16 h, V K 466 [(0, vR x0), (1, vR x1), (6, vR x6), (7, vR x7), (8, vR x8), (9, vR x9), (10, vR x10), (11, vR x11), (12, vR x12), (13, vR x13), (14, vR x14), (15, vR x15), (16, vI x16)] [] h (rc466 x0 x1 x6 x7 x8 x9 x10 x11 x12 x13 x14 x15 x16 h)) (x0 : Option Nat) (x1 : Option Nat) (x6 : Option Nat) (x7 : Option Nat) (x8 : Option Nat) (x9 : Option Nat) (x10 : Option Nat) (x11 : Option Nat) (x12 : Option Nat) (x13 : Option Nat) (x14 : Option Nat) (x15 : Option Nat) (x16 : Int32) (h : MH) : V K 466 [(0, vR x0), (1, vR x1), (6, vR x6), (7, vR x7), (8, vR x8), (9, vR x9), (10, vR x10), (11, vR x11), (12, vR x12), (13, vR x13), (14, vR x14), (15, vR x15), (16, vI x16)] [] h (B_L_passes_466 rc466 x0 x1 x6 x7 x8 x9 x10 x11 x12 x13 x14 x15 x16 h) := by
  unfold B_L_passes_466
  refine V_iload (pc := 466) F dL_passes_466 12 rfl ?_
  refine V_bipush (pc := 468) F (x := (60 : Int32)) dL_passes_468 (by decide) ?_
  refine V_icmp_ge (pc := 470) F 531 dL_passes_470 (by decide) ?_ ?_
  · refine V_aload (pc := 531) F dL_passes_531 9 rfl ?_
    refine V_aload (pc := 533) F dL_passes_533 7 rfl ?_
    refine V_cSM (pc := 535) F (as := [vR x13, vR x11]) (C_L_copies x13 x11 h) w_L_copies g_st_L_copies g_ml_RL_63 (by decide) (rest := []) rfl rfl (Nat.le_of_ble_eq_true rfl) dL_passes_535 (k_V fun h100 => ?_)
    refine V_aload (pc := 538) F dL_passes_538 10 rfl ?_
    refine V_aload (pc := 540) F dL_passes_540 8 rfl ?_
    refine V_cSM (pc := 542) F (as := [vR x14, vR x12]) (C_L_copies x14 x12 h100) w_L_copies g_st_L_copies g_ml_RL_63 (by decide) (rest := []) rfl rfl (Nat.le_of_ble_eq_true rfl) dL_passes_542 (k_V fun h101 => ?_)
    refine V_iconst (pc := 545) F (x := (0 : Int32)) dL_passes_545 (by decide) ?_
    refine V_istore (pc := 546) F [(16, vI (0 : Int32)), (0, vR x0), (1, vR x1), (6, vR x6), (7, vR x7), (8, vR x8), (9, vR x9), (10, vR x10), (11, vR x11), (12, vR x12), (13, vR x13), (14, vR x14), (15, vR x15)] dL_passes_546 (lt_mx hm (by decide)) rfl ?_
    refine V_sub [2, 3, 4, 5, 6, 7, 12, 0] (L' := [(1, vR x1), (6, vR x6), (7, vR x7), (8, vR x8), (9, vR x9), (10, vR x10), (15, vR x15), (16, vI (0 : Int32))]) rfl ?_
    exact vL_L_passes_548 F hm fuel x1 x6 x7 x8 x9 x10 x15 (0 : Int32) h101
  · refine V_aload (pc := 473) F dL_passes_473 9 rfl ?_
    refine V_iload (pc := 475) F dL_passes_475 12 rfl ?_
    refine V_aload_n (pc := 477) F dL_passes_477 0 rfl ?_
    refine V_iload (pc := 478) F dL_passes_478 12 rfl ?_
    refine V_iald (pc := 480) F dL_passes_480 ?_
    intro z102
    refine V_bipush (pc := 481) F (x := (7 : Int32)) dL_passes_481 (by decide) ?_
    refine V_icmp_le (pc := 483) F 490 dL_passes_483 (by decide) ?_ ?_
    · refine V_iload (pc := 490) F dL_passes_490 12 rfl ?_
      refine V_aload_n (pc := 492) F dL_passes_492 0 rfl ?_
      refine V_aload (pc := 493) F dL_passes_493 7 rfl ?_
      refine V_cSM (pc := 495) F (as := [vI x16, vR x0, vR x11]) (C_L_drifted x16 x0 x11 h) w_L_drifted g_st_L_drifted g_ml_RL_71 (by decide) (rest := [vI x16, vR x13]) rfl rfl (Nat.le_of_ble_eq_true rfl) dL_passes_495 (k_I fun z103 h104 => ?_)
      exact vB_L_passes_498 F hm rc466 hrc466 x0 x1 x6 x7 x8 x9 x10 x11 x12 x13 x14 x15 x16 x13 x16 z103 h104
    · refine V_iconst (pc := 486) F (x := (0 : Int32)) dL_passes_486 (by decide) ?_
      refine V_goto (pc := 487) F 498 dL_passes_487 (by decide) ?_
      exact vB_L_passes_498 F hm rc466 hrc466 x0 x1 x6 x7 x8 x9 x10 x11 x12 x13 x14 x15 x16 x13 x16 (0 : Int32) h
theorem vL_L_passes_466 {K : CT} (F : Fr K cL_passes RL none [] 3 0) (hm : mxL K = 21) (n : Nat) : ∀ x0 x1 x6 x7 x8 x9 x10 x11 x12 x13 x14 x15 x16 h, V K 466 [(0, vR x0), (1, vR x1), (6, vR x6), (7, vR x7), (8, vR x8), (9, vR x9), (10, vR x10), (11, vR x11), (12, vR x12), (13, vR x13), (14, vR x14), (15, vR x15), (16, vI x16)] [] h (L_L_passes_466 n x0 x1 x6 x7 x8 x9 x10 x11 x12 x13 x14 x15 x16 h) := by
  induction n with
  | zero => intros; exact V_none
  | succ n ih => intro x0 x1 x6 x7 x8 x9 x10 x11 x12 x13 x14 x15 x16 h; exact vB_L_passes_466 F hm _ ih x0 x1 x6 x7 x8 x9 x10 x11 x12 x13 x14 x15 x16 h
theorem vB_L_passes_256 {K : CT} (F : Fr K cL_passes RL none [] 3 0) (hm : mxL K = 21) (rc256 : Option Nat → Option Nat → Option Nat → Option Nat → Option Nat → Option Nat → Option Nat → Option Nat → Option Nat → Option Nat → Option Nat → Option Nat → Option Nat → Int32 → MH → Res) (hrc256 : ∀ x0 x1 x5 x6 x7 x8 x9 x10 x11 x12 x13 x14 x15 x16 h, V K 256 [(0, vR x0), (1, vR x1), (5, vR x5), (6, vR x6), (7, vR x7), (8, vR x8), (9, vR x9), (10, vR x10), (11, vR x11), (12, vR x12), (13, vR x13), (14, vR x14), (15, vR x15), (16, vI x16)] [] h (rc256 x0 x1 x5 x6 x7 x8 x9 x10 x11 x12 x13 x14 x15 x16 h)) (x0 : Option Nat) (x1 : Option Nat) (x5 : Option Nat) (x6 : Option Nat) (x7 : Option Nat) (x8 : Option Nat) (x9 : Option Nat) (x10 : Option Nat) (x11 : Option Nat) (x12 : Option Nat) (x13 : Option Nat) (x14 : Option Nat) (x15 : Option Nat) (x16 : Int32) (h : MH) : V K 256 [(0, vR x0), (1, vR x1), (5, vR x5), (6, vR x6), (7, vR x7), (8, vR x8), (9, vR x9), (10, vR x10), (11, vR x11), (12, vR x12), (13, vR x13), (14, vR x14), (15, vR x15), (16, vI x16)] [] h (B_L_passes_256 rc256 x0 x1 x5 x6 x7 x8 x9 x10 x11 x12 x13 x14 x15 x16 h) := by
  unfold B_L_passes_256
  refine V_iload (pc := 256) F dL_passes_256 13 rfl ?_
  refine V_aload (pc := 258) F dL_passes_258 12 rfl ?_
  refine V_iconst (pc := 260) F (x := (2 : Int32)) dL_passes_260 (by decide) ?_
  refine V_iald (pc := 261) F dL_passes_261 ?_
  intro z51
  refine V_icmp_ge (pc := 262) F 463 dL_passes_262 (by decide) ?_ ?_
  · refine V_iconst (pc := 463) F (x := (0 : Int32)) dL_passes_463 (by decide) ?_
    refine V_istore (pc := 464) F [(16, vI (0 : Int32)), (0, vR x0), (1, vR x1), (5, vR x5), (6, vR x6), (7, vR x7), (8, vR x8), (9, vR x9), (10, vR x10), (11, vR x11), (12, vR x12), (13, vR x13), (14, vR x14), (15, vR x15)] dL_passes_464 (lt_mx hm (by decide)) rfl ?_
    refine V_sub [1, 2, 4, 5, 6, 7, 8, 9, 10, 11, 12, 13, 0] (L' := [(0, vR x0), (1, vR x1), (6, vR x6), (7, vR x7), (8, vR x8), (9, vR x9), (10, vR x10), (11, vR x11), (12, vR x12), (13, vR x13), (14, vR x14), (15, vR x15), (16, vI (0 : Int32))]) rfl ?_
    exact vL_L_passes_466 F hm fuel x0 x1 x6 x7 x8 x9 x10 x11 x12 x13 x14 x15 (0 : Int32) h
  · refine V_aload (pc := 265) F dL_passes_265 2 rfl ?_
    refine V_bipush (pc := 267) F (x := (8 : Int32)) dL_passes_267 (by decide) ?_
    refine V_iload (pc := 269) F dL_passes_269 13 rfl ?_
    refine V_imul (pc := 271) F dL_passes_271 ?_
    intro z52
    refine V_iconst (pc := 272) F (x := (2 : Int32)) dL_passes_272 (by decide) ?_
    refine V_iadd (pc := 273) F dL_passes_273 ?_
    intro z53
    refine V_dup2 (pc := 274) F dL_passes_274 rfl rfl ?_
    refine V_iald (pc := 275) F dL_passes_275 ?_
    intro z54
    refine V_aload (pc := 276) F dL_passes_276 2 rfl ?_
    refine V_bipush (pc := 278) F (x := (8 : Int32)) dL_passes_278 (by decide) ?_
    refine V_iload (pc := 280) F dL_passes_280 13 rfl ?_
    refine V_imul (pc := 282) F dL_passes_282 ?_
    intro z55
    refine V_iconst (pc := 283) F (x := (3 : Int32)) dL_passes_283 (by decide) ?_
    refine V_iadd (pc := 284) F dL_passes_284 ?_
    intro z56
    refine V_iald (pc := 285) F dL_passes_285 ?_
    intro z57
    refine V_if_le (pc := 286) F 293 dL_passes_286 (by decide) ?_ ?_
    · refine V_iconst (pc := 293) F (x := (0 : Int32)) dL_passes_293 (by decide) ?_
      exact vB_L_passes_294 F hm rc256 hrc256 x0 x1 x5 x6 x7 x8 x9 x10 x11 x12 x13 x14 x15 x16 x5 z53 z54 (0 : Int32) h
    · refine V_iconst (pc := 289) F (x := (1 : Int32)) dL_passes_289 (by decide) ?_
      refine V_goto (pc := 290) F 294 dL_passes_290 (by decide) ?_
      exact vB_L_passes_294 F hm rc256 hrc256 x0 x1 x5 x6 x7 x8 x9 x10 x11 x12 x13 x14 x15 x16 x5 z53 z54 (1 : Int32) h
theorem vL_L_passes_256 {K : CT} (F : Fr K cL_passes RL none [] 3 0) (hm : mxL K = 21) (n : Nat) : ∀ x0 x1 x5 x6 x7 x8 x9 x10 x11 x12 x13 x14 x15 x16 h, V K 256 [(0, vR x0), (1, vR x1), (5, vR x5), (6, vR x6), (7, vR x7), (8, vR x8), (9, vR x9), (10, vR x10), (11, vR x11), (12, vR x12), (13, vR x13), (14, vR x14), (15, vR x15), (16, vI x16)] [] h (L_L_passes_256 n x0 x1 x5 x6 x7 x8 x9 x10 x11 x12 x13 x14 x15 x16 h) := by
  induction n with
  | zero => intros; exact V_none
  | succ n ih => intro x0 x1 x5 x6 x7 x8 x9 x10 x11 x12 x13 x14 x15 x16 h; exact vB_L_passes_256 F hm _ ih x0 x1 x5 x6 x7 x8 x9 x10 x11 x12 x13 x14 x15 x16 h
theorem vB_L_passes_83 {K : CT} (F : Fr K cL_passes RL none [] 3 0) (hm : mxL K = 21) (rc83 : Option Nat → Option Nat → Option Nat → Option Nat → Option Nat → Option Nat → Option Nat → Option Nat → Option Nat → Option Nat → Option Nat → Option Nat → Option Nat → Option Nat → Option Nat → Option Nat → Int32 → MH → Res) (hrc83 : ∀ x0 x1 x2 x3 x4 x5 x6 x7 x8 x9 x10 x11 x12 x13 x14 x15 x16 h, V K 83 [(0, vR x0), (1, vR x1), (2, vR x2), (3, vR x3), (4, vR x4), (5, vR x5), (6, vR x6), (7, vR x7), (8, vR x8), (9, vR x9), (10, vR x10), (11, vR x11), (12, vR x12), (13, vR x13), (14, vR x14), (15, vR x15), (16, vI x16)] [] h (rc83 x0 x1 x2 x3 x4 x5 x6 x7 x8 x9 x10 x11 x12 x13 x14 x15 x16 h)) (x0 : Option Nat) (x1 : Option Nat) (x2 : Option Nat) (x3 : Option Nat) (x4 : Option Nat) (x5 : Option Nat) (x6 : Option Nat) (x7 : Option Nat) (x8 : Option Nat) (x9 : Option Nat) (x10 : Option Nat) (x11 : Option Nat) (x12 : Option Nat) (x13 : Option Nat) (x14 : Option Nat) (x15 : Option Nat) (x16 : Int32) (h : MH) : V K 83 [(0, vR x0), (1, vR x1), (2, vR x2), (3, vR x3), (4, vR x4), (5, vR x5), (6, vR x6), (7, vR x7), (8, vR x8), (9, vR x9), (10, vR x10), (11, vR x11), (12, vR x12), (13, vR x13), (14, vR x14), (15, vR x15), (16, vI x16)] [] h (B_L_passes_83 rc83 x0 x1 x2 x3 x4 x5 x6 x7 x8 x9 x10 x11 x12 x13 x14 x15 x16 h) := by
  unfold B_L_passes_83
  refine V_iload (pc := 83) F dL_passes_83 16 rfl ?_
  refine V_bipush (pc := 85) F (x := (60 : Int32)) dL_passes_85 (by decide) ?_
  refine V_icmp_ge (pc := 87) F 253 dL_passes_87 (by decide) ?_ ?_
  · refine V_iconst (pc := 253) F (x := (0 : Int32)) dL_passes_253 (by decide) ?_
    refine V_istore (pc := 254) F [(16, vI (0 : Int32)), (0, vR x0), (1, vR x1), (2, vR x2), (3, vR x3), (4, vR x4), (5, vR x5), (6, vR x6), (7, vR x7), (8, vR x8), (9, vR x9), (10, vR x10), (11, vR x11), (12, vR x12), (13, vR x13), (14, vR x14), (15, vR x15)] dL_passes_254 (lt_mx hm (by decide)) rfl ?_
    refine V_sub [1, 2, 6, 7, 8, 9, 10, 11, 12, 13, 14, 15, 16, 0] (L' := [(0, vR x0), (1, vR x1), (5, vR x5), (6, vR x6), (7, vR x7), (8, vR x8), (9, vR x9), (10, vR x10), (11, vR x11), (12, vR x12), (13, vR x13), (14, vR x14), (15, vR x15), (16, vI (0 : Int32))]) rfl ?_
    exact vL_L_passes_256 F hm fuel x0 x1 x5 x6 x7 x8 x9 x10 x11 x12 x13 x14 x15 (0 : Int32) h
  · refine V_aload (pc := 90) F dL_passes_90 13 rfl ?_
    refine V_iload (pc := 92) F dL_passes_92 16 rfl ?_
    refine V_iald (pc := 94) F dL_passes_94 ?_
    intro z14
    refine V_aload (pc := 95) F dL_passes_95 15 rfl ?_
    refine V_bipush (pc := 97) F (x := (8 : Int32)) dL_passes_97 (by decide) ?_
    refine V_iload (pc := 99) F dL_passes_99 16 rfl ?_
    refine V_bipush (pc := 101) F (x := (10 : Int32)) dL_passes_101 (by decide) ?_
    refine V_idiv (pc := 103) F dL_passes_103 ?_
    intro z15
    refine V_iadd (pc := 104) F dL_passes_104 ?_
    intro z16
    refine V_iald (pc := 105) F dL_passes_105 ?_
    intro z17
    refine V_iadd (pc := 106) F dL_passes_106 ?_
    intro z18
    refine V_istore (pc := 107) F [(17, vI z18), (0, vR x0), (1, vR x1), (2, vR x2), (3, vR x3), (4, vR x4), (5, vR x5), (6, vR x6), (7, vR x7), (8, vR x8), (9, vR x9), (10, vR x10), (11, vR x11), (12, vR x12), (13, vR x13), (14, vR x14), (15, vR x15), (16, vI x16)] dL_passes_107 (lt_mx hm (by decide)) rfl ?_
    refine V_aload_n (pc := 109) F dL_passes_109 1 rfl ?_
    refine V_iload (pc := 110) F dL_passes_110 17 rfl ?_
    refine V_iald (pc := 112) F dL_passes_112 ?_
    intro z19
    refine V_bipush (pc := 113) F (x := (7 : Int32)) dL_passes_113 (by decide) ?_
    refine V_icmp_gt (pc := 115) F 123 dL_passes_115 (by decide) ?_ ?_
    · refine V_sub [1, 2, 3, 4, 5, 6, 7, 8, 9, 10, 11, 12, 13, 14, 15, 16, 17] (L' := [(0, vR x0), (1, vR x1), (2, vR x2), (3, vR x3), (4, vR x4), (5, vR x5), (6, vR x6), (7, vR x7), (8, vR x8), (9, vR x9), (10, vR x10), (11, vR x11), (12, vR x12), (13, vR x13), (14, vR x14), (15, vR x15), (16, vI x16)]) rfl ?_
      exact vB_L_passes_123 F hm rc83 hrc83 x0 x1 x2 x3 x4 x5 x6 x7 x8 x9 x10 x11 x12 x13 x14 x15 x16 h
    · refine V_iload (pc := 118) F dL_passes_118 0 rfl ?_
      refine V_if_ge (pc := 120) F 127 dL_passes_120 (by decide) ?_ ?_
      · refine V_iload (pc := 127) F dL_passes_127 0 rfl ?_
        refine V_sub [1, 2, 3, 4, 5, 6, 7, 8, 9, 10, 11, 12, 13, 14, 15, 16, 17] (L' := [(0, vR x0), (1, vR x1), (2, vR x2), (3, vR x3), (4, vR x4), (5, vR x5), (6, vR x6), (7, vR x7), (8, vR x8), (9, vR x9), (10, vR x10), (11, vR x11), (12, vR x12), (13, vR x13), (14, vR x14), (15, vR x15), (16, vI x16)]) rfl ?_
        exact vB_L_passes_129 F hm rc83 hrc83 x0 x1 x2 x3 x4 x5 x6 x7 x8 x9 x10 x11 x12 x13 x14 x15 x16 z18 h
      · refine V_sub [1, 2, 3, 4, 5, 6, 7, 8, 9, 10, 11, 12, 13, 14, 15, 16, 17] (L' := [(0, vR x0), (1, vR x1), (2, vR x2), (3, vR x3), (4, vR x4), (5, vR x5), (6, vR x6), (7, vR x7), (8, vR x8), (9, vR x9), (10, vR x10), (11, vR x11), (12, vR x12), (13, vR x13), (14, vR x14), (15, vR x15), (16, vI x16)]) rfl ?_
        exact vB_L_passes_123 F hm rc83 hrc83 x0 x1 x2 x3 x4 x5 x6 x7 x8 x9 x10 x11 x12 x13 x14 x15 x16 h
theorem vL_L_passes_83 {K : CT} (F : Fr K cL_passes RL none [] 3 0) (hm : mxL K = 21) (n : Nat) : ∀ x0 x1 x2 x3 x4 x5 x6 x7 x8 x9 x10 x11 x12 x13 x14 x15 x16 h, V K 83 [(0, vR x0), (1, vR x1), (2, vR x2), (3, vR x3), (4, vR x4), (5, vR x5), (6, vR x6), (7, vR x7), (8, vR x8), (9, vR x9), (10, vR x10), (11, vR x11), (12, vR x12), (13, vR x13), (14, vR x14), (15, vR x15), (16, vI x16)] [] h (L_L_passes_83 n x0 x1 x2 x3 x4 x5 x6 x7 x8 x9 x10 x11 x12 x13 x14 x15 x16 h) := by
  induction n with
  | zero => intros; exact V_none
  | succ n ih => intro x0 x1 x2 x3 x4 x5 x6 x7 x8 x9 x10 x11 x12 x13 x14 x15 x16 h; exact vB_L_passes_83 F hm _ ih x0 x1 x2 x3 x4 x5 x6 x7 x8 x9 x10 x11 x12 x13 x14 x15 x16 h
theorem vB_L_passes_11 {K : CT} (F : Fr K cL_passes RL none [] 3 0) (hm : mxL K = 21) (rc11 : Option Nat → Option Nat → Option Nat → Option Nat → Option Nat → Option Nat → Option Nat → Option Nat → Option Nat → Option Nat → Option Nat → Option Nat → Option Nat → Option Nat → Option Nat → Option Nat → Int32 → MH → Res) (hrc11 : ∀ x0 x1 x2 x3 x4 x5 x6 x7 x8 x9 x10 x11 x12 x13 x14 x15 x16 h, V K 11 [(0, vR x0), (1, vR x1), (2, vR x2), (3, vR x3), (4, vR x4), (5, vR x5), (6, vR x6), (7, vR x7), (8, vR x8), (9, vR x9), (10, vR x10), (11, vR x11), (12, vR x12), (13, vR x13), (14, vR x14), (15, vR x15), (16, vI x16)] [] h (rc11 x0 x1 x2 x3 x4 x5 x6 x7 x8 x9 x10 x11 x12 x13 x14 x15 x16 h)) (x0 : Option Nat) (x1 : Option Nat) (x2 : Option Nat) (x3 : Option Nat) (x4 : Option Nat) (x5 : Option Nat) (x6 : Option Nat) (x7 : Option Nat) (x8 : Option Nat) (x9 : Option Nat) (x10 : Option Nat) (x11 : Option Nat) (x12 : Option Nat) (x13 : Option Nat) (x14 : Option Nat) (x15 : Option Nat) (x16 : Int32) (h : MH) : V K 11 [(0, vR x0), (1, vR x1), (2, vR x2), (3, vR x3), (4, vR x4), (5, vR x5), (6, vR x6), (7, vR x7), (8, vR x8), (9, vR x9), (10, vR x10), (11, vR x11), (12, vR x12), (13, vR x13), (14, vR x14), (15, vR x15), (16, vI x16)] [] h (B_L_passes_11 rc11 x0 x1 x2 x3 x4 x5 x6 x7 x8 x9 x10 x11 x12 x13 x14 x15 x16 h) := by
  unfold B_L_passes_11
  refine V_iload (pc := 11) F dL_passes_11 16 rfl ?_
  refine V_bipush (pc := 13) F (x := (60 : Int32)) dL_passes_13 (by decide) ?_
  refine V_icmp_ge (pc := 15) F 74 dL_passes_15 (by decide) ?_ ?_
  · refine V_aload (pc := 74) F dL_passes_74 14 rfl ?_
    refine V_aload_n (pc := 76) F dL_passes_76 3 rfl ?_
    refine V_cSM (pc := 77) F (as := [vR x14, vR x3]) (C_L_copies x14 x3 h) w_L_copies g_st_L_copies g_ml_RL_63 (by decide) (rest := []) rfl rfl (Nat.le_of_ble_eq_true rfl) dL_passes_77 (k_V fun h4 => ?_)
    refine V_iconst (pc := 80) F (x := (0 : Int32)) dL_passes_80 (by decide) ?_
    refine V_istore (pc := 81) F [(16, vI (0 : Int32)), (0, vR x0), (1, vR x1), (2, vR x2), (3, vR x3), (4, vR x4), (5, vR x5), (6, vR x6), (7, vR x7), (8, vR x8), (9, vR x9), (10, vR x10), (11, vR x11), (12, vR x12), (13, vR x13), (14, vR x14), (15, vR x15)] dL_passes_81 (lt_mx hm (by decide)) rfl ?_
    refine V_sub [1, 2, 3, 4, 5, 6, 7, 8, 9, 10, 11, 12, 13, 14, 15, 16, 0] (L' := [(0, vR x0), (1, vR x1), (2, vR x2), (3, vR x3), (4, vR x4), (5, vR x5), (6, vR x6), (7, vR x7), (8, vR x8), (9, vR x9), (10, vR x10), (11, vR x11), (12, vR x12), (13, vR x13), (14, vR x14), (15, vR x15), (16, vI (0 : Int32))]) rfl ?_
    exact vL_L_passes_83 F hm fuel x0 x1 x2 x3 x4 x5 x6 x7 x8 x9 x10 x11 x12 x13 x14 x15 (0 : Int32) h4
  · refine V_aload (pc := 18) F dL_passes_18 13 rfl ?_
    refine V_iload (pc := 20) F dL_passes_20 16 rfl ?_
    refine V_aload_n (pc := 22) F dL_passes_22 0 rfl ?_
    refine V_iload (pc := 23) F dL_passes_23 16 rfl ?_
    refine V_iald (pc := 25) F dL_passes_25 ?_
    intro z5
    refine V_bipush (pc := 26) F (x := (8 : Int32)) dL_passes_26 (by decide) ?_
    refine V_icmp_ge (pc := 28) F 41 dL_passes_28 (by decide) ?_ ?_
    · refine V_iconst (pc := 41) F (x := (0 : Int32)) dL_passes_41 (by decide) ?_
      exact vB_L_passes_42 F hm rc11 hrc11 x0 x1 x2 x3 x4 x5 x6 x7 x8 x9 x10 x11 x12 x13 x14 x15 x16 x13 x16 (0 : Int32) h
    · refine V_iload (pc := 31) F dL_passes_31 16 rfl ?_
      refine V_aload_n (pc := 33) F dL_passes_33 0 rfl ?_
      refine V_aload_n (pc := 34) F dL_passes_34 1 rfl ?_
      refine V_cSM (pc := 35) F (as := [vI x16, vR x0, vR x1]) (C_L_flowed x16 x0 x1 h) w_L_flowed g_st_L_flowed g_ml_RL_59 (by decide) (rest := [vI x16, vR x13]) rfl rfl (Nat.le_of_ble_eq_true rfl) dL_passes_35 (k_I fun z6 h7 => ?_)
      refine V_goto (pc := 38) F 42 dL_passes_38 (by decide) ?_
      exact vB_L_passes_42 F hm rc11 hrc11 x0 x1 x2 x3 x4 x5 x6 x7 x8 x9 x10 x11 x12 x13 x14 x15 x16 x13 x16 z6 h7
theorem vL_L_passes_11 {K : CT} (F : Fr K cL_passes RL none [] 3 0) (hm : mxL K = 21) (n : Nat) : ∀ x0 x1 x2 x3 x4 x5 x6 x7 x8 x9 x10 x11 x12 x13 x14 x15 x16 h, V K 11 [(0, vR x0), (1, vR x1), (2, vR x2), (3, vR x3), (4, vR x4), (5, vR x5), (6, vR x6), (7, vR x7), (8, vR x8), (9, vR x9), (10, vR x10), (11, vR x11), (12, vR x12), (13, vR x13), (14, vR x14), (15, vR x15), (16, vI x16)] [] h (L_L_passes_11 n x0 x1 x2 x3 x4 x5 x6 x7 x8 x9 x10 x11 x12 x13 x14 x15 x16 h) := by
  induction n with
  | zero => intros; exact V_none
  | succ n ih => intro x0 x1 x2 x3 x4 x5 x6 x7 x8 x9 x10 x11 x12 x13 x14 x15 x16 h; exact vB_L_passes_11 F hm _ ih x0 x1 x2 x3 x4 x5 x6 x7 x8 x9 x10 x11 x12 x13 x14 x15 x16 h
theorem vM_L_passes {K : CT} (F : Fr K cL_passes RL none [] 3 0) (hm : mxL K = 21) (x0 : Option Nat) (x1 : Option Nat) (x2 : Option Nat) (x3 : Option Nat) (x4 : Option Nat) (x5 : Option Nat) (x6 : Option Nat) (x7 : Option Nat) (x8 : Option Nat) (x9 : Option Nat) (x10 : Option Nat) (x11 : Option Nat) (x12 : Option Nat) (x13 : Option Nat) (x14 : Option Nat) (x15 : Option Nat) (h : MH) : V K 0 [(0, vR x0), (1, vR x1), (2, vR x2), (3, vR x3), (4, vR x4), (5, vR x5), (6, vR x6), (7, vR x7), (8, vR x8), (9, vR x9), (10, vR x10), (11, vR x11), (12, vR x12), (13, vR x13), (14, vR x14), (15, vR x15)] [] h (M_L_passes x0 x1 x2 x3 x4 x5 x6 x7 x8 x9 x10 x11 x12 x13 x14 x15 h) := by
  unfold M_L_passes
  refine V_aload (pc := 0) F dL_passes_0 15 rfl ?_
  refine V_iconst (pc := 2) F (x := (0 : Int32)) dL_passes_2 (by decide) ?_
  refine V_dup2 (pc := 3) F dL_passes_3 rfl rfl ?_
  refine V_iald (pc := 4) F dL_passes_4 ?_
  intro z1
  refine V_iconst (pc := 5) F (x := (1 : Int32)) dL_passes_5 (by decide) ?_
  refine V_iadd (pc := 6) F dL_passes_6 ?_
  intro z2
  refine V_iast (pc := 7) F dL_passes_7 ?_
  intro h3
  refine V_iconst (pc := 8) F (x := (0 : Int32)) dL_passes_8 (by decide) ?_
  refine V_istore (pc := 9) F [(16, vI (0 : Int32)), (0, vR x0), (1, vR x1), (2, vR x2), (3, vR x3), (4, vR x4), (5, vR x5), (6, vR x6), (7, vR x7), (8, vR x8), (9, vR x9), (10, vR x10), (11, vR x11), (12, vR x12), (13, vR x13), (14, vR x14), (15, vR x15)] dL_passes_9 (lt_mx hm (by decide)) rfl ?_
  refine V_sub [1, 2, 3, 4, 5, 6, 7, 8, 9, 10, 11, 12, 13, 14, 15, 16, 0] (L' := [(0, vR x0), (1, vR x1), (2, vR x2), (3, vR x3), (4, vR x4), (5, vR x5), (6, vR x6), (7, vR x7), (8, vR x8), (9, vR x9), (10, vR x10), (11, vR x11), (12, vR x12), (13, vR x13), (14, vR x14), (15, vR x15), (16, vI (0 : Int32))]) rfl ?_
  exact vL_L_passes_11 F hm fuel x0 x1 x2 x3 x4 x5 x6 x7 x8 x9 x10 x11 x12 x13 x14 x15 (0 : Int32) h3
theorem C_L_passes (x0 : Option Nat) (x1 : Option Nat) (x2 : Option Nat) (x3 : Option Nat) (x4 : Option Nat) (x5 : Option Nat) (x6 : Option Nat) (x7 : Option Nat) (x8 : Option Nat) (x9 : Option Nat) (x10 : Option Nat) (x11 : Option Nat) (x12 : Option Nat) (x13 : Option Nat) (x14 : Option Nat) (x15 : Option Nat) (h : MH) : CtrM yL_passes (WSm yL_passes cL_passes 21 none) 3 [vR x0, vR x1, vR x2, vR x3, vR x4, vR x5, vR x6, vR x7, vR x8, vR x9, vR x10, vR x11, vR x12, vR x13, vR x14, vR x15] h (M_L_passes x0 x1 x2 x3 x4 x5 x6 x7 x8 x9 x10 x11 x12 x13 x14 x15 h) :=
  CtrM_of (by decide) (Nat.le_of_ble_eq_true rfl) (fun K F hm hi => vM_L_passes F hm x0 x1 x2 x3 x4 x5 x6 x7 x8 x9 x10 x11 x12 x13 x14 x15 h)
def B_L_searches_165 (rc120 : Option Nat → Int32 → Int32 → Option Nat → Int32 → Int32 → MH → Res) (x0 : Option Nat) (x1 : Int32) (x2 : Int32) (x3 : Option Nat) (x9 : Int32) (s0 : Int32) (h : MH) : Res := bnd (x9 + (1)) fun z32 => rc120 x0 x1 x2 x3 s0 z32 h
def B_L_searches_164 (rc120 : Option Nat → Int32 → Int32 → Option Nat → Int32 → Int32 → MH → Res) (x0 : Option Nat) (x1 : Int32) (x2 : Int32) (x3 : Option Nat) (x9 : Int32) (h : MH) : Res := B_L_searches_165 rc120 x0 x1 x2 x3 x9 (0 : Int32) h
def B_L_searches_120 (rc120 : Option Nat → Int32 → Int32 → Option Nat → Int32 → Int32 → MH → Res) (x0 : Option Nat) (x1 : Int32) (x2 : Int32) (x3 : Option Nat) (x8 : Int32) (x9 : Int32) (h : MH) : Res := if (12 : Int32) ≤ x9 then (rtZ x8 h) else (bnd ((7 : Int32) * x9) fun z25 => bnd (x2 + z25) fun z26 => calI (M_L_low z26 (60 : Int32) h) fun z27 h28 => if x8 = 0 then (B_L_searches_164 rc120 x0 x1 x2 x3 x9 h28) else (chk h28 x0 8 <| calI (M_X8_chance x0 x1 z27 h28) fun z29 h30 => rdI h30 x3 20 z27 fun z31 => if z29 ≠ z31 then (B_L_searches_164 rc120 x0 x1 x2 x3 x9 h30) else (B_L_searches_165 rc120 x0 x1 x2 x3 x9 (1 : Int32) h30)))
def L_L_searches_120 : Nat → Option Nat → Int32 → Int32 → Option Nat → Int32 → Int32 → MH → Res
  | 0 => fun _ _ _ _ _ _ _ => none
  | n + 1 => B_L_searches_120 (L_L_searches_120 n)
def B_L_searches_115 (x0 : Option Nat) (x1 : Int32) (x2 : Int32) (x3 : Option Nat) (s0 : Int32) (h : MH) : Res := L_L_searches_120 fuel x0 x1 x2 x3 s0 (0 : Int32) h
def B_L_searches_114 (x0 : Option Nat) (x1 : Int32) (x2 : Int32) (x3 : Option Nat) (h : MH) : Res := B_L_searches_115 x0 x1 x2 x3 (0 : Int32) h
def B_L_searches_34 (rc34 : Option Nat → Int32 → Int32 → Option Nat → Option Nat → Int32 → Int32 → Int32 → Int32 → MH → Res) (x0 : Option Nat) (x1 : Int32) (x2 : Int32) (x3 : Option Nat) (x4 : Option Nat) (x5 : Int32) (x6 : Int32) (x7 : Int32) (x8 : Int32) (h : MH) : Res := if x5 ≤ x8 then (chk h x0 8 <| calI (M_X8_best x0 x1 h) fun z9 h10 => calI (M_L_best x3 h10) fun z11 h12 => if z9 ≠ z11 then (B_L_searches_114 x0 x1 x2 x3 h12) else (chk h12 x0 8 <| calI (M_X8_plan x0 x1 x5 x6 h12) fun z13 h14 => if z13 ≠ x7 then (B_L_searches_114 x0 x1 x2 x3 h14) else (B_L_searches_115 x0 x1 x2 x3 (1 : Int32) h14))) else (calI (M_L_best x4 h) fun z15 h16 => rdI h16 x4 20 z15 fun z17 => bnd (z17 * x6) fun z18 => dvI z18 (100 : Int32) fun z19 => rdI h16 x4 20 z15 fun z20 => bnd (z20 - z19) fun z21 => wrI h16 x4 20 z15 z21 fun h22 => bnd (x7 + z19) fun z23 => bnd (x8 + (1)) fun z24 => rc34 x0 x1 x2 x3 x4 x5 x6 z23 z24 h22)
def L_L_searches_34 : Nat → Option Nat → Int32 → Int32 → Option Nat → Option Nat → Int32 → Int32 → Int32 → Int32 → MH → Res
  | 0 => fun _ _ _ _ _ _ _ _ _ _ => none
  | n + 1 => B_L_searches_34 (L_L_searches_34 n)
def M_L_searches (x0 : Option Nat) (x1 : Int32) (x2 : Int32) (x3 : Option Nat) (x4 : Option Nat) (h : MH) : Res := calI (M_L_low x2 (20 : Int32) h) fun z1 h2 => bnd ((1 : Int32) + z1) fun z3 => bnd (x2 >>> ((4 : Int32) &&& 31)) fun z4 => calI (M_L_low z4 (100 : Int32) h2) fun z5 h6 => bnd ((1 : Int32) + z5) fun z7 => calV (M_L_copies x3 x4 h6) fun h8 => L_L_searches_34 fuel x0 x1 x2 x3 x4 z3 z7 (0 : Int32) (0 : Int32) h8
theorem vB_L_searches_165 {K : CT} (F : Fr K cL_searches RL (some .boolean) [] 8 1) (hm : mxL K = 11) (rc120 : Option Nat → Int32 → Int32 → Option Nat → Int32 → Int32 → MH → Res) (hrc120 : ∀ x0 x1 x2 x3 x8 x9 h, V K 120 [(0, vR x0), (1, vI x1), (2, vI x2), (3, vR x3), (8, vI x8), (9, vI x9)] [] h (rc120 x0 x1 x2 x3 x8 x9 h)) (x0 : Option Nat) (x1 : Int32) (x2 : Int32) (x3 : Option Nat) (x9 : Int32) (s0 : Int32) (h : MH) : V K 165 [(0, vR x0), (1, vI x1), (2, vI x2), (3, vR x3), (9, vI x9)] [vI s0] h (B_L_searches_165 rc120 x0 x1 x2 x3 x9 s0 h) := by
  unfold B_L_searches_165
  refine V_istore (pc := 165) F [(8, vI s0), (0, vR x0), (1, vI x1), (2, vI x2), (3, vR x3), (9, vI x9)] dL_searches_165 (lt_mx hm (by decide)) rfl ?_
  refine V_iinc (pc := 167) F (fun z32 => [(9, vI z32), (8, vI s0), (0, vR x0), (1, vI x1), (2, vI x2), (3, vR x3)]) dL_searches_167 (lt_mx hm (by decide)) 5 rfl (dx := (1 : Int32)) (by decide) (fun _ => rfl) ?_
  intro z32
  refine V_goto (pc := 170) F 120 dL_searches_170 (by decide) ?_
  refine V_sub [2, 3, 4, 5, 1, 0] (L' := [(0, vR x0), (1, vI x1), (2, vI x2), (3, vR x3), (8, vI s0), (9, vI z32)]) rfl ?_
  exact hrc120 x0 x1 x2 x3 s0 z32 h
theorem vB_L_searches_164 {K : CT} (F : Fr K cL_searches RL (some .boolean) [] 8 1) (hm : mxL K = 11) (rc120 : Option Nat → Int32 → Int32 → Option Nat → Int32 → Int32 → MH → Res) (hrc120 : ∀ x0 x1 x2 x3 x8 x9 h, V K 120 [(0, vR x0), (1, vI x1), (2, vI x2), (3, vR x3), (8, vI x8), (9, vI x9)] [] h (rc120 x0 x1 x2 x3 x8 x9 h)) (x0 : Option Nat) (x1 : Int32) (x2 : Int32) (x3 : Option Nat) (x9 : Int32) (h : MH) : V K 164 [(0, vR x0), (1, vI x1), (2, vI x2), (3, vR x3), (9, vI x9)] [] h (B_L_searches_164 rc120 x0 x1 x2 x3 x9 h) := by
  unfold B_L_searches_164
  refine V_iconst (pc := 164) F (x := (0 : Int32)) dL_searches_164 (by decide) ?_
  exact vB_L_searches_165 F hm rc120 hrc120 x0 x1 x2 x3 x9 (0 : Int32) h
theorem vB_L_searches_120 {K : CT} (F : Fr K cL_searches RL (some .boolean) [] 8 1) (hm : mxL K = 11) (rc120 : Option Nat → Int32 → Int32 → Option Nat → Int32 → Int32 → MH → Res) (hrc120 : ∀ x0 x1 x2 x3 x8 x9 h, V K 120 [(0, vR x0), (1, vI x1), (2, vI x2), (3, vR x3), (8, vI x8), (9, vI x9)] [] h (rc120 x0 x1 x2 x3 x8 x9 h)) (x0 : Option Nat) (x1 : Int32) (x2 : Int32) (x3 : Option Nat) (x8 : Int32) (x9 : Int32) (h : MH) : V K 120 [(0, vR x0), (1, vI x1), (2, vI x2), (3, vR x3), (8, vI x8), (9, vI x9)] [] h (B_L_searches_120 rc120 x0 x1 x2 x3 x8 x9 h) := by
  unfold B_L_searches_120
  refine V_iload (pc := 120) F dL_searches_120 5 rfl ?_
  refine V_bipush (pc := 122) F (x := (12 : Int32)) dL_searches_122 (by decide) ?_
  refine V_icmp_ge (pc := 124) F 173 dL_searches_124 (by decide) ?_ ?_
  · refine V_iload (pc := 173) F dL_searches_173 4 rfl ?_
    exact V_zret (pc := 175) F (Or.inr rfl) dL_searches_175
  · refine V_iload_n (pc := 127) F dL_searches_127 2 rfl ?_
    refine V_bipush (pc := 128) F (x := (7 : Int32)) dL_searches_128 (by decide) ?_
    refine V_iload (pc := 130) F dL_searches_130 5 rfl ?_
    refine V_imul (pc := 132) F dL_searches_132 ?_
    intro z25
    refine V_iadd (pc := 133) F dL_searches_133 ?_
    intro z26
    refine V_bipush (pc := 134) F (x := (60 : Int32)) dL_searches_134 (by decide) ?_
    refine V_cSM (pc := 136) F (as := [vI z26, vI (60 : Int32)]) (C_L_low z26 (60 : Int32) h) w_L_low g_st_L_low g_ml_RL_29 (by decide) (rest := []) rfl rfl (Nat.le_of_ble_eq_true rfl) dL_searches_136 (k_I fun z27 h28 => ?_)
    refine V_istore (pc := 139) F [(10, vI z27), (0, vR x0), (1, vI x1), (2, vI x2), (3, vR x3), (8, vI x8), (9, vI x9)] dL_searches_139 (lt_mx hm (by decide)) rfl ?_
    refine V_iload (pc := 141) F dL_searches_141 5 rfl ?_
    refine V_if_eq (pc := 143) F 164 dL_searches_143 (by decide) ?_ ?_
    · refine V_sub [1, 2, 3, 4, 6] (L' := [(0, vR x0), (1, vI x1), (2, vI x2), (3, vR x3), (9, vI x9)]) rfl ?_
      exact vB_L_searches_164 F hm rc120 hrc120 x0 x1 x2 x3 x9 h28
    · refine V_aload_n (pc := 146) F dL_searches_146 1 rfl ?_
      refine V_iload_n (pc := 147) F dL_searches_147 2 rfl ?_
      refine V_iload (pc := 148) F dL_searches_148 0 rfl ?_
      refine V_cV (pc := 150) F 8 (by decide) (as := [vI x1, vI z27]) (C_X8_chance x0 x1 z27 h28) w_X8_chance g_in_X8_chance g_se_X8_chance g_ml_RL_97 (by decide) (rest := []) rfl rfl (Nat.le_of_ble_eq_true rfl) dL_searches_150 (k_I fun z29 h30 => ?_) (fun _ _ => VX_out F)
      refine V_aload_n (pc := 153) F dL_searches_153 4 rfl ?_
      refine V_iload (pc := 154) F dL_searches_154 0 rfl ?_
      refine V_iald (pc := 156) F dL_searches_156 ?_
      intro z31
      refine V_icmp_ne (pc := 157) F 164 dL_searches_157 (by decide) ?_ ?_
      · refine V_sub [1, 2, 3, 4, 6] (L' := [(0, vR x0), (1, vI x1), (2, vI x2), (3, vR x3), (9, vI x9)]) rfl ?_
        exact vB_L_searches_164 F hm rc120 hrc120 x0 x1 x2 x3 x9 h30
      · refine V_iconst (pc := 160) F (x := (1 : Int32)) dL_searches_160 (by decide) ?_
        refine V_goto (pc := 161) F 165 dL_searches_161 (by decide) ?_
        refine V_sub [1, 2, 3, 4, 6] (L' := [(0, vR x0), (1, vI x1), (2, vI x2), (3, vR x3), (9, vI x9)]) rfl ?_
        exact vB_L_searches_165 F hm rc120 hrc120 x0 x1 x2 x3 x9 (1 : Int32) h30
theorem vL_L_searches_120 {K : CT} (F : Fr K cL_searches RL (some .boolean) [] 8 1) (hm : mxL K = 11) (n : Nat) : ∀ x0 x1 x2 x3 x8 x9 h, V K 120 [(0, vR x0), (1, vI x1), (2, vI x2), (3, vR x3), (8, vI x8), (9, vI x9)] [] h (L_L_searches_120 n x0 x1 x2 x3 x8 x9 h) := by
  induction n with
  | zero => intros; exact V_none
  | succ n ih => intro x0 x1 x2 x3 x8 x9 h; exact vB_L_searches_120 F hm _ ih x0 x1 x2 x3 x8 x9 h
theorem vB_L_searches_115 {K : CT} (F : Fr K cL_searches RL (some .boolean) [] 8 1) (hm : mxL K = 11) (x0 : Option Nat) (x1 : Int32) (x2 : Int32) (x3 : Option Nat) (s0 : Int32) (h : MH) : V K 115 [(0, vR x0), (1, vI x1), (2, vI x2), (3, vR x3)] [vI s0] h (B_L_searches_115 x0 x1 x2 x3 s0 h) := by
  unfold B_L_searches_115
  refine V_istore (pc := 115) F [(8, vI s0), (0, vR x0), (1, vI x1), (2, vI x2), (3, vR x3)] dL_searches_115 (lt_mx hm (by decide)) rfl ?_
  refine V_iconst (pc := 117) F (x := (0 : Int32)) dL_searches_117 (by decide) ?_
  refine V_istore (pc := 118) F [(9, vI (0 : Int32)), (8, vI s0), (0, vR x0), (1, vI x1), (2, vI x2), (3, vR x3)] dL_searches_118 (lt_mx hm (by decide)) rfl ?_
  refine V_sub [2, 3, 4, 5, 1, 0] (L' := [(0, vR x0), (1, vI x1), (2, vI x2), (3, vR x3), (8, vI s0), (9, vI (0 : Int32))]) rfl ?_
  exact vL_L_searches_120 F hm fuel x0 x1 x2 x3 s0 (0 : Int32) h
theorem vB_L_searches_114 {K : CT} (F : Fr K cL_searches RL (some .boolean) [] 8 1) (hm : mxL K = 11) (x0 : Option Nat) (x1 : Int32) (x2 : Int32) (x3 : Option Nat) (h : MH) : V K 114 [(0, vR x0), (1, vI x1), (2, vI x2), (3, vR x3)] [] h (B_L_searches_114 x0 x1 x2 x3 h) := by
  unfold B_L_searches_114
  refine V_iconst (pc := 114) F (x := (0 : Int32)) dL_searches_114 (by decide) ?_
  exact vB_L_searches_115 F hm x0 x1 x2 x3 (0 : Int32) h
theorem vB_L_searches_34 {K : CT} (F : Fr K cL_searches RL (some .boolean) [] 8 1) (hm : mxL K = 11) (rc34 : Option Nat → Int32 → Int32 → Option Nat → Option Nat → Int32 → Int32 → Int32 → Int32 → MH → Res) (hrc34 : ∀ x0 x1 x2 x3 x4 x5 x6 x7 x8 h, V K 34 [(0, vR x0), (1, vI x1), (2, vI x2), (3, vR x3), (4, vR x4), (5, vI x5), (6, vI x6), (7, vI x7), (8, vI x8)] [] h (rc34 x0 x1 x2 x3 x4 x5 x6 x7 x8 h)) (x0 : Option Nat) (x1 : Int32) (x2 : Int32) (x3 : Option Nat) (x4 : Option Nat) (x5 : Int32) (x6 : Int32) (x7 : Int32) (x8 : Int32) (h : MH) : V K 34 [(0, vR x0), (1, vI x1), (2, vI x2), (3, vR x3), (4, vR x4), (5, vI x5), (6, vI x6), (7, vI x7), (8, vI x8)] [] h (B_L_searches_34 rc34 x0 x1 x2 x3 x4 x5 x6 x7 x8 h) := by
  unfold B_L_searches_34
  refine V_iload (pc := 34) F dL_searches_34 8 rfl ?_
  refine V_iload (pc := 36) F dL_searches_36 5 rfl ?_
  refine V_icmp_ge (pc := 38) F 84 dL_searches_38 (by decide) ?_ ?_
  · refine V_aload_n (pc := 84) F dL_searches_84 0 rfl ?_
    refine V_iload_n (pc := 85) F dL_searches_85 1 rfl ?_
    refine V_cV (pc := 86) F 8 (by decide) (as := [vI x1]) (C_X8_best x0 x1 h) w_X8_best g_in_X8_best g_se_X8_best g_ml_RL_92 (by decide) (rest := []) rfl rfl (Nat.le_of_ble_eq_true rfl) dL_searches_86 (k_I fun z9 h10 => ?_) (fun _ _ => VX_out F)
    refine V_aload_n (pc := 89) F dL_searches_89 3 rfl ?_
    refine V_cSM (pc := 90) F (as := [vR x3]) (C_L_best x3 h10) w_L_best g_st_L_best g_ml_RL_88 (by decide) (rest := [vI z9]) rfl rfl (Nat.le_of_ble_eq_true rfl) dL_searches_90 (k_I fun z11 h12 => ?_)
    refine V_icmp_ne (pc := 93) F 114 dL_searches_93 (by decide) ?_ ?_
    · refine V_sub [0, 1, 2, 3] (L' := [(0, vR x0), (1, vI x1), (2, vI x2), (3, vR x3)]) rfl ?_
      exact vB_L_searches_114 F hm x0 x1 x2 x3 h12
    · refine V_aload_n (pc := 96) F dL_searches_96 0 rfl ?_
      refine V_iload_n (pc := 97) F dL_searches_97 1 rfl ?_
      refine V_iload (pc := 98) F dL_searches_98 5 rfl ?_
      refine V_iload (pc := 100) F dL_searches_100 6 rfl ?_
      refine V_cV (pc := 102) F 8 (by decide) (as := [vI x1, vI x5, vI x6]) (C_X8_plan x0 x1 x5 x6 h12) w_X8_plan g_in_X8_plan g_se_X8_plan g_ml_RL_94 (by decide) (rest := []) rfl rfl (Nat.le_of_ble_eq_true rfl) dL_searches_102 (k_I fun z13 h14 => ?_) (fun _ _ => VX_out F)
      refine V_iload (pc := 105) F dL_searches_105 7 rfl ?_
      refine V_icmp_ne (pc := 107) F 114 dL_searches_107 (by decide) ?_ ?_
      · refine V_sub [0, 1, 2, 3] (L' := [(0, vR x0), (1, vI x1), (2, vI x2), (3, vR x3)]) rfl ?_
        exact vB_L_searches_114 F hm x0 x1 x2 x3 h14
      · refine V_iconst (pc := 110) F (x := (1 : Int32)) dL_searches_110 (by decide) ?_
        refine V_goto (pc := 111) F 115 dL_searches_111 (by decide) ?_
        refine V_sub [0, 1, 2, 3] (L' := [(0, vR x0), (1, vI x1), (2, vI x2), (3, vR x3)]) rfl ?_
        exact vB_L_searches_115 F hm x0 x1 x2 x3 (1 : Int32) h14
  · refine V_aload (pc := 41) F dL_searches_41 4 rfl ?_
    refine V_cSM (pc := 43) F (as := [vR x4]) (C_L_best x4 h) w_L_best g_st_L_best g_ml_RL_88 (by decide) (rest := []) rfl rfl (Nat.le_of_ble_eq_true rfl) dL_searches_43 (k_I fun z15 h16 => ?_)
    refine V_istore (pc := 46) F [(9, vI z15), (0, vR x0), (1, vI x1), (2, vI x2), (3, vR x3), (4, vR x4), (5, vI x5), (6, vI x6), (7, vI x7), (8, vI x8)] dL_searches_46 (lt_mx hm (by decide)) rfl ?_
    refine V_aload (pc := 48) F dL_searches_48 5 rfl ?_
    refine V_iload (pc := 50) F dL_searches_50 0 rfl ?_
    refine V_iald (pc := 52) F dL_searches_52 ?_
    intro z17
    refine V_iload (pc := 53) F dL_searches_53 7 rfl ?_
    refine V_imul (pc := 55) F dL_searches_55 ?_
    intro z18
    refine V_bipush (pc := 56) F (x := (100 : Int32)) dL_searches_56 (by decide) ?_
    refine V_idiv (pc := 58) F dL_searches_58 ?_
    intro z19
    refine V_istore (pc := 59) F [(10, vI z19), (9, vI z15), (0, vR x0), (1, vI x1), (2, vI x2), (3, vR x3), (4, vR x4), (5, vI x5), (6, vI x6), (7, vI x7), (8, vI x8)] dL_searches_59 (lt_mx hm (by decide)) rfl ?_
    refine V_aload (pc := 61) F dL_searches_61 6 rfl ?_
    refine V_iload (pc := 63) F dL_searches_63 1 rfl ?_
    refine V_dup2 (pc := 65) F dL_searches_65 rfl rfl ?_
    refine V_iald (pc := 66) F dL_searches_66 ?_
    intro z20
    refine V_iload (pc := 67) F dL_searches_67 0 rfl ?_
    refine V_isub (pc := 69) F dL_searches_69 ?_
    intro z21
    refine V_iast (pc := 70) F dL_searches_70 ?_
    intro h22
    refine V_iload (pc := 71) F dL_searches_71 9 rfl ?_
    refine V_iload (pc := 73) F dL_searches_73 0 rfl ?_
    refine V_iadd (pc := 75) F dL_searches_75 ?_
    intro z23
    refine V_istore (pc := 76) F [(7, vI z23), (10, vI z19), (9, vI z15), (0, vR x0), (1, vI x1), (2, vI x2), (3, vR x3), (4, vR x4), (5, vI x5), (6, vI x6), (8, vI x8)] dL_searches_76 (lt_mx hm (by decide)) rfl ?_
    refine V_iinc (pc := 78) F (fun z24 => [(8, vI z24), (7, vI z23), (10, vI z19), (9, vI z15), (0, vR x0), (1, vI x1), (2, vI x2), (3, vR x3), (4, vR x4), (5, vI x5), (6, vI x6)]) dL_searches_78 (lt_mx hm (by decide)) 10 rfl (dx := (1 : Int32)) (by decide) (fun _ => rfl) ?_
    intro z24
    refine V_goto (pc := 81) F 34 dL_searches_81 (by decide) ?_
    refine V_sub [4, 5, 6, 7, 8, 9, 10, 1, 0] (L' := [(0, vR x0), (1, vI x1), (2, vI x2), (3, vR x3), (4, vR x4), (5, vI x5), (6, vI x6), (7, vI z23), (8, vI z24)]) rfl ?_
    exact hrc34 x0 x1 x2 x3 x4 x5 x6 z23 z24 h22
theorem vL_L_searches_34 {K : CT} (F : Fr K cL_searches RL (some .boolean) [] 8 1) (hm : mxL K = 11) (n : Nat) : ∀ x0 x1 x2 x3 x4 x5 x6 x7 x8 h, V K 34 [(0, vR x0), (1, vI x1), (2, vI x2), (3, vR x3), (4, vR x4), (5, vI x5), (6, vI x6), (7, vI x7), (8, vI x8)] [] h (L_L_searches_34 n x0 x1 x2 x3 x4 x5 x6 x7 x8 h) := by
  induction n with
  | zero => intros; exact V_none
  | succ n ih => intro x0 x1 x2 x3 x4 x5 x6 x7 x8 h; exact vB_L_searches_34 F hm _ ih x0 x1 x2 x3 x4 x5 x6 x7 x8 h
theorem vM_L_searches {K : CT} (F : Fr K cL_searches RL (some .boolean) [] 8 1) (hm : mxL K = 11) (x0 : Option Nat) (x1 : Int32) (x2 : Int32) (x3 : Option Nat) (x4 : Option Nat) (h : MH) : V K 0 [(0, vR x0), (1, vI x1), (2, vI x2), (3, vR x3), (4, vR x4)] [] h (M_L_searches x0 x1 x2 x3 x4 h) := by
  unfold M_L_searches
  refine V_iconst (pc := 0) F (x := (1 : Int32)) dL_searches_0 (by decide) ?_
  refine V_iload_n (pc := 1) F dL_searches_1 2 rfl ?_
  refine V_bipush (pc := 2) F (x := (20 : Int32)) dL_searches_2 (by decide) ?_
  refine V_cSM (pc := 4) F (as := [vI x2, vI (20 : Int32)]) (C_L_low x2 (20 : Int32) h) w_L_low g_st_L_low g_ml_RL_29 (by decide) (rest := [vI (1 : Int32)]) rfl rfl (Nat.le_of_ble_eq_true rfl) dL_searches_4 (k_I fun z1 h2 => ?_)
  refine V_iadd (pc := 7) F dL_searches_7 ?_
  intro z3
  refine V_istore (pc := 8) F [(5, vI z3), (0, vR x0), (1, vI x1), (2, vI x2), (3, vR x3), (4, vR x4)] dL_searches_8 (lt_mx hm (by decide)) rfl ?_
  refine V_iconst (pc := 10) F (x := (1 : Int32)) dL_searches_10 (by decide) ?_
  refine V_iload_n (pc := 11) F dL_searches_11 3 rfl ?_
  refine V_iconst (pc := 12) F (x := (4 : Int32)) dL_searches_12 (by decide) ?_
  refine V_ishr (pc := 13) F dL_searches_13 ?_
  intro z4
  refine V_bipush (pc := 14) F (x := (100 : Int32)) dL_searches_14 (by decide) ?_
  refine V_cSM (pc := 16) F (as := [vI z4, vI (100 : Int32)]) (C_L_low z4 (100 : Int32) h2) w_L_low g_st_L_low g_ml_RL_29 (by decide) (rest := [vI (1 : Int32)]) rfl rfl (Nat.le_of_ble_eq_true rfl) dL_searches_16 (k_I fun z5 h6 => ?_)
  refine V_iadd (pc := 19) F dL_searches_19 ?_
  intro z7
  refine V_istore (pc := 20) F [(6, vI z7), (5, vI z3), (0, vR x0), (1, vI x1), (2, vI x2), (3, vR x3), (4, vR x4)] dL_searches_20 (lt_mx hm (by decide)) rfl ?_
  refine V_iconst (pc := 22) F (x := (0 : Int32)) dL_searches_22 (by decide) ?_
  refine V_istore (pc := 23) F [(7, vI (0 : Int32)), (6, vI z7), (5, vI z3), (0, vR x0), (1, vI x1), (2, vI x2), (3, vR x3), (4, vR x4)] dL_searches_23 (lt_mx hm (by decide)) rfl ?_
  refine V_aload_n (pc := 25) F dL_searches_25 6 rfl ?_
  refine V_aload (pc := 26) F dL_searches_26 7 rfl ?_
  refine V_cSM (pc := 28) F (as := [vR x3, vR x4]) (C_L_copies x3 x4 h6) w_L_copies g_st_L_copies g_ml_RL_63 (by decide) (rest := []) rfl rfl (Nat.le_of_ble_eq_true rfl) dL_searches_28 (k_V fun h8 => ?_)
  refine V_iconst (pc := 31) F (x := (0 : Int32)) dL_searches_31 (by decide) ?_
  refine V_istore (pc := 32) F [(8, vI (0 : Int32)), (7, vI (0 : Int32)), (6, vI z7), (5, vI z3), (0, vR x0), (1, vI x1), (2, vI x2), (3, vR x3), (4, vR x4)] dL_searches_32 (lt_mx hm (by decide)) rfl ?_
  refine V_sub [4, 5, 6, 7, 8, 3, 2, 1, 0] (L' := [(0, vR x0), (1, vI x1), (2, vI x2), (3, vR x3), (4, vR x4), (5, vI z3), (6, vI z7), (7, vI (0 : Int32)), (8, vI (0 : Int32))]) rfl ?_
  exact vL_L_searches_34 F hm fuel x0 x1 x2 x3 x4 z3 z7 (0 : Int32) (0 : Int32) h8
theorem C_L_searches (x0 : Option Nat) (x1 : Int32) (x2 : Int32) (x3 : Option Nat) (x4 : Option Nat) (h : MH) : CtrX yL_searches (WSm yL_searches cL_searches 11 (some .boolean)) 8 [vR x0, vI x1, vI x2, vR x3, vR x4] h (M_L_searches x0 x1 x2 x3 x4 h) :=
  CtrX_of (by decide) (Nat.le_of_ble_eq_true rfl) (fun K F hm hi => vM_L_searches F hm x0 x1 x2 x3 x4 h)
