def B_L_law_514 (Ls : Nat) (xs : Nat → Int32) (rc162 : Option Nat → Option Nat → Option Nat → Option Nat → Option Nat → Option Nat → Option Nat → Option Nat → Option Nat → Option Nat → Option Nat → Option Nat → Option Nat → Option Nat → Option Nat → Option Nat → Option Nat → Int32 → Int32 → MH → Res) (x1 : Option Nat) (x2 : Option Nat) (x3 : Option Nat) (x4 : Option Nat) (x5 : Option Nat) (x6 : Option Nat) (x7 : Option Nat) (x8 : Option Nat) (x9 : Option Nat) (x10 : Option Nat) (x11 : Option Nat) (x12 : Option Nat) (x13 : Option Nat) (x14 : Option Nat) (x15 : Option Nat) (x16 : Option Nat) (x17 : Option Nat) (x19 : Int32) (s0 : Int32) (h : MH) : Res := bnd (x19 + (1)) fun z64 => rc162 x1 x2 x3 x4 x5 x6 x7 x8 x9 x10 x11 x12 x13 x14 x15 x16 x17 s0 z64 h
def B_L_law_513 (Ls : Nat) (xs : Nat → Int32) (rc162 : Option Nat → Option Nat → Option Nat → Option Nat → Option Nat → Option Nat → Option Nat → Option Nat → Option Nat → Option Nat → Option Nat → Option Nat → Option Nat → Option Nat → Option Nat → Option Nat → Option Nat → Int32 → Int32 → MH → Res) (x1 : Option Nat) (x2 : Option Nat) (x3 : Option Nat) (x4 : Option Nat) (x5 : Option Nat) (x6 : Option Nat) (x7 : Option Nat) (x8 : Option Nat) (x9 : Option Nat) (x10 : Option Nat) (x11 : Option Nat) (x12 : Option Nat) (x13 : Option Nat) (x14 : Option Nat) (x15 : Option Nat) (x16 : Option Nat) (x17 : Option Nat) (x19 : Int32) (h : MH) : Res := B_L_law_514 Ls xs rc162 x1 x2 x3 x4 x5 x6 x7 x8 x9 x10 x11 x12 x13 x14 x15 x16 x17 x19 (0 : Int32) h
def B_L_law_464 (Ls : Nat) (xs : Nat → Int32) (rc162 : Option Nat → Option Nat → Option Nat → Option Nat → Option Nat → Option Nat → Option Nat → Option Nat → Option Nat → Option Nat → Option Nat → Option Nat → Option Nat → Option Nat → Option Nat → Option Nat → Option Nat → Int32 → Int32 → MH → Res) (x1 : Option Nat) (x2 : Option Nat) (x3 : Option Nat) (x4 : Option Nat) (x5 : Option Nat) (x6 : Option Nat) (x7 : Option Nat) (x8 : Option Nat) (x9 : Option Nat) (x10 : Option Nat) (x11 : Option Nat) (x12 : Option Nat) (x13 : Option Nat) (x14 : Option Nat) (x15 : Option Nat) (x16 : Option Nat) (x17 : Option Nat) (x18 : Int32) (x19 : Int32) (x22 : Int32) (h : MH) : Res := if x18 = 0 then (B_L_law_513 Ls xs rc162 x1 x2 x3 x4 x5 x6 x7 x8 x9 x10 x11 x12 x13 x14 x15 x16 x17 x19 h) else (bnd (x22 >>> ((1 : Int32) &&& 31)) fun z60 => bnd (z60 &&& (8388607 : Int32)) fun z61 => calNI (M_L_same x1 z61 x2 x3 x4 x5 x6 x7 x10 x11 x12 x13 x14 x15 x16 x17 h) fun z62 h63 => if z62 = 0 then (B_L_law_513 Ls xs rc162 x1 x2 x3 x4 x5 x6 x7 x8 x9 x10 x11 x12 x13 x14 x15 x16 x17 x19 h63) else (B_L_law_514 Ls xs rc162 x1 x2 x3 x4 x5 x6 x7 x8 x9 x10 x11 x12 x13 x14 x15 x16 x17 x19 (1 : Int32) h63))
def B_L_law_336 (Ls : Nat) (xs : Nat → Int32) (rc162 : Option Nat → Option Nat → Option Nat → Option Nat → Option Nat → Option Nat → Option Nat → Option Nat → Option Nat → Option Nat → Option Nat → Option Nat → Option Nat → Option Nat → Option Nat → Option Nat → Option Nat → Int32 → Int32 → MH → Res) (x1 : Option Nat) (x2 : Option Nat) (x3 : Option Nat) (x4 : Option Nat) (x5 : Option Nat) (x6 : Option Nat) (x7 : Option Nat) (x8 : Option Nat) (x9 : Option Nat) (x10 : Option Nat) (x11 : Option Nat) (x12 : Option Nat) (x13 : Option Nat) (x14 : Option Nat) (x15 : Option Nat) (x16 : Option Nat) (x17 : Option Nat) (x19 : Int32) (x22 : Int32) (s0 : Option Nat) (s1 : Int32) (h : MH) : Res := calNI (M_L_tells s0 s1 x22 x2 x3 x4 x5 x6 x7 x8 x9 x10 x11 x12 x13 x14 x17 h) fun z52 h53 => B_L_law_464 Ls xs rc162 x1 x2 x3 x4 x5 x6 x7 x8 x9 x10 x11 x12 x13 x14 x15 x16 x17 z52 x19 x22 h53
def B_L_law_458 (Ls : Nat) (xs : Nat → Int32) (rc162 : Option Nat → Option Nat → Option Nat → Option Nat → Option Nat → Option Nat → Option Nat → Option Nat → Option Nat → Option Nat → Option Nat → Option Nat → Option Nat → Option Nat → Option Nat → Option Nat → Option Nat → Int32 → Int32 → MH → Res) (rc385 : Option Nat → Option Nat → Option Nat → Option Nat → Option Nat → Option Nat → Option Nat → Option Nat → Option Nat → Option Nat → Option Nat → Option Nat → Option Nat → Option Nat → Option Nat → Option Nat → Option Nat → Int32 → Int32 → Int32 → Int32 → Int32 → MH → Res) (x1 : Option Nat) (x2 : Option Nat) (x3 : Option Nat) (x4 : Option Nat) (x5 : Option Nat) (x6 : Option Nat) (x7 : Option Nat) (x8 : Option Nat) (x9 : Option Nat) (x10 : Option Nat) (x11 : Option Nat) (x12 : Option Nat) (x13 : Option Nat) (x14 : Option Nat) (x15 : Option Nat) (x16 : Option Nat) (x17 : Option Nat) (x18 : Int32) (x19 : Int32) (x22 : Int32) (x23 : Int32) (x24 : Int32) (h : MH) : Res := bnd (x24 + (1)) fun z59 => rc385 x1 x2 x3 x4 x5 x6 x7 x8 x9 x10 x11 x12 x13 x14 x15 x16 x17 x18 x19 x22 x23 z59 h
def B_L_law_456 (Ls : Nat) (xs : Nat → Int32) (rc162 : Option Nat → Option Nat → Option Nat → Option Nat → Option Nat → Option Nat → Option Nat → Option Nat → Option Nat → Option Nat → Option Nat → Option Nat → Option Nat → Option Nat → Option Nat → Option Nat → Option Nat → Int32 → Int32 → MH → Res) (rc385 : Option Nat → Option Nat → Option Nat → Option Nat → Option Nat → Option Nat → Option Nat → Option Nat → Option Nat → Option Nat → Option Nat → Option Nat → Option Nat → Option Nat → Option Nat → Option Nat → Option Nat → Int32 → Int32 → Int32 → Int32 → Int32 → MH → Res) (x1 : Option Nat) (x2 : Option Nat) (x3 : Option Nat) (x4 : Option Nat) (x5 : Option Nat) (x6 : Option Nat) (x7 : Option Nat) (x8 : Option Nat) (x9 : Option Nat) (x10 : Option Nat) (x11 : Option Nat) (x12 : Option Nat) (x13 : Option Nat) (x14 : Option Nat) (x15 : Option Nat) (x16 : Option Nat) (x17 : Option Nat) (x19 : Int32) (x22 : Int32) (x23 : Int32) (x24 : Int32) (s0 : Int32) (h : MH) : Res := B_L_law_458 Ls xs rc162 rc385 x1 x2 x3 x4 x5 x6 x7 x8 x9 x10 x11 x12 x13 x14 x15 x16 x17 s0 x19 x22 x23 x24 h
def B_L_law_385 (Ls : Nat) (xs : Nat → Int32) (rc162 : Option Nat → Option Nat → Option Nat → Option Nat → Option Nat → Option Nat → Option Nat → Option Nat → Option Nat → Option Nat → Option Nat → Option Nat → Option Nat → Option Nat → Option Nat → Option Nat → Option Nat → Int32 → Int32 → MH → Res) (rc385 : Option Nat → Option Nat → Option Nat → Option Nat → Option Nat → Option Nat → Option Nat → Option Nat → Option Nat → Option Nat → Option Nat → Option Nat → Option Nat → Option Nat → Option Nat → Option Nat → Option Nat → Int32 → Int32 → Int32 → Int32 → Int32 → MH → Res) (x1 : Option Nat) (x2 : Option Nat) (x3 : Option Nat) (x4 : Option Nat) (x5 : Option Nat) (x6 : Option Nat) (x7 : Option Nat) (x8 : Option Nat) (x9 : Option Nat) (x10 : Option Nat) (x11 : Option Nat) (x12 : Option Nat) (x13 : Option Nat) (x14 : Option Nat) (x15 : Option Nat) (x16 : Option Nat) (x17 : Option Nat) (x18 : Int32) (x19 : Int32) (x22 : Int32) (x23 : Int32) (x24 : Int32) (h : MH) : Res := if x23 ≤ x24 then (B_L_law_464 Ls xs rc162 x1 x2 x3 x4 x5 x6 x7 x8 x9 x10 x11 x12 x13 x14 x15 x16 x17 x18 x19 x22 h) else (if x18 = 0 then (B_L_law_464 Ls xs rc162 x1 x2 x3 x4 x5 x6 x7 x8 x9 x10 x11 x12 x13 x14 x15 x16 x17 x18 x19 x22 h) else (rdI h x17 20 (5 : Int32) fun z54 => if (26 : Int32) ≤ z54 then (B_L_law_458 Ls xs rc162 rc385 x1 x2 x3 x4 x5 x6 x7 x8 x9 x10 x11 x12 x13 x14 x15 x16 x17 x18 x19 x22 x23 x24 h) else (calV (M_L_passes x2 x3 x4 x5 x6 x7 x8 x9 x10 x11 x12 x13 x14 x15 x16 x17 h) fun h55 => chk h55 x1 8 <| calNI (M_X8_pass x1 (1 : Int32) h55) fun z56 h57 => rdI h57 x17 20 (0 : Int32) fun z58 => if z56 ≠ z58 then (B_L_law_456 Ls xs rc162 rc385 x1 x2 x3 x4 x5 x6 x7 x8 x9 x10 x11 x12 x13 x14 x15 x16 x17 x19 x22 x23 x24 (0 : Int32) h57) else (B_L_law_456 Ls xs rc162 rc385 x1 x2 x3 x4 x5 x6 x7 x8 x9 x10 x11 x12 x13 x14 x15 x16 x17 x19 x22 x23 x24 (1 : Int32) h57))))
def L_L_law_385 (Ls : Nat) (xs : Nat → Int32) (rc162 : Option Nat → Option Nat → Option Nat → Option Nat → Option Nat → Option Nat → Option Nat → Option Nat → Option Nat → Option Nat → Option Nat → Option Nat → Option Nat → Option Nat → Option Nat → Option Nat → Option Nat → Int32 → Int32 → MH → Res) : Nat → Option Nat → Option Nat → Option Nat → Option Nat → Option Nat → Option Nat → Option Nat → Option Nat → Option Nat → Option Nat → Option Nat → Option Nat → Option Nat → Option Nat → Option Nat → Option Nat → Option Nat → Int32 → Int32 → Int32 → Int32 → Int32 → MH → Res
  | 0 => fun _ _ _ _ _ _ _ _ _ _ _ _ _ _ _ _ _ _ _ _ _ _ _ => none
  | n + 1 => B_L_law_385 Ls xs rc162 (L_L_law_385 Ls xs rc162 n)
def B_L_law_205 (Ls : Nat) (xs : Nat → Int32) (rc162 : Option Nat → Option Nat → Option Nat → Option Nat → Option Nat → Option Nat → Option Nat → Option Nat → Option Nat → Option Nat → Option Nat → Option Nat → Option Nat → Option Nat → Option Nat → Option Nat → Option Nat → Int32 → Int32 → MH → Res) (x1 : Option Nat) (x2 : Option Nat) (x3 : Option Nat) (x4 : Option Nat) (x5 : Option Nat) (x6 : Option Nat) (x7 : Option Nat) (x8 : Option Nat) (x9 : Option Nat) (x10 : Option Nat) (x11 : Option Nat) (x12 : Option Nat) (x13 : Option Nat) (x14 : Option Nat) (x15 : Option Nat) (x16 : Option Nat) (x17 : Option Nat) (x18 : Int32) (x19 : Int32) (x20 : Int32) (s0 : Int32) (h : MH) : Res := bnd (x20 >>> ((4 : Int32) &&& 31)) fun z48 => if (21 : Int32) ≤ s0 then (calI (M_L_low z48 (5 : Int32) h) fun z49 h50 => bnd ((1 : Int32) + z49) fun z51 => L_L_law_385 Ls xs rc162 fuel x1 x2 x3 x4 x5 x6 x7 x8 x9 x10 x11 x12 x13 x14 x15 x16 x17 x18 x19 z48 z51 (0 : Int32) h50) else (if (2 : Int32) ≤ s0 then (if (7 : Int32) ≤ s0 then (if (8 : Int32) ≤ s0 then (if (10 : Int32) ≤ s0 then (if (13 : Int32) ≤ s0 then (if (14 : Int32) ≤ s0 then (if (15 : Int32) ≤ s0 then (if (17 : Int32) ≤ s0 then (if (18 : Int32) ≤ s0 then (if (20 : Int32) ≤ s0 then (B_L_law_336 Ls xs rc162 x1 x2 x3 x4 x5 x6 x7 x8 x9 x10 x11 x12 x13 x14 x15 x16 x17 x19 z48 x1 (10 : Int32) h) else (B_L_law_336 Ls xs rc162 x1 x2 x3 x4 x5 x6 x7 x8 x9 x10 x11 x12 x13 x14 x15 x16 x17 x19 z48 x1 (9 : Int32) h)) else (B_L_law_336 Ls xs rc162 x1 x2 x3 x4 x5 x6 x7 x8 x9 x10 x11 x12 x13 x14 x15 x16 x17 x19 z48 x1 (8 : Int32) h)) else (B_L_law_336 Ls xs rc162 x1 x2 x3 x4 x5 x6 x7 x8 x9 x10 x11 x12 x13 x14 x15 x16 x17 x19 z48 x1 (7 : Int32) h)) else (B_L_law_336 Ls xs rc162 x1 x2 x3 x4 x5 x6 x7 x8 x9 x10 x11 x12 x13 x14 x15 x16 x17 x19 z48 x1 (6 : Int32) h)) else (B_L_law_336 Ls xs rc162 x1 x2 x3 x4 x5 x6 x7 x8 x9 x10 x11 x12 x13 x14 x15 x16 x17 x19 z48 x1 (5 : Int32) h)) else (B_L_law_336 Ls xs rc162 x1 x2 x3 x4 x5 x6 x7 x8 x9 x10 x11 x12 x13 x14 x15 x16 x17 x19 z48 x1 (4 : Int32) h)) else (B_L_law_336 Ls xs rc162 x1 x2 x3 x4 x5 x6 x7 x8 x9 x10 x11 x12 x13 x14 x15 x16 x17 x19 z48 x1 (3 : Int32) h)) else (B_L_law_336 Ls xs rc162 x1 x2 x3 x4 x5 x6 x7 x8 x9 x10 x11 x12 x13 x14 x15 x16 x17 x19 z48 x1 (2 : Int32) h)) else (B_L_law_336 Ls xs rc162 x1 x2 x3 x4 x5 x6 x7 x8 x9 x10 x11 x12 x13 x14 x15 x16 x17 x19 z48 x1 (1 : Int32) h)) else (B_L_law_336 Ls xs rc162 x1 x2 x3 x4 x5 x6 x7 x8 x9 x10 x11 x12 x13 x14 x15 x16 x17 x19 z48 x1 (0 : Int32) h))
def B_L_law_162 (Ls : Nat) (xs : Nat → Int32) (rc162 : Option Nat → Option Nat → Option Nat → Option Nat → Option Nat → Option Nat → Option Nat → Option Nat → Option Nat → Option Nat → Option Nat → Option Nat → Option Nat → Option Nat → Option Nat → Option Nat → Option Nat → Int32 → Int32 → MH → Res) (x1 : Option Nat) (x2 : Option Nat) (x3 : Option Nat) (x4 : Option Nat) (x5 : Option Nat) (x6 : Option Nat) (x7 : Option Nat) (x8 : Option Nat) (x9 : Option Nat) (x10 : Option Nat) (x11 : Option Nat) (x12 : Option Nat) (x13 : Option Nat) (x14 : Option Nat) (x15 : Option Nat) (x16 : Option Nat) (x17 : Option Nat) (x18 : Int32) (x19 : Int32) (h : MH) : Res := if (70 : Int32) ≤ x19 then (rtL x18 h) else (if x18 = 0 then (rtL x18 h) else (calI (M_L_cell Ls xs x19 h) fun z42 h43 => if (5 : Int32) ≤ x19 then (calI (M_L_low z42 (30 : Int32) h43) fun z44 h45 => B_L_law_205 Ls xs rc162 x1 x2 x3 x4 x5 x6 x7 x8 x9 x10 x11 x12 x13 x14 x15 x16 x17 x18 x19 z42 z44 h45) else (calI (M_L_low z42 (9 : Int32) h43) fun z46 h47 => B_L_law_205 Ls xs rc162 x1 x2 x3 x4 x5 x6 x7 x8 x9 x10 x11 x12 x13 x14 x15 x16 x17 x18 x19 z42 z46 h47)))
def L_L_law_162 (Ls : Nat) (xs : Nat → Int32) : Nat → Option Nat → Option Nat → Option Nat → Option Nat → Option Nat → Option Nat → Option Nat → Option Nat → Option Nat → Option Nat → Option Nat → Option Nat → Option Nat → Option Nat → Option Nat → Option Nat → Option Nat → Int32 → Int32 → MH → Res
  | 0 => fun _ _ _ _ _ _ _ _ _ _ _ _ _ _ _ _ _ _ _ _ => none
  | n + 1 => B_L_law_162 Ls xs (L_L_law_162 Ls xs n)
def B_L_law_105 (Ls : Nat) (xs : Nat → Int32) (rc105 : Option Nat → Option Nat → Option Nat → Option Nat → Option Nat → Option Nat → Option Nat → Option Nat → Option Nat → Option Nat → Option Nat → Option Nat → Option Nat → Option Nat → Option Nat → Option Nat → Option Nat → Int32 → MH → Res) (x1 : Option Nat) (x2 : Option Nat) (x3 : Option Nat) (x4 : Option Nat) (x5 : Option Nat) (x6 : Option Nat) (x7 : Option Nat) (x8 : Option Nat) (x9 : Option Nat) (x10 : Option Nat) (x11 : Option Nat) (x12 : Option Nat) (x13 : Option Nat) (x14 : Option Nat) (x15 : Option Nat) (x16 : Option Nat) (x17 : Option Nat) (x18 : Int32) (h : MH) : Res := if (60 : Int32) ≤ x18 then (wrI h x17 20 (7 : Int32) (100 : Int32) fun h36 => L_L_law_162 Ls xs fuel x1 x2 x3 x4 x5 x6 x7 x8 x9 x10 x11 x12 x13 x14 x15 x16 x17 (1 : Int32) (0 : Int32) h36) else (wrI h x3 20 x18 (1000 : Int32) fun h37 => wrI h37 x4 20 x18 (400 : Int32) fun h38 => wrI h38 x5 20 x18 (350 : Int32) fun h39 => wrI h39 x6 20 x18 (360 : Int32) fun h40 => bnd (x18 + (1)) fun z41 => rc105 x1 x2 x3 x4 x5 x6 x7 x8 x9 x10 x11 x12 x13 x14 x15 x16 x17 z41 h40)
def L_L_law_105 (Ls : Nat) (xs : Nat → Int32) : Nat → Option Nat → Option Nat → Option Nat → Option Nat → Option Nat → Option Nat → Option Nat → Option Nat → Option Nat → Option Nat → Option Nat → Option Nat → Option Nat → Option Nat → Option Nat → Option Nat → Option Nat → Int32 → MH → Res
  | 0 => fun _ _ _ _ _ _ _ _ _ _ _ _ _ _ _ _ _ _ _ => none
  | n + 1 => B_L_law_105 Ls xs (L_L_law_105 Ls xs n)
def M_L_law (Ls : Nat) (xs : Nat → Int32) (h : MH) : Res := nwO h 8 fun r1 h2 => nnl r1 <| calV (M_X8_init r1 h2) fun h3 => nwA h3 20 (60 : Int32) fun r4 h5 => nwA h5 20 (60 : Int32) fun r6 h7 => nwA h7 20 (60 : Int32) fun r8 h9 => nwA h9 20 (60 : Int32) fun r10 h11 => nwA h11 20 (60 : Int32) fun r12 h13 => nwA h13 20 (64 : Int32) fun r14 h15 => nwA h15 20 (30 : Int32) fun r16 h17 => nwA h17 20 (40 : Int32) fun r18 h19 => nwA h19 20 (64 : Int32) fun r20 h21 => nwA h21 20 (64 : Int32) fun r22 h23 => nwA h23 20 (64 : Int32) fun r24 h25 => nwA h25 20 (60 : Int32) fun r26 h27 => nwA h27 20 (60 : Int32) fun r28 h29 => nwA h29 20 (60 : Int32) fun r30 h31 => nwA h31 20 (60 : Int32) fun r32 h33 => nwA h33 20 (16 : Int32) fun r34 h35 => L_L_law_105 Ls xs fuel r1 r4 r6 r8 r10 r12 r14 r16 r18 r20 r22 r24 r26 r28 r30 r32 r34 (0 : Int32) h35
theorem vB_L_law_514 {K : CT} (F : Fr K cL_law R_law Jvm.Pilot.CGyreWatchLaw_law_r6608_32e876.ret [] 11 2) (hm : mxL K = 25) {Ls : Nat} {xs : Nat → Int32} (XF : XL K Ls xs) (rc162 : Option Nat → Option Nat → Option Nat → Option Nat → Option Nat → Option Nat → Option Nat → Option Nat → Option Nat → Option Nat → Option Nat → Option Nat → Option Nat → Option Nat → Option Nat → Option Nat → Option Nat → Int32 → Int32 → MH → Res) (hrc162 : ∀ x1 x2 x3 x4 x5 x6 x7 x8 x9 x10 x11 x12 x13 x14 x15 x16 x17 x18 x19 h, V K 162 [(0, vR (some 0)), (1, vR x1), (2, vR x2), (3, vR x3), (4, vR x4), (5, vR x5), (6, vR x6), (7, vR x7), (8, vR x8), (9, vR x9), (10, vR x10), (11, vR x11), (12, vR x12), (13, vR x13), (14, vR x14), (15, vR x15), (16, vR x16), (17, vR x17), (18, vI x18), (19, vI x19)] [] h (rc162 x1 x2 x3 x4 x5 x6 x7 x8 x9 x10 x11 x12 x13 x14 x15 x16 x17 x18 x19 h)) (x1 : Option Nat) (x2 : Option Nat) (x3 : Option Nat) (x4 : Option Nat) (x5 : Option Nat) (x6 : Option Nat) (x7 : Option Nat) (x8 : Option Nat) (x9 : Option Nat) (x10 : Option Nat) (x11 : Option Nat) (x12 : Option Nat) (x13 : Option Nat) (x14 : Option Nat) (x15 : Option Nat) (x16 : Option Nat) (x17 : Option Nat) (x19 : Int32) (s0 : Int32) (h : MH) : V K 514 [(0, vR (some 0)), (1, vR x1), (2, vR x2), (3, vR x3), (4, vR x4), (5, vR x5), (6, vR x6), (7, vR x7), (8, vR x8), (9, vR x9), (10, vR x10), (11, vR x11), (12, vR x12), (13, vR x13), (14, vR x14), (15, vR x15), (16, vR x16), (17, vR x17), (19, vI x19)] [vI s0] h (B_L_law_514 Ls xs rc162 x1 x2 x3 x4 x5 x6 x7 x8 x9 x10 x11 x12 x13 x14 x15 x16 x17 x19 s0 h) := by
  unfold B_L_law_514
  refine V_istore (pc := 514) F [(18, vI s0), (0, vR (some 0)), (1, vR x1), (2, vR x2), (3, vR x3), (4, vR x4), (5, vR x5), (6, vR x6), (7, vR x7), (8, vR x8), (9, vR x9), (10, vR x10), (11, vR x11), (12, vR x12), (13, vR x13), (14, vR x14), (15, vR x15), (16, vR x16), (17, vR x17), (19, vI x19)] dL_law_514 (lt_mx hm (by decide)) rfl ?_
  refine V_iinc (pc := 516) F (fun z64 => [(19, vI z64), (18, vI s0), (0, vR (some 0)), (1, vR x1), (2, vR x2), (3, vR x3), (4, vR x4), (5, vR x5), (6, vR x6), (7, vR x7), (8, vR x8), (9, vR x9), (10, vR x10), (11, vR x11), (12, vR x12), (13, vR x13), (14, vR x14), (15, vR x15), (16, vR x16), (17, vR x17)]) dL_law_516 (lt_mx hm (by decide)) 19 rfl (dx := (1 : Int32)) (by decide) (fun _ => rfl) ?_
  intro z64
  refine V_goto (pc := 519) F 162 dL_law_519 (by decide) ?_
  refine V_sub [2, 3, 4, 5, 6, 7, 8, 9, 10, 11, 12, 13, 14, 15, 16, 17, 18, 19, 1, 0] (L' := [(0, vR (some 0)), (1, vR x1), (2, vR x2), (3, vR x3), (4, vR x4), (5, vR x5), (6, vR x6), (7, vR x7), (8, vR x8), (9, vR x9), (10, vR x10), (11, vR x11), (12, vR x12), (13, vR x13), (14, vR x14), (15, vR x15), (16, vR x16), (17, vR x17), (18, vI s0), (19, vI z64)]) rfl ?_
  exact hrc162 x1 x2 x3 x4 x5 x6 x7 x8 x9 x10 x11 x12 x13 x14 x15 x16 x17 s0 z64 h
theorem vB_L_law_513 {K : CT} (F : Fr K cL_law R_law Jvm.Pilot.CGyreWatchLaw_law_r6608_32e876.ret [] 11 2) (hm : mxL K = 25) {Ls : Nat} {xs : Nat → Int32} (XF : XL K Ls xs) (rc162 : Option Nat → Option Nat → Option Nat → Option Nat → Option Nat → Option Nat → Option Nat → Option Nat → Option Nat → Option Nat → Option Nat → Option Nat → Option Nat → Option Nat → Option Nat → Option Nat → Option Nat → Int32 → Int32 → MH → Res) (hrc162 : ∀ x1 x2 x3 x4 x5 x6 x7 x8 x9 x10 x11 x12 x13 x14 x15 x16 x17 x18 x19 h, V K 162 [(0, vR (some 0)), (1, vR x1), (2, vR x2), (3, vR x3), (4, vR x4), (5, vR x5), (6, vR x6), (7, vR x7), (8, vR x8), (9, vR x9), (10, vR x10), (11, vR x11), (12, vR x12), (13, vR x13), (14, vR x14), (15, vR x15), (16, vR x16), (17, vR x17), (18, vI x18), (19, vI x19)] [] h (rc162 x1 x2 x3 x4 x5 x6 x7 x8 x9 x10 x11 x12 x13 x14 x15 x16 x17 x18 x19 h)) (x1 : Option Nat) (x2 : Option Nat) (x3 : Option Nat) (x4 : Option Nat) (x5 : Option Nat) (x6 : Option Nat) (x7 : Option Nat) (x8 : Option Nat) (x9 : Option Nat) (x10 : Option Nat) (x11 : Option Nat) (x12 : Option Nat) (x13 : Option Nat) (x14 : Option Nat) (x15 : Option Nat) (x16 : Option Nat) (x17 : Option Nat) (x19 : Int32) (h : MH) : V K 513 [(0, vR (some 0)), (1, vR x1), (2, vR x2), (3, vR x3), (4, vR x4), (5, vR x5), (6, vR x6), (7, vR x7), (8, vR x8), (9, vR x9), (10, vR x10), (11, vR x11), (12, vR x12), (13, vR x13), (14, vR x14), (15, vR x15), (16, vR x16), (17, vR x17), (19, vI x19)] [] h (B_L_law_513 Ls xs rc162 x1 x2 x3 x4 x5 x6 x7 x8 x9 x10 x11 x12 x13 x14 x15 x16 x17 x19 h) := by
  unfold B_L_law_513
  refine V_iconst (pc := 513) F (x := (0 : Int32)) dL_law_513 (by decide) ?_
  exact vB_L_law_514 F hm XF rc162 hrc162 x1 x2 x3 x4 x5 x6 x7 x8 x9 x10 x11 x12 x13 x14 x15 x16 x17 x19 (0 : Int32) h
theorem vB_L_law_464 {K : CT} (F : Fr K cL_law R_law Jvm.Pilot.CGyreWatchLaw_law_r6608_32e876.ret [] 11 2) (hm : mxL K = 25) {Ls : Nat} {xs : Nat → Int32} (XF : XL K Ls xs) (rc162 : Option Nat → Option Nat → Option Nat → Option Nat → Option Nat → Option Nat → Option Nat → Option Nat → Option Nat → Option Nat → Option Nat → Option Nat → Option Nat → Option Nat → Option Nat → Option Nat → Option Nat → Int32 → Int32 → MH → Res) (hrc162 : ∀ x1 x2 x3 x4 x5 x6 x7 x8 x9 x10 x11 x12 x13 x14 x15 x16 x17 x18 x19 h, V K 162 [(0, vR (some 0)), (1, vR x1), (2, vR x2), (3, vR x3), (4, vR x4), (5, vR x5), (6, vR x6), (7, vR x7), (8, vR x8), (9, vR x9), (10, vR x10), (11, vR x11), (12, vR x12), (13, vR x13), (14, vR x14), (15, vR x15), (16, vR x16), (17, vR x17), (18, vI x18), (19, vI x19)] [] h (rc162 x1 x2 x3 x4 x5 x6 x7 x8 x9 x10 x11 x12 x13 x14 x15 x16 x17 x18 x19 h)) (x1 : Option Nat) (x2 : Option Nat) (x3 : Option Nat) (x4 : Option Nat) (x5 : Option Nat) (x6 : Option Nat) (x7 : Option Nat) (x8 : Option Nat) (x9 : Option Nat) (x10 : Option Nat) (x11 : Option Nat) (x12 : Option Nat) (x13 : Option Nat) (x14 : Option Nat) (x15 : Option Nat) (x16 : Option Nat) (x17 : Option Nat) (x18 : Int32) (x19 : Int32) (x22 : Int32) (h : MH) : V K 464 [(0, vR (some 0)), (1, vR x1), (2, vR x2), (3, vR x3), (4, vR x4), (5, vR x5), (6, vR x6), (7, vR x7), (8, vR x8), (9, vR x9), (10, vR x10), (11, vR x11), (12, vR x12), (13, vR x13), (14, vR x14), (15, vR x15), (16, vR x16), (17, vR x17), (18, vI x18), (19, vI x19), (22, vI x22)] [] h (B_L_law_464 Ls xs rc162 x1 x2 x3 x4 x5 x6 x7 x8 x9 x10 x11 x12 x13 x14 x15 x16 x17 x18 x19 x22 h) := by
  unfold B_L_law_464
  refine V_iload (pc := 464) F dL_law_464 18 rfl ?_
  refine V_if_eq (pc := 466) F 513 dL_law_466 (by decide) ?_ ?_
  · refine V_sub [0, 1, 2, 3, 4, 5, 6, 7, 8, 9, 10, 11, 12, 13, 14, 15, 16, 17, 19] (L' := [(0, vR (some 0)), (1, vR x1), (2, vR x2), (3, vR x3), (4, vR x4), (5, vR x5), (6, vR x6), (7, vR x7), (8, vR x8), (9, vR x9), (10, vR x10), (11, vR x11), (12, vR x12), (13, vR x13), (14, vR x14), (15, vR x15), (16, vR x16), (17, vR x17), (19, vI x19)]) rfl ?_
    exact vB_L_law_513 F hm XF rc162 hrc162 x1 x2 x3 x4 x5 x6 x7 x8 x9 x10 x11 x12 x13 x14 x15 x16 x17 x19 h
  · refine V_aload_n (pc := 469) F dL_law_469 1 rfl ?_
    refine V_iload (pc := 470) F dL_law_470 20 rfl ?_
    refine V_iconst (pc := 472) F (x := (1 : Int32)) dL_law_472 (by decide) ?_
    refine V_ishr (pc := 473) F dL_law_473 ?_
    intro z60
    refine V_ldc (pc := 474) F (x := (8388607 : Int32)) g_co_RL_168 dL_law_474 ?_
    refine V_iand (pc := 476) F dL_law_476 ?_
    intro z61
    refine V_aload_n (pc := 477) F dL_law_477 2 rfl ?_
    refine V_aload_n (pc := 478) F dL_law_478 3 rfl ?_
    refine V_aload (pc := 479) F dL_law_479 4 rfl ?_
    refine V_aload (pc := 481) F dL_law_481 5 rfl ?_
    refine V_aload (pc := 483) F dL_law_483 6 rfl ?_
    refine V_aload (pc := 485) F dL_law_485 7 rfl ?_
    refine V_aload (pc := 487) F dL_law_487 10 rfl ?_
    refine V_aload (pc := 489) F dL_law_489 11 rfl ?_
    refine V_aload (pc := 491) F dL_law_491 12 rfl ?_
    refine V_aload (pc := 493) F dL_law_493 13 rfl ?_
    refine V_aload (pc := 495) F dL_law_495 14 rfl ?_
    refine V_aload (pc := 497) F dL_law_497 15 rfl ?_
    refine V_aload (pc := 499) F dL_law_499 16 rfl ?_
    refine V_aload (pc := 501) F dL_law_501 17 rfl ?_
    refine V_cS (pc := 503) F (as := [vR x1, vI z61, vR x2, vR x3, vR x4, vR x5, vR x6, vR x7, vR x10, vR x11, vR x12, vR x13, vR x14, vR x15, vR x16, vR x17]) (C_L_same x1 z61 x2 x3 x4 x5 x6 x7 x10 x11 x12 x13 x14 x15 x16 x17 h) w_L_same g_st_L_same g_ml_RL_169 (by decide) (rest := []) rfl rfl (Nat.le_of_ble_eq_true rfl) dL_law_503 (k_I fun z62 h63 => ?_) (fun _ _ => VX_none)
    refine V_if_eq (pc := 506) F 513 dL_law_506 (by decide) ?_ ?_
    · refine V_sub [0, 1, 2, 3, 4, 5, 6, 7, 8, 9, 10, 11, 12, 13, 14, 15, 16, 17, 19] (L' := [(0, vR (some 0)), (1, vR x1), (2, vR x2), (3, vR x3), (4, vR x4), (5, vR x5), (6, vR x6), (7, vR x7), (8, vR x8), (9, vR x9), (10, vR x10), (11, vR x11), (12, vR x12), (13, vR x13), (14, vR x14), (15, vR x15), (16, vR x16), (17, vR x17), (19, vI x19)]) rfl ?_
      exact vB_L_law_513 F hm XF rc162 hrc162 x1 x2 x3 x4 x5 x6 x7 x8 x9 x10 x11 x12 x13 x14 x15 x16 x17 x19 h63
    · refine V_iconst (pc := 509) F (x := (1 : Int32)) dL_law_509 (by decide) ?_
      refine V_goto (pc := 510) F 514 dL_law_510 (by decide) ?_
      refine V_sub [0, 1, 2, 3, 4, 5, 6, 7, 8, 9, 10, 11, 12, 13, 14, 15, 16, 17, 19] (L' := [(0, vR (some 0)), (1, vR x1), (2, vR x2), (3, vR x3), (4, vR x4), (5, vR x5), (6, vR x6), (7, vR x7), (8, vR x8), (9, vR x9), (10, vR x10), (11, vR x11), (12, vR x12), (13, vR x13), (14, vR x14), (15, vR x15), (16, vR x16), (17, vR x17), (19, vI x19)]) rfl ?_
      exact vB_L_law_514 F hm XF rc162 hrc162 x1 x2 x3 x4 x5 x6 x7 x8 x9 x10 x11 x12 x13 x14 x15 x16 x17 x19 (1 : Int32) h63
theorem vB_L_law_336 {K : CT} (F : Fr K cL_law R_law Jvm.Pilot.CGyreWatchLaw_law_r6608_32e876.ret [] 11 2) (hm : mxL K = 25) {Ls : Nat} {xs : Nat → Int32} (XF : XL K Ls xs) (rc162 : Option Nat → Option Nat → Option Nat → Option Nat → Option Nat → Option Nat → Option Nat → Option Nat → Option Nat → Option Nat → Option Nat → Option Nat → Option Nat → Option Nat → Option Nat → Option Nat → Option Nat → Int32 → Int32 → MH → Res) (hrc162 : ∀ x1 x2 x3 x4 x5 x6 x7 x8 x9 x10 x11 x12 x13 x14 x15 x16 x17 x18 x19 h, V K 162 [(0, vR (some 0)), (1, vR x1), (2, vR x2), (3, vR x3), (4, vR x4), (5, vR x5), (6, vR x6), (7, vR x7), (8, vR x8), (9, vR x9), (10, vR x10), (11, vR x11), (12, vR x12), (13, vR x13), (14, vR x14), (15, vR x15), (16, vR x16), (17, vR x17), (18, vI x18), (19, vI x19)] [] h (rc162 x1 x2 x3 x4 x5 x6 x7 x8 x9 x10 x11 x12 x13 x14 x15 x16 x17 x18 x19 h)) (x1 : Option Nat) (x2 : Option Nat) (x3 : Option Nat) (x4 : Option Nat) (x5 : Option Nat) (x6 : Option Nat) (x7 : Option Nat) (x8 : Option Nat) (x9 : Option Nat) (x10 : Option Nat) (x11 : Option Nat) (x12 : Option Nat) (x13 : Option Nat) (x14 : Option Nat) (x15 : Option Nat) (x16 : Option Nat) (x17 : Option Nat) (x19 : Int32) (x22 : Int32) (s0 : Option Nat) (s1 : Int32) (h : MH) : V K 336 [(0, vR (some 0)), (1, vR x1), (2, vR x2), (3, vR x3), (4, vR x4), (5, vR x5), (6, vR x6), (7, vR x7), (8, vR x8), (9, vR x9), (10, vR x10), (11, vR x11), (12, vR x12), (13, vR x13), (14, vR x14), (15, vR x15), (16, vR x16), (17, vR x17), (19, vI x19), (22, vI x22)] [vI s1, vR s0] h (B_L_law_336 Ls xs rc162 x1 x2 x3 x4 x5 x6 x7 x8 x9 x10 x11 x12 x13 x14 x15 x16 x17 x19 x22 s0 s1 h) := by
  unfold B_L_law_336
  refine V_iload (pc := 336) F dL_law_336 19 rfl ?_
  refine V_aload_n (pc := 338) F dL_law_338 2 rfl ?_
  refine V_aload_n (pc := 339) F dL_law_339 3 rfl ?_
  refine V_aload (pc := 340) F dL_law_340 4 rfl ?_
  refine V_aload (pc := 342) F dL_law_342 5 rfl ?_
  refine V_aload (pc := 344) F dL_law_344 6 rfl ?_
  refine V_aload (pc := 346) F dL_law_346 7 rfl ?_
  refine V_aload (pc := 348) F dL_law_348 8 rfl ?_
  refine V_aload (pc := 350) F dL_law_350 9 rfl ?_
  refine V_aload (pc := 352) F dL_law_352 10 rfl ?_
  refine V_aload (pc := 354) F dL_law_354 11 rfl ?_
  refine V_aload (pc := 356) F dL_law_356 12 rfl ?_
  refine V_aload (pc := 358) F dL_law_358 13 rfl ?_
  refine V_aload (pc := 360) F dL_law_360 14 rfl ?_
  refine V_aload (pc := 362) F dL_law_362 17 rfl ?_
  refine V_cS (pc := 364) F (as := [vR s0, vI s1, vI x22, vR x2, vR x3, vR x4, vR x5, vR x6, vR x7, vR x8, vR x9, vR x10, vR x11, vR x12, vR x13, vR x14, vR x17]) (C_L_tells s0 s1 x22 x2 x3 x4 x5 x6 x7 x8 x9 x10 x11 x12 x13 x14 x17 h) w_L_tells g_st_L_tells g_ml_RL_157 (by decide) (rest := []) rfl rfl (Nat.le_of_ble_eq_true rfl) dL_law_364 (k_I fun z52 h53 => ?_) (fun _ _ => VX_none)
  refine V_istore (pc := 367) F [(18, vI z52), (0, vR (some 0)), (1, vR x1), (2, vR x2), (3, vR x3), (4, vR x4), (5, vR x5), (6, vR x6), (7, vR x7), (8, vR x8), (9, vR x9), (10, vR x10), (11, vR x11), (12, vR x12), (13, vR x13), (14, vR x14), (15, vR x15), (16, vR x16), (17, vR x17), (19, vI x19), (22, vI x22)] dL_law_367 (lt_mx hm (by decide)) rfl ?_
  refine V_goto (pc := 369) F 464 dL_law_369 (by decide) ?_
  refine V_sub [1, 2, 3, 4, 5, 6, 7, 8, 9, 10, 11, 12, 13, 14, 15, 16, 17, 18, 0, 19, 20] (L' := [(0, vR (some 0)), (1, vR x1), (2, vR x2), (3, vR x3), (4, vR x4), (5, vR x5), (6, vR x6), (7, vR x7), (8, vR x8), (9, vR x9), (10, vR x10), (11, vR x11), (12, vR x12), (13, vR x13), (14, vR x14), (15, vR x15), (16, vR x16), (17, vR x17), (18, vI z52), (19, vI x19), (22, vI x22)]) rfl ?_
  exact vB_L_law_464 F hm XF rc162 hrc162 x1 x2 x3 x4 x5 x6 x7 x8 x9 x10 x11 x12 x13 x14 x15 x16 x17 z52 x19 x22 h53
theorem vB_L_law_458 {K : CT} (F : Fr K cL_law R_law Jvm.Pilot.CGyreWatchLaw_law_r6608_32e876.ret [] 11 2) (hm : mxL K = 25) {Ls : Nat} {xs : Nat → Int32} (XF : XL K Ls xs) (rc162 : Option Nat → Option Nat → Option Nat → Option Nat → Option Nat → Option Nat → Option Nat → Option Nat → Option Nat → Option Nat → Option Nat → Option Nat → Option Nat → Option Nat → Option Nat → Option Nat → Option Nat → Int32 → Int32 → MH → Res) (hrc162 : ∀ x1 x2 x3 x4 x5 x6 x7 x8 x9 x10 x11 x12 x13 x14 x15 x16 x17 x18 x19 h, V K 162 [(0, vR (some 0)), (1, vR x1), (2, vR x2), (3, vR x3), (4, vR x4), (5, vR x5), (6, vR x6), (7, vR x7), (8, vR x8), (9, vR x9), (10, vR x10), (11, vR x11), (12, vR x12), (13, vR x13), (14, vR x14), (15, vR x15), (16, vR x16), (17, vR x17), (18, vI x18), (19, vI x19)] [] h (rc162 x1 x2 x3 x4 x5 x6 x7 x8 x9 x10 x11 x12 x13 x14 x15 x16 x17 x18 x19 h)) (rc385 : Option Nat → Option Nat → Option Nat → Option Nat → Option Nat → Option Nat → Option Nat → Option Nat → Option Nat → Option Nat → Option Nat → Option Nat → Option Nat → Option Nat → Option Nat → Option Nat → Option Nat → Int32 → Int32 → Int32 → Int32 → Int32 → MH → Res) (hrc385 : ∀ x1 x2 x3 x4 x5 x6 x7 x8 x9 x10 x11 x12 x13 x14 x15 x16 x17 x18 x19 x22 x23 x24 h, V K 385 [(0, vR (some 0)), (1, vR x1), (2, vR x2), (3, vR x3), (4, vR x4), (5, vR x5), (6, vR x6), (7, vR x7), (8, vR x8), (9, vR x9), (10, vR x10), (11, vR x11), (12, vR x12), (13, vR x13), (14, vR x14), (15, vR x15), (16, vR x16), (17, vR x17), (18, vI x18), (19, vI x19), (22, vI x22), (23, vI x23), (24, vI x24)] [] h (rc385 x1 x2 x3 x4 x5 x6 x7 x8 x9 x10 x11 x12 x13 x14 x15 x16 x17 x18 x19 x22 x23 x24 h)) (x1 : Option Nat) (x2 : Option Nat) (x3 : Option Nat) (x4 : Option Nat) (x5 : Option Nat) (x6 : Option Nat) (x7 : Option Nat) (x8 : Option Nat) (x9 : Option Nat) (x10 : Option Nat) (x11 : Option Nat) (x12 : Option Nat) (x13 : Option Nat) (x14 : Option Nat) (x15 : Option Nat) (x16 : Option Nat) (x17 : Option Nat) (x18 : Int32) (x19 : Int32) (x22 : Int32) (x23 : Int32) (x24 : Int32) (h : MH) : V K 458 [(0, vR (some 0)), (1, vR x1), (2, vR x2), (3, vR x3), (4, vR x4), (5, vR x5), (6, vR x6), (7, vR x7), (8, vR x8), (9, vR x9), (10, vR x10), (11, vR x11), (12, vR x12), (13, vR x13), (14, vR x14), (15, vR x15), (16, vR x16), (17, vR x17), (18, vI x18), (19, vI x19), (22, vI x22), (23, vI x23), (24, vI x24)] [] h (B_L_law_458 Ls xs rc162 rc385 x1 x2 x3 x4 x5 x6 x7 x8 x9 x10 x11 x12 x13 x14 x15 x16 x17 x18 x19 x22 x23 x24 h) := by
  unfold B_L_law_458
  refine V_iinc (pc := 458) F (fun z59 => [(24, vI z59), (0, vR (some 0)), (1, vR x1), (2, vR x2), (3, vR x3), (4, vR x4), (5, vR x5), (6, vR x6), (7, vR x7), (8, vR x8), (9, vR x9), (10, vR x10), (11, vR x11), (12, vR x12), (13, vR x13), (14, vR x14), (15, vR x15), (16, vR x16), (17, vR x17), (18, vI x18), (19, vI x19), (22, vI x22), (23, vI x23)]) dL_law_458 (lt_mx hm (by decide)) 22 rfl (dx := (1 : Int32)) (by decide) (fun _ => rfl) ?_
  intro z59
  refine V_goto (pc := 461) F 385 dL_law_461 (by decide) ?_
  refine V_sub [1, 2, 3, 4, 5, 6, 7, 8, 9, 10, 11, 12, 13, 14, 15, 16, 17, 18, 19, 20, 21, 22, 0] (L' := [(0, vR (some 0)), (1, vR x1), (2, vR x2), (3, vR x3), (4, vR x4), (5, vR x5), (6, vR x6), (7, vR x7), (8, vR x8), (9, vR x9), (10, vR x10), (11, vR x11), (12, vR x12), (13, vR x13), (14, vR x14), (15, vR x15), (16, vR x16), (17, vR x17), (18, vI x18), (19, vI x19), (22, vI x22), (23, vI x23), (24, vI z59)]) rfl ?_
  exact hrc385 x1 x2 x3 x4 x5 x6 x7 x8 x9 x10 x11 x12 x13 x14 x15 x16 x17 x18 x19 x22 x23 z59 h
theorem vB_L_law_456 {K : CT} (F : Fr K cL_law R_law Jvm.Pilot.CGyreWatchLaw_law_r6608_32e876.ret [] 11 2) (hm : mxL K = 25) {Ls : Nat} {xs : Nat → Int32} (XF : XL K Ls xs) (rc162 : Option Nat → Option Nat → Option Nat → Option Nat → Option Nat → Option Nat → Option Nat → Option Nat → Option Nat → Option Nat → Option Nat → Option Nat → Option Nat → Option Nat → Option Nat → Option Nat → Option Nat → Int32 → Int32 → MH → Res) (hrc162 : ∀ x1 x2 x3 x4 x5 x6 x7 x8 x9 x10 x11 x12 x13 x14 x15 x16 x17 x18 x19 h, V K 162 [(0, vR (some 0)), (1, vR x1), (2, vR x2), (3, vR x3), (4, vR x4), (5, vR x5), (6, vR x6), (7, vR x7), (8, vR x8), (9, vR x9), (10, vR x10), (11, vR x11), (12, vR x12), (13, vR x13), (14, vR x14), (15, vR x15), (16, vR x16), (17, vR x17), (18, vI x18), (19, vI x19)] [] h (rc162 x1 x2 x3 x4 x5 x6 x7 x8 x9 x10 x11 x12 x13 x14 x15 x16 x17 x18 x19 h)) (rc385 : Option Nat → Option Nat → Option Nat → Option Nat → Option Nat → Option Nat → Option Nat → Option Nat → Option Nat → Option Nat → Option Nat → Option Nat → Option Nat → Option Nat → Option Nat → Option Nat → Option Nat → Int32 → Int32 → Int32 → Int32 → Int32 → MH → Res) (hrc385 : ∀ x1 x2 x3 x4 x5 x6 x7 x8 x9 x10 x11 x12 x13 x14 x15 x16 x17 x18 x19 x22 x23 x24 h, V K 385 [(0, vR (some 0)), (1, vR x1), (2, vR x2), (3, vR x3), (4, vR x4), (5, vR x5), (6, vR x6), (7, vR x7), (8, vR x8), (9, vR x9), (10, vR x10), (11, vR x11), (12, vR x12), (13, vR x13), (14, vR x14), (15, vR x15), (16, vR x16), (17, vR x17), (18, vI x18), (19, vI x19), (22, vI x22), (23, vI x23), (24, vI x24)] [] h (rc385 x1 x2 x3 x4 x5 x6 x7 x8 x9 x10 x11 x12 x13 x14 x15 x16 x17 x18 x19 x22 x23 x24 h)) (x1 : Option Nat) (x2 : Option Nat) (x3 : Option Nat) (x4 : Option Nat) (x5 : Option Nat) (x6 : Option Nat) (x7 : Option Nat) (x8 : Option Nat) (x9 : Option Nat) (x10 : Option Nat) (x11 : Option Nat) (x12 : Option Nat) (x13 : Option Nat) (x14 : Option Nat) (x15 : Option Nat) (x16 : Option Nat) (x17 : Option Nat) (x19 : Int32) (x22 : Int32) (x23 : Int32) (x24 : Int32) (s0 : Int32) (h : MH) : V K 456 [(0, vR (some 0)), (1, vR x1), (2, vR x2), (3, vR x3), (4, vR x4), (5, vR x5), (6, vR x6), (7, vR x7), (8, vR x8), (9, vR x9), (10, vR x10), (11, vR x11), (12, vR x12), (13, vR x13), (14, vR x14), (15, vR x15), (16, vR x16), (17, vR x17), (19, vI x19), (22, vI x22), (23, vI x23), (24, vI x24)] [vI s0] h (B_L_law_456 Ls xs rc162 rc385 x1 x2 x3 x4 x5 x6 x7 x8 x9 x10 x11 x12 x13 x14 x15 x16 x17 x19 x22 x23 x24 s0 h) := by
  unfold B_L_law_456
  refine V_istore (pc := 456) F [(18, vI s0), (0, vR (some 0)), (1, vR x1), (2, vR x2), (3, vR x3), (4, vR x4), (5, vR x5), (6, vR x6), (7, vR x7), (8, vR x8), (9, vR x9), (10, vR x10), (11, vR x11), (12, vR x12), (13, vR x13), (14, vR x14), (15, vR x15), (16, vR x16), (17, vR x17), (19, vI x19), (22, vI x22), (23, vI x23), (24, vI x24)] dL_law_456 (lt_mx hm (by decide)) rfl ?_
  refine V_sub [1, 2, 3, 4, 5, 6, 7, 8, 9, 10, 11, 12, 13, 14, 15, 16, 17, 18, 0, 19, 20, 21, 22] (L' := [(0, vR (some 0)), (1, vR x1), (2, vR x2), (3, vR x3), (4, vR x4), (5, vR x5), (6, vR x6), (7, vR x7), (8, vR x8), (9, vR x9), (10, vR x10), (11, vR x11), (12, vR x12), (13, vR x13), (14, vR x14), (15, vR x15), (16, vR x16), (17, vR x17), (18, vI s0), (19, vI x19), (22, vI x22), (23, vI x23), (24, vI x24)]) rfl ?_
  exact vB_L_law_458 F hm XF rc162 hrc162 rc385 hrc385 x1 x2 x3 x4 x5 x6 x7 x8 x9 x10 x11 x12 x13 x14 x15 x16 x17 s0 x19 x22 x23 x24 h
theorem vB_L_law_385 {K : CT} (F : Fr K cL_law R_law Jvm.Pilot.CGyreWatchLaw_law_r6608_32e876.ret [] 11 2) (hm : mxL K = 25) {Ls : Nat} {xs : Nat → Int32} (XF : XL K Ls xs) (rc162 : Option Nat → Option Nat → Option Nat → Option Nat → Option Nat → Option Nat → Option Nat → Option Nat → Option Nat → Option Nat → Option Nat → Option Nat → Option Nat → Option Nat → Option Nat → Option Nat → Option Nat → Int32 → Int32 → MH → Res) (hrc162 : ∀ x1 x2 x3 x4 x5 x6 x7 x8 x9 x10 x11 x12 x13 x14 x15 x16 x17 x18 x19 h, V K 162 [(0, vR (some 0)), (1, vR x1), (2, vR x2), (3, vR x3), (4, vR x4), (5, vR x5), (6, vR x6), (7, vR x7), (8, vR x8), (9, vR x9), (10, vR x10), (11, vR x11), (12, vR x12), (13, vR x13), (14, vR x14), (15, vR x15), (16, vR x16), (17, vR x17), (18, vI x18), (19, vI x19)] [] h (rc162 x1 x2 x3 x4 x5 x6 x7 x8 x9 x10 x11 x12 x13 x14 x15 x16 x17 x18 x19 h)) (rc385 : Option Nat → Option Nat → Option Nat → Option Nat → Option Nat → Option Nat → Option Nat → Option Nat → Option Nat → Option Nat → Option Nat → Option Nat → Option Nat → Option Nat → Option Nat → Option Nat → Option Nat → Int32 → Int32 → Int32 → Int32 → Int32 → MH → Res) (hrc385 : ∀ x1 x2 x3 x4 x5 x6 x7 x8 x9 x10 x11 x12 x13 x14 x15 x16 x17 x18 x19 x22 x23 x24 h, V K 385 [(0, vR (some 0)), (1, vR x1), (2, vR x2), (3, vR x3), (4, vR x4), (5, vR x5), (6, vR x6), (7, vR x7), (8, vR x8), (9, vR x9), (10, vR x10), (11, vR x11), (12, vR x12), (13, vR x13), (14, vR x14), (15, vR x15), (16, vR x16), (17, vR x17), (18, vI x18), (19, vI x19), (22, vI x22), (23, vI x23), (24, vI x24)] [] h (rc385 x1 x2 x3 x4 x5 x6 x7 x8 x9 x10 x11 x12 x13 x14 x15 x16 x17 x18 x19 x22 x23 x24 h)) (x1 : Option Nat) (x2 : Option Nat) (x3 : Option Nat) (x4 : Option Nat) (x5 : Option Nat) (x6 : Option Nat) (x7 : Option Nat) (x8 : Option Nat) (x9 : Option Nat) (x10 : Option Nat) (x11 : Option Nat) (x12 : Option Nat) (x13 : Option Nat) (x14 : Option Nat) (x15 : Option Nat) (x16 : Option Nat) (x17 : Option Nat) (x18 : Int32) (x19 : Int32) (x22 : Int32) (x23 : Int32) (x24 : Int32) (h : MH) : V K 385 [(0, vR (some 0)), (1, vR x1), (2, vR x2), (3, vR x3), (4, vR x4), (5, vR x5), (6, vR x6), (7, vR x7), (8, vR x8), (9, vR x9), (10, vR x10), (11, vR x11), (12, vR x12), (13, vR x13), (14, vR x14), (15, vR x15), (16, vR x16), (17, vR x17), (18, vI x18), (19, vI x19), (22, vI x22), (23, vI x23), (24, vI x24)] [] h (B_L_law_385 Ls xs rc162 rc385 x1 x2 x3 x4 x5 x6 x7 x8 x9 x10 x11 x12 x13 x14 x15 x16 x17 x18 x19 x22 x23 x24 h) := by
  unfold B_L_law_385
  refine V_iload (pc := 385) F dL_law_385 22 rfl ?_
  refine V_iload (pc := 387) F dL_law_387 21 rfl ?_
  refine V_icmp_ge (pc := 389) F 464 dL_law_389 (by decide) ?_ ?_
  · refine V_sub [0, 1, 2, 3, 4, 5, 6, 7, 8, 9, 10, 11, 12, 13, 14, 15, 16, 17, 18, 19, 20] (L' := [(0, vR (some 0)), (1, vR x1), (2, vR x2), (3, vR x3), (4, vR x4), (5, vR x5), (6, vR x6), (7, vR x7), (8, vR x8), (9, vR x9), (10, vR x10), (11, vR x11), (12, vR x12), (13, vR x13), (14, vR x14), (15, vR x15), (16, vR x16), (17, vR x17), (18, vI x18), (19, vI x19), (22, vI x22)]) rfl ?_
    exact vB_L_law_464 F hm XF rc162 hrc162 x1 x2 x3 x4 x5 x6 x7 x8 x9 x10 x11 x12 x13 x14 x15 x16 x17 x18 x19 x22 h
  · refine V_iload (pc := 392) F dL_law_392 18 rfl ?_
    refine V_if_eq (pc := 394) F 464 dL_law_394 (by decide) ?_ ?_
    · refine V_sub [0, 1, 2, 3, 4, 5, 6, 7, 8, 9, 10, 11, 12, 13, 14, 15, 16, 17, 18, 19, 20] (L' := [(0, vR (some 0)), (1, vR x1), (2, vR x2), (3, vR x3), (4, vR x4), (5, vR x5), (6, vR x6), (7, vR x7), (8, vR x8), (9, vR x9), (10, vR x10), (11, vR x11), (12, vR x12), (13, vR x13), (14, vR x14), (15, vR x15), (16, vR x16), (17, vR x17), (18, vI x18), (19, vI x19), (22, vI x22)]) rfl ?_
      exact vB_L_law_464 F hm XF rc162 hrc162 x1 x2 x3 x4 x5 x6 x7 x8 x9 x10 x11 x12 x13 x14 x15 x16 x17 x18 x19 x22 h
    · refine V_aload (pc := 397) F dL_law_397 17 rfl ?_
      refine V_iconst (pc := 399) F (x := (5 : Int32)) dL_law_399 (by decide) ?_
      refine V_iald (pc := 400) F dL_law_400 ?_
      intro z54
      refine V_bipush (pc := 401) F (x := (26 : Int32)) dL_law_401 (by decide) ?_
      refine V_icmp_ge (pc := 403) F 458 dL_law_403 (by decide) ?_ ?_
      · exact vB_L_law_458 F hm XF rc162 hrc162 rc385 hrc385 x1 x2 x3 x4 x5 x6 x7 x8 x9 x10 x11 x12 x13 x14 x15 x16 x17 x18 x19 x22 x23 x24 h
      · refine V_aload_n (pc := 406) F dL_law_406 2 rfl ?_
        refine V_aload_n (pc := 407) F dL_law_407 3 rfl ?_
        refine V_aload (pc := 408) F dL_law_408 4 rfl ?_
        refine V_aload (pc := 410) F dL_law_410 5 rfl ?_
        refine V_aload (pc := 412) F dL_law_412 6 rfl ?_
        refine V_aload (pc := 414) F dL_law_414 7 rfl ?_
        refine V_aload (pc := 416) F dL_law_416 8 rfl ?_
        refine V_aload (pc := 418) F dL_law_418 9 rfl ?_
        refine V_aload (pc := 420) F dL_law_420 10 rfl ?_
        refine V_aload (pc := 422) F dL_law_422 11 rfl ?_
        refine V_aload (pc := 424) F dL_law_424 12 rfl ?_
        refine V_aload (pc := 426) F dL_law_426 13 rfl ?_
        refine V_aload (pc := 428) F dL_law_428 14 rfl ?_
        refine V_aload (pc := 430) F dL_law_430 15 rfl ?_
        refine V_aload (pc := 432) F dL_law_432 16 rfl ?_
        refine V_aload (pc := 434) F dL_law_434 17 rfl ?_
        refine V_cSM (pc := 436) F (as := [vR x2, vR x3, vR x4, vR x5, vR x6, vR x7, vR x8, vR x9, vR x10, vR x11, vR x12, vR x13, vR x14, vR x15, vR x16, vR x17]) (C_L_passes x2 x3 x4 x5 x6 x7 x8 x9 x10 x11 x12 x13 x14 x15 x16 x17 h) w_L_passes g_st_L_passes g_ml_RL_161 (by decide) (rest := []) rfl rfl (Nat.le_of_ble_eq_true rfl) dL_law_436 (k_V fun h55 => ?_)
        refine V_aload_n (pc := 439) F dL_law_439 1 rfl ?_
        refine V_iconst (pc := 440) F (x := (1 : Int32)) dL_law_440 (by decide) ?_
        refine V_cV (pc := 441) F 8 (by decide) (as := [vI (1 : Int32)]) (C_X8_pass x1 (1 : Int32) h55) w_X8_pass g_in_X8_pass g_se_X8_pass g_ml_RL_165 (by decide) (rest := []) rfl rfl (Nat.le_of_ble_eq_true rfl) dL_law_441 (k_I fun z56 h57 => ?_) (fun _ _ => VX_none)
        refine V_aload (pc := 444) F dL_law_444 17 rfl ?_
        refine V_iconst (pc := 446) F (x := (0 : Int32)) dL_law_446 (by decide) ?_
        refine V_iald (pc := 447) F dL_law_447 ?_
        intro z58
        refine V_icmp_ne (pc := 448) F 455 dL_law_448 (by decide) ?_ ?_
        · refine V_iconst (pc := 455) F (x := (0 : Int32)) dL_law_455 (by decide) ?_
          refine V_sub [0, 1, 2, 3, 4, 5, 6, 7, 8, 9, 10, 11, 12, 13, 14, 15, 16, 17, 19, 20, 21, 22] (L' := [(0, vR (some 0)), (1, vR x1), (2, vR x2), (3, vR x3), (4, vR x4), (5, vR x5), (6, vR x6), (7, vR x7), (8, vR x8), (9, vR x9), (10, vR x10), (11, vR x11), (12, vR x12), (13, vR x13), (14, vR x14), (15, vR x15), (16, vR x16), (17, vR x17), (19, vI x19), (22, vI x22), (23, vI x23), (24, vI x24)]) rfl ?_
          exact vB_L_law_456 F hm XF rc162 hrc162 rc385 hrc385 x1 x2 x3 x4 x5 x6 x7 x8 x9 x10 x11 x12 x13 x14 x15 x16 x17 x19 x22 x23 x24 (0 : Int32) h57
        · refine V_iconst (pc := 451) F (x := (1 : Int32)) dL_law_451 (by decide) ?_
          refine V_goto (pc := 452) F 456 dL_law_452 (by decide) ?_
          refine V_sub [0, 1, 2, 3, 4, 5, 6, 7, 8, 9, 10, 11, 12, 13, 14, 15, 16, 17, 19, 20, 21, 22] (L' := [(0, vR (some 0)), (1, vR x1), (2, vR x2), (3, vR x3), (4, vR x4), (5, vR x5), (6, vR x6), (7, vR x7), (8, vR x8), (9, vR x9), (10, vR x10), (11, vR x11), (12, vR x12), (13, vR x13), (14, vR x14), (15, vR x15), (16, vR x16), (17, vR x17), (19, vI x19), (22, vI x22), (23, vI x23), (24, vI x24)]) rfl ?_
          exact vB_L_law_456 F hm XF rc162 hrc162 rc385 hrc385 x1 x2 x3 x4 x5 x6 x7 x8 x9 x10 x11 x12 x13 x14 x15 x16 x17 x19 x22 x23 x24 (1 : Int32) h57
theorem vL_L_law_385 {K : CT} (F : Fr K cL_law R_law Jvm.Pilot.CGyreWatchLaw_law_r6608_32e876.ret [] 11 2) (hm : mxL K = 25) {Ls : Nat} {xs : Nat → Int32} (XF : XL K Ls xs) (rc162 : Option Nat → Option Nat → Option Nat → Option Nat → Option Nat → Option Nat → Option Nat → Option Nat → Option Nat → Option Nat → Option Nat → Option Nat → Option Nat → Option Nat → Option Nat → Option Nat → Option Nat → Int32 → Int32 → MH → Res) (hrc162 : ∀ x1 x2 x3 x4 x5 x6 x7 x8 x9 x10 x11 x12 x13 x14 x15 x16 x17 x18 x19 h, V K 162 [(0, vR (some 0)), (1, vR x1), (2, vR x2), (3, vR x3), (4, vR x4), (5, vR x5), (6, vR x6), (7, vR x7), (8, vR x8), (9, vR x9), (10, vR x10), (11, vR x11), (12, vR x12), (13, vR x13), (14, vR x14), (15, vR x15), (16, vR x16), (17, vR x17), (18, vI x18), (19, vI x19)] [] h (rc162 x1 x2 x3 x4 x5 x6 x7 x8 x9 x10 x11 x12 x13 x14 x15 x16 x17 x18 x19 h)) (n : Nat) : ∀ x1 x2 x3 x4 x5 x6 x7 x8 x9 x10 x11 x12 x13 x14 x15 x16 x17 x18 x19 x22 x23 x24 h, V K 385 [(0, vR (some 0)), (1, vR x1), (2, vR x2), (3, vR x3), (4, vR x4), (5, vR x5), (6, vR x6), (7, vR x7), (8, vR x8), (9, vR x9), (10, vR x10), (11, vR x11), (12, vR x12), (13, vR x13), (14, vR x14), (15, vR x15), (16, vR x16), (17, vR x17), (18, vI x18), (19, vI x19), (22, vI x22), (23, vI x23), (24, vI x24)] [] h (L_L_law_385 Ls xs rc162 n x1 x2 x3 x4 x5 x6 x7 x8 x9 x10 x11 x12 x13 x14 x15 x16 x17 x18 x19 x22 x23 x24 h) := by
  induction n with
  | zero => intros; exact V_none
  | succ n ih => intro x1 x2 x3 x4 x5 x6 x7 x8 x9 x10 x11 x12 x13 x14 x15 x16 x17 x18 x19 x22 x23 x24 h; exact vB_L_law_385 F hm XF rc162 hrc162 _ ih x1 x2 x3 x4 x5 x6 x7 x8 x9 x10 x11 x12 x13 x14 x15 x16 x17 x18 x19 x22 x23 x24 h
theorem vB_L_law_205 {K : CT} (F : Fr K cL_law R_law Jvm.Pilot.CGyreWatchLaw_law_r6608_32e876.ret [] 11 2) (hm : mxL K = 25) {Ls : Nat} {xs : Nat → Int32} (XF : XL K Ls xs) (rc162 : Option Nat → Option Nat → Option Nat → Option Nat → Option Nat → Option Nat → Option Nat → Option Nat → Option Nat → Option Nat → Option Nat → Option Nat → Option Nat → Option Nat → Option Nat → Option Nat → Option Nat → Int32 → Int32 → MH → Res) (hrc162 : ∀ x1 x2 x3 x4 x5 x6 x7 x8 x9 x10 x11 x12 x13 x14 x15 x16 x17 x18 x19 h, V K 162 [(0, vR (some 0)), (1, vR x1), (2, vR x2), (3, vR x3), (4, vR x4), (5, vR x5), (6, vR x6), (7, vR x7), (8, vR x8), (9, vR x9), (10, vR x10), (11, vR x11), (12, vR x12), (13, vR x13), (14, vR x14), (15, vR x15), (16, vR x16), (17, vR x17), (18, vI x18), (19, vI x19)] [] h (rc162 x1 x2 x3 x4 x5 x6 x7 x8 x9 x10 x11 x12 x13 x14 x15 x16 x17 x18 x19 h)) (x1 : Option Nat) (x2 : Option Nat) (x3 : Option Nat) (x4 : Option Nat) (x5 : Option Nat) (x6 : Option Nat) (x7 : Option Nat) (x8 : Option Nat) (x9 : Option Nat) (x10 : Option Nat) (x11 : Option Nat) (x12 : Option Nat) (x13 : Option Nat) (x14 : Option Nat) (x15 : Option Nat) (x16 : Option Nat) (x17 : Option Nat) (x18 : Int32) (x19 : Int32) (x20 : Int32) (s0 : Int32) (h : MH) : V K 205 [(0, vR (some 0)), (1, vR x1), (2, vR x2), (3, vR x3), (4, vR x4), (5, vR x5), (6, vR x6), (7, vR x7), (8, vR x8), (9, vR x9), (10, vR x10), (11, vR x11), (12, vR x12), (13, vR x13), (14, vR x14), (15, vR x15), (16, vR x16), (17, vR x17), (18, vI x18), (19, vI x19), (20, vI x20)] [vI s0] h (B_L_law_205 Ls xs rc162 x1 x2 x3 x4 x5 x6 x7 x8 x9 x10 x11 x12 x13 x14 x15 x16 x17 x18 x19 x20 s0 h) := by
  unfold B_L_law_205
  refine V_istore (pc := 205) F [(21, vI s0), (0, vR (some 0)), (1, vR x1), (2, vR x2), (3, vR x3), (4, vR x4), (5, vR x5), (6, vR x6), (7, vR x7), (8, vR x8), (9, vR x9), (10, vR x10), (11, vR x11), (12, vR x12), (13, vR x13), (14, vR x14), (15, vR x15), (16, vR x16), (17, vR x17), (18, vI x18), (19, vI x19), (20, vI x20)] dL_law_205 (lt_mx hm (by decide)) rfl ?_
  refine V_iload (pc := 207) F dL_law_207 21 rfl ?_
  refine V_iconst (pc := 209) F (x := (4 : Int32)) dL_law_209 (by decide) ?_
  refine V_ishr (pc := 210) F dL_law_210 ?_
  intro z48
  refine V_istore (pc := 211) F [(22, vI z48), (21, vI s0), (0, vR (some 0)), (1, vR x1), (2, vR x2), (3, vR x3), (4, vR x4), (5, vR x5), (6, vR x6), (7, vR x7), (8, vR x8), (9, vR x9), (10, vR x10), (11, vR x11), (12, vR x12), (13, vR x13), (14, vR x14), (15, vR x15), (16, vR x16), (17, vR x17), (18, vI x18), (19, vI x19), (20, vI x20)] dL_law_211 (lt_mx hm (by decide)) rfl ?_
  refine V_iload (pc := 213) F dL_law_213 1 rfl ?_
  refine V_bipush (pc := 215) F (x := (21 : Int32)) dL_law_215 (by decide) ?_
  refine V_icmp_ge (pc := 217) F 372 dL_law_217 (by decide) ?_ ?_
  · refine V_iconst (pc := 372) F (x := (1 : Int32)) dL_law_372 (by decide) ?_
    refine V_iload (pc := 373) F dL_law_373 0 rfl ?_
    refine V_iconst (pc := 375) F (x := (5 : Int32)) dL_law_375 (by decide) ?_
    refine V_cSM (pc := 376) F (as := [vI z48, vI (5 : Int32)]) (C_L_low z48 (5 : Int32) h) w_L_low g_st_L_low g_ml_RL_29 (by decide) (rest := [vI (1 : Int32)]) rfl rfl (Nat.le_of_ble_eq_true rfl) dL_law_376 (k_I fun z49 h50 => ?_)
    refine V_iadd (pc := 379) F dL_law_379 ?_
    intro z51
    refine V_istore (pc := 380) F [(23, vI z51), (22, vI z48), (21, vI s0), (0, vR (some 0)), (1, vR x1), (2, vR x2), (3, vR x3), (4, vR x4), (5, vR x5), (6, vR x6), (7, vR x7), (8, vR x8), (9, vR x9), (10, vR x10), (11, vR x11), (12, vR x12), (13, vR x13), (14, vR x14), (15, vR x15), (16, vR x16), (17, vR x17), (18, vI x18), (19, vI x19), (20, vI x20)] dL_law_380 (lt_mx hm (by decide)) rfl ?_
    refine V_iconst (pc := 382) F (x := (0 : Int32)) dL_law_382 (by decide) ?_
    refine V_istore (pc := 383) F [(24, vI (0 : Int32)), (23, vI z51), (22, vI z48), (21, vI s0), (0, vR (some 0)), (1, vR x1), (2, vR x2), (3, vR x3), (4, vR x4), (5, vR x5), (6, vR x6), (7, vR x7), (8, vR x8), (9, vR x9), (10, vR x10), (11, vR x11), (12, vR x12), (13, vR x13), (14, vR x14), (15, vR x15), (16, vR x16), (17, vR x17), (18, vI x18), (19, vI x19), (20, vI x20)] dL_law_383 (lt_mx hm (by decide)) rfl ?_
    refine V_sub [4, 5, 6, 7, 8, 9, 10, 11, 12, 13, 14, 15, 16, 17, 18, 19, 20, 21, 22, 23, 2, 1, 0] (L' := [(0, vR (some 0)), (1, vR x1), (2, vR x2), (3, vR x3), (4, vR x4), (5, vR x5), (6, vR x6), (7, vR x7), (8, vR x8), (9, vR x9), (10, vR x10), (11, vR x11), (12, vR x12), (13, vR x13), (14, vR x14), (15, vR x15), (16, vR x16), (17, vR x17), (18, vI x18), (19, vI x19), (22, vI z48), (23, vI z51), (24, vI (0 : Int32))]) rfl ?_
    exact vL_L_law_385 F hm XF rc162 hrc162 fuel x1 x2 x3 x4 x5 x6 x7 x8 x9 x10 x11 x12 x13 x14 x15 x16 x17 x18 x19 z48 z51 (0 : Int32) h50
  · refine V_aload_n (pc := 220) F dL_law_220 3 rfl ?_
    refine V_iload (pc := 221) F dL_law_221 1 rfl ?_
    refine V_iconst (pc := 223) F (x := (2 : Int32)) dL_law_223 (by decide) ?_
    refine V_icmp_ge (pc := 224) F 231 dL_law_224 (by decide) ?_ ?_
    · refine V_iload (pc := 231) F dL_law_231 1 rfl ?_
      refine V_bipush (pc := 233) F (x := (7 : Int32)) dL_law_233 (by decide) ?_
      refine V_icmp_ge (pc := 235) F 242 dL_law_235 (by decide) ?_ ?_
      · refine V_iload (pc := 242) F dL_law_242 1 rfl ?_
        refine V_bipush (pc := 244) F (x := (8 : Int32)) dL_law_244 (by decide) ?_
        refine V_icmp_ge (pc := 246) F 253 dL_law_246 (by decide) ?_ ?_
        · refine V_iload (pc := 253) F dL_law_253 1 rfl ?_
          refine V_bipush (pc := 255) F (x := (10 : Int32)) dL_law_255 (by decide) ?_
          refine V_icmp_ge (pc := 257) F 264 dL_law_257 (by decide) ?_ ?_
          · refine V_iload (pc := 264) F dL_law_264 1 rfl ?_
            refine V_bipush (pc := 266) F (x := (13 : Int32)) dL_law_266 (by decide) ?_
            refine V_icmp_ge (pc := 268) F 275 dL_law_268 (by decide) ?_ ?_
            · refine V_iload (pc := 275) F dL_law_275 1 rfl ?_
              refine V_bipush (pc := 277) F (x := (14 : Int32)) dL_law_277 (by decide) ?_
              refine V_icmp_ge (pc := 279) F 286 dL_law_279 (by decide) ?_ ?_
              · refine V_iload (pc := 286) F dL_law_286 1 rfl ?_
                refine V_bipush (pc := 288) F (x := (15 : Int32)) dL_law_288 (by decide) ?_
                refine V_icmp_ge (pc := 290) F 298 dL_law_290 (by decide) ?_ ?_
                · refine V_iload (pc := 298) F dL_law_298 1 rfl ?_
                  refine V_bipush (pc := 300) F (x := (17 : Int32)) dL_law_300 (by decide) ?_
                  refine V_icmp_ge (pc := 302) F 310 dL_law_302 (by decide) ?_ ?_
                  · refine V_iload (pc := 310) F dL_law_310 1 rfl ?_
                    refine V_bipush (pc := 312) F (x := (18 : Int32)) dL_law_312 (by decide) ?_
                    refine V_icmp_ge (pc := 314) F 322 dL_law_314 (by decide) ?_ ?_
                    · refine V_iload (pc := 322) F dL_law_322 1 rfl ?_
                      refine V_bipush (pc := 324) F (x := (20 : Int32)) dL_law_324 (by decide) ?_
                      refine V_icmp_ge (pc := 326) F 334 dL_law_326 (by decide) ?_ ?_
                      · refine V_bipush (pc := 334) F (x := (10 : Int32)) dL_law_334 (by decide) ?_
                        refine V_sub [2, 3, 4, 5, 6, 7, 8, 9, 10, 11, 12, 13, 14, 15, 16, 17, 18, 19, 21, 0] (L' := [(0, vR (some 0)), (1, vR x1), (2, vR x2), (3, vR x3), (4, vR x4), (5, vR x5), (6, vR x6), (7, vR x7), (8, vR x8), (9, vR x9), (10, vR x10), (11, vR x11), (12, vR x12), (13, vR x13), (14, vR x14), (15, vR x15), (16, vR x16), (17, vR x17), (19, vI x19), (22, vI z48)]) rfl ?_
                        exact vB_L_law_336 F hm XF rc162 hrc162 x1 x2 x3 x4 x5 x6 x7 x8 x9 x10 x11 x12 x13 x14 x15 x16 x17 x19 z48 x1 (10 : Int32) h
                      · refine V_bipush (pc := 329) F (x := (9 : Int32)) dL_law_329 (by decide) ?_
                        refine V_goto (pc := 331) F 336 dL_law_331 (by decide) ?_
                        refine V_sub [2, 3, 4, 5, 6, 7, 8, 9, 10, 11, 12, 13, 14, 15, 16, 17, 18, 19, 21, 0] (L' := [(0, vR (some 0)), (1, vR x1), (2, vR x2), (3, vR x3), (4, vR x4), (5, vR x5), (6, vR x6), (7, vR x7), (8, vR x8), (9, vR x9), (10, vR x10), (11, vR x11), (12, vR x12), (13, vR x13), (14, vR x14), (15, vR x15), (16, vR x16), (17, vR x17), (19, vI x19), (22, vI z48)]) rfl ?_
                        exact vB_L_law_336 F hm XF rc162 hrc162 x1 x2 x3 x4 x5 x6 x7 x8 x9 x10 x11 x12 x13 x14 x15 x16 x17 x19 z48 x1 (9 : Int32) h
                    · refine V_bipush (pc := 317) F (x := (8 : Int32)) dL_law_317 (by decide) ?_
                      refine V_goto (pc := 319) F 336 dL_law_319 (by decide) ?_
                      refine V_sub [2, 3, 4, 5, 6, 7, 8, 9, 10, 11, 12, 13, 14, 15, 16, 17, 18, 19, 21, 0] (L' := [(0, vR (some 0)), (1, vR x1), (2, vR x2), (3, vR x3), (4, vR x4), (5, vR x5), (6, vR x6), (7, vR x7), (8, vR x8), (9, vR x9), (10, vR x10), (11, vR x11), (12, vR x12), (13, vR x13), (14, vR x14), (15, vR x15), (16, vR x16), (17, vR x17), (19, vI x19), (22, vI z48)]) rfl ?_
                      exact vB_L_law_336 F hm XF rc162 hrc162 x1 x2 x3 x4 x5 x6 x7 x8 x9 x10 x11 x12 x13 x14 x15 x16 x17 x19 z48 x1 (8 : Int32) h
                  · refine V_bipush (pc := 305) F (x := (7 : Int32)) dL_law_305 (by decide) ?_
                    refine V_goto (pc := 307) F 336 dL_law_307 (by decide) ?_
                    refine V_sub [2, 3, 4, 5, 6, 7, 8, 9, 10, 11, 12, 13, 14, 15, 16, 17, 18, 19, 21, 0] (L' := [(0, vR (some 0)), (1, vR x1), (2, vR x2), (3, vR x3), (4, vR x4), (5, vR x5), (6, vR x6), (7, vR x7), (8, vR x8), (9, vR x9), (10, vR x10), (11, vR x11), (12, vR x12), (13, vR x13), (14, vR x14), (15, vR x15), (16, vR x16), (17, vR x17), (19, vI x19), (22, vI z48)]) rfl ?_
                    exact vB_L_law_336 F hm XF rc162 hrc162 x1 x2 x3 x4 x5 x6 x7 x8 x9 x10 x11 x12 x13 x14 x15 x16 x17 x19 z48 x1 (7 : Int32) h
                · refine V_bipush (pc := 293) F (x := (6 : Int32)) dL_law_293 (by decide) ?_
                  refine V_goto (pc := 295) F 336 dL_law_295 (by decide) ?_
                  refine V_sub [2, 3, 4, 5, 6, 7, 8, 9, 10, 11, 12, 13, 14, 15, 16, 17, 18, 19, 21, 0] (L' := [(0, vR (some 0)), (1, vR x1), (2, vR x2), (3, vR x3), (4, vR x4), (5, vR x5), (6, vR x6), (7, vR x7), (8, vR x8), (9, vR x9), (10, vR x10), (11, vR x11), (12, vR x12), (13, vR x13), (14, vR x14), (15, vR x15), (16, vR x16), (17, vR x17), (19, vI x19), (22, vI z48)]) rfl ?_
                  exact vB_L_law_336 F hm XF rc162 hrc162 x1 x2 x3 x4 x5 x6 x7 x8 x9 x10 x11 x12 x13 x14 x15 x16 x17 x19 z48 x1 (6 : Int32) h
              · refine V_iconst (pc := 282) F (x := (5 : Int32)) dL_law_282 (by decide) ?_
                refine V_goto (pc := 283) F 336 dL_law_283 (by decide) ?_
                refine V_sub [2, 3, 4, 5, 6, 7, 8, 9, 10, 11, 12, 13, 14, 15, 16, 17, 18, 19, 21, 0] (L' := [(0, vR (some 0)), (1, vR x1), (2, vR x2), (3, vR x3), (4, vR x4), (5, vR x5), (6, vR x6), (7, vR x7), (8, vR x8), (9, vR x9), (10, vR x10), (11, vR x11), (12, vR x12), (13, vR x13), (14, vR x14), (15, vR x15), (16, vR x16), (17, vR x17), (19, vI x19), (22, vI z48)]) rfl ?_
                exact vB_L_law_336 F hm XF rc162 hrc162 x1 x2 x3 x4 x5 x6 x7 x8 x9 x10 x11 x12 x13 x14 x15 x16 x17 x19 z48 x1 (5 : Int32) h
            · refine V_iconst (pc := 271) F (x := (4 : Int32)) dL_law_271 (by decide) ?_
              refine V_goto (pc := 272) F 336 dL_law_272 (by decide) ?_
              refine V_sub [2, 3, 4, 5, 6, 7, 8, 9, 10, 11, 12, 13, 14, 15, 16, 17, 18, 19, 21, 0] (L' := [(0, vR (some 0)), (1, vR x1), (2, vR x2), (3, vR x3), (4, vR x4), (5, vR x5), (6, vR x6), (7, vR x7), (8, vR x8), (9, vR x9), (10, vR x10), (11, vR x11), (12, vR x12), (13, vR x13), (14, vR x14), (15, vR x15), (16, vR x16), (17, vR x17), (19, vI x19), (22, vI z48)]) rfl ?_
              exact vB_L_law_336 F hm XF rc162 hrc162 x1 x2 x3 x4 x5 x6 x7 x8 x9 x10 x11 x12 x13 x14 x15 x16 x17 x19 z48 x1 (4 : Int32) h
          · refine V_iconst (pc := 260) F (x := (3 : Int32)) dL_law_260 (by decide) ?_
            refine V_goto (pc := 261) F 336 dL_law_261 (by decide) ?_
            refine V_sub [2, 3, 4, 5, 6, 7, 8, 9, 10, 11, 12, 13, 14, 15, 16, 17, 18, 19, 21, 0] (L' := [(0, vR (some 0)), (1, vR x1), (2, vR x2), (3, vR x3), (4, vR x4), (5, vR x5), (6, vR x6), (7, vR x7), (8, vR x8), (9, vR x9), (10, vR x10), (11, vR x11), (12, vR x12), (13, vR x13), (14, vR x14), (15, vR x15), (16, vR x16), (17, vR x17), (19, vI x19), (22, vI z48)]) rfl ?_
            exact vB_L_law_336 F hm XF rc162 hrc162 x1 x2 x3 x4 x5 x6 x7 x8 x9 x10 x11 x12 x13 x14 x15 x16 x17 x19 z48 x1 (3 : Int32) h
        · refine V_iconst (pc := 249) F (x := (2 : Int32)) dL_law_249 (by decide) ?_
          refine V_goto (pc := 250) F 336 dL_law_250 (by decide) ?_
          refine V_sub [2, 3, 4, 5, 6, 7, 8, 9, 10, 11, 12, 13, 14, 15, 16, 17, 18, 19, 21, 0] (L' := [(0, vR (some 0)), (1, vR x1), (2, vR x2), (3, vR x3), (4, vR x4), (5, vR x5), (6, vR x6), (7, vR x7), (8, vR x8), (9, vR x9), (10, vR x10), (11, vR x11), (12, vR x12), (13, vR x13), (14, vR x14), (15, vR x15), (16, vR x16), (17, vR x17), (19, vI x19), (22, vI z48)]) rfl ?_
          exact vB_L_law_336 F hm XF rc162 hrc162 x1 x2 x3 x4 x5 x6 x7 x8 x9 x10 x11 x12 x13 x14 x15 x16 x17 x19 z48 x1 (2 : Int32) h
      · refine V_iconst (pc := 238) F (x := (1 : Int32)) dL_law_238 (by decide) ?_
        refine V_goto (pc := 239) F 336 dL_law_239 (by decide) ?_
        refine V_sub [2, 3, 4, 5, 6, 7, 8, 9, 10, 11, 12, 13, 14, 15, 16, 17, 18, 19, 21, 0] (L' := [(0, vR (some 0)), (1, vR x1), (2, vR x2), (3, vR x3), (4, vR x4), (5, vR x5), (6, vR x6), (7, vR x7), (8, vR x8), (9, vR x9), (10, vR x10), (11, vR x11), (12, vR x12), (13, vR x13), (14, vR x14), (15, vR x15), (16, vR x16), (17, vR x17), (19, vI x19), (22, vI z48)]) rfl ?_
        exact vB_L_law_336 F hm XF rc162 hrc162 x1 x2 x3 x4 x5 x6 x7 x8 x9 x10 x11 x12 x13 x14 x15 x16 x17 x19 z48 x1 (1 : Int32) h
    · refine V_iconst (pc := 227) F (x := (0 : Int32)) dL_law_227 (by decide) ?_
      refine V_goto (pc := 228) F 336 dL_law_228 (by decide) ?_
      refine V_sub [2, 3, 4, 5, 6, 7, 8, 9, 10, 11, 12, 13, 14, 15, 16, 17, 18, 19, 21, 0] (L' := [(0, vR (some 0)), (1, vR x1), (2, vR x2), (3, vR x3), (4, vR x4), (5, vR x5), (6, vR x6), (7, vR x7), (8, vR x8), (9, vR x9), (10, vR x10), (11, vR x11), (12, vR x12), (13, vR x13), (14, vR x14), (15, vR x15), (16, vR x16), (17, vR x17), (19, vI x19), (22, vI z48)]) rfl ?_
      exact vB_L_law_336 F hm XF rc162 hrc162 x1 x2 x3 x4 x5 x6 x7 x8 x9 x10 x11 x12 x13 x14 x15 x16 x17 x19 z48 x1 (0 : Int32) h
theorem vB_L_law_162 {K : CT} (F : Fr K cL_law R_law Jvm.Pilot.CGyreWatchLaw_law_r6608_32e876.ret [] 11 2) (hm : mxL K = 25) {Ls : Nat} {xs : Nat → Int32} (XF : XL K Ls xs) (rc162 : Option Nat → Option Nat → Option Nat → Option Nat → Option Nat → Option Nat → Option Nat → Option Nat → Option Nat → Option Nat → Option Nat → Option Nat → Option Nat → Option Nat → Option Nat → Option Nat → Option Nat → Int32 → Int32 → MH → Res) (hrc162 : ∀ x1 x2 x3 x4 x5 x6 x7 x8 x9 x10 x11 x12 x13 x14 x15 x16 x17 x18 x19 h, V K 162 [(0, vR (some 0)), (1, vR x1), (2, vR x2), (3, vR x3), (4, vR x4), (5, vR x5), (6, vR x6), (7, vR x7), (8, vR x8), (9, vR x9), (10, vR x10), (11, vR x11), (12, vR x12), (13, vR x13), (14, vR x14), (15, vR x15), (16, vR x16), (17, vR x17), (18, vI x18), (19, vI x19)] [] h (rc162 x1 x2 x3 x4 x5 x6 x7 x8 x9 x10 x11 x12 x13 x14 x15 x16 x17 x18 x19 h)) (x1 : Option Nat) (x2 : Option Nat) (x3 : Option Nat) (x4 : Option Nat) (x5 : Option Nat) (x6 : Option Nat) (x7 : Option Nat) (x8 : Option Nat) (x9 : Option Nat) (x10 : Option Nat) (x11 : Option Nat) (x12 : Option Nat) (x13 : Option Nat) (x14 : Option Nat) (x15 : Option Nat) (x16 : Option Nat) (x17 : Option Nat) (x18 : Int32) (x19 : Int32) (h : MH) : V K 162 [(0, vR (some 0)), (1, vR x1), (2, vR x2), (3, vR x3), (4, vR x4), (5, vR x5), (6, vR x6), (7, vR x7), (8, vR x8), (9, vR x9), (10, vR x10), (11, vR x11), (12, vR x12), (13, vR x13), (14, vR x14), (15, vR x15), (16, vR x16), (17, vR x17), (18, vI x18), (19, vI x19)] [] h (B_L_law_162 Ls xs rc162 x1 x2 x3 x4 x5 x6 x7 x8 x9 x10 x11 x12 x13 x14 x15 x16 x17 x18 x19 h) := by
  unfold B_L_law_162
  refine V_iload (pc := 162) F dL_law_162 19 rfl ?_
  refine V_bipush (pc := 164) F (x := (70 : Int32)) dL_law_164 (by decide) ?_
  refine V_icmp_ge (pc := 166) F 522 dL_law_166 (by decide) ?_ ?_
  · refine V_iload (pc := 522) F dL_law_522 18 rfl ?_
    exact V_lawret (pc := 524) F XF dL_law_524
  · refine V_iload (pc := 169) F dL_law_169 18 rfl ?_
    refine V_if_eq (pc := 171) F 522 dL_law_171 (by decide) ?_ ?_
    · refine V_iload (pc := 522) F dL_law_522 18 rfl ?_
      exact V_lawret (pc := 524) F XF dL_law_524
    · refine V_aload_n (pc := 174) F dL_law_174 0 rfl ?_
      refine V_iload (pc := 175) F dL_law_175 19 rfl ?_
      refine V_cSS (pc := 177) F XF.1 (as := [vR (some 0), vI x19]) (C_L_cell Ls xs x19 h) w_L_cell g_st_L_cell g_ml_RL_153 (by decide) (rest := []) rfl rfl (Nat.le_of_ble_eq_true rfl) dL_law_177 (k_I fun z42 h43 => ?_)
      refine V_istore (pc := 180) F [(20, vI z42), (0, vR (some 0)), (1, vR x1), (2, vR x2), (3, vR x3), (4, vR x4), (5, vR x5), (6, vR x6), (7, vR x7), (8, vR x8), (9, vR x9), (10, vR x10), (11, vR x11), (12, vR x12), (13, vR x13), (14, vR x14), (15, vR x15), (16, vR x16), (17, vR x17), (18, vI x18), (19, vI x19)] dL_law_180 (lt_mx hm (by decide)) rfl ?_
      refine V_iload (pc := 182) F dL_law_182 20 rfl ?_
      refine V_iconst (pc := 184) F (x := (5 : Int32)) dL_law_184 (by decide) ?_
      refine V_icmp_ge (pc := 185) F 198 dL_law_185 (by decide) ?_ ?_
      · refine V_iload (pc := 198) F dL_law_198 0 rfl ?_
        refine V_bipush (pc := 200) F (x := (30 : Int32)) dL_law_200 (by decide) ?_
        refine V_cSM (pc := 202) F (as := [vI z42, vI (30 : Int32)]) (C_L_low z42 (30 : Int32) h43) w_L_low g_st_L_low g_ml_RL_29 (by decide) (rest := []) rfl rfl (Nat.le_of_ble_eq_true rfl) dL_law_202 (k_I fun z44 h45 => ?_)
        refine V_sub [1, 2, 3, 4, 5, 6, 7, 8, 9, 10, 11, 12, 13, 14, 15, 16, 17, 18, 19, 20, 0] (L' := [(0, vR (some 0)), (1, vR x1), (2, vR x2), (3, vR x3), (4, vR x4), (5, vR x5), (6, vR x6), (7, vR x7), (8, vR x8), (9, vR x9), (10, vR x10), (11, vR x11), (12, vR x12), (13, vR x13), (14, vR x14), (15, vR x15), (16, vR x16), (17, vR x17), (18, vI x18), (19, vI x19), (20, vI z42)]) rfl ?_
        exact vB_L_law_205 F hm XF rc162 hrc162 x1 x2 x3 x4 x5 x6 x7 x8 x9 x10 x11 x12 x13 x14 x15 x16 x17 x18 x19 z42 z44 h45
      · refine V_iload (pc := 188) F dL_law_188 0 rfl ?_
        refine V_bipush (pc := 190) F (x := (9 : Int32)) dL_law_190 (by decide) ?_
        refine V_cSM (pc := 192) F (as := [vI z42, vI (9 : Int32)]) (C_L_low z42 (9 : Int32) h43) w_L_low g_st_L_low g_ml_RL_29 (by decide) (rest := []) rfl rfl (Nat.le_of_ble_eq_true rfl) dL_law_192 (k_I fun z46 h47 => ?_)
        refine V_goto (pc := 195) F 205 dL_law_195 (by decide) ?_
        refine V_sub [1, 2, 3, 4, 5, 6, 7, 8, 9, 10, 11, 12, 13, 14, 15, 16, 17, 18, 19, 20, 0] (L' := [(0, vR (some 0)), (1, vR x1), (2, vR x2), (3, vR x3), (4, vR x4), (5, vR x5), (6, vR x6), (7, vR x7), (8, vR x8), (9, vR x9), (10, vR x10), (11, vR x11), (12, vR x12), (13, vR x13), (14, vR x14), (15, vR x15), (16, vR x16), (17, vR x17), (18, vI x18), (19, vI x19), (20, vI z42)]) rfl ?_
        exact vB_L_law_205 F hm XF rc162 hrc162 x1 x2 x3 x4 x5 x6 x7 x8 x9 x10 x11 x12 x13 x14 x15 x16 x17 x18 x19 z42 z46 h47
theorem vL_L_law_162 {K : CT} (F : Fr K cL_law R_law Jvm.Pilot.CGyreWatchLaw_law_r6608_32e876.ret [] 11 2) (hm : mxL K = 25) {Ls : Nat} {xs : Nat → Int32} (XF : XL K Ls xs) (n : Nat) : ∀ x1 x2 x3 x4 x5 x6 x7 x8 x9 x10 x11 x12 x13 x14 x15 x16 x17 x18 x19 h, V K 162 [(0, vR (some 0)), (1, vR x1), (2, vR x2), (3, vR x3), (4, vR x4), (5, vR x5), (6, vR x6), (7, vR x7), (8, vR x8), (9, vR x9), (10, vR x10), (11, vR x11), (12, vR x12), (13, vR x13), (14, vR x14), (15, vR x15), (16, vR x16), (17, vR x17), (18, vI x18), (19, vI x19)] [] h (L_L_law_162 Ls xs n x1 x2 x3 x4 x5 x6 x7 x8 x9 x10 x11 x12 x13 x14 x15 x16 x17 x18 x19 h) := by
  induction n with
  | zero => intros; exact V_none
  | succ n ih => intro x1 x2 x3 x4 x5 x6 x7 x8 x9 x10 x11 x12 x13 x14 x15 x16 x17 x18 x19 h; exact vB_L_law_162 F hm XF _ ih x1 x2 x3 x4 x5 x6 x7 x8 x9 x10 x11 x12 x13 x14 x15 x16 x17 x18 x19 h
theorem vB_L_law_105 {K : CT} (F : Fr K cL_law R_law Jvm.Pilot.CGyreWatchLaw_law_r6608_32e876.ret [] 11 2) (hm : mxL K = 25) {Ls : Nat} {xs : Nat → Int32} (XF : XL K Ls xs) (rc105 : Option Nat → Option Nat → Option Nat → Option Nat → Option Nat → Option Nat → Option Nat → Option Nat → Option Nat → Option Nat → Option Nat → Option Nat → Option Nat → Option Nat → Option Nat → Option Nat → Option Nat → Int32 → MH → Res) (hrc105 : ∀ x1 x2 x3 x4 x5 x6 x7 x8 x9 x10 x11 x12 x13 x14 x15 x16 x17 x18 h, V K 105 [(0, vR (some 0)), (1, vR x1), (2, vR x2), (3, vR x3), (4, vR x4), (5, vR x5), (6, vR x6), (7, vR x7), (8, vR x8), (9, vR x9), (10, vR x10), (11, vR x11), (12, vR x12), (13, vR x13), (14, vR x14), (15, vR x15), (16, vR x16), (17, vR x17), (18, vI x18)] [] h (rc105 x1 x2 x3 x4 x5 x6 x7 x8 x9 x10 x11 x12 x13 x14 x15 x16 x17 x18 h)) (x1 : Option Nat) (x2 : Option Nat) (x3 : Option Nat) (x4 : Option Nat) (x5 : Option Nat) (x6 : Option Nat) (x7 : Option Nat) (x8 : Option Nat) (x9 : Option Nat) (x10 : Option Nat) (x11 : Option Nat) (x12 : Option Nat) (x13 : Option Nat) (x14 : Option Nat) (x15 : Option Nat) (x16 : Option Nat) (x17 : Option Nat) (x18 : Int32) (h : MH) : V K 105 [(0, vR (some 0)), (1, vR x1), (2, vR x2), (3, vR x3), (4, vR x4), (5, vR x5), (6, vR x6), (7, vR x7), (8, vR x8), (9, vR x9), (10, vR x10), (11, vR x11), (12, vR x12), (13, vR x13), (14, vR x14), (15, vR x15), (16, vR x16), (17, vR x17), (18, vI x18)] [] h (B_L_law_105 Ls xs rc105 x1 x2 x3 x4 x5 x6 x7 x8 x9 x10 x11 x12 x13 x14 x15 x16 x17 x18 h) := by
  unfold B_L_law_105
  refine V_iload (pc := 105) F dL_law_105 18 rfl ?_
  refine V_bipush (pc := 107) F (x := (60 : Int32)) dL_law_107 (by decide) ?_
  refine V_icmp_ge (pc := 109) F 149 dL_law_109 (by decide) ?_ ?_
  · refine V_aload (pc := 149) F dL_law_149 17 rfl ?_
    refine V_bipush (pc := 151) F (x := (7 : Int32)) dL_law_151 (by decide) ?_
    refine V_bipush (pc := 153) F (x := (100 : Int32)) dL_law_153 (by decide) ?_
    refine V_iast (pc := 155) F dL_law_155 ?_
    intro h36
    refine V_iconst (pc := 156) F (x := (1 : Int32)) dL_law_156 (by decide) ?_
    refine V_istore (pc := 157) F [(18, vI (1 : Int32)), (0, vR (some 0)), (1, vR x1), (2, vR x2), (3, vR x3), (4, vR x4), (5, vR x5), (6, vR x6), (7, vR x7), (8, vR x8), (9, vR x9), (10, vR x10), (11, vR x11), (12, vR x12), (13, vR x13), (14, vR x14), (15, vR x15), (16, vR x16), (17, vR x17)] dL_law_157 (lt_mx hm (by decide)) rfl ?_
    refine V_iconst (pc := 159) F (x := (0 : Int32)) dL_law_159 (by decide) ?_
    refine V_istore (pc := 160) F [(19, vI (0 : Int32)), (18, vI (1 : Int32)), (0, vR (some 0)), (1, vR x1), (2, vR x2), (3, vR x3), (4, vR x4), (5, vR x5), (6, vR x6), (7, vR x7), (8, vR x8), (9, vR x9), (10, vR x10), (11, vR x11), (12, vR x12), (13, vR x13), (14, vR x14), (15, vR x15), (16, vR x16), (17, vR x17)] dL_law_160 (lt_mx hm (by decide)) rfl ?_
    refine V_sub [2, 3, 4, 5, 6, 7, 8, 9, 10, 11, 12, 13, 14, 15, 16, 17, 18, 19, 1, 0] (L' := [(0, vR (some 0)), (1, vR x1), (2, vR x2), (3, vR x3), (4, vR x4), (5, vR x5), (6, vR x6), (7, vR x7), (8, vR x8), (9, vR x9), (10, vR x10), (11, vR x11), (12, vR x12), (13, vR x13), (14, vR x14), (15, vR x15), (16, vR x16), (17, vR x17), (18, vI (1 : Int32)), (19, vI (0 : Int32))]) rfl ?_
    exact vL_L_law_162 F hm XF fuel x1 x2 x3 x4 x5 x6 x7 x8 x9 x10 x11 x12 x13 x14 x15 x16 x17 (1 : Int32) (0 : Int32) h36
  · refine V_aload_n (pc := 112) F dL_law_112 3 rfl ?_
    refine V_iload (pc := 113) F dL_law_113 18 rfl ?_
    refine V_sipush (pc := 115) F (x := (1000 : Int32)) dL_law_115 (by decide) ?_
    refine V_iast (pc := 118) F dL_law_118 ?_
    intro h37
    refine V_aload (pc := 119) F dL_law_119 4 rfl ?_
    refine V_iload (pc := 121) F dL_law_121 18 rfl ?_
    refine V_sipush (pc := 123) F (x := (400 : Int32)) dL_law_123 (by decide) ?_
    refine V_iast (pc := 126) F dL_law_126 ?_
    intro h38
    refine V_aload (pc := 127) F dL_law_127 5 rfl ?_
    refine V_iload (pc := 129) F dL_law_129 18 rfl ?_
    refine V_sipush (pc := 131) F (x := (350 : Int32)) dL_law_131 (by decide) ?_
    refine V_iast (pc := 134) F dL_law_134 ?_
    intro h39
    refine V_aload (pc := 135) F dL_law_135 6 rfl ?_
    refine V_iload (pc := 137) F dL_law_137 18 rfl ?_
    refine V_sipush (pc := 139) F (x := (360 : Int32)) dL_law_139 (by decide) ?_
    refine V_iast (pc := 142) F dL_law_142 ?_
    intro h40
    refine V_iinc (pc := 143) F (fun z41 => [(18, vI z41), (0, vR (some 0)), (1, vR x1), (2, vR x2), (3, vR x3), (4, vR x4), (5, vR x5), (6, vR x6), (7, vR x7), (8, vR x8), (9, vR x9), (10, vR x10), (11, vR x11), (12, vR x12), (13, vR x13), (14, vR x14), (15, vR x15), (16, vR x16), (17, vR x17)]) dL_law_143 (lt_mx hm (by decide)) 18 rfl (dx := (1 : Int32)) (by decide) (fun _ => rfl) ?_
    intro z41
    refine V_goto (pc := 146) F 105 dL_law_146 (by decide) ?_
    refine V_sub [1, 2, 3, 4, 5, 6, 7, 8, 9, 10, 11, 12, 13, 14, 15, 16, 17, 18, 0] (L' := [(0, vR (some 0)), (1, vR x1), (2, vR x2), (3, vR x3), (4, vR x4), (5, vR x5), (6, vR x6), (7, vR x7), (8, vR x8), (9, vR x9), (10, vR x10), (11, vR x11), (12, vR x12), (13, vR x13), (14, vR x14), (15, vR x15), (16, vR x16), (17, vR x17), (18, vI z41)]) rfl ?_
    exact hrc105 x1 x2 x3 x4 x5 x6 x7 x8 x9 x10 x11 x12 x13 x14 x15 x16 x17 z41 h40
theorem vL_L_law_105 {K : CT} (F : Fr K cL_law R_law Jvm.Pilot.CGyreWatchLaw_law_r6608_32e876.ret [] 11 2) (hm : mxL K = 25) {Ls : Nat} {xs : Nat → Int32} (XF : XL K Ls xs) (n : Nat) : ∀ x1 x2 x3 x4 x5 x6 x7 x8 x9 x10 x11 x12 x13 x14 x15 x16 x17 x18 h, V K 105 [(0, vR (some 0)), (1, vR x1), (2, vR x2), (3, vR x3), (4, vR x4), (5, vR x5), (6, vR x6), (7, vR x7), (8, vR x8), (9, vR x9), (10, vR x10), (11, vR x11), (12, vR x12), (13, vR x13), (14, vR x14), (15, vR x15), (16, vR x16), (17, vR x17), (18, vI x18)] [] h (L_L_law_105 Ls xs n x1 x2 x3 x4 x5 x6 x7 x8 x9 x10 x11 x12 x13 x14 x15 x16 x17 x18 h) := by
  induction n with
  | zero => intros; exact V_none
  | succ n ih => intro x1 x2 x3 x4 x5 x6 x7 x8 x9 x10 x11 x12 x13 x14 x15 x16 x17 x18 h; exact vB_L_law_105 F hm XF _ ih x1 x2 x3 x4 x5 x6 x7 x8 x9 x10 x11 x12 x13 x14 x15 x16 x17 x18 h
theorem vM_L_law {K : CT} (F : Fr K cL_law R_law Jvm.Pilot.CGyreWatchLaw_law_r6608_32e876.ret [] 11 2) (hm : mxL K = 25) {Ls : Nat} {xs : Nat → Int32} (XF : XL K Ls xs) (h : MH) : V K 0 [(0, vR (some 0))] [] h (M_L_law Ls xs h) := by
  unfold M_L_law
  refine V_new (pc := 0) F 8 (by decide) rfl g_clN_RL_11 g_inst_8 g_iniN_8 dL_law_0 ?_
  intro r1 h2
  refine V_dup (pc := 3) F dL_law_3 rfl ?_
  refine V_cI (pc := 4) F (as := []) (C_X8_init r1 h2) rfl w_X8_init g_in_X8_init g_ml_RL_152 (by decide) (rest := [vR r1]) rfl rfl (Nat.le_of_ble_eq_true rfl) dL_law_4 (k_V fun h3 => ?_)
  refine V_astore_n (pc := 7) F [(1, vR r1), (0, vR (some 0))] dL_law_7 (lt_mx hm (by decide)) rfl ?_
  refine V_bipush (pc := 8) F (x := (60 : Int32)) dL_law_8 (by decide) ?_
  refine V_newa (pc := 10) F 20 (by decide) g_arr_20 dL_law_10 ?_
  intro r4 h5
  refine V_astore_n (pc := 12) F [(2, vR r4), (1, vR r1), (0, vR (some 0))] dL_law_12 (lt_mx hm (by decide)) rfl ?_
  refine V_bipush (pc := 13) F (x := (60 : Int32)) dL_law_13 (by decide) ?_
  refine V_newa (pc := 15) F 20 (by decide) g_arr_20 dL_law_15 ?_
  intro r6 h7
  refine V_astore_n (pc := 17) F [(3, vR r6), (2, vR r4), (1, vR r1), (0, vR (some 0))] dL_law_17 (lt_mx hm (by decide)) rfl ?_
  refine V_bipush (pc := 18) F (x := (60 : Int32)) dL_law_18 (by decide) ?_
  refine V_newa (pc := 20) F 20 (by decide) g_arr_20 dL_law_20 ?_
  intro r8 h9
  refine V_astore (pc := 22) F [(4, vR r8), (3, vR r6), (2, vR r4), (1, vR r1), (0, vR (some 0))] dL_law_22 (lt_mx hm (by decide)) rfl ?_
  refine V_bipush (pc := 24) F (x := (60 : Int32)) dL_law_24 (by decide) ?_
  refine V_newa (pc := 26) F 20 (by decide) g_arr_20 dL_law_26 ?_
  intro r10 h11
  refine V_astore (pc := 28) F [(5, vR r10), (4, vR r8), (3, vR r6), (2, vR r4), (1, vR r1), (0, vR (some 0))] dL_law_28 (lt_mx hm (by decide)) rfl ?_
  refine V_bipush (pc := 30) F (x := (60 : Int32)) dL_law_30 (by decide) ?_
  refine V_newa (pc := 32) F 20 (by decide) g_arr_20 dL_law_32 ?_
  intro r12 h13
  refine V_astore (pc := 34) F [(6, vR r12), (5, vR r10), (4, vR r8), (3, vR r6), (2, vR r4), (1, vR r1), (0, vR (some 0))] dL_law_34 (lt_mx hm (by decide)) rfl ?_
  refine V_bipush (pc := 36) F (x := (64 : Int32)) dL_law_36 (by decide) ?_
  refine V_newa (pc := 38) F 20 (by decide) g_arr_20 dL_law_38 ?_
  intro r14 h15
  refine V_astore (pc := 40) F [(7, vR r14), (6, vR r12), (5, vR r10), (4, vR r8), (3, vR r6), (2, vR r4), (1, vR r1), (0, vR (some 0))] dL_law_40 (lt_mx hm (by decide)) rfl ?_
  refine V_bipush (pc := 42) F (x := (30 : Int32)) dL_law_42 (by decide) ?_
  refine V_newa (pc := 44) F 20 (by decide) g_arr_20 dL_law_44 ?_
  intro r16 h17
  refine V_astore (pc := 46) F [(8, vR r16), (7, vR r14), (6, vR r12), (5, vR r10), (4, vR r8), (3, vR r6), (2, vR r4), (1, vR r1), (0, vR (some 0))] dL_law_46 (lt_mx hm (by decide)) rfl ?_
  refine V_bipush (pc := 48) F (x := (40 : Int32)) dL_law_48 (by decide) ?_
  refine V_newa (pc := 50) F 20 (by decide) g_arr_20 dL_law_50 ?_
  intro r18 h19
  refine V_astore (pc := 52) F [(9, vR r18), (8, vR r16), (7, vR r14), (6, vR r12), (5, vR r10), (4, vR r8), (3, vR r6), (2, vR r4), (1, vR r1), (0, vR (some 0))] dL_law_52 (lt_mx hm (by decide)) rfl ?_
  refine V_bipush (pc := 54) F (x := (64 : Int32)) dL_law_54 (by decide) ?_
  refine V_newa (pc := 56) F 20 (by decide) g_arr_20 dL_law_56 ?_
  intro r20 h21
  refine V_astore (pc := 58) F [(10, vR r20), (9, vR r18), (8, vR r16), (7, vR r14), (6, vR r12), (5, vR r10), (4, vR r8), (3, vR r6), (2, vR r4), (1, vR r1), (0, vR (some 0))] dL_law_58 (lt_mx hm (by decide)) rfl ?_
  refine V_bipush (pc := 60) F (x := (64 : Int32)) dL_law_60 (by decide) ?_
  refine V_newa (pc := 62) F 20 (by decide) g_arr_20 dL_law_62 ?_
  intro r22 h23
  refine V_astore (pc := 64) F [(11, vR r22), (10, vR r20), (9, vR r18), (8, vR r16), (7, vR r14), (6, vR r12), (5, vR r10), (4, vR r8), (3, vR r6), (2, vR r4), (1, vR r1), (0, vR (some 0))] dL_law_64 (lt_mx hm (by decide)) rfl ?_
  refine V_bipush (pc := 66) F (x := (64 : Int32)) dL_law_66 (by decide) ?_
  refine V_newa (pc := 68) F 20 (by decide) g_arr_20 dL_law_68 ?_
  intro r24 h25
  refine V_astore (pc := 70) F [(12, vR r24), (11, vR r22), (10, vR r20), (9, vR r18), (8, vR r16), (7, vR r14), (6, vR r12), (5, vR r10), (4, vR r8), (3, vR r6), (2, vR r4), (1, vR r1), (0, vR (some 0))] dL_law_70 (lt_mx hm (by decide)) rfl ?_
  refine V_bipush (pc := 72) F (x := (60 : Int32)) dL_law_72 (by decide) ?_
  refine V_newa (pc := 74) F 20 (by decide) g_arr_20 dL_law_74 ?_
  intro r26 h27
  refine V_astore (pc := 76) F [(13, vR r26), (12, vR r24), (11, vR r22), (10, vR r20), (9, vR r18), (8, vR r16), (7, vR r14), (6, vR r12), (5, vR r10), (4, vR r8), (3, vR r6), (2, vR r4), (1, vR r1), (0, vR (some 0))] dL_law_76 (lt_mx hm (by decide)) rfl ?_
  refine V_bipush (pc := 78) F (x := (60 : Int32)) dL_law_78 (by decide) ?_
  refine V_newa (pc := 80) F 20 (by decide) g_arr_20 dL_law_80 ?_
  intro r28 h29
  refine V_astore (pc := 82) F [(14, vR r28), (13, vR r26), (12, vR r24), (11, vR r22), (10, vR r20), (9, vR r18), (8, vR r16), (7, vR r14), (6, vR r12), (5, vR r10), (4, vR r8), (3, vR r6), (2, vR r4), (1, vR r1), (0, vR (some 0))] dL_law_82 (lt_mx hm (by decide)) rfl ?_
  refine V_bipush (pc := 84) F (x := (60 : Int32)) dL_law_84 (by decide) ?_
  refine V_newa (pc := 86) F 20 (by decide) g_arr_20 dL_law_86 ?_
  intro r30 h31
  refine V_astore (pc := 88) F [(15, vR r30), (14, vR r28), (13, vR r26), (12, vR r24), (11, vR r22), (10, vR r20), (9, vR r18), (8, vR r16), (7, vR r14), (6, vR r12), (5, vR r10), (4, vR r8), (3, vR r6), (2, vR r4), (1, vR r1), (0, vR (some 0))] dL_law_88 (lt_mx hm (by decide)) rfl ?_
  refine V_bipush (pc := 90) F (x := (60 : Int32)) dL_law_90 (by decide) ?_
  refine V_newa (pc := 92) F 20 (by decide) g_arr_20 dL_law_92 ?_
  intro r32 h33
  refine V_astore (pc := 94) F [(16, vR r32), (15, vR r30), (14, vR r28), (13, vR r26), (12, vR r24), (11, vR r22), (10, vR r20), (9, vR r18), (8, vR r16), (7, vR r14), (6, vR r12), (5, vR r10), (4, vR r8), (3, vR r6), (2, vR r4), (1, vR r1), (0, vR (some 0))] dL_law_94 (lt_mx hm (by decide)) rfl ?_
  refine V_bipush (pc := 96) F (x := (16 : Int32)) dL_law_96 (by decide) ?_
  refine V_newa (pc := 98) F 20 (by decide) g_arr_20 dL_law_98 ?_
  intro r34 h35
  refine V_astore (pc := 100) F [(17, vR r34), (16, vR r32), (15, vR r30), (14, vR r28), (13, vR r26), (12, vR r24), (11, vR r22), (10, vR r20), (9, vR r18), (8, vR r16), (7, vR r14), (6, vR r12), (5, vR r10), (4, vR r8), (3, vR r6), (2, vR r4), (1, vR r1), (0, vR (some 0))] dL_law_100 (lt_mx hm (by decide)) rfl ?_
  refine V_iconst (pc := 102) F (x := (0 : Int32)) dL_law_102 (by decide) ?_
  refine V_istore (pc := 103) F [(18, vI (0 : Int32)), (17, vR r34), (16, vR r32), (15, vR r30), (14, vR r28), (13, vR r26), (12, vR r24), (11, vR r22), (10, vR r20), (9, vR r18), (8, vR r16), (7, vR r14), (6, vR r12), (5, vR r10), (4, vR r8), (3, vR r6), (2, vR r4), (1, vR r1), (0, vR (some 0))] dL_law_103 (lt_mx hm (by decide)) rfl ?_
  refine V_sub [18, 17, 16, 15, 14, 13, 12, 11, 10, 9, 8, 7, 6, 5, 4, 3, 2, 1, 0] (L' := [(0, vR (some 0)), (1, vR r1), (2, vR r4), (3, vR r6), (4, vR r8), (5, vR r10), (6, vR r12), (7, vR r14), (8, vR r16), (9, vR r18), (10, vR r20), (11, vR r22), (12, vR r24), (13, vR r26), (14, vR r28), (15, vR r30), (16, vR r32), (17, vR r34), (18, vI (0 : Int32))]) rfl ?_
  exact vL_L_law_105 F hm XF fuel r1 r4 r6 r8 r10 r12 r14 r16 r18 r20 r22 r24 r26 r28 r30 r32 r34 (0 : Int32) h35
