def B_L_tells_70 (rc38 : Option Nat → Option Nat → Option Nat → Option Nat → Option Nat → Option Nat → Option Nat → Option Nat → Option Nat → Int32 → Int32 → Int32 → MH → Res) (x0 : Option Nat) (x3 : Option Nat) (x4 : Option Nat) (x5 : Option Nat) (x6 : Option Nat) (x7 : Option Nat) (x8 : Option Nat) (x9 : Option Nat) (x16 : Option Nat) (x17 : Int32) (x19 : Int32) (s0 : Int32) (h : MH) : Res := bnd (x19 + (1)) fun z113 => rc38 x0 x3 x4 x5 x6 x7 x8 x9 x16 x17 s0 z113 h
def B_L_tells_69 (rc38 : Option Nat → Option Nat → Option Nat → Option Nat → Option Nat → Option Nat → Option Nat → Option Nat → Option Nat → Int32 → Int32 → Int32 → MH → Res) (x0 : Option Nat) (x3 : Option Nat) (x4 : Option Nat) (x5 : Option Nat) (x6 : Option Nat) (x7 : Option Nat) (x8 : Option Nat) (x9 : Option Nat) (x16 : Option Nat) (x17 : Int32) (x19 : Int32) (h : MH) : Res := B_L_tells_70 rc38 x0 x3 x4 x5 x6 x7 x8 x9 x16 x17 x19 (0 : Int32) h
def B_L_tells_113 (rc81 : Option Nat → Option Nat → Option Nat → Option Nat → Option Nat → Option Nat → Option Nat → Option Nat → Int32 → Int32 → Int32 → MH → Res) (x0 : Option Nat) (x3 : Option Nat) (x4 : Option Nat) (x5 : Option Nat) (x6 : Option Nat) (x7 : Option Nat) (x9 : Option Nat) (x16 : Option Nat) (x17 : Int32) (x19 : Int32) (s0 : Int32) (h : MH) : Res := bnd (x19 + (1)) fun z117 => rc81 x0 x3 x4 x5 x6 x7 x9 x16 x17 s0 z117 h
def B_L_tells_112 (rc81 : Option Nat → Option Nat → Option Nat → Option Nat → Option Nat → Option Nat → Option Nat → Option Nat → Int32 → Int32 → Int32 → MH → Res) (x0 : Option Nat) (x3 : Option Nat) (x4 : Option Nat) (x5 : Option Nat) (x6 : Option Nat) (x7 : Option Nat) (x9 : Option Nat) (x16 : Option Nat) (x17 : Int32) (x19 : Int32) (h : MH) : Res := B_L_tells_113 rc81 x0 x3 x4 x5 x6 x7 x9 x16 x17 x19 (0 : Int32) h
def B_L_tells_157 (rc124 : Option Nat → Option Nat → Option Nat → Option Nat → Option Nat → Option Nat → Option Nat → Int32 → Int32 → Int32 → MH → Res) (x0 : Option Nat) (x3 : Option Nat) (x4 : Option Nat) (x5 : Option Nat) (x6 : Option Nat) (x7 : Option Nat) (x16 : Option Nat) (x17 : Int32) (x19 : Int32) (s0 : Int32) (h : MH) : Res := bnd (x19 + (1)) fun z121 => rc124 x0 x3 x4 x5 x6 x7 x16 x17 s0 z121 h
def B_L_tells_156 (rc124 : Option Nat → Option Nat → Option Nat → Option Nat → Option Nat → Option Nat → Option Nat → Int32 → Int32 → Int32 → MH → Res) (x0 : Option Nat) (x3 : Option Nat) (x4 : Option Nat) (x5 : Option Nat) (x6 : Option Nat) (x7 : Option Nat) (x16 : Option Nat) (x17 : Int32) (x19 : Int32) (h : MH) : Res := B_L_tells_157 rc124 x0 x3 x4 x5 x6 x7 x16 x17 x19 (0 : Int32) h
def B_L_tells_201 (rc171 : Option Nat → Option Nat → Option Nat → Option Nat → Option Nat → Option Nat → Int32 → Int32 → Int32 → Int32 → MH → Res) (x0 : Option Nat) (x3 : Option Nat) (x4 : Option Nat) (x5 : Option Nat) (x6 : Option Nat) (x7 : Option Nat) (x17 : Int32) (x18 : Int32) (x20 : Int32) (s0 : Int32) (s1 : Int32) (h : MH) : Res := bnd (s0 + s1) fun z130 => bnd (x20 + (1)) fun z131 => rc171 x0 x3 x4 x5 x6 x7 x17 x18 z130 z131 h
def B_L_tells_196 (rc171 : Option Nat → Option Nat → Option Nat → Option Nat → Option Nat → Option Nat → Int32 → Int32 → Int32 → Int32 → MH → Res) (x0 : Option Nat) (x3 : Option Nat) (x4 : Option Nat) (x5 : Option Nat) (x6 : Option Nat) (x7 : Option Nat) (x17 : Int32) (x18 : Int32) (x20 : Int32) (s0 : Int32) (h : MH) : Res := B_L_tells_201 rc171 x0 x3 x4 x5 x6 x7 x17 x18 x20 s0 (1 : Int32) h
def B_L_tells_269 (s0 : Int32) (s1 : Int32) (h : MH) : Res := if s0 ≠ s1 then (rtZ (0 : Int32) h) else (rtZ (1 : Int32) h)
def B_L_tells_248 (x0 : Option Nat) (x17 : Int32) (x18 : Int32) (x19 : Int32) (h : MH) : Res := calI (M_L_calls x0 (0 : Int32) x17 (0 : Int32) (0 : Int32) h) fun z132 h133 => if x18 = 0 then (B_L_tells_269 z132 (-2000000003 : Int32) h133) else (B_L_tells_269 z132 x19 h133)
def B_L_tells_171 (rc171 : Option Nat → Option Nat → Option Nat → Option Nat → Option Nat → Option Nat → Int32 → Int32 → Int32 → Int32 → MH → Res) (x0 : Option Nat) (x3 : Option Nat) (x4 : Option Nat) (x5 : Option Nat) (x6 : Option Nat) (x7 : Option Nat) (x17 : Int32) (x18 : Int32) (x19 : Int32) (x20 : Int32) (h : MH) : Res := if (60 : Int32) ≤ x20 then (if x18 = 0 then (B_L_tells_248 x0 x17 x18 x19 h) else (rdI h x3 20 x17 fun z122 => bnd (z122 + (8 : Int32)) fun z123 => wrI h x3 20 x17 z123 fun h124 => wrI h124 x4 20 x17 (0 : Int32) fun h125 => wrI h125 x5 20 x17 (0 : Int32) fun h126 => wrI h126 x6 20 x17 (0 : Int32) fun h127 => wrI h127 x7 20 x17 (0 : Int32) fun h128 => B_L_tells_248 x0 x17 x18 x19 h128)) else (rdI h x3 20 x20 fun z129 => if (7 : Int32) < z129 then (B_L_tells_196 rc171 x0 x3 x4 x5 x6 x7 x17 x18 x20 x19 h) else (if x20 ≠ x17 then (B_L_tells_201 rc171 x0 x3 x4 x5 x6 x7 x17 x18 x20 x19 (0 : Int32) h) else (B_L_tells_196 rc171 x0 x3 x4 x5 x6 x7 x17 x18 x20 x19 h)))
def L_L_tells_171 : Nat → Option Nat → Option Nat → Option Nat → Option Nat → Option Nat → Option Nat → Int32 → Int32 → Int32 → Int32 → MH → Res
  | 0 => fun _ _ _ _ _ _ _ _ _ _ _ => none
  | n + 1 => B_L_tells_171 (L_L_tells_171 n)
def B_L_tells_124 (rc124 : Option Nat → Option Nat → Option Nat → Option Nat → Option Nat → Option Nat → Option Nat → Int32 → Int32 → Int32 → MH → Res) (x0 : Option Nat) (x3 : Option Nat) (x4 : Option Nat) (x5 : Option Nat) (x6 : Option Nat) (x7 : Option Nat) (x16 : Option Nat) (x17 : Int32) (x18 : Int32) (x19 : Int32) (h : MH) : Res := rdI h x16 20 (6 : Int32) fun z118 => if z118 ≤ x19 then (L_L_tells_171 fuel x0 x3 x4 x5 x6 x7 x17 x18 (0 : Int32) (0 : Int32) h) else (if x18 = 0 then (B_L_tells_156 rc124 x0 x3 x4 x5 x6 x7 x16 x17 x19 h) else (bnd ((14 : Int32) + x19) fun z119 => rdI h x16 20 z119 fun z120 => if z120 = x17 then (B_L_tells_156 rc124 x0 x3 x4 x5 x6 x7 x16 x17 x19 h) else (B_L_tells_157 rc124 x0 x3 x4 x5 x6 x7 x16 x17 x19 (1 : Int32) h)))
def L_L_tells_124 : Nat → Option Nat → Option Nat → Option Nat → Option Nat → Option Nat → Option Nat → Option Nat → Int32 → Int32 → Int32 → MH → Res
  | 0 => fun _ _ _ _ _ _ _ _ _ _ _ => none
  | n + 1 => B_L_tells_124 (L_L_tells_124 n)
def B_L_tells_81 (rc81 : Option Nat → Option Nat → Option Nat → Option Nat → Option Nat → Option Nat → Option Nat → Option Nat → Int32 → Int32 → Int32 → MH → Res) (x0 : Option Nat) (x3 : Option Nat) (x4 : Option Nat) (x5 : Option Nat) (x6 : Option Nat) (x7 : Option Nat) (x9 : Option Nat) (x16 : Option Nat) (x17 : Int32) (x18 : Int32) (x19 : Int32) (h : MH) : Res := rdI h x16 20 (3 : Int32) fun z114 => if z114 ≤ x19 then (L_L_tells_124 fuel x0 x3 x4 x5 x6 x7 x16 x17 x18 (0 : Int32) h) else (if x18 = 0 then (B_L_tells_112 rc81 x0 x3 x4 x5 x6 x7 x9 x16 x17 x19 h) else (rdI h x9 20 x19 fun z115 => rmI z115 (64 : Int32) fun z116 => if z116 = x17 then (B_L_tells_112 rc81 x0 x3 x4 x5 x6 x7 x9 x16 x17 x19 h) else (B_L_tells_113 rc81 x0 x3 x4 x5 x6 x7 x9 x16 x17 x19 (1 : Int32) h)))
def L_L_tells_81 : Nat → Option Nat → Option Nat → Option Nat → Option Nat → Option Nat → Option Nat → Option Nat → Option Nat → Int32 → Int32 → Int32 → MH → Res
  | 0 => fun _ _ _ _ _ _ _ _ _ _ _ _ => none
  | n + 1 => B_L_tells_81 (L_L_tells_81 n)
def B_L_tells_38 (rc38 : Option Nat → Option Nat → Option Nat → Option Nat → Option Nat → Option Nat → Option Nat → Option Nat → Option Nat → Int32 → Int32 → Int32 → MH → Res) (x0 : Option Nat) (x3 : Option Nat) (x4 : Option Nat) (x5 : Option Nat) (x6 : Option Nat) (x7 : Option Nat) (x8 : Option Nat) (x9 : Option Nat) (x16 : Option Nat) (x17 : Int32) (x18 : Int32) (x19 : Int32) (h : MH) : Res := rdI h x16 20 (2 : Int32) fun z110 => if z110 ≤ x19 then (L_L_tells_81 fuel x0 x3 x4 x5 x6 x7 x9 x16 x17 x18 (0 : Int32) h) else (if x18 = 0 then (B_L_tells_69 rc38 x0 x3 x4 x5 x6 x7 x8 x9 x16 x17 x19 h) else (bnd ((8 : Int32) * x19) fun z111 => rdI h x8 20 z111 fun z112 => if z112 = x17 then (B_L_tells_69 rc38 x0 x3 x4 x5 x6 x7 x8 x9 x16 x17 x19 h) else (B_L_tells_70 rc38 x0 x3 x4 x5 x6 x7 x8 x9 x16 x17 x19 (1 : Int32) h)))
def L_L_tells_38 : Nat → Option Nat → Option Nat → Option Nat → Option Nat → Option Nat → Option Nat → Option Nat → Option Nat → Option Nat → Int32 → Int32 → Int32 → MH → Res
  | 0 => fun _ _ _ _ _ _ _ _ _ _ _ _ _ => none
  | n + 1 => B_L_tells_38 (L_L_tells_38 n)
def B_L_tells_33 (x0 : Option Nat) (x3 : Option Nat) (x4 : Option Nat) (x5 : Option Nat) (x6 : Option Nat) (x7 : Option Nat) (x8 : Option Nat) (x9 : Option Nat) (x16 : Option Nat) (x17 : Int32) (s0 : Int32) (h : MH) : Res := L_L_tells_38 fuel x0 x3 x4 x5 x6 x7 x8 x9 x16 x17 s0 (0 : Int32) h
def B_L_tells_32 (x0 : Option Nat) (x3 : Option Nat) (x4 : Option Nat) (x5 : Option Nat) (x6 : Option Nat) (x7 : Option Nat) (x8 : Option Nat) (x9 : Option Nat) (x16 : Option Nat) (x17 : Int32) (h : MH) : Res := B_L_tells_33 x0 x3 x4 x5 x6 x7 x8 x9 x16 x17 (0 : Int32) h
def B_L_tells_562 (s0 : Int32) (s1 : Int32) (h : MH) : Res := if s0 ≠ s1 then (rtZ (0 : Int32) h) else (rtZ (1 : Int32) h)
def B_L_tells_535 (x0 : Option Nat) (x16 : Option Nat) (x17 : Int32) (x18 : Int32) (x19 : Int32) (x20 : Int32) (h : MH) : Res := calI (M_L_calls x0 (5 : Int32) x17 x18 x19 h) fun z155 h156 => if x20 = 0 then (B_L_tells_562 z155 (-2000000003 : Int32) h156) else (rdI h156 x16 20 (2 : Int32) fun z157 => bnd (z157 - (1 : Int32)) fun z158 => B_L_tells_562 z155 z158 h156)
def B_L_tells_449 (x0 : Option Nat) (x8 : Option Nat) (x16 : Option Nat) (x17 : Int32) (x18 : Int32) (x19 : Int32) (s0 : Int32) (h : MH) : Res := if s0 = 0 then (B_L_tells_535 x0 x16 x17 x18 x19 s0 h) else (rdI h x16 20 (2 : Int32) fun z134 => bnd ((8 : Int32) * z134) fun z135 => wrI h x8 20 z135 x17 fun h136 => bnd (z135 + (1 : Int32)) fun z137 => wrI h136 x8 20 z137 x18 fun h138 => bnd (z135 + (2 : Int32)) fun z139 => wrI h138 x8 20 z139 x18 fun h140 => bnd (z135 + (3 : Int32)) fun z141 => wrI h140 x8 20 z141 x19 fun h142 => bnd (z135 + (4 : Int32)) fun z143 => bnd (x17 * (7 : Int32)) fun z144 => bnd (x18 * (3 : Int32)) fun z145 => bnd (z144 + z145) fun z146 => bnd (z146 + x19) fun z147 => calI (M_L_low z147 (101 : Int32) h142) fun z148 h149 => bnd (z148 - (50 : Int32)) fun z150 => wrI h149 x8 20 z143 z150 fun h151 => rdI h151 x16 20 (2 : Int32) fun z152 => bnd (z152 + (1 : Int32)) fun z153 => wrI h151 x16 20 (2 : Int32) z153 fun h154 => B_L_tells_535 x0 x16 x17 x18 x19 s0 h154)
def B_L_tells_448 (x0 : Option Nat) (x8 : Option Nat) (x16 : Option Nat) (x17 : Int32) (x18 : Int32) (x19 : Int32) (h : MH) : Res := B_L_tells_449 x0 x8 x16 x17 x18 x19 (0 : Int32) h
def B_L_tells_696 (rc661 : Option Nat → Option Nat → Option Nat → Int32 → Int32 → Int32 → Int32 → MH → Res) (x0 : Option Nat) (x9 : Option Nat) (x16 : Option Nat) (x17 : Int32) (x18 : Int32) (x20 : Int32) (s0 : Int32) (h : MH) : Res := bnd (x20 + (1)) fun z178 => rc661 x0 x9 x16 x17 x18 s0 z178 h
def B_L_tells_695 (rc661 : Option Nat → Option Nat → Option Nat → Int32 → Int32 → Int32 → Int32 → MH → Res) (x0 : Option Nat) (x9 : Option Nat) (x16 : Option Nat) (x17 : Int32) (x18 : Int32) (x20 : Int32) (h : MH) : Res := B_L_tells_696 rc661 x0 x9 x16 x17 x18 x20 (0 : Int32) h
def B_L_tells_756 (s0 : Int32) (s1 : Int32) (h : MH) : Res := if s0 ≠ s1 then (rtZ (0 : Int32) h) else (rtZ (1 : Int32) h)
def B_L_tells_732 (x0 : Option Nat) (x16 : Option Nat) (x17 : Int32) (x18 : Int32) (x19 : Int32) (h : MH) : Res := calI (M_L_calls x0 (1 : Int32) x18 x17 (0 : Int32) h) fun z179 h180 => if x19 = 0 then (B_L_tells_756 z179 (-2000000003 : Int32) h180) else (rdI h180 x16 20 (3 : Int32) fun z181 => B_L_tells_756 z179 z181 h180)
def B_L_tells_661 (rc661 : Option Nat → Option Nat → Option Nat → Int32 → Int32 → Int32 → Int32 → MH → Res) (x0 : Option Nat) (x9 : Option Nat) (x16 : Option Nat) (x17 : Int32) (x18 : Int32) (x19 : Int32) (x20 : Int32) (h : MH) : Res := rdI h x16 20 (3 : Int32) fun z167 => if z167 ≤ x20 then (if x19 = 0 then (B_L_tells_732 x0 x16 x17 x18 x19 h) else (rdI h x16 20 (3 : Int32) fun z168 => bnd ((64 : Int32) * x18) fun z169 => bnd (z169 + x17) fun z170 => wrI h x9 20 z168 z170 fun h171 => rdI h171 x16 20 (3 : Int32) fun z172 => bnd (z172 + (1 : Int32)) fun z173 => wrI h171 x16 20 (3 : Int32) z173 fun h174 => B_L_tells_732 x0 x16 x17 x18 x19 h174)) else (if x19 = 0 then (B_L_tells_695 rc661 x0 x9 x16 x17 x18 x20 h) else (rdI h x9 20 x20 fun z175 => bnd ((64 : Int32) * x18) fun z176 => bnd (z176 + x17) fun z177 => if z175 = z177 then (B_L_tells_695 rc661 x0 x9 x16 x17 x18 x20 h) else (B_L_tells_696 rc661 x0 x9 x16 x17 x18 x20 (1 : Int32) h)))
def L_L_tells_661 : Nat → Option Nat → Option Nat → Option Nat → Int32 → Int32 → Int32 → Int32 → MH → Res
  | 0 => fun _ _ _ _ _ _ _ _ => none
  | n + 1 => B_L_tells_661 (L_L_tells_661 n)
def B_L_tells_656 (x0 : Option Nat) (x9 : Option Nat) (x16 : Option Nat) (x17 : Int32) (x18 : Int32) (s0 : Int32) (h : MH) : Res := L_L_tells_661 fuel x0 x9 x16 x17 x18 s0 (0 : Int32) h
def B_L_tells_655 (x0 : Option Nat) (x9 : Option Nat) (x16 : Option Nat) (x17 : Int32) (x18 : Int32) (h : MH) : Res := B_L_tells_656 x0 x9 x16 x17 x18 (0 : Int32) h
def B_L_tells_614 (x0 : Option Nat) (x2 : Int32) (x3 : Option Nat) (x9 : Option Nat) (x16 : Option Nat) (s0 : Int32) (h : MH) : Res := rdI h x16 20 (0 : Int32) fun z159 => bnd (z159 + (1 : Int32)) fun z160 => bnd (x2 >>> ((5 : Int32) &&& 31)) fun z161 => calI (M_L_low z161 (6 : Int32) h) fun z162 h163 => bnd (z160 + z162) fun z164 => rdI h163 x3 20 s0 fun z165 => if (8 : Int32) ≤ z165 then (B_L_tells_655 x0 x9 x16 s0 z164 h163) else (rdI h163 x16 20 (3 : Int32) fun z166 => if (30 : Int32) ≤ z166 then (B_L_tells_655 x0 x9 x16 s0 z164 h163) else (B_L_tells_656 x0 x9 x16 s0 z164 (1 : Int32) h163))
def B_L_tells_612 (x0 : Option Nat) (x2 : Int32) (x3 : Option Nat) (x9 : Option Nat) (x16 : Option Nat) (x17 : Int32) (h : MH) : Res := B_L_tells_614 x0 x2 x3 x9 x16 x17 h
def B_L_tells_865 (rc805 : Option Nat → Option Nat → Option Nat → Option Nat → Int32 → Int32 → Int32 → Int32 → MH → Res) (x0 : Option Nat) (x9 : Option Nat) (x10 : Option Nat) (x16 : Option Nat) (x18 : Int32) (x19 : Int32) (x21 : Int32) (s0 : Int32) (s1 : Int32) (h : MH) : Res := bnd (s0 + s1) fun z206 => bnd (x21 + (1)) fun z207 => rc805 x0 x9 x10 x16 x18 x19 z206 z207 h
def B_L_tells_864 (rc805 : Option Nat → Option Nat → Option Nat → Option Nat → Int32 → Int32 → Int32 → Int32 → MH → Res) (x0 : Option Nat) (x9 : Option Nat) (x10 : Option Nat) (x16 : Option Nat) (x18 : Int32) (x19 : Int32) (x21 : Int32) (s0 : Int32) (h : MH) : Res := B_L_tells_865 rc805 x0 x9 x10 x16 x18 x19 x21 s0 (0 : Int32) h
def B_L_tells_805 (rc805 : Option Nat → Option Nat → Option Nat → Option Nat → Int32 → Int32 → Int32 → Int32 → MH → Res) (x0 : Option Nat) (x9 : Option Nat) (x10 : Option Nat) (x16 : Option Nat) (x18 : Int32) (x19 : Int32) (x20 : Int32) (x21 : Int32) (h : MH) : Res := rdI h x16 20 (3 : Int32) fun z182 => if z182 ≤ x21 then (rdI h x16 20 (4 : Int32) fun z183 => if (20 : Int32) ≤ z183 then (calI (M_L_calls x0 (2 : Int32) x18 x19 (0 : Int32) h) fun z184 h185 => if z184 ≠ (-2000000003 : Int32) then (rtZ (0 : Int32) h185) else (rtZ (1 : Int32) h185)) else (rdI h x16 20 (4 : Int32) fun z186 => bnd ((2 : Int32) * z186) fun z187 => wrI h x10 20 z187 x18 fun h188 => rdI h188 x16 20 (4 : Int32) fun z189 => bnd ((2 : Int32) * z189) fun z190 => bnd (z190 + (1 : Int32)) fun z191 => wrI h188 x10 20 z191 x19 fun h192 => rdI h192 x16 20 (4 : Int32) fun z193 => bnd (z193 + (1 : Int32)) fun z194 => wrI h192 x16 20 (4 : Int32) z194 fun h195 => chk h195 x0 8 <| calI (M_X8_storm x0 x18 x19 h195) fun z196 h197 => if z196 ≠ x20 then (rtZ (0 : Int32) h197) else (rtZ (1 : Int32) h197))) else (rdI h x9 20 x21 fun z198 => dvI z198 (64 : Int32) fun z199 => if z199 < x18 then (B_L_tells_864 rc805 x0 x9 x10 x16 x18 x19 x21 x20 h) else (rdI h x9 20 x21 fun z200 => dvI z200 (64 : Int32) fun z201 => if x19 < z201 then (B_L_tells_864 rc805 x0 x9 x10 x16 x18 x19 x21 x20 h) else (rdI h x9 20 x21 fun z202 => dvI z202 (64 : Int32) fun z203 => calI (M_L_isStorm z203 x10 x16 h) fun z204 h205 => if z204 ≠ 0 then (B_L_tells_864 rc805 x0 x9 x10 x16 x18 x19 x21 x20 h205) else (B_L_tells_865 rc805 x0 x9 x10 x16 x18 x19 x21 x20 (1 : Int32) h205))))
def L_L_tells_805 : Nat → Option Nat → Option Nat → Option Nat → Option Nat → Int32 → Int32 → Int32 → Int32 → MH → Res
  | 0 => fun _ _ _ _ _ _ _ _ _ => none
  | n + 1 => B_L_tells_805 (L_L_tells_805 n)
def B_L_tells_993 (h : MH) : Res := rtZ (1 : Int32) h
def B_L_tells_1117 (s0 : Int32) (s1 : Int32) (h : MH) : Res := if s0 ≠ s1 then (rtZ (0 : Int32) h) else (rtZ (1 : Int32) h)
def B_L_tells_1091 (x0 : Option Nat) (x16 : Option Nat) (x17 : Int32) (x18 : Int32) (h : MH) : Res := calI (M_L_calls x0 (4 : Int32) x17 (0 : Int32) (0 : Int32) h) fun z220 h221 => if x18 = 0 then (B_L_tells_1117 z220 (-2000000003 : Int32) h221) else (rdI h221 x16 20 (6 : Int32) fun z222 => bnd (z222 - (1 : Int32)) fun z223 => B_L_tells_1117 z220 z223 h221)
def B_L_tells_1081 (x0 : Option Nat) (x16 : Option Nat) (x17 : Int32) (x18 : Int32) (s0 : Option Nat) (s1 : Int32) (s2 : Int32) (h : MH) : Res := wrI h s0 20 s1 s2 fun h216 => rdI h216 x16 20 (6 : Int32) fun z217 => bnd (z217 + (1 : Int32)) fun z218 => wrI h216 x16 20 (6 : Int32) z218 fun h219 => B_L_tells_1091 x0 x16 x17 x18 h219
def B_L_tells_1056 (x0 : Option Nat) (x15 : Option Nat) (x16 : Option Nat) (x17 : Int32) (x18 : Int32) (s0 : Option Nat) (s1 : Int32) (s2 : Int32) (h : MH) : Res := wrI h s0 20 s1 s2 fun h213 => rdI h213 x16 20 (6 : Int32) fun z214 => if z214 ≠ (1 : Int32) then (rdI h213 x15 20 x17 fun z215 => B_L_tells_1081 x0 x16 x17 x18 x15 x17 z215 h213) else (B_L_tells_1081 x0 x16 x17 x18 x15 x17 (10000 : Int32) h213)
def B_L_tells_1013 (x0 : Option Nat) (x14 : Option Nat) (x15 : Option Nat) (x16 : Option Nat) (x17 : Int32) (s0 : Int32) (h : MH) : Res := if s0 = 0 then (B_L_tells_1091 x0 x16 x17 s0 h) else (rdI h x16 20 (6 : Int32) fun z208 => bnd ((14 : Int32) + z208) fun z209 => wrI h x16 20 z209 x17 fun h210 => rdI h210 x16 20 (6 : Int32) fun z211 => if z211 ≠ 0 then (rdI h210 x14 20 x17 fun z212 => B_L_tells_1056 x0 x15 x16 x17 s0 x14 x17 z212 h210) else (B_L_tells_1056 x0 x15 x16 x17 s0 x14 x17 (10000 : Int32) h210))
def B_L_tells_1174 (x0 : Option Nat) (x14 : Option Nat) (x18 : Int32) (s0 : Int32) (h : MH) : Res := rdI h x14 20 s0 fun z224 => bnd (z224 * x18) fun z225 => dvI z225 (100 : Int32) fun z226 => rdI h x14 20 s0 fun z227 => bnd (z227 - z226) fun z228 => wrI h x14 20 s0 z228 fun h229 => chk h229 x0 8 <| calI (M_X8_leg x0 (0 : Int32) s0 x18 h229) fun z230 h231 => if z230 ≠ z226 then (rtZ (0 : Int32) h231) else (rtZ (1 : Int32) h231)
def B_L_tells_1257 (x0 : Option Nat) (x16 : Option Nat) (x18 : Int32) (s0 : Option Nat) (s1 : Int32) (s2 : Int32) (s3 : Int32) (h : MH) : Res := calI (M_L_low s2 s3 h) fun z232 h233 => wrI h233 s0 20 s1 z232 fun h234 => rdI h234 x16 20 (7 : Int32) fun z235 => chk h234 x0 8 <| calI (M_X8_bound x0 z235 h234) fun z236 h237 => if z236 ≠ x18 then (rtZ (0 : Int32) h237) else (rtZ (1 : Int32) h237)
def B_L_tells_1354 (x0 : Option Nat) (x18 : Int32) (x19 : Int32) (s0 : Option Nat) (s1 : Int32) (s2 : Int32) (h : MH) : Res := wrI h s0 20 s1 s2 fun h238 => calI (M_L_calls x0 (3 : Int32) x18 (0 : Int32) (0 : Int32) h238) fun z239 h240 => if z239 ≠ x19 then (rtZ (0 : Int32) h240) else (rtZ (1 : Int32) h240)
def M_L_tells (x0 : Option Nat) (x1 : Int32) (x2 : Int32) (x3 : Option Nat) (x4 : Option Nat) (x5 : Option Nat) (x6 : Option Nat) (x7 : Option Nat) (x8 : Option Nat) (x9 : Option Nat) (x10 : Option Nat) (x11 : Option Nat) (x12 : Option Nat) (x13 : Option Nat) (x14 : Option Nat) (x15 : Option Nat) (x16 : Option Nat) (h : MH) : Res := calI (M_L_low x2 (60 : Int32) h) fun z1 h2 => if x1 ≠ 0 then (if x1 ≠ (1 : Int32) then (if x1 ≠ (2 : Int32) then (if x1 ≠ (3 : Int32) then (if x1 ≠ (4 : Int32) then (if x1 ≠ (5 : Int32) then (if x1 ≠ (6 : Int32) then (if x1 ≠ (7 : Int32) then (if x1 ≠ (8 : Int32) then (if x1 ≠ (9 : Int32) then (rdI h2 x16 20 (5 : Int32) fun z3 => if z3 ≠ 0 then (bnd (x2 >>> ((2 : Int32) &&& 31)) fun z4 => rdI h2 x16 20 (5 : Int32) fun z5 => calI (M_L_low z4 z5 h2) fun z6 h7 => calI (M_L_flag z6 x12 x13 x16 h7) fun z8 h9 => bnd (x2 >>> ((6 : Int32) &&& 31)) fun z10 => calI (M_L_low z10 (4 : Int32) h9) fun z11 h12 => bnd (z11 - (1 : Int32)) fun z13 => rdI h12 x13 20 z6 fun z14 => rmI z14 (16 : Int32) fun z15 => bnd (z13 + (1 : Int32)) fun z16 => bnd ((16 : Int32) * z16) fun z17 => bnd (z15 + z17) fun z18 => wrI h12 x13 20 z6 z18 fun h19 => chk h19 x0 8 <| calI (M_X8_flag x0 z6 z13 h19) fun z20 h21 => if z20 ≠ z8 then (rtZ (0 : Int32) h21) else (rtZ (1 : Int32) h21)) else (rtZ (1 : Int32) h2)) else (rdI h2 x16 20 (2 : Int32) fun z22 => if z22 ≠ 0 then (bnd (x2 >>> ((3 : Int32) &&& 31)) fun z23 => rdI h2 x16 20 (2 : Int32) fun z24 => calI (M_L_low z23 z24 h2) fun z25 h26 => calI (M_L_calibrated z25 x11 x12 x13 x16 h26) fun z27 h28 => bnd ((8 : Int32) * z25) fun z29 => bnd (z29 + (5 : Int32)) fun z30 => if z27 ≠ (-2000000003 : Int32) then (B_L_tells_1354 x0 z25 z27 x8 z30 z27 h28) else (bnd ((8 : Int32) * z25) fun z31 => bnd (z31 + (5 : Int32)) fun z32 => rdI h28 x8 20 z32 fun z33 => B_L_tells_1354 x0 z25 z27 x8 z30 z33 h28)) else (rtZ (1 : Int32) h2))) else (rdI h2 x16 20 (7 : Int32) fun z34 => bnd (x2 >>> ((3 : Int32) &&& 31)) fun z35 => bnd (x2 >>> ((5 : Int32) &&& 31)) fun z36 => calI (M_L_low z36 (3 : Int32) h2) fun z37 h38 => if z37 ≠ 0 then (B_L_tells_1257 x0 x16 z34 x16 (7 : Int32) z35 (120 : Int32) h38) else (B_L_tells_1257 x0 x16 z34 x16 (7 : Int32) z35 (1001 : Int32) h38))) else (rdI h2 x16 20 (6 : Int32) fun z39 => if z39 ≠ 0 then (bnd (x2 >>> ((5 : Int32) &&& 31)) fun z40 => calI (M_L_low z40 (100 : Int32) h2) fun z41 h42 => bnd ((1 : Int32) + z41) fun z43 => bnd (x2 >>> ((3 : Int32) &&& 31)) fun z44 => calI (M_L_low z44 (3 : Int32) h42) fun z45 h46 => if z45 ≤ 0 then (B_L_tells_1174 x0 x14 z43 z1 h46) else (calI (M_L_best x14 h46) fun z47 h48 => B_L_tells_1174 x0 x14 z43 z47 h48)) else (rtZ (1 : Int32) h2))) else (rdI h2 x16 20 (6 : Int32) fun z49 => if z49 ≠ (2 : Int32) then (rdI h2 x3 20 z1 fun z50 => if (8 : Int32) ≤ z50 then (B_L_tells_1013 x0 x14 x15 x16 z1 (0 : Int32) h2) else (B_L_tells_1013 x0 x14 x15 x16 z1 (1 : Int32) h2)) else (rdI h2 x3 20 z1 fun z51 => if z51 < (8 : Int32) then (B_L_tells_993 h2) else (calI (M_L_calls x0 (4 : Int32) z1 (0 : Int32) (0 : Int32) h2) fun z52 h53 => if z52 ≠ (-2000000003 : Int32) then (rtZ (0 : Int32) h53) else (B_L_tells_993 h53))))) else (rdI h2 x16 20 (0 : Int32) fun z54 => bnd (z54 + (1 : Int32)) fun z55 => bnd (x2 >>> ((2 : Int32) &&& 31)) fun z56 => calI (M_L_low z56 (8 : Int32) h2) fun z57 h58 => bnd (z55 + z57) fun z59 => bnd (x2 >>> ((5 : Int32) &&& 31)) fun z60 => calI (M_L_low z60 (4 : Int32) h58) fun z61 h62 => bnd (z59 + z61) fun z63 => L_L_tells_805 fuel x0 x9 x10 x16 z59 z63 (0 : Int32) (0 : Int32) h62)) else (rdI h2 x16 20 (2 : Int32) fun z64 => if z64 ≤ 0 then (B_L_tells_612 x0 x2 x3 x9 x16 z1 h2) else (bnd (x2 >>> ((3 : Int32) &&& 31)) fun z65 => calI (M_L_low z65 (4 : Int32) h2) fun z66 h67 => if z66 ≤ 0 then (B_L_tells_612 x0 x2 x3 x9 x16 z1 h67) else (bnd (x2 >>> ((4 : Int32) &&& 31)) fun z68 => rdI h67 x16 20 (2 : Int32) fun z69 => calI (M_L_low z68 z69 h67) fun z70 h71 => bnd ((8 : Int32) * z70) fun z72 => rdI h71 x8 20 z72 fun z73 => B_L_tells_614 x0 x2 x3 x9 x16 z73 h71)))) else (bnd (x2 >>> ((4 : Int32) &&& 31)) fun z74 => calI (M_L_low z74 (4 : Int32) h2) fun z75 h76 => bnd ((1 : Int32) + z75) fun z77 => bnd (x2 >>> ((6 : Int32) &&& 31)) fun z78 => calI (M_L_low z78 (3 : Int32) h76) fun z79 h80 => bnd ((1 : Int32) + z79) fun z81 => rdI h80 x3 20 z1 fun z82 => if (8 : Int32) ≤ z82 then (B_L_tells_448 x0 x8 x16 z1 z77 z81 h80) else (rdI h80 x16 20 (2 : Int32) fun z83 => if (8 : Int32) ≤ z83 then (B_L_tells_448 x0 x8 x16 z1 z77 z81 h80) else (B_L_tells_449 x0 x8 x16 z1 z77 z81 (1 : Int32) h80)))) else (rmI z1 (6 : Int32) fun z84 => bnd ((8 : Int32) + z84) fun z85 => rdI h2 x16 20 z85 fun z86 => bnd ((8 : Int32) + z84) fun z87 => bnd (x2 >>> ((4 : Int32) &&& 31)) fun z88 => calI (M_L_low z88 (101 : Int32) h2) fun z89 h90 => bnd (z89 - (50 : Int32)) fun z91 => wrI h90 x16 20 z87 z91 fun h92 => bnd ((8 : Int32) + z84) fun z93 => rdI h92 x16 20 z93 fun z94 => chk h92 x0 8 <| calI (M_X8_sun x0 z84 z94 h92) fun z95 h96 => if z95 ≠ z86 then (rtZ (0 : Int32) h96) else (rtZ (1 : Int32) h96))) else (rdI h2 x3 20 z1 fun z97 => rmI z97 (8 : Int32) fun z98 => bnd (x2 >>> ((4 : Int32) &&& 31)) fun z99 => calI (M_L_low z99 (5 : Int32) h2) fun z100 h101 => rdI h101 x3 20 z1 fun z102 => bnd (z100 - z98) fun z103 => bnd (z102 + z103) fun z104 => wrI h101 x3 20 z1 z104 fun h105 => chk h105 x0 8 <| calI (M_X8_current x0 z1 z100 h105) fun z106 h107 => if z106 ≠ z98 then (rtZ (0 : Int32) h107) else (rtZ (1 : Int32) h107))) else (rdI h2 x3 20 z1 fun z108 => if (8 : Int32) ≤ z108 then (B_L_tells_32 x0 x3 x4 x5 x6 x7 x8 x9 x16 z1 h2) else (rdI h2 x16 20 (0 : Int32) fun z109 => if z109 ≠ 0 then (B_L_tells_32 x0 x3 x4 x5 x6 x7 x8 x9 x16 z1 h2) else (B_L_tells_33 x0 x3 x4 x5 x6 x7 x8 x9 x16 z1 (1 : Int32) h2)))
theorem vB_L_tells_70 {K : CT} (F : Fr K cL_tells RL (some .boolean) [] 10 1) (hm : mxL K = 22) (rc38 : Option Nat → Option Nat → Option Nat → Option Nat → Option Nat → Option Nat → Option Nat → Option Nat → Option Nat → Int32 → Int32 → Int32 → MH → Res) (hrc38 : ∀ x0 x3 x4 x5 x6 x7 x8 x9 x16 x17 x18 x19 h, V K 38 [(0, vR x0), (3, vR x3), (4, vR x4), (5, vR x5), (6, vR x6), (7, vR x7), (8, vR x8), (9, vR x9), (16, vR x16), (17, vI x17), (18, vI x18), (19, vI x19)] [] h (rc38 x0 x3 x4 x5 x6 x7 x8 x9 x16 x17 x18 x19 h)) (x0 : Option Nat) (x3 : Option Nat) (x4 : Option Nat) (x5 : Option Nat) (x6 : Option Nat) (x7 : Option Nat) (x8 : Option Nat) (x9 : Option Nat) (x16 : Option Nat) (x17 : Int32) (x19 : Int32) (s0 : Int32) (h : MH) : V K 70 [(0, vR x0), (3, vR x3), (4, vR x4), (5, vR x5), (6, vR x6), (7, vR x7), (8, vR x8), (9, vR x9), (16, vR x16), (17, vI x17), (19, vI x19)] [vI s0] h (B_L_tells_70 rc38 x0 x3 x4 x5 x6 x7 x8 x9 x16 x17 x19 s0 h) := by
  unfold B_L_tells_70
  refine V_istore (pc := 70) F [(18, vI s0), (0, vR x0), (3, vR x3), (4, vR x4), (5, vR x5), (6, vR x6), (7, vR x7), (8, vR x8), (9, vR x9), (16, vR x16), (17, vI x17), (19, vI x19)] dL_tells_70 (lt_mx hm (by decide)) rfl ?_
  refine V_iinc (pc := 72) F (fun z113 => [(19, vI z113), (18, vI s0), (0, vR x0), (3, vR x3), (4, vR x4), (5, vR x5), (6, vR x6), (7, vR x7), (8, vR x8), (9, vR x9), (16, vR x16), (17, vI x17)]) dL_tells_72 (lt_mx hm (by decide)) 11 rfl (dx := (1 : Int32)) (by decide) (fun _ => rfl) ?_
  intro z113
  refine V_goto (pc := 75) F 38 dL_tells_75 (by decide) ?_
  refine V_sub [2, 3, 4, 5, 6, 7, 8, 9, 10, 11, 1, 0] (L' := [(0, vR x0), (3, vR x3), (4, vR x4), (5, vR x5), (6, vR x6), (7, vR x7), (8, vR x8), (9, vR x9), (16, vR x16), (17, vI x17), (18, vI s0), (19, vI z113)]) rfl ?_
  exact hrc38 x0 x3 x4 x5 x6 x7 x8 x9 x16 x17 s0 z113 h
theorem vB_L_tells_69 {K : CT} (F : Fr K cL_tells RL (some .boolean) [] 10 1) (hm : mxL K = 22) (rc38 : Option Nat → Option Nat → Option Nat → Option Nat → Option Nat → Option Nat → Option Nat → Option Nat → Option Nat → Int32 → Int32 → Int32 → MH → Res) (hrc38 : ∀ x0 x3 x4 x5 x6 x7 x8 x9 x16 x17 x18 x19 h, V K 38 [(0, vR x0), (3, vR x3), (4, vR x4), (5, vR x5), (6, vR x6), (7, vR x7), (8, vR x8), (9, vR x9), (16, vR x16), (17, vI x17), (18, vI x18), (19, vI x19)] [] h (rc38 x0 x3 x4 x5 x6 x7 x8 x9 x16 x17 x18 x19 h)) (x0 : Option Nat) (x3 : Option Nat) (x4 : Option Nat) (x5 : Option Nat) (x6 : Option Nat) (x7 : Option Nat) (x8 : Option Nat) (x9 : Option Nat) (x16 : Option Nat) (x17 : Int32) (x19 : Int32) (h : MH) : V K 69 [(0, vR x0), (3, vR x3), (4, vR x4), (5, vR x5), (6, vR x6), (7, vR x7), (8, vR x8), (9, vR x9), (16, vR x16), (17, vI x17), (19, vI x19)] [] h (B_L_tells_69 rc38 x0 x3 x4 x5 x6 x7 x8 x9 x16 x17 x19 h) := by
  unfold B_L_tells_69
  refine V_iconst (pc := 69) F (x := (0 : Int32)) dL_tells_69 (by decide) ?_
  exact vB_L_tells_70 F hm rc38 hrc38 x0 x3 x4 x5 x6 x7 x8 x9 x16 x17 x19 (0 : Int32) h
theorem vB_L_tells_113 {K : CT} (F : Fr K cL_tells RL (some .boolean) [] 10 1) (hm : mxL K = 22) (rc81 : Option Nat → Option Nat → Option Nat → Option Nat → Option Nat → Option Nat → Option Nat → Option Nat → Int32 → Int32 → Int32 → MH → Res) (hrc81 : ∀ x0 x3 x4 x5 x6 x7 x9 x16 x17 x18 x19 h, V K 81 [(0, vR x0), (3, vR x3), (4, vR x4), (5, vR x5), (6, vR x6), (7, vR x7), (9, vR x9), (16, vR x16), (17, vI x17), (18, vI x18), (19, vI x19)] [] h (rc81 x0 x3 x4 x5 x6 x7 x9 x16 x17 x18 x19 h)) (x0 : Option Nat) (x3 : Option Nat) (x4 : Option Nat) (x5 : Option Nat) (x6 : Option Nat) (x7 : Option Nat) (x9 : Option Nat) (x16 : Option Nat) (x17 : Int32) (x19 : Int32) (s0 : Int32) (h : MH) : V K 113 [(0, vR x0), (3, vR x3), (4, vR x4), (5, vR x5), (6, vR x6), (7, vR x7), (9, vR x9), (16, vR x16), (17, vI x17), (19, vI x19)] [vI s0] h (B_L_tells_113 rc81 x0 x3 x4 x5 x6 x7 x9 x16 x17 x19 s0 h) := by
  unfold B_L_tells_113
  refine V_istore (pc := 113) F [(18, vI s0), (0, vR x0), (3, vR x3), (4, vR x4), (5, vR x5), (6, vR x6), (7, vR x7), (9, vR x9), (16, vR x16), (17, vI x17), (19, vI x19)] dL_tells_113 (lt_mx hm (by decide)) rfl ?_
  refine V_iinc (pc := 115) F (fun z117 => [(19, vI z117), (18, vI s0), (0, vR x0), (3, vR x3), (4, vR x4), (5, vR x5), (6, vR x6), (7, vR x7), (9, vR x9), (16, vR x16), (17, vI x17)]) dL_tells_115 (lt_mx hm (by decide)) 10 rfl (dx := (1 : Int32)) (by decide) (fun _ => rfl) ?_
  intro z117
  refine V_goto (pc := 118) F 81 dL_tells_118 (by decide) ?_
  refine V_sub [2, 3, 4, 5, 6, 7, 8, 9, 10, 1, 0] (L' := [(0, vR x0), (3, vR x3), (4, vR x4), (5, vR x5), (6, vR x6), (7, vR x7), (9, vR x9), (16, vR x16), (17, vI x17), (18, vI s0), (19, vI z117)]) rfl ?_
  exact hrc81 x0 x3 x4 x5 x6 x7 x9 x16 x17 s0 z117 h
theorem vB_L_tells_112 {K : CT} (F : Fr K cL_tells RL (some .boolean) [] 10 1) (hm : mxL K = 22) (rc81 : Option Nat → Option Nat → Option Nat → Option Nat → Option Nat → Option Nat → Option Nat → Option Nat → Int32 → Int32 → Int32 → MH → Res) (hrc81 : ∀ x0 x3 x4 x5 x6 x7 x9 x16 x17 x18 x19 h, V K 81 [(0, vR x0), (3, vR x3), (4, vR x4), (5, vR x5), (6, vR x6), (7, vR x7), (9, vR x9), (16, vR x16), (17, vI x17), (18, vI x18), (19, vI x19)] [] h (rc81 x0 x3 x4 x5 x6 x7 x9 x16 x17 x18 x19 h)) (x0 : Option Nat) (x3 : Option Nat) (x4 : Option Nat) (x5 : Option Nat) (x6 : Option Nat) (x7 : Option Nat) (x9 : Option Nat) (x16 : Option Nat) (x17 : Int32) (x19 : Int32) (h : MH) : V K 112 [(0, vR x0), (3, vR x3), (4, vR x4), (5, vR x5), (6, vR x6), (7, vR x7), (9, vR x9), (16, vR x16), (17, vI x17), (19, vI x19)] [] h (B_L_tells_112 rc81 x0 x3 x4 x5 x6 x7 x9 x16 x17 x19 h) := by
  unfold B_L_tells_112
  refine V_iconst (pc := 112) F (x := (0 : Int32)) dL_tells_112 (by decide) ?_
  exact vB_L_tells_113 F hm rc81 hrc81 x0 x3 x4 x5 x6 x7 x9 x16 x17 x19 (0 : Int32) h
theorem vB_L_tells_157 {K : CT} (F : Fr K cL_tells RL (some .boolean) [] 10 1) (hm : mxL K = 22) (rc124 : Option Nat → Option Nat → Option Nat → Option Nat → Option Nat → Option Nat → Option Nat → Int32 → Int32 → Int32 → MH → Res) (hrc124 : ∀ x0 x3 x4 x5 x6 x7 x16 x17 x18 x19 h, V K 124 [(0, vR x0), (3, vR x3), (4, vR x4), (5, vR x5), (6, vR x6), (7, vR x7), (16, vR x16), (17, vI x17), (18, vI x18), (19, vI x19)] [] h (rc124 x0 x3 x4 x5 x6 x7 x16 x17 x18 x19 h)) (x0 : Option Nat) (x3 : Option Nat) (x4 : Option Nat) (x5 : Option Nat) (x6 : Option Nat) (x7 : Option Nat) (x16 : Option Nat) (x17 : Int32) (x19 : Int32) (s0 : Int32) (h : MH) : V K 157 [(0, vR x0), (3, vR x3), (4, vR x4), (5, vR x5), (6, vR x6), (7, vR x7), (16, vR x16), (17, vI x17), (19, vI x19)] [vI s0] h (B_L_tells_157 rc124 x0 x3 x4 x5 x6 x7 x16 x17 x19 s0 h) := by
  unfold B_L_tells_157
  refine V_istore (pc := 157) F [(18, vI s0), (0, vR x0), (3, vR x3), (4, vR x4), (5, vR x5), (6, vR x6), (7, vR x7), (16, vR x16), (17, vI x17), (19, vI x19)] dL_tells_157 (lt_mx hm (by decide)) rfl ?_
  refine V_iinc (pc := 159) F (fun z121 => [(19, vI z121), (18, vI s0), (0, vR x0), (3, vR x3), (4, vR x4), (5, vR x5), (6, vR x6), (7, vR x7), (16, vR x16), (17, vI x17)]) dL_tells_159 (lt_mx hm (by decide)) 9 rfl (dx := (1 : Int32)) (by decide) (fun _ => rfl) ?_
  intro z121
  refine V_goto (pc := 162) F 124 dL_tells_162 (by decide) ?_
  refine V_sub [2, 3, 4, 5, 6, 7, 8, 9, 1, 0] (L' := [(0, vR x0), (3, vR x3), (4, vR x4), (5, vR x5), (6, vR x6), (7, vR x7), (16, vR x16), (17, vI x17), (18, vI s0), (19, vI z121)]) rfl ?_
  exact hrc124 x0 x3 x4 x5 x6 x7 x16 x17 s0 z121 h
theorem vB_L_tells_156 {K : CT} (F : Fr K cL_tells RL (some .boolean) [] 10 1) (hm : mxL K = 22) (rc124 : Option Nat → Option Nat → Option Nat → Option Nat → Option Nat → Option Nat → Option Nat → Int32 → Int32 → Int32 → MH → Res) (hrc124 : ∀ x0 x3 x4 x5 x6 x7 x16 x17 x18 x19 h, V K 124 [(0, vR x0), (3, vR x3), (4, vR x4), (5, vR x5), (6, vR x6), (7, vR x7), (16, vR x16), (17, vI x17), (18, vI x18), (19, vI x19)] [] h (rc124 x0 x3 x4 x5 x6 x7 x16 x17 x18 x19 h)) (x0 : Option Nat) (x3 : Option Nat) (x4 : Option Nat) (x5 : Option Nat) (x6 : Option Nat) (x7 : Option Nat) (x16 : Option Nat) (x17 : Int32) (x19 : Int32) (h : MH) : V K 156 [(0, vR x0), (3, vR x3), (4, vR x4), (5, vR x5), (6, vR x6), (7, vR x7), (16, vR x16), (17, vI x17), (19, vI x19)] [] h (B_L_tells_156 rc124 x0 x3 x4 x5 x6 x7 x16 x17 x19 h) := by
  unfold B_L_tells_156
  refine V_iconst (pc := 156) F (x := (0 : Int32)) dL_tells_156 (by decide) ?_
  exact vB_L_tells_157 F hm rc124 hrc124 x0 x3 x4 x5 x6 x7 x16 x17 x19 (0 : Int32) h
theorem vB_L_tells_201 {K : CT} (F : Fr K cL_tells RL (some .boolean) [] 10 1) (hm : mxL K = 22) (rc171 : Option Nat → Option Nat → Option Nat → Option Nat → Option Nat → Option Nat → Int32 → Int32 → Int32 → Int32 → MH → Res) (hrc171 : ∀ x0 x3 x4 x5 x6 x7 x17 x18 x19 x20 h, V K 171 [(0, vR x0), (3, vR x3), (4, vR x4), (5, vR x5), (6, vR x6), (7, vR x7), (17, vI x17), (18, vI x18), (19, vI x19), (20, vI x20)] [] h (rc171 x0 x3 x4 x5 x6 x7 x17 x18 x19 x20 h)) (x0 : Option Nat) (x3 : Option Nat) (x4 : Option Nat) (x5 : Option Nat) (x6 : Option Nat) (x7 : Option Nat) (x17 : Int32) (x18 : Int32) (x20 : Int32) (s0 : Int32) (s1 : Int32) (h : MH) : V K 201 [(0, vR x0), (3, vR x3), (4, vR x4), (5, vR x5), (6, vR x6), (7, vR x7), (17, vI x17), (18, vI x18), (20, vI x20)] [vI s1, vI s0] h (B_L_tells_201 rc171 x0 x3 x4 x5 x6 x7 x17 x18 x20 s0 s1 h) := by
  unfold B_L_tells_201
  refine V_iadd (pc := 201) F dL_tells_201 ?_
  intro z130
  refine V_istore (pc := 202) F [(19, vI z130), (0, vR x0), (3, vR x3), (4, vR x4), (5, vR x5), (6, vR x6), (7, vR x7), (17, vI x17), (18, vI x18), (20, vI x20)] dL_tells_202 (lt_mx hm (by decide)) rfl ?_
  refine V_iinc (pc := 204) F (fun z131 => [(20, vI z131), (19, vI z130), (0, vR x0), (3, vR x3), (4, vR x4), (5, vR x5), (6, vR x6), (7, vR x7), (17, vI x17), (18, vI x18)]) dL_tells_204 (lt_mx hm (by decide)) 9 rfl (dx := (1 : Int32)) (by decide) (fun _ => rfl) ?_
  intro z131
  refine V_goto (pc := 207) F 171 dL_tells_207 (by decide) ?_
  refine V_sub [2, 3, 4, 5, 6, 7, 8, 9, 1, 0] (L' := [(0, vR x0), (3, vR x3), (4, vR x4), (5, vR x5), (6, vR x6), (7, vR x7), (17, vI x17), (18, vI x18), (19, vI z130), (20, vI z131)]) rfl ?_
  exact hrc171 x0 x3 x4 x5 x6 x7 x17 x18 z130 z131 h
theorem vB_L_tells_196 {K : CT} (F : Fr K cL_tells RL (some .boolean) [] 10 1) (hm : mxL K = 22) (rc171 : Option Nat → Option Nat → Option Nat → Option Nat → Option Nat → Option Nat → Int32 → Int32 → Int32 → Int32 → MH → Res) (hrc171 : ∀ x0 x3 x4 x5 x6 x7 x17 x18 x19 x20 h, V K 171 [(0, vR x0), (3, vR x3), (4, vR x4), (5, vR x5), (6, vR x6), (7, vR x7), (17, vI x17), (18, vI x18), (19, vI x19), (20, vI x20)] [] h (rc171 x0 x3 x4 x5 x6 x7 x17 x18 x19 x20 h)) (x0 : Option Nat) (x3 : Option Nat) (x4 : Option Nat) (x5 : Option Nat) (x6 : Option Nat) (x7 : Option Nat) (x17 : Int32) (x18 : Int32) (x20 : Int32) (s0 : Int32) (h : MH) : V K 196 [(0, vR x0), (3, vR x3), (4, vR x4), (5, vR x5), (6, vR x6), (7, vR x7), (17, vI x17), (18, vI x18), (20, vI x20)] [vI s0] h (B_L_tells_196 rc171 x0 x3 x4 x5 x6 x7 x17 x18 x20 s0 h) := by
  unfold B_L_tells_196
  refine V_iconst (pc := 196) F (x := (1 : Int32)) dL_tells_196 (by decide) ?_
  refine V_goto (pc := 197) F 201 dL_tells_197 (by decide) ?_
  exact vB_L_tells_201 F hm rc171 hrc171 x0 x3 x4 x5 x6 x7 x17 x18 x20 s0 (1 : Int32) h
theorem vB_L_tells_269 {K : CT} (F : Fr K cL_tells RL (some .boolean) [] 10 1) (hm : mxL K = 22) (s0 : Int32) (s1 : Int32) (h : MH) : V K 269 [] [vI s1, vI s0] h (B_L_tells_269 s0 s1 h) := by
  unfold B_L_tells_269
  refine V_icmp_ne (pc := 269) F 276 dL_tells_269 (by decide) ?_ ?_
  · refine V_iconst (pc := 276) F (x := (0 : Int32)) dL_tells_276 (by decide) ?_
    exact V_zret (pc := 277) F (Or.inr rfl) dL_tells_277
  · refine V_iconst (pc := 272) F (x := (1 : Int32)) dL_tells_272 (by decide) ?_
    refine V_goto (pc := 273) F 277 dL_tells_273 (by decide) ?_
    exact V_zret (pc := 277) F (Or.inr rfl) dL_tells_277
theorem vB_L_tells_248 {K : CT} (F : Fr K cL_tells RL (some .boolean) [] 10 1) (hm : mxL K = 22) (x0 : Option Nat) (x17 : Int32) (x18 : Int32) (x19 : Int32) (h : MH) : V K 248 [(0, vR x0), (17, vI x17), (18, vI x18), (19, vI x19)] [] h (B_L_tells_248 x0 x17 x18 x19 h) := by
  unfold B_L_tells_248
  refine V_aload_n (pc := 248) F dL_tells_248 0 rfl ?_
  refine V_iconst (pc := 249) F (x := (0 : Int32)) dL_tells_249 (by decide) ?_
  refine V_iload (pc := 250) F dL_tells_250 1 rfl ?_
  refine V_iconst (pc := 252) F (x := (0 : Int32)) dL_tells_252 (by decide) ?_
  refine V_iconst (pc := 253) F (x := (0 : Int32)) dL_tells_253 (by decide) ?_
  refine V_cSW (pc := 254) F (as := [vR x0, vI (0 : Int32), vI x17, vI (0 : Int32), vI (0 : Int32)]) (C_L_calls x0 (0 : Int32) x17 (0 : Int32) (0 : Int32) h) w_L_calls g_st_L_calls g_ml_RL_130 (by decide) (rest := []) rfl rfl (Nat.le_of_ble_eq_true rfl) dL_tells_254 (k_I fun z132 h133 => ?_) (fun _ _ => VX_out F)
  refine V_iload (pc := 257) F dL_tells_257 2 rfl ?_
  refine V_if_eq (pc := 259) F 267 dL_tells_259 (by decide) ?_ ?_
  · refine V_ldc (pc := 267) F (x := (-2000000003 : Int32)) g_co_RL_50 dL_tells_267 ?_
    refine V_sub [] (L' := []) rfl ?_
    exact vB_L_tells_269 F hm z132 (-2000000003 : Int32) h133
  · refine V_iload (pc := 262) F dL_tells_262 3 rfl ?_
    refine V_goto (pc := 264) F 269 dL_tells_264 (by decide) ?_
    refine V_sub [] (L' := []) rfl ?_
    exact vB_L_tells_269 F hm z132 x19 h133
theorem vB_L_tells_171 {K : CT} (F : Fr K cL_tells RL (some .boolean) [] 10 1) (hm : mxL K = 22) (rc171 : Option Nat → Option Nat → Option Nat → Option Nat → Option Nat → Option Nat → Int32 → Int32 → Int32 → Int32 → MH → Res) (hrc171 : ∀ x0 x3 x4 x5 x6 x7 x17 x18 x19 x20 h, V K 171 [(0, vR x0), (3, vR x3), (4, vR x4), (5, vR x5), (6, vR x6), (7, vR x7), (17, vI x17), (18, vI x18), (19, vI x19), (20, vI x20)] [] h (rc171 x0 x3 x4 x5 x6 x7 x17 x18 x19 x20 h)) (x0 : Option Nat) (x3 : Option Nat) (x4 : Option Nat) (x5 : Option Nat) (x6 : Option Nat) (x7 : Option Nat) (x17 : Int32) (x18 : Int32) (x19 : Int32) (x20 : Int32) (h : MH) : V K 171 [(0, vR x0), (3, vR x3), (4, vR x4), (5, vR x5), (6, vR x6), (7, vR x7), (17, vI x17), (18, vI x18), (19, vI x19), (20, vI x20)] [] h (B_L_tells_171 rc171 x0 x3 x4 x5 x6 x7 x17 x18 x19 x20 h) := by
  unfold B_L_tells_171
  refine V_iload (pc := 171) F dL_tells_171 9 rfl ?_
  refine V_bipush (pc := 173) F (x := (60 : Int32)) dL_tells_173 (by decide) ?_
  refine V_icmp_ge (pc := 175) F 210 dL_tells_175 (by decide) ?_ ?_
  · refine V_iload (pc := 210) F dL_tells_210 7 rfl ?_
    refine V_if_eq (pc := 212) F 248 dL_tells_212 (by decide) ?_ ?_
    · refine V_sub [0, 6, 7, 8] (L' := [(0, vR x0), (17, vI x17), (18, vI x18), (19, vI x19)]) rfl ?_
      exact vB_L_tells_248 F hm x0 x17 x18 x19 h
    · refine V_aload_n (pc := 215) F dL_tells_215 1 rfl ?_
      refine V_iload (pc := 216) F dL_tells_216 6 rfl ?_
      refine V_dup2 (pc := 218) F dL_tells_218 rfl rfl ?_
      refine V_iald (pc := 219) F dL_tells_219 ?_
      intro z122
      refine V_bipush (pc := 220) F (x := (8 : Int32)) dL_tells_220 (by decide) ?_
      refine V_iadd (pc := 222) F dL_tells_222 ?_
      intro z123
      refine V_iast (pc := 223) F dL_tells_223 ?_
      intro h124
      refine V_aload (pc := 224) F dL_tells_224 2 rfl ?_
      refine V_iload (pc := 226) F dL_tells_226 6 rfl ?_
      refine V_iconst (pc := 228) F (x := (0 : Int32)) dL_tells_228 (by decide) ?_
      refine V_iast (pc := 229) F dL_tells_229 ?_
      intro h125
      refine V_aload (pc := 230) F dL_tells_230 3 rfl ?_
      refine V_iload (pc := 232) F dL_tells_232 6 rfl ?_
      refine V_iconst (pc := 234) F (x := (0 : Int32)) dL_tells_234 (by decide) ?_
      refine V_iast (pc := 235) F dL_tells_235 ?_
      intro h126
      refine V_aload (pc := 236) F dL_tells_236 4 rfl ?_
      refine V_iload (pc := 238) F dL_tells_238 6 rfl ?_
      refine V_iconst (pc := 240) F (x := (0 : Int32)) dL_tells_240 (by decide) ?_
      refine V_iast (pc := 241) F dL_tells_241 ?_
      intro h127
      refine V_aload (pc := 242) F dL_tells_242 5 rfl ?_
      refine V_iload (pc := 244) F dL_tells_244 6 rfl ?_
      refine V_iconst (pc := 246) F (x := (0 : Int32)) dL_tells_246 (by decide) ?_
      refine V_iast (pc := 247) F dL_tells_247 ?_
      intro h128
      refine V_sub [0, 6, 7, 8] (L' := [(0, vR x0), (17, vI x17), (18, vI x18), (19, vI x19)]) rfl ?_
      exact vB_L_tells_248 F hm x0 x17 x18 x19 h128
  · refine V_iload (pc := 178) F dL_tells_178 8 rfl ?_
    refine V_aload_n (pc := 180) F dL_tells_180 1 rfl ?_
    refine V_iload (pc := 181) F dL_tells_181 9 rfl ?_
    refine V_iald (pc := 183) F dL_tells_183 ?_
    intro z129
    refine V_bipush (pc := 184) F (x := (7 : Int32)) dL_tells_184 (by decide) ?_
    refine V_icmp_gt (pc := 186) F 196 dL_tells_186 (by decide) ?_ ?_
    · refine V_sub [0, 1, 2, 3, 4, 5, 6, 7, 9] (L' := [(0, vR x0), (3, vR x3), (4, vR x4), (5, vR x5), (6, vR x6), (7, vR x7), (17, vI x17), (18, vI x18), (20, vI x20)]) rfl ?_
      exact vB_L_tells_196 F hm rc171 hrc171 x0 x3 x4 x5 x6 x7 x17 x18 x20 x19 h
    · refine V_iload (pc := 189) F dL_tells_189 9 rfl ?_
      refine V_iload (pc := 191) F dL_tells_191 6 rfl ?_
      refine V_icmp_ne (pc := 193) F 200 dL_tells_193 (by decide) ?_ ?_
      · refine V_iconst (pc := 200) F (x := (0 : Int32)) dL_tells_200 (by decide) ?_
        refine V_sub [0, 1, 2, 3, 4, 5, 6, 7, 9] (L' := [(0, vR x0), (3, vR x3), (4, vR x4), (5, vR x5), (6, vR x6), (7, vR x7), (17, vI x17), (18, vI x18), (20, vI x20)]) rfl ?_
        exact vB_L_tells_201 F hm rc171 hrc171 x0 x3 x4 x5 x6 x7 x17 x18 x20 x19 (0 : Int32) h
      · refine V_sub [0, 1, 2, 3, 4, 5, 6, 7, 9] (L' := [(0, vR x0), (3, vR x3), (4, vR x4), (5, vR x5), (6, vR x6), (7, vR x7), (17, vI x17), (18, vI x18), (20, vI x20)]) rfl ?_
        exact vB_L_tells_196 F hm rc171 hrc171 x0 x3 x4 x5 x6 x7 x17 x18 x20 x19 h
theorem vL_L_tells_171 {K : CT} (F : Fr K cL_tells RL (some .boolean) [] 10 1) (hm : mxL K = 22) (n : Nat) : ∀ x0 x3 x4 x5 x6 x7 x17 x18 x19 x20 h, V K 171 [(0, vR x0), (3, vR x3), (4, vR x4), (5, vR x5), (6, vR x6), (7, vR x7), (17, vI x17), (18, vI x18), (19, vI x19), (20, vI x20)] [] h (L_L_tells_171 n x0 x3 x4 x5 x6 x7 x17 x18 x19 x20 h) := by
  induction n with
  | zero => intros; exact V_none
  | succ n ih => intro x0 x3 x4 x5 x6 x7 x17 x18 x19 x20 h; exact vB_L_tells_171 F hm _ ih x0 x3 x4 x5 x6 x7 x17 x18 x19 x20 h
theorem vB_L_tells_124 {K : CT} (F : Fr K cL_tells RL (some .boolean) [] 10 1) (hm : mxL K = 22) (rc124 : Option Nat → Option Nat → Option Nat → Option Nat → Option Nat → Option Nat → Option Nat → Int32 → Int32 → Int32 → MH → Res) (hrc124 : ∀ x0 x3 x4 x5 x6 x7 x16 x17 x18 x19 h, V K 124 [(0, vR x0), (3, vR x3), (4, vR x4), (5, vR x5), (6, vR x6), (7, vR x7), (16, vR x16), (17, vI x17), (18, vI x18), (19, vI x19)] [] h (rc124 x0 x3 x4 x5 x6 x7 x16 x17 x18 x19 h)) (x0 : Option Nat) (x3 : Option Nat) (x4 : Option Nat) (x5 : Option Nat) (x6 : Option Nat) (x7 : Option Nat) (x16 : Option Nat) (x17 : Int32) (x18 : Int32) (x19 : Int32) (h : MH) : V K 124 [(0, vR x0), (3, vR x3), (4, vR x4), (5, vR x5), (6, vR x6), (7, vR x7), (16, vR x16), (17, vI x17), (18, vI x18), (19, vI x19)] [] h (B_L_tells_124 rc124 x0 x3 x4 x5 x6 x7 x16 x17 x18 x19 h) := by
  unfold B_L_tells_124
  refine V_iload (pc := 124) F dL_tells_124 9 rfl ?_
  refine V_aload (pc := 126) F dL_tells_126 6 rfl ?_
  refine V_bipush (pc := 128) F (x := (6 : Int32)) dL_tells_128 (by decide) ?_
  refine V_iald (pc := 130) F dL_tells_130 ?_
  intro z118
  refine V_icmp_ge (pc := 131) F 165 dL_tells_131 (by decide) ?_ ?_
  · refine V_iconst (pc := 165) F (x := (0 : Int32)) dL_tells_165 (by decide) ?_
    refine V_istore (pc := 166) F [(19, vI (0 : Int32)), (0, vR x0), (3, vR x3), (4, vR x4), (5, vR x5), (6, vR x6), (7, vR x7), (16, vR x16), (17, vI x17), (18, vI x18)] dL_tells_166 (lt_mx hm (by decide)) rfl ?_
    refine V_iconst (pc := 168) F (x := (0 : Int32)) dL_tells_168 (by decide) ?_
    refine V_istore (pc := 169) F [(20, vI (0 : Int32)), (19, vI (0 : Int32)), (0, vR x0), (3, vR x3), (4, vR x4), (5, vR x5), (6, vR x6), (7, vR x7), (16, vR x16), (17, vI x17), (18, vI x18)] dL_tells_169 (lt_mx hm (by decide)) rfl ?_
    refine V_sub [2, 3, 4, 5, 6, 7, 9, 10, 1, 0] (L' := [(0, vR x0), (3, vR x3), (4, vR x4), (5, vR x5), (6, vR x6), (7, vR x7), (17, vI x17), (18, vI x18), (19, vI (0 : Int32)), (20, vI (0 : Int32))]) rfl ?_
    exact vL_L_tells_171 F hm fuel x0 x3 x4 x5 x6 x7 x17 x18 (0 : Int32) (0 : Int32) h
  · refine V_iload (pc := 134) F dL_tells_134 8 rfl ?_
    refine V_if_eq (pc := 136) F 156 dL_tells_136 (by decide) ?_ ?_
    · refine V_sub [0, 1, 2, 3, 4, 5, 6, 7, 9] (L' := [(0, vR x0), (3, vR x3), (4, vR x4), (5, vR x5), (6, vR x6), (7, vR x7), (16, vR x16), (17, vI x17), (19, vI x19)]) rfl ?_
      exact vB_L_tells_156 F hm rc124 hrc124 x0 x3 x4 x5 x6 x7 x16 x17 x19 h
    · refine V_aload (pc := 139) F dL_tells_139 6 rfl ?_
      refine V_bipush (pc := 141) F (x := (14 : Int32)) dL_tells_141 (by decide) ?_
      refine V_iload (pc := 143) F dL_tells_143 9 rfl ?_
      refine V_iadd (pc := 145) F dL_tells_145 ?_
      intro z119
      refine V_iald (pc := 146) F dL_tells_146 ?_
      intro z120
      refine V_iload (pc := 147) F dL_tells_147 7 rfl ?_
      refine V_icmp_eq (pc := 149) F 156 dL_tells_149 (by decide) ?_ ?_
      · refine V_sub [0, 1, 2, 3, 4, 5, 6, 7, 9] (L' := [(0, vR x0), (3, vR x3), (4, vR x4), (5, vR x5), (6, vR x6), (7, vR x7), (16, vR x16), (17, vI x17), (19, vI x19)]) rfl ?_
        exact vB_L_tells_156 F hm rc124 hrc124 x0 x3 x4 x5 x6 x7 x16 x17 x19 h
      · refine V_iconst (pc := 152) F (x := (1 : Int32)) dL_tells_152 (by decide) ?_
        refine V_goto (pc := 153) F 157 dL_tells_153 (by decide) ?_
        refine V_sub [0, 1, 2, 3, 4, 5, 6, 7, 9] (L' := [(0, vR x0), (3, vR x3), (4, vR x4), (5, vR x5), (6, vR x6), (7, vR x7), (16, vR x16), (17, vI x17), (19, vI x19)]) rfl ?_
        exact vB_L_tells_157 F hm rc124 hrc124 x0 x3 x4 x5 x6 x7 x16 x17 x19 (1 : Int32) h
theorem vL_L_tells_124 {K : CT} (F : Fr K cL_tells RL (some .boolean) [] 10 1) (hm : mxL K = 22) (n : Nat) : ∀ x0 x3 x4 x5 x6 x7 x16 x17 x18 x19 h, V K 124 [(0, vR x0), (3, vR x3), (4, vR x4), (5, vR x5), (6, vR x6), (7, vR x7), (16, vR x16), (17, vI x17), (18, vI x18), (19, vI x19)] [] h (L_L_tells_124 n x0 x3 x4 x5 x6 x7 x16 x17 x18 x19 h) := by
  induction n with
  | zero => intros; exact V_none
  | succ n ih => intro x0 x3 x4 x5 x6 x7 x16 x17 x18 x19 h; exact vB_L_tells_124 F hm _ ih x0 x3 x4 x5 x6 x7 x16 x17 x18 x19 h
theorem vB_L_tells_81 {K : CT} (F : Fr K cL_tells RL (some .boolean) [] 10 1) (hm : mxL K = 22) (rc81 : Option Nat → Option Nat → Option Nat → Option Nat → Option Nat → Option Nat → Option Nat → Option Nat → Int32 → Int32 → Int32 → MH → Res) (hrc81 : ∀ x0 x3 x4 x5 x6 x7 x9 x16 x17 x18 x19 h, V K 81 [(0, vR x0), (3, vR x3), (4, vR x4), (5, vR x5), (6, vR x6), (7, vR x7), (9, vR x9), (16, vR x16), (17, vI x17), (18, vI x18), (19, vI x19)] [] h (rc81 x0 x3 x4 x5 x6 x7 x9 x16 x17 x18 x19 h)) (x0 : Option Nat) (x3 : Option Nat) (x4 : Option Nat) (x5 : Option Nat) (x6 : Option Nat) (x7 : Option Nat) (x9 : Option Nat) (x16 : Option Nat) (x17 : Int32) (x18 : Int32) (x19 : Int32) (h : MH) : V K 81 [(0, vR x0), (3, vR x3), (4, vR x4), (5, vR x5), (6, vR x6), (7, vR x7), (9, vR x9), (16, vR x16), (17, vI x17), (18, vI x18), (19, vI x19)] [] h (B_L_tells_81 rc81 x0 x3 x4 x5 x6 x7 x9 x16 x17 x18 x19 h) := by
  unfold B_L_tells_81
  refine V_iload (pc := 81) F dL_tells_81 10 rfl ?_
  refine V_aload (pc := 83) F dL_tells_83 7 rfl ?_
  refine V_iconst (pc := 85) F (x := (3 : Int32)) dL_tells_85 (by decide) ?_
  refine V_iald (pc := 86) F dL_tells_86 ?_
  intro z114
  refine V_icmp_ge (pc := 87) F 121 dL_tells_87 (by decide) ?_ ?_
  · refine V_iconst (pc := 121) F (x := (0 : Int32)) dL_tells_121 (by decide) ?_
    refine V_istore (pc := 122) F [(19, vI (0 : Int32)), (0, vR x0), (3, vR x3), (4, vR x4), (5, vR x5), (6, vR x6), (7, vR x7), (9, vR x9), (16, vR x16), (17, vI x17), (18, vI x18)] dL_tells_122 (lt_mx hm (by decide)) rfl ?_
    refine V_sub [1, 2, 3, 4, 5, 6, 8, 9, 10, 0] (L' := [(0, vR x0), (3, vR x3), (4, vR x4), (5, vR x5), (6, vR x6), (7, vR x7), (16, vR x16), (17, vI x17), (18, vI x18), (19, vI (0 : Int32))]) rfl ?_
    exact vL_L_tells_124 F hm fuel x0 x3 x4 x5 x6 x7 x16 x17 x18 (0 : Int32) h
  · refine V_iload (pc := 90) F dL_tells_90 9 rfl ?_
    refine V_if_eq (pc := 92) F 112 dL_tells_92 (by decide) ?_ ?_
    · refine V_sub [0, 1, 2, 3, 4, 5, 6, 7, 8, 10] (L' := [(0, vR x0), (3, vR x3), (4, vR x4), (5, vR x5), (6, vR x6), (7, vR x7), (9, vR x9), (16, vR x16), (17, vI x17), (19, vI x19)]) rfl ?_
      exact vB_L_tells_112 F hm rc81 hrc81 x0 x3 x4 x5 x6 x7 x9 x16 x17 x19 h
    · refine V_aload (pc := 95) F dL_tells_95 6 rfl ?_
      refine V_iload (pc := 97) F dL_tells_97 10 rfl ?_
      refine V_iald (pc := 99) F dL_tells_99 ?_
      intro z115
      refine V_bipush (pc := 100) F (x := (64 : Int32)) dL_tells_100 (by decide) ?_
      refine V_irem (pc := 102) F dL_tells_102 ?_
      intro z116
      refine V_iload (pc := 103) F dL_tells_103 8 rfl ?_
      refine V_icmp_eq (pc := 105) F 112 dL_tells_105 (by decide) ?_ ?_
      · refine V_sub [0, 1, 2, 3, 4, 5, 6, 7, 8, 10] (L' := [(0, vR x0), (3, vR x3), (4, vR x4), (5, vR x5), (6, vR x6), (7, vR x7), (9, vR x9), (16, vR x16), (17, vI x17), (19, vI x19)]) rfl ?_
        exact vB_L_tells_112 F hm rc81 hrc81 x0 x3 x4 x5 x6 x7 x9 x16 x17 x19 h
      · refine V_iconst (pc := 108) F (x := (1 : Int32)) dL_tells_108 (by decide) ?_
        refine V_goto (pc := 109) F 113 dL_tells_109 (by decide) ?_
        refine V_sub [0, 1, 2, 3, 4, 5, 6, 7, 8, 10] (L' := [(0, vR x0), (3, vR x3), (4, vR x4), (5, vR x5), (6, vR x6), (7, vR x7), (9, vR x9), (16, vR x16), (17, vI x17), (19, vI x19)]) rfl ?_
        exact vB_L_tells_113 F hm rc81 hrc81 x0 x3 x4 x5 x6 x7 x9 x16 x17 x19 (1 : Int32) h
theorem vL_L_tells_81 {K : CT} (F : Fr K cL_tells RL (some .boolean) [] 10 1) (hm : mxL K = 22) (n : Nat) : ∀ x0 x3 x4 x5 x6 x7 x9 x16 x17 x18 x19 h, V K 81 [(0, vR x0), (3, vR x3), (4, vR x4), (5, vR x5), (6, vR x6), (7, vR x7), (9, vR x9), (16, vR x16), (17, vI x17), (18, vI x18), (19, vI x19)] [] h (L_L_tells_81 n x0 x3 x4 x5 x6 x7 x9 x16 x17 x18 x19 h) := by
  induction n with
  | zero => intros; exact V_none
  | succ n ih => intro x0 x3 x4 x5 x6 x7 x9 x16 x17 x18 x19 h; exact vB_L_tells_81 F hm _ ih x0 x3 x4 x5 x6 x7 x9 x16 x17 x18 x19 h
theorem vB_L_tells_38 {K : CT} (F : Fr K cL_tells RL (some .boolean) [] 10 1) (hm : mxL K = 22) (rc38 : Option Nat → Option Nat → Option Nat → Option Nat → Option Nat → Option Nat → Option Nat → Option Nat → Option Nat → Int32 → Int32 → Int32 → MH → Res) (hrc38 : ∀ x0 x3 x4 x5 x6 x7 x8 x9 x16 x17 x18 x19 h, V K 38 [(0, vR x0), (3, vR x3), (4, vR x4), (5, vR x5), (6, vR x6), (7, vR x7), (8, vR x8), (9, vR x9), (16, vR x16), (17, vI x17), (18, vI x18), (19, vI x19)] [] h (rc38 x0 x3 x4 x5 x6 x7 x8 x9 x16 x17 x18 x19 h)) (x0 : Option Nat) (x3 : Option Nat) (x4 : Option Nat) (x5 : Option Nat) (x6 : Option Nat) (x7 : Option Nat) (x8 : Option Nat) (x9 : Option Nat) (x16 : Option Nat) (x17 : Int32) (x18 : Int32) (x19 : Int32) (h : MH) : V K 38 [(0, vR x0), (3, vR x3), (4, vR x4), (5, vR x5), (6, vR x6), (7, vR x7), (8, vR x8), (9, vR x9), (16, vR x16), (17, vI x17), (18, vI x18), (19, vI x19)] [] h (B_L_tells_38 rc38 x0 x3 x4 x5 x6 x7 x8 x9 x16 x17 x18 x19 h) := by
  unfold B_L_tells_38
  refine V_iload (pc := 38) F dL_tells_38 11 rfl ?_
  refine V_aload (pc := 40) F dL_tells_40 8 rfl ?_
  refine V_iconst (pc := 42) F (x := (2 : Int32)) dL_tells_42 (by decide) ?_
  refine V_iald (pc := 43) F dL_tells_43 ?_
  intro z110
  refine V_icmp_ge (pc := 44) F 78 dL_tells_44 (by decide) ?_ ?_
  · refine V_iconst (pc := 78) F (x := (0 : Int32)) dL_tells_78 (by decide) ?_
    refine V_istore (pc := 79) F [(19, vI (0 : Int32)), (0, vR x0), (3, vR x3), (4, vR x4), (5, vR x5), (6, vR x6), (7, vR x7), (8, vR x8), (9, vR x9), (16, vR x16), (17, vI x17), (18, vI x18)] dL_tells_79 (lt_mx hm (by decide)) rfl ?_
    refine V_sub [1, 2, 3, 4, 5, 6, 8, 9, 10, 11, 0] (L' := [(0, vR x0), (3, vR x3), (4, vR x4), (5, vR x5), (6, vR x6), (7, vR x7), (9, vR x9), (16, vR x16), (17, vI x17), (18, vI x18), (19, vI (0 : Int32))]) rfl ?_
    exact vL_L_tells_81 F hm fuel x0 x3 x4 x5 x6 x7 x9 x16 x17 x18 (0 : Int32) h
  · refine V_iload (pc := 47) F dL_tells_47 10 rfl ?_
    refine V_if_eq (pc := 49) F 69 dL_tells_49 (by decide) ?_ ?_
    · refine V_sub [0, 1, 2, 3, 4, 5, 6, 7, 8, 9, 11] (L' := [(0, vR x0), (3, vR x3), (4, vR x4), (5, vR x5), (6, vR x6), (7, vR x7), (8, vR x8), (9, vR x9), (16, vR x16), (17, vI x17), (19, vI x19)]) rfl ?_
      exact vB_L_tells_69 F hm rc38 hrc38 x0 x3 x4 x5 x6 x7 x8 x9 x16 x17 x19 h
    · refine V_aload (pc := 52) F dL_tells_52 6 rfl ?_
      refine V_bipush (pc := 54) F (x := (8 : Int32)) dL_tells_54 (by decide) ?_
      refine V_iload (pc := 56) F dL_tells_56 11 rfl ?_
      refine V_imul (pc := 58) F dL_tells_58 ?_
      intro z111
      refine V_iald (pc := 59) F dL_tells_59 ?_
      intro z112
      refine V_iload (pc := 60) F dL_tells_60 9 rfl ?_
      refine V_icmp_eq (pc := 62) F 69 dL_tells_62 (by decide) ?_ ?_
      · refine V_sub [0, 1, 2, 3, 4, 5, 6, 7, 8, 9, 11] (L' := [(0, vR x0), (3, vR x3), (4, vR x4), (5, vR x5), (6, vR x6), (7, vR x7), (8, vR x8), (9, vR x9), (16, vR x16), (17, vI x17), (19, vI x19)]) rfl ?_
        exact vB_L_tells_69 F hm rc38 hrc38 x0 x3 x4 x5 x6 x7 x8 x9 x16 x17 x19 h
      · refine V_iconst (pc := 65) F (x := (1 : Int32)) dL_tells_65 (by decide) ?_
        refine V_goto (pc := 66) F 70 dL_tells_66 (by decide) ?_
        refine V_sub [0, 1, 2, 3, 4, 5, 6, 7, 8, 9, 11] (L' := [(0, vR x0), (3, vR x3), (4, vR x4), (5, vR x5), (6, vR x6), (7, vR x7), (8, vR x8), (9, vR x9), (16, vR x16), (17, vI x17), (19, vI x19)]) rfl ?_
        exact vB_L_tells_70 F hm rc38 hrc38 x0 x3 x4 x5 x6 x7 x8 x9 x16 x17 x19 (1 : Int32) h
theorem vL_L_tells_38 {K : CT} (F : Fr K cL_tells RL (some .boolean) [] 10 1) (hm : mxL K = 22) (n : Nat) : ∀ x0 x3 x4 x5 x6 x7 x8 x9 x16 x17 x18 x19 h, V K 38 [(0, vR x0), (3, vR x3), (4, vR x4), (5, vR x5), (6, vR x6), (7, vR x7), (8, vR x8), (9, vR x9), (16, vR x16), (17, vI x17), (18, vI x18), (19, vI x19)] [] h (L_L_tells_38 n x0 x3 x4 x5 x6 x7 x8 x9 x16 x17 x18 x19 h) := by
  induction n with
  | zero => intros; exact V_none
  | succ n ih => intro x0 x3 x4 x5 x6 x7 x8 x9 x16 x17 x18 x19 h; exact vB_L_tells_38 F hm _ ih x0 x3 x4 x5 x6 x7 x8 x9 x16 x17 x18 x19 h
theorem vB_L_tells_33 {K : CT} (F : Fr K cL_tells RL (some .boolean) [] 10 1) (hm : mxL K = 22) (x0 : Option Nat) (x3 : Option Nat) (x4 : Option Nat) (x5 : Option Nat) (x6 : Option Nat) (x7 : Option Nat) (x8 : Option Nat) (x9 : Option Nat) (x16 : Option Nat) (x17 : Int32) (s0 : Int32) (h : MH) : V K 33 [(0, vR x0), (3, vR x3), (4, vR x4), (5, vR x5), (6, vR x6), (7, vR x7), (8, vR x8), (9, vR x9), (16, vR x16), (17, vI x17)] [vI s0] h (B_L_tells_33 x0 x3 x4 x5 x6 x7 x8 x9 x16 x17 s0 h) := by
  unfold B_L_tells_33
  refine V_istore (pc := 33) F [(18, vI s0), (0, vR x0), (3, vR x3), (4, vR x4), (5, vR x5), (6, vR x6), (7, vR x7), (8, vR x8), (9, vR x9), (16, vR x16), (17, vI x17)] dL_tells_33 (lt_mx hm (by decide)) rfl ?_
  refine V_iconst (pc := 35) F (x := (0 : Int32)) dL_tells_35 (by decide) ?_
  refine V_istore (pc := 36) F [(19, vI (0 : Int32)), (18, vI s0), (0, vR x0), (3, vR x3), (4, vR x4), (5, vR x5), (6, vR x6), (7, vR x7), (8, vR x8), (9, vR x9), (16, vR x16), (17, vI x17)] dL_tells_36 (lt_mx hm (by decide)) rfl ?_
  refine V_sub [2, 3, 4, 5, 6, 7, 8, 9, 10, 11, 1, 0] (L' := [(0, vR x0), (3, vR x3), (4, vR x4), (5, vR x5), (6, vR x6), (7, vR x7), (8, vR x8), (9, vR x9), (16, vR x16), (17, vI x17), (18, vI s0), (19, vI (0 : Int32))]) rfl ?_
  exact vL_L_tells_38 F hm fuel x0 x3 x4 x5 x6 x7 x8 x9 x16 x17 s0 (0 : Int32) h
theorem vB_L_tells_32 {K : CT} (F : Fr K cL_tells RL (some .boolean) [] 10 1) (hm : mxL K = 22) (x0 : Option Nat) (x3 : Option Nat) (x4 : Option Nat) (x5 : Option Nat) (x6 : Option Nat) (x7 : Option Nat) (x8 : Option Nat) (x9 : Option Nat) (x16 : Option Nat) (x17 : Int32) (h : MH) : V K 32 [(0, vR x0), (3, vR x3), (4, vR x4), (5, vR x5), (6, vR x6), (7, vR x7), (8, vR x8), (9, vR x9), (16, vR x16), (17, vI x17)] [] h (B_L_tells_32 x0 x3 x4 x5 x6 x7 x8 x9 x16 x17 h) := by
  unfold B_L_tells_32
  refine V_iconst (pc := 32) F (x := (0 : Int32)) dL_tells_32 (by decide) ?_
  exact vB_L_tells_33 F hm x0 x3 x4 x5 x6 x7 x8 x9 x16 x17 (0 : Int32) h
theorem vB_L_tells_562 {K : CT} (F : Fr K cL_tells RL (some .boolean) [] 10 1) (hm : mxL K = 22) (s0 : Int32) (s1 : Int32) (h : MH) : V K 562 [] [vI s1, vI s0] h (B_L_tells_562 s0 s1 h) := by
  unfold B_L_tells_562
  refine V_icmp_ne (pc := 562) F 569 dL_tells_562 (by decide) ?_ ?_
  · refine V_iconst (pc := 569) F (x := (0 : Int32)) dL_tells_569 (by decide) ?_
    exact V_zret (pc := 570) F (Or.inr rfl) dL_tells_570
  · refine V_iconst (pc := 565) F (x := (1 : Int32)) dL_tells_565 (by decide) ?_
    refine V_goto (pc := 566) F 570 dL_tells_566 (by decide) ?_
    exact V_zret (pc := 570) F (Or.inr rfl) dL_tells_570
theorem vB_L_tells_535 {K : CT} (F : Fr K cL_tells RL (some .boolean) [] 10 1) (hm : mxL K = 22) (x0 : Option Nat) (x16 : Option Nat) (x17 : Int32) (x18 : Int32) (x19 : Int32) (x20 : Int32) (h : MH) : V K 535 [(0, vR x0), (16, vR x16), (17, vI x17), (18, vI x18), (19, vI x19), (20, vI x20)] [] h (B_L_tells_535 x0 x16 x17 x18 x19 x20 h) := by
  unfold B_L_tells_535
  refine V_aload_n (pc := 535) F dL_tells_535 0 rfl ?_
  refine V_iconst (pc := 536) F (x := (5 : Int32)) dL_tells_536 (by decide) ?_
  refine V_iload (pc := 537) F dL_tells_537 2 rfl ?_
  refine V_iload (pc := 539) F dL_tells_539 3 rfl ?_
  refine V_iload (pc := 541) F dL_tells_541 4 rfl ?_
  refine V_cSW (pc := 543) F (as := [vR x0, vI (5 : Int32), vI x17, vI x18, vI x19]) (C_L_calls x0 (5 : Int32) x17 x18 x19 h) w_L_calls g_st_L_calls g_ml_RL_130 (by decide) (rest := []) rfl rfl (Nat.le_of_ble_eq_true rfl) dL_tells_543 (k_I fun z155 h156 => ?_) (fun _ _ => VX_out F)
  refine V_iload (pc := 546) F dL_tells_546 5 rfl ?_
  refine V_if_eq (pc := 548) F 560 dL_tells_548 (by decide) ?_ ?_
  · refine V_ldc (pc := 560) F (x := (-2000000003 : Int32)) g_co_RL_50 dL_tells_560 ?_
    refine V_sub [] (L' := []) rfl ?_
    exact vB_L_tells_562 F hm z155 (-2000000003 : Int32) h156
  · refine V_aload (pc := 551) F dL_tells_551 1 rfl ?_
    refine V_iconst (pc := 553) F (x := (2 : Int32)) dL_tells_553 (by decide) ?_
    refine V_iald (pc := 554) F dL_tells_554 ?_
    intro z157
    refine V_iconst (pc := 555) F (x := (1 : Int32)) dL_tells_555 (by decide) ?_
    refine V_isub (pc := 556) F dL_tells_556 ?_
    intro z158
    refine V_goto (pc := 557) F 562 dL_tells_557 (by decide) ?_
    refine V_sub [] (L' := []) rfl ?_
    exact vB_L_tells_562 F hm z155 z158 h156
theorem vB_L_tells_449 {K : CT} (F : Fr K cL_tells RL (some .boolean) [] 10 1) (hm : mxL K = 22) (x0 : Option Nat) (x8 : Option Nat) (x16 : Option Nat) (x17 : Int32) (x18 : Int32) (x19 : Int32) (s0 : Int32) (h : MH) : V K 449 [(0, vR x0), (8, vR x8), (16, vR x16), (17, vI x17), (18, vI x18), (19, vI x19)] [vI s0] h (B_L_tells_449 x0 x8 x16 x17 x18 x19 s0 h) := by
  unfold B_L_tells_449
  refine V_istore (pc := 449) F [(20, vI s0), (0, vR x0), (8, vR x8), (16, vR x16), (17, vI x17), (18, vI x18), (19, vI x19)] dL_tells_449 (lt_mx hm (by decide)) rfl ?_
  refine V_iload (pc := 451) F dL_tells_451 0 rfl ?_
  refine V_if_eq (pc := 453) F 535 dL_tells_453 (by decide) ?_ ?_
  · refine V_sub [1, 3, 4, 5, 6, 0] (L' := [(0, vR x0), (16, vR x16), (17, vI x17), (18, vI x18), (19, vI x19), (20, vI s0)]) rfl ?_
    exact vB_L_tells_535 F hm x0 x16 x17 x18 x19 s0 h
  · refine V_bipush (pc := 456) F (x := (8 : Int32)) dL_tells_456 (by decide) ?_
    refine V_aload (pc := 458) F dL_tells_458 3 rfl ?_
    refine V_iconst (pc := 460) F (x := (2 : Int32)) dL_tells_460 (by decide) ?_
    refine V_iald (pc := 461) F dL_tells_461 ?_
    intro z134
    refine V_imul (pc := 462) F dL_tells_462 ?_
    intro z135
    refine V_istore (pc := 463) F [(21, vI z135), (20, vI s0), (0, vR x0), (8, vR x8), (16, vR x16), (17, vI x17), (18, vI x18), (19, vI x19)] dL_tells_463 (lt_mx hm (by decide)) rfl ?_
    refine V_aload (pc := 465) F dL_tells_465 3 rfl ?_
    refine V_iload (pc := 467) F dL_tells_467 0 rfl ?_
    refine V_iload (pc := 469) F dL_tells_469 5 rfl ?_
    refine V_iast (pc := 471) F dL_tells_471 ?_
    intro h136
    refine V_aload (pc := 472) F dL_tells_472 3 rfl ?_
    refine V_iload (pc := 474) F dL_tells_474 0 rfl ?_
    refine V_iconst (pc := 476) F (x := (1 : Int32)) dL_tells_476 (by decide) ?_
    refine V_iadd (pc := 477) F dL_tells_477 ?_
    intro z137
    refine V_iload (pc := 478) F dL_tells_478 6 rfl ?_
    refine V_iast (pc := 480) F dL_tells_480 ?_
    intro h138
    refine V_aload (pc := 481) F dL_tells_481 3 rfl ?_
    refine V_iload (pc := 483) F dL_tells_483 0 rfl ?_
    refine V_iconst (pc := 485) F (x := (2 : Int32)) dL_tells_485 (by decide) ?_
    refine V_iadd (pc := 486) F dL_tells_486 ?_
    intro z139
    refine V_iload (pc := 487) F dL_tells_487 6 rfl ?_
    refine V_iast (pc := 489) F dL_tells_489 ?_
    intro h140
    refine V_aload (pc := 490) F dL_tells_490 3 rfl ?_
    refine V_iload (pc := 492) F dL_tells_492 0 rfl ?_
    refine V_iconst (pc := 494) F (x := (3 : Int32)) dL_tells_494 (by decide) ?_
    refine V_iadd (pc := 495) F dL_tells_495 ?_
    intro z141
    refine V_iload (pc := 496) F dL_tells_496 7 rfl ?_
    refine V_iast (pc := 498) F dL_tells_498 ?_
    intro h142
    refine V_aload (pc := 499) F dL_tells_499 3 rfl ?_
    refine V_iload (pc := 501) F dL_tells_501 0 rfl ?_
    refine V_iconst (pc := 503) F (x := (4 : Int32)) dL_tells_503 (by decide) ?_
    refine V_iadd (pc := 504) F dL_tells_504 ?_
    intro z143
    refine V_iload (pc := 505) F dL_tells_505 5 rfl ?_
    refine V_bipush (pc := 507) F (x := (7 : Int32)) dL_tells_507 (by decide) ?_
    refine V_imul (pc := 509) F dL_tells_509 ?_
    intro z144
    refine V_iload (pc := 510) F dL_tells_510 6 rfl ?_
    refine V_iconst (pc := 512) F (x := (3 : Int32)) dL_tells_512 (by decide) ?_
    refine V_imul (pc := 513) F dL_tells_513 ?_
    intro z145
    refine V_iadd (pc := 514) F dL_tells_514 ?_
    intro z146
    refine V_iload (pc := 515) F dL_tells_515 7 rfl ?_
    refine V_iadd (pc := 517) F dL_tells_517 ?_
    intro z147
    refine V_bipush (pc := 518) F (x := (101 : Int32)) dL_tells_518 (by decide) ?_
    refine V_cSM (pc := 520) F (as := [vI z147, vI (101 : Int32)]) (C_L_low z147 (101 : Int32) h142) w_L_low g_st_L_low g_ml_RL_29 (by decide) (rest := [vI z143, vR x8]) rfl rfl (Nat.le_of_ble_eq_true rfl) dL_tells_520 (k_I fun z148 h149 => ?_)
    refine V_bipush (pc := 523) F (x := (50 : Int32)) dL_tells_523 (by decide) ?_
    refine V_isub (pc := 525) F dL_tells_525 ?_
    intro z150
    refine V_iast (pc := 526) F dL_tells_526 ?_
    intro h151
    refine V_aload (pc := 527) F dL_tells_527 4 rfl ?_
    refine V_iconst (pc := 529) F (x := (2 : Int32)) dL_tells_529 (by decide) ?_
    refine V_dup2 (pc := 530) F dL_tells_530 rfl rfl ?_
    refine V_iald (pc := 531) F dL_tells_531 ?_
    intro z152
    refine V_iconst (pc := 532) F (x := (1 : Int32)) dL_tells_532 (by decide) ?_
    refine V_iadd (pc := 533) F dL_tells_533 ?_
    intro z153
    refine V_iast (pc := 534) F dL_tells_534 ?_
    intro h154
    refine V_sub [2, 4, 5, 6, 7, 1] (L' := [(0, vR x0), (16, vR x16), (17, vI x17), (18, vI x18), (19, vI x19), (20, vI s0)]) rfl ?_
    exact vB_L_tells_535 F hm x0 x16 x17 x18 x19 s0 h154
theorem vB_L_tells_448 {K : CT} (F : Fr K cL_tells RL (some .boolean) [] 10 1) (hm : mxL K = 22) (x0 : Option Nat) (x8 : Option Nat) (x16 : Option Nat) (x17 : Int32) (x18 : Int32) (x19 : Int32) (h : MH) : V K 448 [(0, vR x0), (8, vR x8), (16, vR x16), (17, vI x17), (18, vI x18), (19, vI x19)] [] h (B_L_tells_448 x0 x8 x16 x17 x18 x19 h) := by
  unfold B_L_tells_448
  refine V_iconst (pc := 448) F (x := (0 : Int32)) dL_tells_448 (by decide) ?_
  exact vB_L_tells_449 F hm x0 x8 x16 x17 x18 x19 (0 : Int32) h
theorem vB_L_tells_696 {K : CT} (F : Fr K cL_tells RL (some .boolean) [] 10 1) (hm : mxL K = 22) (rc661 : Option Nat → Option Nat → Option Nat → Int32 → Int32 → Int32 → Int32 → MH → Res) (hrc661 : ∀ x0 x9 x16 x17 x18 x19 x20 h, V K 661 [(0, vR x0), (9, vR x9), (16, vR x16), (17, vI x17), (18, vI x18), (19, vI x19), (20, vI x20)] [] h (rc661 x0 x9 x16 x17 x18 x19 x20 h)) (x0 : Option Nat) (x9 : Option Nat) (x16 : Option Nat) (x17 : Int32) (x18 : Int32) (x20 : Int32) (s0 : Int32) (h : MH) : V K 696 [(0, vR x0), (9, vR x9), (16, vR x16), (17, vI x17), (18, vI x18), (20, vI x20)] [vI s0] h (B_L_tells_696 rc661 x0 x9 x16 x17 x18 x20 s0 h) := by
  unfold B_L_tells_696
  refine V_istore (pc := 696) F [(19, vI s0), (0, vR x0), (9, vR x9), (16, vR x16), (17, vI x17), (18, vI x18), (20, vI x20)] dL_tells_696 (lt_mx hm (by decide)) rfl ?_
  refine V_iinc (pc := 698) F (fun z178 => [(20, vI z178), (19, vI s0), (0, vR x0), (9, vR x9), (16, vR x16), (17, vI x17), (18, vI x18)]) dL_tells_698 (lt_mx hm (by decide)) 6 rfl (dx := (1 : Int32)) (by decide) (fun _ => rfl) ?_
  intro z178
  refine V_goto (pc := 701) F 661 dL_tells_701 (by decide) ?_
  refine V_sub [2, 3, 4, 5, 6, 1, 0] (L' := [(0, vR x0), (9, vR x9), (16, vR x16), (17, vI x17), (18, vI x18), (19, vI s0), (20, vI z178)]) rfl ?_
  exact hrc661 x0 x9 x16 x17 x18 s0 z178 h
theorem vB_L_tells_695 {K : CT} (F : Fr K cL_tells RL (some .boolean) [] 10 1) (hm : mxL K = 22) (rc661 : Option Nat → Option Nat → Option Nat → Int32 → Int32 → Int32 → Int32 → MH → Res) (hrc661 : ∀ x0 x9 x16 x17 x18 x19 x20 h, V K 661 [(0, vR x0), (9, vR x9), (16, vR x16), (17, vI x17), (18, vI x18), (19, vI x19), (20, vI x20)] [] h (rc661 x0 x9 x16 x17 x18 x19 x20 h)) (x0 : Option Nat) (x9 : Option Nat) (x16 : Option Nat) (x17 : Int32) (x18 : Int32) (x20 : Int32) (h : MH) : V K 695 [(0, vR x0), (9, vR x9), (16, vR x16), (17, vI x17), (18, vI x18), (20, vI x20)] [] h (B_L_tells_695 rc661 x0 x9 x16 x17 x18 x20 h) := by
  unfold B_L_tells_695
  refine V_iconst (pc := 695) F (x := (0 : Int32)) dL_tells_695 (by decide) ?_
  exact vB_L_tells_696 F hm rc661 hrc661 x0 x9 x16 x17 x18 x20 (0 : Int32) h
theorem vB_L_tells_756 {K : CT} (F : Fr K cL_tells RL (some .boolean) [] 10 1) (hm : mxL K = 22) (s0 : Int32) (s1 : Int32) (h : MH) : V K 756 [] [vI s1, vI s0] h (B_L_tells_756 s0 s1 h) := by
  unfold B_L_tells_756
  refine V_icmp_ne (pc := 756) F 763 dL_tells_756 (by decide) ?_ ?_
  · refine V_iconst (pc := 763) F (x := (0 : Int32)) dL_tells_763 (by decide) ?_
    exact V_zret (pc := 764) F (Or.inr rfl) dL_tells_764
  · refine V_iconst (pc := 759) F (x := (1 : Int32)) dL_tells_759 (by decide) ?_
    refine V_goto (pc := 760) F 764 dL_tells_760 (by decide) ?_
    exact V_zret (pc := 764) F (Or.inr rfl) dL_tells_764
theorem vB_L_tells_732 {K : CT} (F : Fr K cL_tells RL (some .boolean) [] 10 1) (hm : mxL K = 22) (x0 : Option Nat) (x16 : Option Nat) (x17 : Int32) (x18 : Int32) (x19 : Int32) (h : MH) : V K 732 [(0, vR x0), (16, vR x16), (17, vI x17), (18, vI x18), (19, vI x19)] [] h (B_L_tells_732 x0 x16 x17 x18 x19 h) := by
  unfold B_L_tells_732
  refine V_aload_n (pc := 732) F dL_tells_732 0 rfl ?_
  refine V_iconst (pc := 733) F (x := (1 : Int32)) dL_tells_733 (by decide) ?_
  refine V_iload (pc := 734) F dL_tells_734 3 rfl ?_
  refine V_iload (pc := 736) F dL_tells_736 2 rfl ?_
  refine V_iconst (pc := 738) F (x := (0 : Int32)) dL_tells_738 (by decide) ?_
  refine V_cSW (pc := 739) F (as := [vR x0, vI (1 : Int32), vI x18, vI x17, vI (0 : Int32)]) (C_L_calls x0 (1 : Int32) x18 x17 (0 : Int32) h) w_L_calls g_st_L_calls g_ml_RL_130 (by decide) (rest := []) rfl rfl (Nat.le_of_ble_eq_true rfl) dL_tells_739 (k_I fun z179 h180 => ?_) (fun _ _ => VX_out F)
  refine V_iload (pc := 742) F dL_tells_742 4 rfl ?_
  refine V_if_eq (pc := 744) F 754 dL_tells_744 (by decide) ?_ ?_
  · refine V_ldc (pc := 754) F (x := (-2000000003 : Int32)) g_co_RL_50 dL_tells_754 ?_
    refine V_sub [] (L' := []) rfl ?_
    exact vB_L_tells_756 F hm z179 (-2000000003 : Int32) h180
  · refine V_aload (pc := 747) F dL_tells_747 1 rfl ?_
    refine V_iconst (pc := 749) F (x := (3 : Int32)) dL_tells_749 (by decide) ?_
    refine V_iald (pc := 750) F dL_tells_750 ?_
    intro z181
    refine V_goto (pc := 751) F 756 dL_tells_751 (by decide) ?_
    refine V_sub [] (L' := []) rfl ?_
    exact vB_L_tells_756 F hm z179 z181 h180
theorem vB_L_tells_661 {K : CT} (F : Fr K cL_tells RL (some .boolean) [] 10 1) (hm : mxL K = 22) (rc661 : Option Nat → Option Nat → Option Nat → Int32 → Int32 → Int32 → Int32 → MH → Res) (hrc661 : ∀ x0 x9 x16 x17 x18 x19 x20 h, V K 661 [(0, vR x0), (9, vR x9), (16, vR x16), (17, vI x17), (18, vI x18), (19, vI x19), (20, vI x20)] [] h (rc661 x0 x9 x16 x17 x18 x19 x20 h)) (x0 : Option Nat) (x9 : Option Nat) (x16 : Option Nat) (x17 : Int32) (x18 : Int32) (x19 : Int32) (x20 : Int32) (h : MH) : V K 661 [(0, vR x0), (9, vR x9), (16, vR x16), (17, vI x17), (18, vI x18), (19, vI x19), (20, vI x20)] [] h (B_L_tells_661 rc661 x0 x9 x16 x17 x18 x19 x20 h) := by
  unfold B_L_tells_661
  refine V_iload (pc := 661) F dL_tells_661 6 rfl ?_
  refine V_aload (pc := 663) F dL_tells_663 2 rfl ?_
  refine V_iconst (pc := 665) F (x := (3 : Int32)) dL_tells_665 (by decide) ?_
  refine V_iald (pc := 666) F dL_tells_666 ?_
  intro z167
  refine V_icmp_ge (pc := 667) F 704 dL_tells_667 (by decide) ?_ ?_
  · refine V_iload (pc := 704) F dL_tells_704 5 rfl ?_
    refine V_if_eq (pc := 706) F 732 dL_tells_706 (by decide) ?_ ?_
    · refine V_sub [0, 2, 3, 4, 5] (L' := [(0, vR x0), (16, vR x16), (17, vI x17), (18, vI x18), (19, vI x19)]) rfl ?_
      exact vB_L_tells_732 F hm x0 x16 x17 x18 x19 h
    · refine V_aload (pc := 709) F dL_tells_709 1 rfl ?_
      refine V_aload (pc := 711) F dL_tells_711 2 rfl ?_
      refine V_iconst (pc := 713) F (x := (3 : Int32)) dL_tells_713 (by decide) ?_
      refine V_iald (pc := 714) F dL_tells_714 ?_
      intro z168
      refine V_bipush (pc := 715) F (x := (64 : Int32)) dL_tells_715 (by decide) ?_
      refine V_iload (pc := 717) F dL_tells_717 4 rfl ?_
      refine V_imul (pc := 719) F dL_tells_719 ?_
      intro z169
      refine V_iload (pc := 720) F dL_tells_720 3 rfl ?_
      refine V_iadd (pc := 722) F dL_tells_722 ?_
      intro z170
      refine V_iast (pc := 723) F dL_tells_723 ?_
      intro h171
      refine V_aload (pc := 724) F dL_tells_724 2 rfl ?_
      refine V_iconst (pc := 726) F (x := (3 : Int32)) dL_tells_726 (by decide) ?_
      refine V_dup2 (pc := 727) F dL_tells_727 rfl rfl ?_
      refine V_iald (pc := 728) F dL_tells_728 ?_
      intro z172
      refine V_iconst (pc := 729) F (x := (1 : Int32)) dL_tells_729 (by decide) ?_
      refine V_iadd (pc := 730) F dL_tells_730 ?_
      intro z173
      refine V_iast (pc := 731) F dL_tells_731 ?_
      intro h174
      refine V_sub [0, 2, 3, 4, 5] (L' := [(0, vR x0), (16, vR x16), (17, vI x17), (18, vI x18), (19, vI x19)]) rfl ?_
      exact vB_L_tells_732 F hm x0 x16 x17 x18 x19 h174
  · refine V_iload (pc := 670) F dL_tells_670 5 rfl ?_
    refine V_if_eq (pc := 672) F 695 dL_tells_672 (by decide) ?_ ?_
    · refine V_sub [0, 1, 2, 3, 4, 6] (L' := [(0, vR x0), (9, vR x9), (16, vR x16), (17, vI x17), (18, vI x18), (20, vI x20)]) rfl ?_
      exact vB_L_tells_695 F hm rc661 hrc661 x0 x9 x16 x17 x18 x20 h
    · refine V_aload (pc := 675) F dL_tells_675 1 rfl ?_
      refine V_iload (pc := 677) F dL_tells_677 6 rfl ?_
      refine V_iald (pc := 679) F dL_tells_679 ?_
      intro z175
      refine V_bipush (pc := 680) F (x := (64 : Int32)) dL_tells_680 (by decide) ?_
      refine V_iload (pc := 682) F dL_tells_682 4 rfl ?_
      refine V_imul (pc := 684) F dL_tells_684 ?_
      intro z176
      refine V_iload (pc := 685) F dL_tells_685 3 rfl ?_
      refine V_iadd (pc := 687) F dL_tells_687 ?_
      intro z177
      refine V_icmp_eq (pc := 688) F 695 dL_tells_688 (by decide) ?_ ?_
      · refine V_sub [0, 1, 2, 3, 4, 6] (L' := [(0, vR x0), (9, vR x9), (16, vR x16), (17, vI x17), (18, vI x18), (20, vI x20)]) rfl ?_
        exact vB_L_tells_695 F hm rc661 hrc661 x0 x9 x16 x17 x18 x20 h
      · refine V_iconst (pc := 691) F (x := (1 : Int32)) dL_tells_691 (by decide) ?_
        refine V_goto (pc := 692) F 696 dL_tells_692 (by decide) ?_
        refine V_sub [0, 1, 2, 3, 4, 6] (L' := [(0, vR x0), (9, vR x9), (16, vR x16), (17, vI x17), (18, vI x18), (20, vI x20)]) rfl ?_
        exact vB_L_tells_696 F hm rc661 hrc661 x0 x9 x16 x17 x18 x20 (1 : Int32) h
theorem vL_L_tells_661 {K : CT} (F : Fr K cL_tells RL (some .boolean) [] 10 1) (hm : mxL K = 22) (n : Nat) : ∀ x0 x9 x16 x17 x18 x19 x20 h, V K 661 [(0, vR x0), (9, vR x9), (16, vR x16), (17, vI x17), (18, vI x18), (19, vI x19), (20, vI x20)] [] h (L_L_tells_661 n x0 x9 x16 x17 x18 x19 x20 h) := by
  induction n with
  | zero => intros; exact V_none
  | succ n ih => intro x0 x9 x16 x17 x18 x19 x20 h; exact vB_L_tells_661 F hm _ ih x0 x9 x16 x17 x18 x19 x20 h
theorem vB_L_tells_656 {K : CT} (F : Fr K cL_tells RL (some .boolean) [] 10 1) (hm : mxL K = 22) (x0 : Option Nat) (x9 : Option Nat) (x16 : Option Nat) (x17 : Int32) (x18 : Int32) (s0 : Int32) (h : MH) : V K 656 [(0, vR x0), (9, vR x9), (16, vR x16), (17, vI x17), (18, vI x18)] [vI s0] h (B_L_tells_656 x0 x9 x16 x17 x18 s0 h) := by
  unfold B_L_tells_656
  refine V_istore (pc := 656) F [(19, vI s0), (0, vR x0), (9, vR x9), (16, vR x16), (17, vI x17), (18, vI x18)] dL_tells_656 (lt_mx hm (by decide)) rfl ?_
  refine V_iconst (pc := 658) F (x := (0 : Int32)) dL_tells_658 (by decide) ?_
  refine V_istore (pc := 659) F [(20, vI (0 : Int32)), (19, vI s0), (0, vR x0), (9, vR x9), (16, vR x16), (17, vI x17), (18, vI x18)] dL_tells_659 (lt_mx hm (by decide)) rfl ?_
  refine V_sub [2, 3, 4, 5, 6, 1, 0] (L' := [(0, vR x0), (9, vR x9), (16, vR x16), (17, vI x17), (18, vI x18), (19, vI s0), (20, vI (0 : Int32))]) rfl ?_
  exact vL_L_tells_661 F hm fuel x0 x9 x16 x17 x18 s0 (0 : Int32) h
theorem vB_L_tells_655 {K : CT} (F : Fr K cL_tells RL (some .boolean) [] 10 1) (hm : mxL K = 22) (x0 : Option Nat) (x9 : Option Nat) (x16 : Option Nat) (x17 : Int32) (x18 : Int32) (h : MH) : V K 655 [(0, vR x0), (9, vR x9), (16, vR x16), (17, vI x17), (18, vI x18)] [] h (B_L_tells_655 x0 x9 x16 x17 x18 h) := by
  unfold B_L_tells_655
  refine V_iconst (pc := 655) F (x := (0 : Int32)) dL_tells_655 (by decide) ?_
  exact vB_L_tells_656 F hm x0 x9 x16 x17 x18 (0 : Int32) h
theorem vB_L_tells_614 {K : CT} (F : Fr K cL_tells RL (some .boolean) [] 10 1) (hm : mxL K = 22) (x0 : Option Nat) (x2 : Int32) (x3 : Option Nat) (x9 : Option Nat) (x16 : Option Nat) (s0 : Int32) (h : MH) : V K 614 [(0, vR x0), (2, vI x2), (3, vR x3), (9, vR x9), (16, vR x16)] [vI s0] h (B_L_tells_614 x0 x2 x3 x9 x16 s0 h) := by
  unfold B_L_tells_614
  refine V_istore (pc := 614) F [(17, vI s0), (0, vR x0), (2, vI x2), (3, vR x3), (9, vR x9), (16, vR x16)] dL_tells_614 (lt_mx hm (by decide)) rfl ?_
  refine V_aload (pc := 616) F dL_tells_616 5 rfl ?_
  refine V_iconst (pc := 618) F (x := (0 : Int32)) dL_tells_618 (by decide) ?_
  refine V_iald (pc := 619) F dL_tells_619 ?_
  intro z159
  refine V_iconst (pc := 620) F (x := (1 : Int32)) dL_tells_620 (by decide) ?_
  refine V_iadd (pc := 621) F dL_tells_621 ?_
  intro z160
  refine V_iload_n (pc := 622) F dL_tells_622 2 rfl ?_
  refine V_iconst (pc := 623) F (x := (5 : Int32)) dL_tells_623 (by decide) ?_
  refine V_ishr (pc := 624) F dL_tells_624 ?_
  intro z161
  refine V_bipush (pc := 625) F (x := (6 : Int32)) dL_tells_625 (by decide) ?_
  refine V_cSM (pc := 627) F (as := [vI z161, vI (6 : Int32)]) (C_L_low z161 (6 : Int32) h) w_L_low g_st_L_low g_ml_RL_29 (by decide) (rest := [vI z160]) rfl rfl (Nat.le_of_ble_eq_true rfl) dL_tells_627 (k_I fun z162 h163 => ?_)
  refine V_iadd (pc := 630) F dL_tells_630 ?_
  intro z164
  refine V_istore (pc := 631) F [(18, vI z164), (17, vI s0), (0, vR x0), (2, vI x2), (3, vR x3), (9, vR x9), (16, vR x16)] dL_tells_631 (lt_mx hm (by decide)) rfl ?_
  refine V_aload_n (pc := 633) F dL_tells_633 4 rfl ?_
  refine V_iload (pc := 634) F dL_tells_634 1 rfl ?_
  refine V_iald (pc := 636) F dL_tells_636 ?_
  intro z165
  refine V_bipush (pc := 637) F (x := (8 : Int32)) dL_tells_637 (by decide) ?_
  refine V_icmp_ge (pc := 639) F 655 dL_tells_639 (by decide) ?_ ?_
  · refine V_sub [2, 5, 6, 1, 0] (L' := [(0, vR x0), (9, vR x9), (16, vR x16), (17, vI s0), (18, vI z164)]) rfl ?_
    exact vB_L_tells_655 F hm x0 x9 x16 s0 z164 h163
  · refine V_aload (pc := 642) F dL_tells_642 6 rfl ?_
    refine V_iconst (pc := 644) F (x := (3 : Int32)) dL_tells_644 (by decide) ?_
    refine V_iald (pc := 645) F dL_tells_645 ?_
    intro z166
    refine V_bipush (pc := 646) F (x := (30 : Int32)) dL_tells_646 (by decide) ?_
    refine V_icmp_ge (pc := 648) F 655 dL_tells_648 (by decide) ?_ ?_
    · refine V_sub [2, 5, 6, 1, 0] (L' := [(0, vR x0), (9, vR x9), (16, vR x16), (17, vI s0), (18, vI z164)]) rfl ?_
      exact vB_L_tells_655 F hm x0 x9 x16 s0 z164 h163
    · refine V_iconst (pc := 651) F (x := (1 : Int32)) dL_tells_651 (by decide) ?_
      refine V_goto (pc := 652) F 656 dL_tells_652 (by decide) ?_
      refine V_sub [2, 5, 6, 1, 0] (L' := [(0, vR x0), (9, vR x9), (16, vR x16), (17, vI s0), (18, vI z164)]) rfl ?_
      exact vB_L_tells_656 F hm x0 x9 x16 s0 z164 (1 : Int32) h163
theorem vB_L_tells_612 {K : CT} (F : Fr K cL_tells RL (some .boolean) [] 10 1) (hm : mxL K = 22) (x0 : Option Nat) (x2 : Int32) (x3 : Option Nat) (x9 : Option Nat) (x16 : Option Nat) (x17 : Int32) (h : MH) : V K 612 [(0, vR x0), (2, vI x2), (3, vR x3), (9, vR x9), (16, vR x16), (17, vI x17)] [] h (B_L_tells_612 x0 x2 x3 x9 x16 x17 h) := by
  unfold B_L_tells_612
  refine V_iload (pc := 612) F dL_tells_612 5 rfl ?_
  refine V_sub [0, 1, 2, 3, 4] (L' := [(0, vR x0), (2, vI x2), (3, vR x3), (9, vR x9), (16, vR x16)]) rfl ?_
  exact vB_L_tells_614 F hm x0 x2 x3 x9 x16 x17 h
theorem vB_L_tells_865 {K : CT} (F : Fr K cL_tells RL (some .boolean) [] 10 1) (hm : mxL K = 22) (rc805 : Option Nat → Option Nat → Option Nat → Option Nat → Int32 → Int32 → Int32 → Int32 → MH → Res) (hrc805 : ∀ x0 x9 x10 x16 x18 x19 x20 x21 h, V K 805 [(0, vR x0), (9, vR x9), (10, vR x10), (16, vR x16), (18, vI x18), (19, vI x19), (20, vI x20), (21, vI x21)] [] h (rc805 x0 x9 x10 x16 x18 x19 x20 x21 h)) (x0 : Option Nat) (x9 : Option Nat) (x10 : Option Nat) (x16 : Option Nat) (x18 : Int32) (x19 : Int32) (x21 : Int32) (s0 : Int32) (s1 : Int32) (h : MH) : V K 865 [(0, vR x0), (9, vR x9), (10, vR x10), (16, vR x16), (18, vI x18), (19, vI x19), (21, vI x21)] [vI s1, vI s0] h (B_L_tells_865 rc805 x0 x9 x10 x16 x18 x19 x21 s0 s1 h) := by
  unfold B_L_tells_865
  refine V_iadd (pc := 865) F dL_tells_865 ?_
  intro z206
  refine V_istore (pc := 866) F [(20, vI z206), (0, vR x0), (9, vR x9), (10, vR x10), (16, vR x16), (18, vI x18), (19, vI x19), (21, vI x21)] dL_tells_866 (lt_mx hm (by decide)) rfl ?_
  refine V_iinc (pc := 868) F (fun z207 => [(21, vI z207), (20, vI z206), (0, vR x0), (9, vR x9), (10, vR x10), (16, vR x16), (18, vI x18), (19, vI x19)]) dL_tells_868 (lt_mx hm (by decide)) 7 rfl (dx := (1 : Int32)) (by decide) (fun _ => rfl) ?_
  intro z207
  refine V_goto (pc := 871) F 805 dL_tells_871 (by decide) ?_
  refine V_sub [2, 3, 4, 5, 6, 7, 1, 0] (L' := [(0, vR x0), (9, vR x9), (10, vR x10), (16, vR x16), (18, vI x18), (19, vI x19), (20, vI z206), (21, vI z207)]) rfl ?_
  exact hrc805 x0 x9 x10 x16 x18 x19 z206 z207 h
theorem vB_L_tells_864 {K : CT} (F : Fr K cL_tells RL (some .boolean) [] 10 1) (hm : mxL K = 22) (rc805 : Option Nat → Option Nat → Option Nat → Option Nat → Int32 → Int32 → Int32 → Int32 → MH → Res) (hrc805 : ∀ x0 x9 x10 x16 x18 x19 x20 x21 h, V K 805 [(0, vR x0), (9, vR x9), (10, vR x10), (16, vR x16), (18, vI x18), (19, vI x19), (20, vI x20), (21, vI x21)] [] h (rc805 x0 x9 x10 x16 x18 x19 x20 x21 h)) (x0 : Option Nat) (x9 : Option Nat) (x10 : Option Nat) (x16 : Option Nat) (x18 : Int32) (x19 : Int32) (x21 : Int32) (s0 : Int32) (h : MH) : V K 864 [(0, vR x0), (9, vR x9), (10, vR x10), (16, vR x16), (18, vI x18), (19, vI x19), (21, vI x21)] [vI s0] h (B_L_tells_864 rc805 x0 x9 x10 x16 x18 x19 x21 s0 h) := by
  unfold B_L_tells_864
  refine V_iconst (pc := 864) F (x := (0 : Int32)) dL_tells_864 (by decide) ?_
  exact vB_L_tells_865 F hm rc805 hrc805 x0 x9 x10 x16 x18 x19 x21 s0 (0 : Int32) h
theorem vB_L_tells_805 {K : CT} (F : Fr K cL_tells RL (some .boolean) [] 10 1) (hm : mxL K = 22) (rc805 : Option Nat → Option Nat → Option Nat → Option Nat → Int32 → Int32 → Int32 → Int32 → MH → Res) (hrc805 : ∀ x0 x9 x10 x16 x18 x19 x20 x21 h, V K 805 [(0, vR x0), (9, vR x9), (10, vR x10), (16, vR x16), (18, vI x18), (19, vI x19), (20, vI x20), (21, vI x21)] [] h (rc805 x0 x9 x10 x16 x18 x19 x20 x21 h)) (x0 : Option Nat) (x9 : Option Nat) (x10 : Option Nat) (x16 : Option Nat) (x18 : Int32) (x19 : Int32) (x20 : Int32) (x21 : Int32) (h : MH) : V K 805 [(0, vR x0), (9, vR x9), (10, vR x10), (16, vR x16), (18, vI x18), (19, vI x19), (20, vI x20), (21, vI x21)] [] h (B_L_tells_805 rc805 x0 x9 x10 x16 x18 x19 x20 x21 h) := by
  unfold B_L_tells_805
  refine V_iload (pc := 805) F dL_tells_805 7 rfl ?_
  refine V_aload (pc := 807) F dL_tells_807 3 rfl ?_
  refine V_iconst (pc := 809) F (x := (3 : Int32)) dL_tells_809 (by decide) ?_
  refine V_iald (pc := 810) F dL_tells_810 ?_
  intro z182
  refine V_icmp_ge (pc := 811) F 874 dL_tells_811 (by decide) ?_ ?_
  · refine V_aload (pc := 874) F dL_tells_874 3 rfl ?_
    refine V_iconst (pc := 876) F (x := (4 : Int32)) dL_tells_876 (by decide) ?_
    refine V_iald (pc := 877) F dL_tells_877 ?_
    intro z183
    refine V_bipush (pc := 878) F (x := (20 : Int32)) dL_tells_878 (by decide) ?_
    refine V_icmp_ge (pc := 880) F 934 dL_tells_880 (by decide) ?_ ?_
    · refine V_aload_n (pc := 934) F dL_tells_934 0 rfl ?_
      refine V_iconst (pc := 935) F (x := (2 : Int32)) dL_tells_935 (by decide) ?_
      refine V_iload (pc := 936) F dL_tells_936 4 rfl ?_
      refine V_iload (pc := 938) F dL_tells_938 5 rfl ?_
      refine V_iconst (pc := 940) F (x := (0 : Int32)) dL_tells_940 (by decide) ?_
      refine V_cSW (pc := 941) F (as := [vR x0, vI (2 : Int32), vI x18, vI x19, vI (0 : Int32)]) (C_L_calls x0 (2 : Int32) x18 x19 (0 : Int32) h) w_L_calls g_st_L_calls g_ml_RL_130 (by decide) (rest := []) rfl rfl (Nat.le_of_ble_eq_true rfl) dL_tells_941 (k_I fun z184 h185 => ?_) (fun _ _ => VX_out F)
      refine V_ldc (pc := 944) F (x := (-2000000003 : Int32)) g_co_RL_50 dL_tells_944 ?_
      refine V_icmp_ne (pc := 946) F 953 dL_tells_946 (by decide) ?_ ?_
      · refine V_iconst (pc := 953) F (x := (0 : Int32)) dL_tells_953 (by decide) ?_
        exact V_zret (pc := 954) F (Or.inr rfl) dL_tells_954
      · refine V_iconst (pc := 949) F (x := (1 : Int32)) dL_tells_949 (by decide) ?_
        refine V_goto (pc := 950) F 954 dL_tells_950 (by decide) ?_
        exact V_zret (pc := 954) F (Or.inr rfl) dL_tells_954
    · refine V_aload (pc := 883) F dL_tells_883 2 rfl ?_
      refine V_iconst (pc := 885) F (x := (2 : Int32)) dL_tells_885 (by decide) ?_
      refine V_aload (pc := 886) F dL_tells_886 3 rfl ?_
      refine V_iconst (pc := 888) F (x := (4 : Int32)) dL_tells_888 (by decide) ?_
      refine V_iald (pc := 889) F dL_tells_889 ?_
      intro z186
      refine V_imul (pc := 890) F dL_tells_890 ?_
      intro z187
      refine V_iload (pc := 891) F dL_tells_891 4 rfl ?_
      refine V_iast (pc := 893) F dL_tells_893 ?_
      intro h188
      refine V_aload (pc := 894) F dL_tells_894 2 rfl ?_
      refine V_iconst (pc := 896) F (x := (2 : Int32)) dL_tells_896 (by decide) ?_
      refine V_aload (pc := 897) F dL_tells_897 3 rfl ?_
      refine V_iconst (pc := 899) F (x := (4 : Int32)) dL_tells_899 (by decide) ?_
      refine V_iald (pc := 900) F dL_tells_900 ?_
      intro z189
      refine V_imul (pc := 901) F dL_tells_901 ?_
      intro z190
      refine V_iconst (pc := 902) F (x := (1 : Int32)) dL_tells_902 (by decide) ?_
      refine V_iadd (pc := 903) F dL_tells_903 ?_
      intro z191
      refine V_iload (pc := 904) F dL_tells_904 5 rfl ?_
      refine V_iast (pc := 906) F dL_tells_906 ?_
      intro h192
      refine V_aload (pc := 907) F dL_tells_907 3 rfl ?_
      refine V_iconst (pc := 909) F (x := (4 : Int32)) dL_tells_909 (by decide) ?_
      refine V_dup2 (pc := 910) F dL_tells_910 rfl rfl ?_
      refine V_iald (pc := 911) F dL_tells_911 ?_
      intro z193
      refine V_iconst (pc := 912) F (x := (1 : Int32)) dL_tells_912 (by decide) ?_
      refine V_iadd (pc := 913) F dL_tells_913 ?_
      intro z194
      refine V_iast (pc := 914) F dL_tells_914 ?_
      intro h195
      refine V_aload_n (pc := 915) F dL_tells_915 0 rfl ?_
      refine V_iload (pc := 916) F dL_tells_916 4 rfl ?_
      refine V_iload (pc := 918) F dL_tells_918 5 rfl ?_
      refine V_cV (pc := 920) F 8 (by decide) (as := [vI x18, vI x19]) (C_X8_storm x0 x18 x19 h195) w_X8_storm g_in_X8_storm g_se_X8_storm g_ml_RL_20 (by decide) (rest := []) rfl rfl (Nat.le_of_ble_eq_true rfl) dL_tells_920 (k_I fun z196 h197 => ?_) (fun _ _ => VX_out F)
      refine V_iload (pc := 923) F dL_tells_923 6 rfl ?_
      refine V_icmp_ne (pc := 925) F 932 dL_tells_925 (by decide) ?_ ?_
      · refine V_iconst (pc := 932) F (x := (0 : Int32)) dL_tells_932 (by decide) ?_
        exact V_zret (pc := 933) F (Or.inr rfl) dL_tells_933
      · refine V_iconst (pc := 928) F (x := (1 : Int32)) dL_tells_928 (by decide) ?_
        refine V_goto (pc := 929) F 933 dL_tells_929 (by decide) ?_
        exact V_zret (pc := 933) F (Or.inr rfl) dL_tells_933
  · refine V_iload (pc := 814) F dL_tells_814 6 rfl ?_
    refine V_aload (pc := 816) F dL_tells_816 1 rfl ?_
    refine V_iload (pc := 818) F dL_tells_818 7 rfl ?_
    refine V_iald (pc := 820) F dL_tells_820 ?_
    intro z198
    refine V_bipush (pc := 821) F (x := (64 : Int32)) dL_tells_821 (by decide) ?_
    refine V_idiv (pc := 823) F dL_tells_823 ?_
    intro z199
    refine V_iload (pc := 824) F dL_tells_824 4 rfl ?_
    refine V_icmp_lt (pc := 826) F 864 dL_tells_826 (by decide) ?_ ?_
    · refine V_sub [0, 1, 2, 3, 4, 5, 7] (L' := [(0, vR x0), (9, vR x9), (10, vR x10), (16, vR x16), (18, vI x18), (19, vI x19), (21, vI x21)]) rfl ?_
      exact vB_L_tells_864 F hm rc805 hrc805 x0 x9 x10 x16 x18 x19 x21 x20 h
    · refine V_aload (pc := 829) F dL_tells_829 1 rfl ?_
      refine V_iload (pc := 831) F dL_tells_831 7 rfl ?_
      refine V_iald (pc := 833) F dL_tells_833 ?_
      intro z200
      refine V_bipush (pc := 834) F (x := (64 : Int32)) dL_tells_834 (by decide) ?_
      refine V_idiv (pc := 836) F dL_tells_836 ?_
      intro z201
      refine V_iload (pc := 837) F dL_tells_837 5 rfl ?_
      refine V_icmp_gt (pc := 839) F 864 dL_tells_839 (by decide) ?_ ?_
      · refine V_sub [0, 1, 2, 3, 4, 5, 7] (L' := [(0, vR x0), (9, vR x9), (10, vR x10), (16, vR x16), (18, vI x18), (19, vI x19), (21, vI x21)]) rfl ?_
        exact vB_L_tells_864 F hm rc805 hrc805 x0 x9 x10 x16 x18 x19 x21 x20 h
      · refine V_aload (pc := 842) F dL_tells_842 1 rfl ?_
        refine V_iload (pc := 844) F dL_tells_844 7 rfl ?_
        refine V_iald (pc := 846) F dL_tells_846 ?_
        intro z202
        refine V_bipush (pc := 847) F (x := (64 : Int32)) dL_tells_847 (by decide) ?_
        refine V_idiv (pc := 849) F dL_tells_849 ?_
        intro z203
        refine V_aload (pc := 850) F dL_tells_850 2 rfl ?_
        refine V_aload (pc := 852) F dL_tells_852 3 rfl ?_
        refine V_cSM (pc := 854) F (as := [vI z203, vR x10, vR x16]) (C_L_isStorm z203 x10 x16 h) w_L_isStorm g_st_L_isStorm g_ml_RL_74 (by decide) (rest := [vI x20]) rfl rfl (Nat.le_of_ble_eq_true rfl) dL_tells_854 (k_I fun z204 h205 => ?_)
        refine V_if_ne (pc := 857) F 864 dL_tells_857 (by decide) ?_ ?_
        · refine V_sub [0, 1, 2, 3, 4, 5, 7] (L' := [(0, vR x0), (9, vR x9), (10, vR x10), (16, vR x16), (18, vI x18), (19, vI x19), (21, vI x21)]) rfl ?_
          exact vB_L_tells_864 F hm rc805 hrc805 x0 x9 x10 x16 x18 x19 x21 x20 h205
        · refine V_iconst (pc := 860) F (x := (1 : Int32)) dL_tells_860 (by decide) ?_
          refine V_goto (pc := 861) F 865 dL_tells_861 (by decide) ?_
          refine V_sub [0, 1, 2, 3, 4, 5, 7] (L' := [(0, vR x0), (9, vR x9), (10, vR x10), (16, vR x16), (18, vI x18), (19, vI x19), (21, vI x21)]) rfl ?_
          exact vB_L_tells_865 F hm rc805 hrc805 x0 x9 x10 x16 x18 x19 x21 x20 (1 : Int32) h205
theorem vL_L_tells_805 {K : CT} (F : Fr K cL_tells RL (some .boolean) [] 10 1) (hm : mxL K = 22) (n : Nat) : ∀ x0 x9 x10 x16 x18 x19 x20 x21 h, V K 805 [(0, vR x0), (9, vR x9), (10, vR x10), (16, vR x16), (18, vI x18), (19, vI x19), (20, vI x20), (21, vI x21)] [] h (L_L_tells_805 n x0 x9 x10 x16 x18 x19 x20 x21 h) := by
  induction n with
  | zero => intros; exact V_none
  | succ n ih => intro x0 x9 x10 x16 x18 x19 x20 x21 h; exact vB_L_tells_805 F hm _ ih x0 x9 x10 x16 x18 x19 x20 x21 h
theorem vB_L_tells_993 {K : CT} (F : Fr K cL_tells RL (some .boolean) [] 10 1) (hm : mxL K = 22) (h : MH) : V K 993 [] [] h (B_L_tells_993 h) := by
  unfold B_L_tells_993
  refine V_iconst (pc := 993) F (x := (1 : Int32)) dL_tells_993 (by decide) ?_
  refine V_goto (pc := 994) F 998 dL_tells_994 (by decide) ?_
  exact V_zret (pc := 998) F (Or.inr rfl) dL_tells_998
theorem vB_L_tells_1117 {K : CT} (F : Fr K cL_tells RL (some .boolean) [] 10 1) (hm : mxL K = 22) (s0 : Int32) (s1 : Int32) (h : MH) : V K 1117 [] [vI s1, vI s0] h (B_L_tells_1117 s0 s1 h) := by
  unfold B_L_tells_1117
  refine V_icmp_ne (pc := 1117) F 1124 dL_tells_1117 (by decide) ?_ ?_
  · refine V_iconst (pc := 1124) F (x := (0 : Int32)) dL_tells_1124 (by decide) ?_
    exact V_zret (pc := 1125) F (Or.inr rfl) dL_tells_1125
  · refine V_iconst (pc := 1120) F (x := (1 : Int32)) dL_tells_1120 (by decide) ?_
    refine V_goto (pc := 1121) F 1125 dL_tells_1121 (by decide) ?_
    exact V_zret (pc := 1125) F (Or.inr rfl) dL_tells_1125
theorem vB_L_tells_1091 {K : CT} (F : Fr K cL_tells RL (some .boolean) [] 10 1) (hm : mxL K = 22) (x0 : Option Nat) (x16 : Option Nat) (x17 : Int32) (x18 : Int32) (h : MH) : V K 1091 [(0, vR x0), (16, vR x16), (17, vI x17), (18, vI x18)] [] h (B_L_tells_1091 x0 x16 x17 x18 h) := by
  unfold B_L_tells_1091
  refine V_aload_n (pc := 1091) F dL_tells_1091 0 rfl ?_
  refine V_iconst (pc := 1092) F (x := (4 : Int32)) dL_tells_1092 (by decide) ?_
  refine V_iload (pc := 1093) F dL_tells_1093 2 rfl ?_
  refine V_iconst (pc := 1095) F (x := (0 : Int32)) dL_tells_1095 (by decide) ?_
  refine V_iconst (pc := 1096) F (x := (0 : Int32)) dL_tells_1096 (by decide) ?_
  refine V_cSW (pc := 1097) F (as := [vR x0, vI (4 : Int32), vI x17, vI (0 : Int32), vI (0 : Int32)]) (C_L_calls x0 (4 : Int32) x17 (0 : Int32) (0 : Int32) h) w_L_calls g_st_L_calls g_ml_RL_130 (by decide) (rest := []) rfl rfl (Nat.le_of_ble_eq_true rfl) dL_tells_1097 (k_I fun z220 h221 => ?_) (fun _ _ => VX_out F)
  refine V_iload (pc := 1100) F dL_tells_1100 3 rfl ?_
  refine V_if_eq (pc := 1102) F 1115 dL_tells_1102 (by decide) ?_ ?_
  · refine V_ldc (pc := 1115) F (x := (-2000000003 : Int32)) g_co_RL_50 dL_tells_1115 ?_
    refine V_sub [] (L' := []) rfl ?_
    exact vB_L_tells_1117 F hm z220 (-2000000003 : Int32) h221
  · refine V_aload (pc := 1105) F dL_tells_1105 1 rfl ?_
    refine V_bipush (pc := 1107) F (x := (6 : Int32)) dL_tells_1107 (by decide) ?_
    refine V_iald (pc := 1109) F dL_tells_1109 ?_
    intro z222
    refine V_iconst (pc := 1110) F (x := (1 : Int32)) dL_tells_1110 (by decide) ?_
    refine V_isub (pc := 1111) F dL_tells_1111 ?_
    intro z223
    refine V_goto (pc := 1112) F 1117 dL_tells_1112 (by decide) ?_
    refine V_sub [] (L' := []) rfl ?_
    exact vB_L_tells_1117 F hm z220 z223 h221
theorem vB_L_tells_1081 {K : CT} (F : Fr K cL_tells RL (some .boolean) [] 10 1) (hm : mxL K = 22) (x0 : Option Nat) (x16 : Option Nat) (x17 : Int32) (x18 : Int32) (s0 : Option Nat) (s1 : Int32) (s2 : Int32) (h : MH) : V K 1081 [(0, vR x0), (16, vR x16), (17, vI x17), (18, vI x18)] [vI s2, vI s1, vR s0] h (B_L_tells_1081 x0 x16 x17 x18 s0 s1 s2 h) := by
  unfold B_L_tells_1081
  refine V_iast (pc := 1081) F dL_tells_1081 ?_
  intro h216
  refine V_aload (pc := 1082) F dL_tells_1082 1 rfl ?_
  refine V_bipush (pc := 1084) F (x := (6 : Int32)) dL_tells_1084 (by decide) ?_
  refine V_dup2 (pc := 1086) F dL_tells_1086 rfl rfl ?_
  refine V_iald (pc := 1087) F dL_tells_1087 ?_
  intro z217
  refine V_iconst (pc := 1088) F (x := (1 : Int32)) dL_tells_1088 (by decide) ?_
  refine V_iadd (pc := 1089) F dL_tells_1089 ?_
  intro z218
  refine V_iast (pc := 1090) F dL_tells_1090 ?_
  intro h219
  exact vB_L_tells_1091 F hm x0 x16 x17 x18 h219
theorem vB_L_tells_1056 {K : CT} (F : Fr K cL_tells RL (some .boolean) [] 10 1) (hm : mxL K = 22) (x0 : Option Nat) (x15 : Option Nat) (x16 : Option Nat) (x17 : Int32) (x18 : Int32) (s0 : Option Nat) (s1 : Int32) (s2 : Int32) (h : MH) : V K 1056 [(0, vR x0), (15, vR x15), (16, vR x16), (17, vI x17), (18, vI x18)] [vI s2, vI s1, vR s0] h (B_L_tells_1056 x0 x15 x16 x17 x18 s0 s1 s2 h) := by
  unfold B_L_tells_1056
  refine V_iast (pc := 1056) F dL_tells_1056 ?_
  intro h213
  refine V_aload (pc := 1057) F dL_tells_1057 1 rfl ?_
  refine V_iload (pc := 1059) F dL_tells_1059 3 rfl ?_
  refine V_aload (pc := 1061) F dL_tells_1061 2 rfl ?_
  refine V_bipush (pc := 1063) F (x := (6 : Int32)) dL_tells_1063 (by decide) ?_
  refine V_iald (pc := 1065) F dL_tells_1065 ?_
  intro z214
  refine V_iconst (pc := 1066) F (x := (1 : Int32)) dL_tells_1066 (by decide) ?_
  refine V_icmp_ne (pc := 1067) F 1076 dL_tells_1067 (by decide) ?_ ?_
  · refine V_aload (pc := 1076) F dL_tells_1076 1 rfl ?_
    refine V_iload (pc := 1078) F dL_tells_1078 3 rfl ?_
    refine V_iald (pc := 1080) F dL_tells_1080 ?_
    intro z215
    refine V_sub [0, 2, 3, 4] (L' := [(0, vR x0), (16, vR x16), (17, vI x17), (18, vI x18)]) rfl ?_
    exact vB_L_tells_1081 F hm x0 x16 x17 x18 x15 x17 z215 h213
  · refine V_sipush (pc := 1070) F (x := (10000 : Int32)) dL_tells_1070 (by decide) ?_
    refine V_goto (pc := 1073) F 1081 dL_tells_1073 (by decide) ?_
    refine V_sub [0, 2, 3, 4] (L' := [(0, vR x0), (16, vR x16), (17, vI x17), (18, vI x18)]) rfl ?_
    exact vB_L_tells_1081 F hm x0 x16 x17 x18 x15 x17 (10000 : Int32) h213
theorem vB_L_tells_1013 {K : CT} (F : Fr K cL_tells RL (some .boolean) [] 10 1) (hm : mxL K = 22) (x0 : Option Nat) (x14 : Option Nat) (x15 : Option Nat) (x16 : Option Nat) (x17 : Int32) (s0 : Int32) (h : MH) : V K 1013 [(0, vR x0), (14, vR x14), (15, vR x15), (16, vR x16), (17, vI x17)] [vI s0] h (B_L_tells_1013 x0 x14 x15 x16 x17 s0 h) := by
  unfold B_L_tells_1013
  refine V_istore (pc := 1013) F [(18, vI s0), (0, vR x0), (14, vR x14), (15, vR x15), (16, vR x16), (17, vI x17)] dL_tells_1013 (lt_mx hm (by decide)) rfl ?_
  refine V_iload (pc := 1015) F dL_tells_1015 0 rfl ?_
  refine V_if_eq (pc := 1017) F 1091 dL_tells_1017 (by decide) ?_ ?_
  · refine V_sub [1, 4, 5, 0] (L' := [(0, vR x0), (16, vR x16), (17, vI x17), (18, vI s0)]) rfl ?_
    exact vB_L_tells_1091 F hm x0 x16 x17 s0 h
  · refine V_aload (pc := 1020) F dL_tells_1020 4 rfl ?_
    refine V_bipush (pc := 1022) F (x := (14 : Int32)) dL_tells_1022 (by decide) ?_
    refine V_aload (pc := 1024) F dL_tells_1024 4 rfl ?_
    refine V_bipush (pc := 1026) F (x := (6 : Int32)) dL_tells_1026 (by decide) ?_
    refine V_iald (pc := 1028) F dL_tells_1028 ?_
    intro z208
    refine V_iadd (pc := 1029) F dL_tells_1029 ?_
    intro z209
    refine V_iload (pc := 1030) F dL_tells_1030 5 rfl ?_
    refine V_iast (pc := 1032) F dL_tells_1032 ?_
    intro h210
    refine V_aload (pc := 1033) F dL_tells_1033 2 rfl ?_
    refine V_iload (pc := 1035) F dL_tells_1035 5 rfl ?_
    refine V_aload (pc := 1037) F dL_tells_1037 4 rfl ?_
    refine V_bipush (pc := 1039) F (x := (6 : Int32)) dL_tells_1039 (by decide) ?_
    refine V_iald (pc := 1041) F dL_tells_1041 ?_
    intro z211
    refine V_if_ne (pc := 1042) F 1051 dL_tells_1042 (by decide) ?_ ?_
    · refine V_aload (pc := 1051) F dL_tells_1051 2 rfl ?_
      refine V_iload (pc := 1053) F dL_tells_1053 5 rfl ?_
      refine V_iald (pc := 1055) F dL_tells_1055 ?_
      intro z212
      refine V_sub [1, 3, 4, 5, 0] (L' := [(0, vR x0), (15, vR x15), (16, vR x16), (17, vI x17), (18, vI s0)]) rfl ?_
      exact vB_L_tells_1056 F hm x0 x15 x16 x17 s0 x14 x17 z212 h210
    · refine V_sipush (pc := 1045) F (x := (10000 : Int32)) dL_tells_1045 (by decide) ?_
      refine V_goto (pc := 1048) F 1056 dL_tells_1048 (by decide) ?_
      refine V_sub [1, 3, 4, 5, 0] (L' := [(0, vR x0), (15, vR x15), (16, vR x16), (17, vI x17), (18, vI s0)]) rfl ?_
      exact vB_L_tells_1056 F hm x0 x15 x16 x17 s0 x14 x17 (10000 : Int32) h210
theorem vB_L_tells_1174 {K : CT} (F : Fr K cL_tells RL (some .boolean) [] 10 1) (hm : mxL K = 22) (x0 : Option Nat) (x14 : Option Nat) (x18 : Int32) (s0 : Int32) (h : MH) : V K 1174 [(0, vR x0), (14, vR x14), (18, vI x18)] [vI s0] h (B_L_tells_1174 x0 x14 x18 s0 h) := by
  unfold B_L_tells_1174
  refine V_istore (pc := 1174) F [(17, vI s0), (0, vR x0), (14, vR x14), (18, vI x18)] dL_tells_1174 (lt_mx hm (by decide)) rfl ?_
  refine V_aload (pc := 1176) F dL_tells_1176 2 rfl ?_
  refine V_iload (pc := 1178) F dL_tells_1178 0 rfl ?_
  refine V_iald (pc := 1180) F dL_tells_1180 ?_
  intro z224
  refine V_iload (pc := 1181) F dL_tells_1181 3 rfl ?_
  refine V_imul (pc := 1183) F dL_tells_1183 ?_
  intro z225
  refine V_bipush (pc := 1184) F (x := (100 : Int32)) dL_tells_1184 (by decide) ?_
  refine V_idiv (pc := 1186) F dL_tells_1186 ?_
  intro z226
  refine V_istore (pc := 1187) F [(19, vI z226), (17, vI s0), (0, vR x0), (14, vR x14), (18, vI x18)] dL_tells_1187 (lt_mx hm (by decide)) rfl ?_
  refine V_aload (pc := 1189) F dL_tells_1189 3 rfl ?_
  refine V_iload (pc := 1191) F dL_tells_1191 1 rfl ?_
  refine V_dup2 (pc := 1193) F dL_tells_1193 rfl rfl ?_
  refine V_iald (pc := 1194) F dL_tells_1194 ?_
  intro z227
  refine V_iload (pc := 1195) F dL_tells_1195 0 rfl ?_
  refine V_isub (pc := 1197) F dL_tells_1197 ?_
  intro z228
  refine V_iast (pc := 1198) F dL_tells_1198 ?_
  intro h229
  refine V_aload_n (pc := 1199) F dL_tells_1199 2 rfl ?_
  refine V_iconst (pc := 1200) F (x := (0 : Int32)) dL_tells_1200 (by decide) ?_
  refine V_iload (pc := 1201) F dL_tells_1201 1 rfl ?_
  refine V_iload (pc := 1203) F dL_tells_1203 4 rfl ?_
  refine V_cV (pc := 1205) F 8 (by decide) (as := [vI (0 : Int32), vI s0, vI x18]) (C_X8_leg x0 (0 : Int32) s0 x18 h229) w_X8_leg g_in_X8_leg g_se_X8_leg g_ml_RL_140 (by decide) (rest := []) rfl rfl (Nat.le_of_ble_eq_true rfl) dL_tells_1205 (k_I fun z230 h231 => ?_) (fun _ _ => VX_out F)
  refine V_iload (pc := 1208) F dL_tells_1208 0 rfl ?_
  refine V_icmp_ne (pc := 1210) F 1217 dL_tells_1210 (by decide) ?_ ?_
  · refine V_iconst (pc := 1217) F (x := (0 : Int32)) dL_tells_1217 (by decide) ?_
    exact V_zret (pc := 1218) F (Or.inr rfl) dL_tells_1218
  · refine V_iconst (pc := 1213) F (x := (1 : Int32)) dL_tells_1213 (by decide) ?_
    refine V_goto (pc := 1214) F 1218 dL_tells_1214 (by decide) ?_
    exact V_zret (pc := 1218) F (Or.inr rfl) dL_tells_1218
theorem vB_L_tells_1257 {K : CT} (F : Fr K cL_tells RL (some .boolean) [] 10 1) (hm : mxL K = 22) (x0 : Option Nat) (x16 : Option Nat) (x18 : Int32) (s0 : Option Nat) (s1 : Int32) (s2 : Int32) (s3 : Int32) (h : MH) : V K 1257 [(0, vR x0), (16, vR x16), (18, vI x18)] [vI s3, vI s2, vI s1, vR s0] h (B_L_tells_1257 x0 x16 x18 s0 s1 s2 s3 h) := by
  unfold B_L_tells_1257
  refine V_cSM (pc := 1257) F (as := [vI s2, vI s3]) (C_L_low s2 s3 h) w_L_low g_st_L_low g_ml_RL_29 (by decide) (rest := [vI s1, vR s0]) rfl rfl (Nat.le_of_ble_eq_true rfl) dL_tells_1257 (k_I fun z232 h233 => ?_)
  refine V_iast (pc := 1260) F dL_tells_1260 ?_
  intro h234
  refine V_aload_n (pc := 1261) F dL_tells_1261 0 rfl ?_
  refine V_aload (pc := 1262) F dL_tells_1262 1 rfl ?_
  refine V_bipush (pc := 1264) F (x := (7 : Int32)) dL_tells_1264 (by decide) ?_
  refine V_iald (pc := 1266) F dL_tells_1266 ?_
  intro z235
  refine V_cV (pc := 1267) F 8 (by decide) (as := [vI z235]) (C_X8_bound x0 z235 h234) w_X8_bound g_in_X8_bound g_se_X8_bound g_ml_RL_143 (by decide) (rest := []) rfl rfl (Nat.le_of_ble_eq_true rfl) dL_tells_1267 (k_I fun z236 h237 => ?_) (fun _ _ => VX_out F)
  refine V_iload (pc := 1270) F dL_tells_1270 2 rfl ?_
  refine V_icmp_ne (pc := 1272) F 1279 dL_tells_1272 (by decide) ?_ ?_
  · refine V_iconst (pc := 1279) F (x := (0 : Int32)) dL_tells_1279 (by decide) ?_
    exact V_zret (pc := 1280) F (Or.inr rfl) dL_tells_1280
  · refine V_iconst (pc := 1275) F (x := (1 : Int32)) dL_tells_1275 (by decide) ?_
    refine V_goto (pc := 1276) F 1280 dL_tells_1276 (by decide) ?_
    exact V_zret (pc := 1280) F (Or.inr rfl) dL_tells_1280
theorem vB_L_tells_1354 {K : CT} (F : Fr K cL_tells RL (some .boolean) [] 10 1) (hm : mxL K = 22) (x0 : Option Nat) (x18 : Int32) (x19 : Int32) (s0 : Option Nat) (s1 : Int32) (s2 : Int32) (h : MH) : V K 1354 [(0, vR x0), (18, vI x18), (19, vI x19)] [vI s2, vI s1, vR s0] h (B_L_tells_1354 x0 x18 x19 s0 s1 s2 h) := by
  unfold B_L_tells_1354
  refine V_iast (pc := 1354) F dL_tells_1354 ?_
  intro h238
  refine V_aload_n (pc := 1355) F dL_tells_1355 0 rfl ?_
  refine V_iconst (pc := 1356) F (x := (3 : Int32)) dL_tells_1356 (by decide) ?_
  refine V_iload (pc := 1357) F dL_tells_1357 1 rfl ?_
  refine V_iconst (pc := 1359) F (x := (0 : Int32)) dL_tells_1359 (by decide) ?_
  refine V_iconst (pc := 1360) F (x := (0 : Int32)) dL_tells_1360 (by decide) ?_
  refine V_cSW (pc := 1361) F (as := [vR x0, vI (3 : Int32), vI x18, vI (0 : Int32), vI (0 : Int32)]) (C_L_calls x0 (3 : Int32) x18 (0 : Int32) (0 : Int32) h238) w_L_calls g_st_L_calls g_ml_RL_130 (by decide) (rest := []) rfl rfl (Nat.le_of_ble_eq_true rfl) dL_tells_1361 (k_I fun z239 h240 => ?_) (fun _ _ => VX_out F)
  refine V_iload (pc := 1364) F dL_tells_1364 2 rfl ?_
  refine V_icmp_ne (pc := 1366) F 1373 dL_tells_1366 (by decide) ?_ ?_
  · refine V_iconst (pc := 1373) F (x := (0 : Int32)) dL_tells_1373 (by decide) ?_
    exact V_zret (pc := 1374) F (Or.inr rfl) dL_tells_1374
  · refine V_iconst (pc := 1369) F (x := (1 : Int32)) dL_tells_1369 (by decide) ?_
    refine V_goto (pc := 1370) F 1374 dL_tells_1370 (by decide) ?_
    exact V_zret (pc := 1374) F (Or.inr rfl) dL_tells_1374
theorem vM_L_tells {K : CT} (F : Fr K cL_tells RL (some .boolean) [] 10 1) (hm : mxL K = 22) (x0 : Option Nat) (x1 : Int32) (x2 : Int32) (x3 : Option Nat) (x4 : Option Nat) (x5 : Option Nat) (x6 : Option Nat) (x7 : Option Nat) (x8 : Option Nat) (x9 : Option Nat) (x10 : Option Nat) (x11 : Option Nat) (x12 : Option Nat) (x13 : Option Nat) (x14 : Option Nat) (x15 : Option Nat) (x16 : Option Nat) (h : MH) : V K 0 [(0, vR x0), (1, vI x1), (2, vI x2), (3, vR x3), (4, vR x4), (5, vR x5), (6, vR x6), (7, vR x7), (8, vR x8), (9, vR x9), (10, vR x10), (11, vR x11), (12, vR x12), (13, vR x13), (14, vR x14), (15, vR x15), (16, vR x16)] [] h (M_L_tells x0 x1 x2 x3 x4 x5 x6 x7 x8 x9 x10 x11 x12 x13 x14 x15 x16 h) := by
  unfold M_L_tells
  refine V_iload_n (pc := 0) F dL_tells_0 2 rfl ?_
  refine V_bipush (pc := 1) F (x := (60 : Int32)) dL_tells_1 (by decide) ?_
  refine V_cSM (pc := 3) F (as := [vI x2, vI (60 : Int32)]) (C_L_low x2 (60 : Int32) h) w_L_low g_st_L_low g_ml_RL_29 (by decide) (rest := []) rfl rfl (Nat.le_of_ble_eq_true rfl) dL_tells_3 (k_I fun z1 h2 => ?_)
  refine V_istore (pc := 6) F [(17, vI z1), (0, vR x0), (1, vI x1), (2, vI x2), (3, vR x3), (4, vR x4), (5, vR x5), (6, vR x6), (7, vR x7), (8, vR x8), (9, vR x9), (10, vR x10), (11, vR x11), (12, vR x12), (13, vR x13), (14, vR x14), (15, vR x15), (16, vR x16)] dL_tells_6 (lt_mx hm (by decide)) rfl ?_
  refine V_iload_n (pc := 8) F dL_tells_8 2 rfl ?_
  refine V_if_ne (pc := 9) F 278 dL_tells_9 (by decide) ?_ ?_
  · refine V_iload_n (pc := 278) F dL_tells_278 2 rfl ?_
    refine V_iconst (pc := 279) F (x := (1 : Int32)) dL_tells_279 (by decide) ?_
    refine V_icmp_ne (pc := 280) F 332 dL_tells_280 (by decide) ?_ ?_
    · refine V_iload_n (pc := 332) F dL_tells_332 2 rfl ?_
      refine V_iconst (pc := 333) F (x := (2 : Int32)) dL_tells_333 (by decide) ?_
      refine V_icmp_ne (pc := 334) F 398 dL_tells_334 (by decide) ?_ ?_
      · refine V_iload_n (pc := 398) F dL_tells_398 2 rfl ?_
        refine V_iconst (pc := 399) F (x := (3 : Int32)) dL_tells_399 (by decide) ?_
        refine V_icmp_ne (pc := 400) F 571 dL_tells_400 (by decide) ?_ ?_
        · refine V_iload_n (pc := 571) F dL_tells_571 2 rfl ?_
          refine V_iconst (pc := 572) F (x := (4 : Int32)) dL_tells_572 (by decide) ?_
          refine V_icmp_ne (pc := 573) F 765 dL_tells_573 (by decide) ?_ ?_
          · refine V_iload_n (pc := 765) F dL_tells_765 2 rfl ?_
            refine V_iconst (pc := 766) F (x := (5 : Int32)) dL_tells_766 (by decide) ?_
            refine V_icmp_ne (pc := 767) F 955 dL_tells_767 (by decide) ?_ ?_
            · refine V_iload_n (pc := 955) F dL_tells_955 2 rfl ?_
              refine V_bipush (pc := 956) F (x := (6 : Int32)) dL_tells_956 (by decide) ?_
              refine V_icmp_ne (pc := 958) F 1126 dL_tells_958 (by decide) ?_ ?_
              · refine V_iload_n (pc := 1126) F dL_tells_1126 2 rfl ?_
                refine V_bipush (pc := 1127) F (x := (7 : Int32)) dL_tells_1127 (by decide) ?_
                refine V_icmp_ne (pc := 1129) F 1219 dL_tells_1129 (by decide) ?_ ?_
                · refine V_iload_n (pc := 1219) F dL_tells_1219 2 rfl ?_
                  refine V_bipush (pc := 1220) F (x := (8 : Int32)) dL_tells_1220 (by decide) ?_
                  refine V_icmp_ne (pc := 1222) F 1281 dL_tells_1222 (by decide) ?_ ?_
                  · refine V_iload_n (pc := 1281) F dL_tells_1281 2 rfl ?_
                    refine V_bipush (pc := 1282) F (x := (9 : Int32)) dL_tells_1282 (by decide) ?_
                    refine V_icmp_ne (pc := 1284) F 1375 dL_tells_1284 (by decide) ?_ ?_
                    · refine V_aload (pc := 1375) F dL_tells_1375 17 rfl ?_
                      refine V_iconst (pc := 1377) F (x := (5 : Int32)) dL_tells_1377 (by decide) ?_
                      refine V_iald (pc := 1378) F dL_tells_1378 ?_
                      intro z3
                      refine V_if_ne (pc := 1379) F 1384 dL_tells_1379 (by decide) ?_ ?_
                      · refine V_iload_n (pc := 1384) F dL_tells_1384 3 rfl ?_
                        refine V_iconst (pc := 1385) F (x := (2 : Int32)) dL_tells_1385 (by decide) ?_
                        refine V_ishr (pc := 1386) F dL_tells_1386 ?_
                        intro z4
                        refine V_aload (pc := 1387) F dL_tells_1387 17 rfl ?_
                        refine V_iconst (pc := 1389) F (x := (5 : Int32)) dL_tells_1389 (by decide) ?_
                        refine V_iald (pc := 1390) F dL_tells_1390 ?_
                        intro z5
                        refine V_cSM (pc := 1391) F (as := [vI z4, vI z5]) (C_L_low z4 z5 h2) w_L_low g_st_L_low g_ml_RL_29 (by decide) (rest := []) rfl rfl (Nat.le_of_ble_eq_true rfl) dL_tells_1391 (k_I fun z6 h7 => ?_)
                        refine V_istore (pc := 1394) F [(18, vI z6), (17, vI z1), (0, vR x0), (1, vI x1), (2, vI x2), (3, vR x3), (4, vR x4), (5, vR x5), (6, vR x6), (7, vR x7), (8, vR x8), (9, vR x9), (10, vR x10), (11, vR x11), (12, vR x12), (13, vR x13), (14, vR x14), (15, vR x15), (16, vR x16)] dL_tells_1394 (lt_mx hm (by decide)) rfl ?_
                        refine V_iload (pc := 1396) F dL_tells_1396 0 rfl ?_
                        refine V_aload (pc := 1398) F dL_tells_1398 14 rfl ?_
                        refine V_aload (pc := 1400) F dL_tells_1400 15 rfl ?_
                        refine V_aload (pc := 1402) F dL_tells_1402 18 rfl ?_
                        refine V_cSM (pc := 1404) F (as := [vI z6, vR x12, vR x13, vR x16]) (C_L_flag z6 x12 x13 x16 h7) w_L_flag g_st_L_flag g_ml_RL_81 (by decide) (rest := []) rfl rfl (Nat.le_of_ble_eq_true rfl) dL_tells_1404 (k_I fun z8 h9 => ?_)
                        refine V_istore (pc := 1407) F [(19, vI z8), (18, vI z6), (17, vI z1), (0, vR x0), (1, vI x1), (2, vI x2), (3, vR x3), (4, vR x4), (5, vR x5), (6, vR x6), (7, vR x7), (8, vR x8), (9, vR x9), (10, vR x10), (11, vR x11), (12, vR x12), (13, vR x13), (14, vR x14), (15, vR x15), (16, vR x16)] dL_tells_1407 (lt_mx hm (by decide)) rfl ?_
                        refine V_iload_n (pc := 1409) F dL_tells_1409 5 rfl ?_
                        refine V_bipush (pc := 1410) F (x := (6 : Int32)) dL_tells_1410 (by decide) ?_
                        refine V_ishr (pc := 1412) F dL_tells_1412 ?_
                        intro z10
                        refine V_iconst (pc := 1413) F (x := (4 : Int32)) dL_tells_1413 (by decide) ?_
                        refine V_cSM (pc := 1414) F (as := [vI z10, vI (4 : Int32)]) (C_L_low z10 (4 : Int32) h9) w_L_low g_st_L_low g_ml_RL_29 (by decide) (rest := []) rfl rfl (Nat.le_of_ble_eq_true rfl) dL_tells_1414 (k_I fun z11 h12 => ?_)
                        refine V_iconst (pc := 1417) F (x := (1 : Int32)) dL_tells_1417 (by decide) ?_
                        refine V_isub (pc := 1418) F dL_tells_1418 ?_
                        intro z13
                        refine V_istore (pc := 1419) F [(20, vI z13), (19, vI z8), (18, vI z6), (17, vI z1), (0, vR x0), (1, vI x1), (2, vI x2), (3, vR x3), (4, vR x4), (5, vR x5), (6, vR x6), (7, vR x7), (8, vR x8), (9, vR x9), (10, vR x10), (11, vR x11), (12, vR x12), (13, vR x13), (14, vR x14), (15, vR x15), (16, vR x16)] dL_tells_1419 (lt_mx hm (by decide)) rfl ?_
                        refine V_aload (pc := 1421) F dL_tells_1421 17 rfl ?_
                        refine V_iload (pc := 1423) F dL_tells_1423 2 rfl ?_
                        refine V_aload (pc := 1425) F dL_tells_1425 17 rfl ?_
                        refine V_iload (pc := 1427) F dL_tells_1427 2 rfl ?_
                        refine V_iald (pc := 1429) F dL_tells_1429 ?_
                        intro z14
                        refine V_bipush (pc := 1430) F (x := (16 : Int32)) dL_tells_1430 (by decide) ?_
                        refine V_irem (pc := 1432) F dL_tells_1432 ?_
                        intro z15
                        refine V_bipush (pc := 1433) F (x := (16 : Int32)) dL_tells_1433 (by decide) ?_
                        refine V_iload (pc := 1435) F dL_tells_1435 0 rfl ?_
                        refine V_iconst (pc := 1437) F (x := (1 : Int32)) dL_tells_1437 (by decide) ?_
                        refine V_iadd (pc := 1438) F dL_tells_1438 ?_
                        intro z16
                        refine V_imul (pc := 1439) F dL_tells_1439 ?_
                        intro z17
                        refine V_iadd (pc := 1440) F dL_tells_1440 ?_
                        intro z18
                        refine V_iast (pc := 1441) F dL_tells_1441 ?_
                        intro h19
                        refine V_aload_n (pc := 1442) F dL_tells_1442 4 rfl ?_
                        refine V_iload (pc := 1443) F dL_tells_1443 2 rfl ?_
                        refine V_iload (pc := 1445) F dL_tells_1445 0 rfl ?_
                        refine V_cV (pc := 1447) F 8 (by decide) (as := [vI z6, vI z13]) (C_X8_flag x0 z6 z13 h19) w_X8_flag g_in_X8_flag g_se_X8_flag g_ml_RL_150 (by decide) (rest := []) rfl rfl (Nat.le_of_ble_eq_true rfl) dL_tells_1447 (k_I fun z20 h21 => ?_) (fun _ _ => VX_out F)
                        refine V_iload (pc := 1450) F dL_tells_1450 1 rfl ?_
                        refine V_icmp_ne (pc := 1452) F 1459 dL_tells_1452 (by decide) ?_ ?_
                        · refine V_iconst (pc := 1459) F (x := (0 : Int32)) dL_tells_1459 (by decide) ?_
                          exact V_zret (pc := 1460) F (Or.inr rfl) dL_tells_1460
                        · refine V_iconst (pc := 1455) F (x := (1 : Int32)) dL_tells_1455 (by decide) ?_
                          refine V_goto (pc := 1456) F 1460 dL_tells_1456 (by decide) ?_
                          exact V_zret (pc := 1460) F (Or.inr rfl) dL_tells_1460
                      · refine V_iconst (pc := 1382) F (x := (1 : Int32)) dL_tells_1382 (by decide) ?_
                        exact V_zret (pc := 1383) F (Or.inr rfl) dL_tells_1383
                    · refine V_aload (pc := 1287) F dL_tells_1287 17 rfl ?_
                      refine V_iconst (pc := 1289) F (x := (2 : Int32)) dL_tells_1289 (by decide) ?_
                      refine V_iald (pc := 1290) F dL_tells_1290 ?_
                      intro z22
                      refine V_if_ne (pc := 1291) F 1296 dL_tells_1291 (by decide) ?_ ?_
                      · refine V_iload_n (pc := 1296) F dL_tells_1296 3 rfl ?_
                        refine V_iconst (pc := 1297) F (x := (3 : Int32)) dL_tells_1297 (by decide) ?_
                        refine V_ishr (pc := 1298) F dL_tells_1298 ?_
                        intro z23
                        refine V_aload (pc := 1299) F dL_tells_1299 17 rfl ?_
                        refine V_iconst (pc := 1301) F (x := (2 : Int32)) dL_tells_1301 (by decide) ?_
                        refine V_iald (pc := 1302) F dL_tells_1302 ?_
                        intro z24
                        refine V_cSM (pc := 1303) F (as := [vI z23, vI z24]) (C_L_low z23 z24 h2) w_L_low g_st_L_low g_ml_RL_29 (by decide) (rest := []) rfl rfl (Nat.le_of_ble_eq_true rfl) dL_tells_1303 (k_I fun z25 h26 => ?_)
                        refine V_istore (pc := 1306) F [(18, vI z25), (17, vI z1), (0, vR x0), (1, vI x1), (2, vI x2), (3, vR x3), (4, vR x4), (5, vR x5), (6, vR x6), (7, vR x7), (8, vR x8), (9, vR x9), (10, vR x10), (11, vR x11), (12, vR x12), (13, vR x13), (14, vR x14), (15, vR x15), (16, vR x16)] dL_tells_1306 (lt_mx hm (by decide)) rfl ?_
                        refine V_iload (pc := 1308) F dL_tells_1308 0 rfl ?_
                        refine V_aload (pc := 1310) F dL_tells_1310 13 rfl ?_
                        refine V_aload (pc := 1312) F dL_tells_1312 14 rfl ?_
                        refine V_aload (pc := 1314) F dL_tells_1314 15 rfl ?_
                        refine V_aload (pc := 1316) F dL_tells_1316 18 rfl ?_
                        refine V_cSM (pc := 1318) F (as := [vI z25, vR x11, vR x12, vR x13, vR x16]) (C_L_calibrated z25 x11 x12 x13 x16 h26) w_L_calibrated g_st_L_calibrated g_ml_RL_146 (by decide) (rest := []) rfl rfl (Nat.le_of_ble_eq_true rfl) dL_tells_1318 (k_I fun z27 h28 => ?_)
                        refine V_istore (pc := 1321) F [(19, vI z27), (18, vI z25), (17, vI z1), (0, vR x0), (1, vI x1), (2, vI x2), (3, vR x3), (4, vR x4), (5, vR x5), (6, vR x6), (7, vR x7), (8, vR x8), (9, vR x9), (10, vR x10), (11, vR x11), (12, vR x12), (13, vR x13), (14, vR x14), (15, vR x15), (16, vR x16)] dL_tells_1321 (lt_mx hm (by decide)) rfl ?_
                        refine V_aload (pc := 1323) F dL_tells_1323 11 rfl ?_
                        refine V_bipush (pc := 1325) F (x := (8 : Int32)) dL_tells_1325 (by decide) ?_
                        refine V_iload (pc := 1327) F dL_tells_1327 1 rfl ?_
                        refine V_imul (pc := 1329) F dL_tells_1329 ?_
                        intro z29
                        refine V_iconst (pc := 1330) F (x := (5 : Int32)) dL_tells_1330 (by decide) ?_
                        refine V_iadd (pc := 1331) F dL_tells_1331 ?_
                        intro z30
                        refine V_iload (pc := 1332) F dL_tells_1332 0 rfl ?_
                        refine V_ldc (pc := 1334) F (x := (-2000000003 : Int32)) g_co_RL_50 dL_tells_1334 ?_
                        refine V_icmp_ne (pc := 1336) F 1352 dL_tells_1336 (by decide) ?_ ?_
                        · refine V_iload (pc := 1352) F dL_tells_1352 0 rfl ?_
                          refine V_sub [3, 1, 0] (L' := [(0, vR x0), (18, vI z25), (19, vI z27)]) rfl ?_
                          exact vB_L_tells_1354 F hm x0 z25 z27 x8 z30 z27 h28
                        · refine V_aload (pc := 1339) F dL_tells_1339 11 rfl ?_
                          refine V_bipush (pc := 1341) F (x := (8 : Int32)) dL_tells_1341 (by decide) ?_
                          refine V_iload (pc := 1343) F dL_tells_1343 1 rfl ?_
                          refine V_imul (pc := 1345) F dL_tells_1345 ?_
                          intro z31
                          refine V_iconst (pc := 1346) F (x := (5 : Int32)) dL_tells_1346 (by decide) ?_
                          refine V_iadd (pc := 1347) F dL_tells_1347 ?_
                          intro z32
                          refine V_iald (pc := 1348) F dL_tells_1348 ?_
                          intro z33
                          refine V_goto (pc := 1349) F 1354 dL_tells_1349 (by decide) ?_
                          refine V_sub [3, 1, 0] (L' := [(0, vR x0), (18, vI z25), (19, vI z27)]) rfl ?_
                          exact vB_L_tells_1354 F hm x0 z25 z27 x8 z30 z33 h28
                      · refine V_iconst (pc := 1294) F (x := (1 : Int32)) dL_tells_1294 (by decide) ?_
                        exact V_zret (pc := 1295) F (Or.inr rfl) dL_tells_1295
                  · refine V_aload (pc := 1225) F dL_tells_1225 17 rfl ?_
                    refine V_bipush (pc := 1227) F (x := (7 : Int32)) dL_tells_1227 (by decide) ?_
                    refine V_iald (pc := 1229) F dL_tells_1229 ?_
                    intro z34
                    refine V_istore (pc := 1230) F [(18, vI z34), (17, vI z1), (0, vR x0), (1, vI x1), (2, vI x2), (3, vR x3), (4, vR x4), (5, vR x5), (6, vR x6), (7, vR x7), (8, vR x8), (9, vR x9), (10, vR x10), (11, vR x11), (12, vR x12), (13, vR x13), (14, vR x14), (15, vR x15), (16, vR x16)] dL_tells_1230 (lt_mx hm (by decide)) rfl ?_
                    refine V_aload (pc := 1232) F dL_tells_1232 18 rfl ?_
                    refine V_bipush (pc := 1234) F (x := (7 : Int32)) dL_tells_1234 (by decide) ?_
                    refine V_iload_n (pc := 1236) F dL_tells_1236 4 rfl ?_
                    refine V_iconst (pc := 1237) F (x := (3 : Int32)) dL_tells_1237 (by decide) ?_
                    refine V_ishr (pc := 1238) F dL_tells_1238 ?_
                    intro z35
                    refine V_iload_n (pc := 1239) F dL_tells_1239 4 rfl ?_
                    refine V_iconst (pc := 1240) F (x := (5 : Int32)) dL_tells_1240 (by decide) ?_
                    refine V_ishr (pc := 1241) F dL_tells_1241 ?_
                    intro z36
                    refine V_iconst (pc := 1242) F (x := (3 : Int32)) dL_tells_1242 (by decide) ?_
                    refine V_cSM (pc := 1243) F (as := [vI z36, vI (3 : Int32)]) (C_L_low z36 (3 : Int32) h2) w_L_low g_st_L_low g_ml_RL_29 (by decide) (rest := [vI z35, vI (7 : Int32), vR x16]) rfl rfl (Nat.le_of_ble_eq_true rfl) dL_tells_1243 (k_I fun z37 h38 => ?_)
                    refine V_if_ne (pc := 1246) F 1255 dL_tells_1246 (by decide) ?_ ?_
                    · refine V_bipush (pc := 1255) F (x := (120 : Int32)) dL_tells_1255 (by decide) ?_
                      refine V_sub [2, 18, 0] (L' := [(0, vR x0), (16, vR x16), (18, vI z34)]) rfl ?_
                      exact vB_L_tells_1257 F hm x0 x16 z34 x16 (7 : Int32) z35 (120 : Int32) h38
                    · refine V_sipush (pc := 1249) F (x := (1001 : Int32)) dL_tells_1249 (by decide) ?_
                      refine V_goto (pc := 1252) F 1257 dL_tells_1252 (by decide) ?_
                      refine V_sub [2, 18, 0] (L' := [(0, vR x0), (16, vR x16), (18, vI z34)]) rfl ?_
                      exact vB_L_tells_1257 F hm x0 x16 z34 x16 (7 : Int32) z35 (1001 : Int32) h38
                · refine V_aload (pc := 1132) F dL_tells_1132 17 rfl ?_
                  refine V_bipush (pc := 1134) F (x := (6 : Int32)) dL_tells_1134 (by decide) ?_
                  refine V_iald (pc := 1136) F dL_tells_1136 ?_
                  intro z39
                  refine V_if_ne (pc := 1137) F 1142 dL_tells_1137 (by decide) ?_ ?_
                  · refine V_iconst (pc := 1142) F (x := (1 : Int32)) dL_tells_1142 (by decide) ?_
                    refine V_iload_n (pc := 1143) F dL_tells_1143 3 rfl ?_
                    refine V_iconst (pc := 1144) F (x := (5 : Int32)) dL_tells_1144 (by decide) ?_
                    refine V_ishr (pc := 1145) F dL_tells_1145 ?_
                    intro z40
                    refine V_bipush (pc := 1146) F (x := (100 : Int32)) dL_tells_1146 (by decide) ?_
                    refine V_cSM (pc := 1148) F (as := [vI z40, vI (100 : Int32)]) (C_L_low z40 (100 : Int32) h2) w_L_low g_st_L_low g_ml_RL_29 (by decide) (rest := [vI (1 : Int32)]) rfl rfl (Nat.le_of_ble_eq_true rfl) dL_tells_1148 (k_I fun z41 h42 => ?_)
                    refine V_iadd (pc := 1151) F dL_tells_1151 ?_
                    intro z43
                    refine V_istore (pc := 1152) F [(18, vI z43), (17, vI z1), (0, vR x0), (1, vI x1), (2, vI x2), (3, vR x3), (4, vR x4), (5, vR x5), (6, vR x6), (7, vR x7), (8, vR x8), (9, vR x9), (10, vR x10), (11, vR x11), (12, vR x12), (13, vR x13), (14, vR x14), (15, vR x15), (16, vR x16)] dL_tells_1152 (lt_mx hm (by decide)) rfl ?_
                    refine V_iload_n (pc := 1154) F dL_tells_1154 4 rfl ?_
                    refine V_iconst (pc := 1155) F (x := (3 : Int32)) dL_tells_1155 (by decide) ?_
                    refine V_ishr (pc := 1156) F dL_tells_1156 ?_
                    intro z44
                    refine V_iconst (pc := 1157) F (x := (3 : Int32)) dL_tells_1157 (by decide) ?_
                    refine V_cSM (pc := 1158) F (as := [vI z44, vI (3 : Int32)]) (C_L_low z44 (3 : Int32) h42) w_L_low g_st_L_low g_ml_RL_29 (by decide) (rest := []) rfl rfl (Nat.le_of_ble_eq_true rfl) dL_tells_1158 (k_I fun z45 h46 => ?_)
                    refine V_if_le (pc := 1161) F 1172 dL_tells_1161 (by decide) ?_ ?_
                    · refine V_iload (pc := 1172) F dL_tells_1172 1 rfl ?_
                      refine V_sub [2, 16, 0] (L' := [(0, vR x0), (14, vR x14), (18, vI z43)]) rfl ?_
                      exact vB_L_tells_1174 F hm x0 x14 z43 z1 h46
                    · refine V_aload (pc := 1164) F dL_tells_1164 16 rfl ?_
                      refine V_cSM (pc := 1166) F (as := [vR x14]) (C_L_best x14 h46) w_L_best g_st_L_best g_ml_RL_88 (by decide) (rest := []) rfl rfl (Nat.le_of_ble_eq_true rfl) dL_tells_1166 (k_I fun z47 h48 => ?_)
                      refine V_goto (pc := 1169) F 1174 dL_tells_1169 (by decide) ?_
                      refine V_sub [2, 16, 0] (L' := [(0, vR x0), (14, vR x14), (18, vI z43)]) rfl ?_
                      exact vB_L_tells_1174 F hm x0 x14 z43 z47 h48
                  · refine V_iconst (pc := 1140) F (x := (1 : Int32)) dL_tells_1140 (by decide) ?_
                    exact V_zret (pc := 1141) F (Or.inr rfl) dL_tells_1141
              · refine V_aload (pc := 961) F dL_tells_961 17 rfl ?_
                refine V_bipush (pc := 963) F (x := (6 : Int32)) dL_tells_963 (by decide) ?_
                refine V_iald (pc := 965) F dL_tells_965 ?_
                intro z49
                refine V_iconst (pc := 966) F (x := (2 : Int32)) dL_tells_966 (by decide) ?_
                refine V_icmp_ne (pc := 967) F 999 dL_tells_967 (by decide) ?_ ?_
                · refine V_aload_n (pc := 999) F dL_tells_999 4 rfl ?_
                  refine V_iload (pc := 1000) F dL_tells_1000 0 rfl ?_
                  refine V_iald (pc := 1002) F dL_tells_1002 ?_
                  intro z50
                  refine V_bipush (pc := 1003) F (x := (8 : Int32)) dL_tells_1003 (by decide) ?_
                  refine V_icmp_ge (pc := 1005) F 1012 dL_tells_1005 (by decide) ?_ ?_
                  · refine V_iconst (pc := 1012) F (x := (0 : Int32)) dL_tells_1012 (by decide) ?_
                    refine V_sub [1, 15, 16, 17, 0] (L' := [(0, vR x0), (14, vR x14), (15, vR x15), (16, vR x16), (17, vI z1)]) rfl ?_
                    exact vB_L_tells_1013 F hm x0 x14 x15 x16 z1 (0 : Int32) h2
                  · refine V_iconst (pc := 1008) F (x := (1 : Int32)) dL_tells_1008 (by decide) ?_
                    refine V_goto (pc := 1009) F 1013 dL_tells_1009 (by decide) ?_
                    refine V_sub [1, 15, 16, 17, 0] (L' := [(0, vR x0), (14, vR x14), (15, vR x15), (16, vR x16), (17, vI z1)]) rfl ?_
                    exact vB_L_tells_1013 F hm x0 x14 x15 x16 z1 (1 : Int32) h2
                · refine V_aload_n (pc := 970) F dL_tells_970 4 rfl ?_
                  refine V_iload (pc := 971) F dL_tells_971 0 rfl ?_
                  refine V_iald (pc := 973) F dL_tells_973 ?_
                  intro z51
                  refine V_bipush (pc := 974) F (x := (8 : Int32)) dL_tells_974 (by decide) ?_
                  refine V_icmp_lt (pc := 976) F 993 dL_tells_976 (by decide) ?_ ?_
                  · refine V_sub [] (L' := []) rfl ?_
                    exact vB_L_tells_993 F hm h2
                  · refine V_aload_n (pc := 979) F dL_tells_979 1 rfl ?_
                    refine V_iconst (pc := 980) F (x := (4 : Int32)) dL_tells_980 (by decide) ?_
                    refine V_iload (pc := 981) F dL_tells_981 0 rfl ?_
                    refine V_iconst (pc := 983) F (x := (0 : Int32)) dL_tells_983 (by decide) ?_
                    refine V_iconst (pc := 984) F (x := (0 : Int32)) dL_tells_984 (by decide) ?_
                    refine V_cSW (pc := 985) F (as := [vR x0, vI (4 : Int32), vI z1, vI (0 : Int32), vI (0 : Int32)]) (C_L_calls x0 (4 : Int32) z1 (0 : Int32) (0 : Int32) h2) w_L_calls g_st_L_calls g_ml_RL_130 (by decide) (rest := []) rfl rfl (Nat.le_of_ble_eq_true rfl) dL_tells_985 (k_I fun z52 h53 => ?_) (fun _ _ => VX_out F)
                    refine V_ldc (pc := 988) F (x := (-2000000003 : Int32)) g_co_RL_50 dL_tells_988 ?_
                    refine V_icmp_ne (pc := 990) F 997 dL_tells_990 (by decide) ?_ ?_
                    · refine V_iconst (pc := 997) F (x := (0 : Int32)) dL_tells_997 (by decide) ?_
                      exact V_zret (pc := 998) F (Or.inr rfl) dL_tells_998
                    · refine V_sub [] (L' := []) rfl ?_
                      exact vB_L_tells_993 F hm h53
            · refine V_aload (pc := 770) F dL_tells_770 17 rfl ?_
              refine V_iconst (pc := 772) F (x := (0 : Int32)) dL_tells_772 (by decide) ?_
              refine V_iald (pc := 773) F dL_tells_773 ?_
              intro z54
              refine V_iconst (pc := 774) F (x := (1 : Int32)) dL_tells_774 (by decide) ?_
              refine V_iadd (pc := 775) F dL_tells_775 ?_
              intro z55
              refine V_iload_n (pc := 776) F dL_tells_776 3 rfl ?_
              refine V_iconst (pc := 777) F (x := (2 : Int32)) dL_tells_777 (by decide) ?_
              refine V_ishr (pc := 778) F dL_tells_778 ?_
              intro z56
              refine V_bipush (pc := 779) F (x := (8 : Int32)) dL_tells_779 (by decide) ?_
              refine V_cSM (pc := 781) F (as := [vI z56, vI (8 : Int32)]) (C_L_low z56 (8 : Int32) h2) w_L_low g_st_L_low g_ml_RL_29 (by decide) (rest := [vI z55]) rfl rfl (Nat.le_of_ble_eq_true rfl) dL_tells_781 (k_I fun z57 h58 => ?_)
              refine V_iadd (pc := 784) F dL_tells_784 ?_
              intro z59
              refine V_istore (pc := 785) F [(18, vI z59), (17, vI z1), (0, vR x0), (1, vI x1), (2, vI x2), (3, vR x3), (4, vR x4), (5, vR x5), (6, vR x6), (7, vR x7), (8, vR x8), (9, vR x9), (10, vR x10), (11, vR x11), (12, vR x12), (13, vR x13), (14, vR x14), (15, vR x15), (16, vR x16)] dL_tells_785 (lt_mx hm (by decide)) rfl ?_
              refine V_iload (pc := 787) F dL_tells_787 0 rfl ?_
              refine V_iload_n (pc := 789) F dL_tells_789 4 rfl ?_
              refine V_iconst (pc := 790) F (x := (5 : Int32)) dL_tells_790 (by decide) ?_
              refine V_ishr (pc := 791) F dL_tells_791 ?_
              intro z60
              refine V_iconst (pc := 792) F (x := (4 : Int32)) dL_tells_792 (by decide) ?_
              refine V_cSM (pc := 793) F (as := [vI z60, vI (4 : Int32)]) (C_L_low z60 (4 : Int32) h58) w_L_low g_st_L_low g_ml_RL_29 (by decide) (rest := [vI z59]) rfl rfl (Nat.le_of_ble_eq_true rfl) dL_tells_793 (k_I fun z61 h62 => ?_)
              refine V_iadd (pc := 796) F dL_tells_796 ?_
              intro z63
              refine V_istore (pc := 797) F [(19, vI z63), (18, vI z59), (17, vI z1), (0, vR x0), (1, vI x1), (2, vI x2), (3, vR x3), (4, vR x4), (5, vR x5), (6, vR x6), (7, vR x7), (8, vR x8), (9, vR x9), (10, vR x10), (11, vR x11), (12, vR x12), (13, vR x13), (14, vR x14), (15, vR x15), (16, vR x16)] dL_tells_797 (lt_mx hm (by decide)) rfl ?_
              refine V_iconst (pc := 799) F (x := (0 : Int32)) dL_tells_799 (by decide) ?_
              refine V_istore (pc := 800) F [(20, vI (0 : Int32)), (19, vI z63), (18, vI z59), (17, vI z1), (0, vR x0), (1, vI x1), (2, vI x2), (3, vR x3), (4, vR x4), (5, vR x5), (6, vR x6), (7, vR x7), (8, vR x8), (9, vR x9), (10, vR x10), (11, vR x11), (12, vR x12), (13, vR x13), (14, vR x14), (15, vR x15), (16, vR x16)] dL_tells_800 (lt_mx hm (by decide)) rfl ?_
              refine V_iconst (pc := 802) F (x := (0 : Int32)) dL_tells_802 (by decide) ?_
              refine V_istore (pc := 803) F [(21, vI (0 : Int32)), (20, vI (0 : Int32)), (19, vI z63), (18, vI z59), (17, vI z1), (0, vR x0), (1, vI x1), (2, vI x2), (3, vR x3), (4, vR x4), (5, vR x5), (6, vR x6), (7, vR x7), (8, vR x8), (9, vR x9), (10, vR x10), (11, vR x11), (12, vR x12), (13, vR x13), (14, vR x14), (15, vR x15), (16, vR x16)] dL_tells_803 (lt_mx hm (by decide)) rfl ?_
              refine V_sub [5, 14, 15, 21, 3, 2, 1, 0] (L' := [(0, vR x0), (9, vR x9), (10, vR x10), (16, vR x16), (18, vI z59), (19, vI z63), (20, vI (0 : Int32)), (21, vI (0 : Int32))]) rfl ?_
              exact vL_L_tells_805 F hm fuel x0 x9 x10 x16 z59 z63 (0 : Int32) (0 : Int32) h62
          · refine V_aload (pc := 576) F dL_tells_576 17 rfl ?_
            refine V_iconst (pc := 578) F (x := (2 : Int32)) dL_tells_578 (by decide) ?_
            refine V_iald (pc := 579) F dL_tells_579 ?_
            intro z64
            refine V_if_le (pc := 580) F 612 dL_tells_580 (by decide) ?_ ?_
            · refine V_sub [1, 3, 4, 10, 17, 0] (L' := [(0, vR x0), (2, vI x2), (3, vR x3), (9, vR x9), (16, vR x16), (17, vI z1)]) rfl ?_
              exact vB_L_tells_612 F hm x0 x2 x3 x9 x16 z1 h2
            · refine V_iload_n (pc := 583) F dL_tells_583 3 rfl ?_
              refine V_iconst (pc := 584) F (x := (3 : Int32)) dL_tells_584 (by decide) ?_
              refine V_ishr (pc := 585) F dL_tells_585 ?_
              intro z65
              refine V_iconst (pc := 586) F (x := (4 : Int32)) dL_tells_586 (by decide) ?_
              refine V_cSM (pc := 587) F (as := [vI z65, vI (4 : Int32)]) (C_L_low z65 (4 : Int32) h2) w_L_low g_st_L_low g_ml_RL_29 (by decide) (rest := []) rfl rfl (Nat.le_of_ble_eq_true rfl) dL_tells_587 (k_I fun z66 h67 => ?_)
              refine V_if_le (pc := 590) F 612 dL_tells_590 (by decide) ?_ ?_
              · refine V_sub [1, 3, 4, 10, 17, 0] (L' := [(0, vR x0), (2, vI x2), (3, vR x3), (9, vR x9), (16, vR x16), (17, vI z1)]) rfl ?_
                exact vB_L_tells_612 F hm x0 x2 x3 x9 x16 z1 h67
              · refine V_aload (pc := 593) F dL_tells_593 9 rfl ?_
                refine V_bipush (pc := 595) F (x := (8 : Int32)) dL_tells_595 (by decide) ?_
                refine V_iload_n (pc := 597) F dL_tells_597 3 rfl ?_
                refine V_iconst (pc := 598) F (x := (4 : Int32)) dL_tells_598 (by decide) ?_
                refine V_ishr (pc := 599) F dL_tells_599 ?_
                intro z68
                refine V_aload (pc := 600) F dL_tells_600 17 rfl ?_
                refine V_iconst (pc := 602) F (x := (2 : Int32)) dL_tells_602 (by decide) ?_
                refine V_iald (pc := 603) F dL_tells_603 ?_
                intro z69
                refine V_cSM (pc := 604) F (as := [vI z68, vI z69]) (C_L_low z68 z69 h67) w_L_low g_st_L_low g_ml_RL_29 (by decide) (rest := [vI (8 : Int32), vR x8]) rfl rfl (Nat.le_of_ble_eq_true rfl) dL_tells_604 (k_I fun z70 h71 => ?_)
                refine V_imul (pc := 607) F dL_tells_607 ?_
                intro z72
                refine V_iald (pc := 608) F dL_tells_608 ?_
                intro z73
                refine V_goto (pc := 609) F 614 dL_tells_609 (by decide) ?_
                refine V_sub [1, 3, 4, 10, 17] (L' := [(0, vR x0), (2, vI x2), (3, vR x3), (9, vR x9), (16, vR x16)]) rfl ?_
                exact vB_L_tells_614 F hm x0 x2 x3 x9 x16 z73 h71
        · refine V_iconst (pc := 403) F (x := (1 : Int32)) dL_tells_403 (by decide) ?_
          refine V_iload_n (pc := 404) F dL_tells_404 3 rfl ?_
          refine V_iconst (pc := 405) F (x := (4 : Int32)) dL_tells_405 (by decide) ?_
          refine V_ishr (pc := 406) F dL_tells_406 ?_
          intro z74
          refine V_iconst (pc := 407) F (x := (4 : Int32)) dL_tells_407 (by decide) ?_
          refine V_cSM (pc := 408) F (as := [vI z74, vI (4 : Int32)]) (C_L_low z74 (4 : Int32) h2) w_L_low g_st_L_low g_ml_RL_29 (by decide) (rest := [vI (1 : Int32)]) rfl rfl (Nat.le_of_ble_eq_true rfl) dL_tells_408 (k_I fun z75 h76 => ?_)
          refine V_iadd (pc := 411) F dL_tells_411 ?_
          intro z77
          refine V_istore (pc := 412) F [(18, vI z77), (17, vI z1), (0, vR x0), (1, vI x1), (2, vI x2), (3, vR x3), (4, vR x4), (5, vR x5), (6, vR x6), (7, vR x7), (8, vR x8), (9, vR x9), (10, vR x10), (11, vR x11), (12, vR x12), (13, vR x13), (14, vR x14), (15, vR x15), (16, vR x16)] dL_tells_412 (lt_mx hm (by decide)) rfl ?_
          refine V_iconst (pc := 414) F (x := (1 : Int32)) dL_tells_414 (by decide) ?_
          refine V_iload_n (pc := 415) F dL_tells_415 4 rfl ?_
          refine V_bipush (pc := 416) F (x := (6 : Int32)) dL_tells_416 (by decide) ?_
          refine V_ishr (pc := 418) F dL_tells_418 ?_
          intro z78
          refine V_iconst (pc := 419) F (x := (3 : Int32)) dL_tells_419 (by decide) ?_
          refine V_cSM (pc := 420) F (as := [vI z78, vI (3 : Int32)]) (C_L_low z78 (3 : Int32) h76) w_L_low g_st_L_low g_ml_RL_29 (by decide) (rest := [vI (1 : Int32)]) rfl rfl (Nat.le_of_ble_eq_true rfl) dL_tells_420 (k_I fun z79 h80 => ?_)
          refine V_iadd (pc := 423) F dL_tells_423 ?_
          intro z81
          refine V_istore (pc := 424) F [(19, vI z81), (18, vI z77), (17, vI z1), (0, vR x0), (1, vI x1), (2, vI x2), (3, vR x3), (4, vR x4), (5, vR x5), (6, vR x6), (7, vR x7), (8, vR x8), (9, vR x9), (10, vR x10), (11, vR x11), (12, vR x12), (13, vR x13), (14, vR x14), (15, vR x15), (16, vR x16)] dL_tells_424 (lt_mx hm (by decide)) rfl ?_
          refine V_aload_n (pc := 426) F dL_tells_426 6 rfl ?_
          refine V_iload (pc := 427) F dL_tells_427 2 rfl ?_
          refine V_iald (pc := 429) F dL_tells_429 ?_
          intro z82
          refine V_bipush (pc := 430) F (x := (8 : Int32)) dL_tells_430 (by decide) ?_
          refine V_icmp_ge (pc := 432) F 448 dL_tells_432 (by decide) ?_ ?_
          · refine V_sub [3, 11, 19, 2, 1, 0] (L' := [(0, vR x0), (8, vR x8), (16, vR x16), (17, vI z1), (18, vI z77), (19, vI z81)]) rfl ?_
            exact vB_L_tells_448 F hm x0 x8 x16 z1 z77 z81 h80
          · refine V_aload (pc := 435) F dL_tells_435 19 rfl ?_
            refine V_iconst (pc := 437) F (x := (2 : Int32)) dL_tells_437 (by decide) ?_
            refine V_iald (pc := 438) F dL_tells_438 ?_
            intro z83
            refine V_bipush (pc := 439) F (x := (8 : Int32)) dL_tells_439 (by decide) ?_
            refine V_icmp_ge (pc := 441) F 448 dL_tells_441 (by decide) ?_ ?_
            · refine V_sub [3, 11, 19, 2, 1, 0] (L' := [(0, vR x0), (8, vR x8), (16, vR x16), (17, vI z1), (18, vI z77), (19, vI z81)]) rfl ?_
              exact vB_L_tells_448 F hm x0 x8 x16 z1 z77 z81 h80
            · refine V_iconst (pc := 444) F (x := (1 : Int32)) dL_tells_444 (by decide) ?_
              refine V_goto (pc := 445) F 449 dL_tells_445 (by decide) ?_
              refine V_sub [3, 11, 19, 2, 1, 0] (L' := [(0, vR x0), (8, vR x8), (16, vR x16), (17, vI z1), (18, vI z77), (19, vI z81)]) rfl ?_
              exact vB_L_tells_449 F hm x0 x8 x16 z1 z77 z81 (1 : Int32) h80
      · refine V_iload (pc := 337) F dL_tells_337 0 rfl ?_
        refine V_bipush (pc := 339) F (x := (6 : Int32)) dL_tells_339 (by decide) ?_
        refine V_irem (pc := 341) F dL_tells_341 ?_
        intro z84
        refine V_istore (pc := 342) F [(18, vI z84), (17, vI z1), (0, vR x0), (1, vI x1), (2, vI x2), (3, vR x3), (4, vR x4), (5, vR x5), (6, vR x6), (7, vR x7), (8, vR x8), (9, vR x9), (10, vR x10), (11, vR x11), (12, vR x12), (13, vR x13), (14, vR x14), (15, vR x15), (16, vR x16)] dL_tells_342 (lt_mx hm (by decide)) rfl ?_
        refine V_aload (pc := 344) F dL_tells_344 18 rfl ?_
        refine V_bipush (pc := 346) F (x := (8 : Int32)) dL_tells_346 (by decide) ?_
        refine V_iload (pc := 348) F dL_tells_348 0 rfl ?_
        refine V_iadd (pc := 350) F dL_tells_350 ?_
        intro z85
        refine V_iald (pc := 351) F dL_tells_351 ?_
        intro z86
        refine V_istore (pc := 352) F [(19, vI z86), (18, vI z84), (17, vI z1), (0, vR x0), (1, vI x1), (2, vI x2), (3, vR x3), (4, vR x4), (5, vR x5), (6, vR x6), (7, vR x7), (8, vR x8), (9, vR x9), (10, vR x10), (11, vR x11), (12, vR x12), (13, vR x13), (14, vR x14), (15, vR x15), (16, vR x16)] dL_tells_352 (lt_mx hm (by decide)) rfl ?_
        refine V_aload (pc := 354) F dL_tells_354 19 rfl ?_
        refine V_bipush (pc := 356) F (x := (8 : Int32)) dL_tells_356 (by decide) ?_
        refine V_iload (pc := 358) F dL_tells_358 1 rfl ?_
        refine V_iadd (pc := 360) F dL_tells_360 ?_
        intro z87
        refine V_iload_n (pc := 361) F dL_tells_361 5 rfl ?_
        refine V_iconst (pc := 362) F (x := (4 : Int32)) dL_tells_362 (by decide) ?_
        refine V_ishr (pc := 363) F dL_tells_363 ?_
        intro z88
        refine V_bipush (pc := 364) F (x := (101 : Int32)) dL_tells_364 (by decide) ?_
        refine V_cSM (pc := 366) F (as := [vI z88, vI (101 : Int32)]) (C_L_low z88 (101 : Int32) h2) w_L_low g_st_L_low g_ml_RL_29 (by decide) (rest := [vI z87, vR x16]) rfl rfl (Nat.le_of_ble_eq_true rfl) dL_tells_366 (k_I fun z89 h90 => ?_)
        refine V_bipush (pc := 369) F (x := (50 : Int32)) dL_tells_369 (by decide) ?_
        refine V_isub (pc := 371) F dL_tells_371 ?_
        intro z91
        refine V_iast (pc := 372) F dL_tells_372 ?_
        intro h92
        refine V_aload_n (pc := 373) F dL_tells_373 3 rfl ?_
        refine V_iload (pc := 374) F dL_tells_374 1 rfl ?_
        refine V_aload (pc := 376) F dL_tells_376 19 rfl ?_
        refine V_bipush (pc := 378) F (x := (8 : Int32)) dL_tells_378 (by decide) ?_
        refine V_iload (pc := 380) F dL_tells_380 1 rfl ?_
        refine V_iadd (pc := 382) F dL_tells_382 ?_
        intro z93
        refine V_iald (pc := 383) F dL_tells_383 ?_
        intro z94
        refine V_cV (pc := 384) F 8 (by decide) (as := [vI z84, vI z94]) (C_X8_sun x0 z84 z94 h92) w_X8_sun g_in_X8_sun g_se_X8_sun g_ml_RL_137 (by decide) (rest := []) rfl rfl (Nat.le_of_ble_eq_true rfl) dL_tells_384 (k_I fun z95 h96 => ?_) (fun _ _ => VX_out F)
        refine V_iload (pc := 387) F dL_tells_387 0 rfl ?_
        refine V_icmp_ne (pc := 389) F 396 dL_tells_389 (by decide) ?_ ?_
        · refine V_iconst (pc := 396) F (x := (0 : Int32)) dL_tells_396 (by decide) ?_
          exact V_zret (pc := 397) F (Or.inr rfl) dL_tells_397
        · refine V_iconst (pc := 392) F (x := (1 : Int32)) dL_tells_392 (by decide) ?_
          refine V_goto (pc := 393) F 397 dL_tells_393 (by decide) ?_
          exact V_zret (pc := 397) F (Or.inr rfl) dL_tells_397
    · refine V_aload_n (pc := 283) F dL_tells_283 4 rfl ?_
      refine V_iload (pc := 284) F dL_tells_284 0 rfl ?_
      refine V_iald (pc := 286) F dL_tells_286 ?_
      intro z97
      refine V_bipush (pc := 287) F (x := (8 : Int32)) dL_tells_287 (by decide) ?_
      refine V_irem (pc := 289) F dL_tells_289 ?_
      intro z98
      refine V_istore (pc := 290) F [(18, vI z98), (17, vI z1), (0, vR x0), (1, vI x1), (2, vI x2), (3, vR x3), (4, vR x4), (5, vR x5), (6, vR x6), (7, vR x7), (8, vR x8), (9, vR x9), (10, vR x10), (11, vR x11), (12, vR x12), (13, vR x13), (14, vR x14), (15, vR x15), (16, vR x16)] dL_tells_290 (lt_mx hm (by decide)) rfl ?_
      refine V_iload_n (pc := 292) F dL_tells_292 4 rfl ?_
      refine V_iconst (pc := 293) F (x := (4 : Int32)) dL_tells_293 (by decide) ?_
      refine V_ishr (pc := 294) F dL_tells_294 ?_
      intro z99
      refine V_iconst (pc := 295) F (x := (5 : Int32)) dL_tells_295 (by decide) ?_
      refine V_cSM (pc := 296) F (as := [vI z99, vI (5 : Int32)]) (C_L_low z99 (5 : Int32) h2) w_L_low g_st_L_low g_ml_RL_29 (by decide) (rest := []) rfl rfl (Nat.le_of_ble_eq_true rfl) dL_tells_296 (k_I fun z100 h101 => ?_)
      refine V_istore (pc := 299) F [(19, vI z100), (18, vI z98), (17, vI z1), (0, vR x0), (1, vI x1), (2, vI x2), (3, vR x3), (4, vR x4), (5, vR x5), (6, vR x6), (7, vR x7), (8, vR x8), (9, vR x9), (10, vR x10), (11, vR x11), (12, vR x12), (13, vR x13), (14, vR x14), (15, vR x15), (16, vR x16)] dL_tells_299 (lt_mx hm (by decide)) rfl ?_
      refine V_aload_n (pc := 301) F dL_tells_301 6 rfl ?_
      refine V_iload (pc := 302) F dL_tells_302 2 rfl ?_
      refine V_dup2 (pc := 304) F dL_tells_304 rfl rfl ?_
      refine V_iald (pc := 305) F dL_tells_305 ?_
      intro z102
      refine V_iload (pc := 306) F dL_tells_306 0 rfl ?_
      refine V_iload (pc := 308) F dL_tells_308 1 rfl ?_
      refine V_isub (pc := 310) F dL_tells_310 ?_
      intro z103
      refine V_iadd (pc := 311) F dL_tells_311 ?_
      intro z104
      refine V_iast (pc := 312) F dL_tells_312 ?_
      intro h105
      refine V_aload_n (pc := 313) F dL_tells_313 3 rfl ?_
      refine V_iload (pc := 314) F dL_tells_314 2 rfl ?_
      refine V_iload (pc := 316) F dL_tells_316 0 rfl ?_
      refine V_cV (pc := 318) F 8 (by decide) (as := [vI z1, vI z100]) (C_X8_current x0 z1 z100 h105) w_X8_current g_in_X8_current g_se_X8_current g_ml_RL_134 (by decide) (rest := []) rfl rfl (Nat.le_of_ble_eq_true rfl) dL_tells_318 (k_I fun z106 h107 => ?_) (fun _ _ => VX_out F)
      refine V_iload (pc := 321) F dL_tells_321 1 rfl ?_
      refine V_icmp_ne (pc := 323) F 330 dL_tells_323 (by decide) ?_ ?_
      · refine V_iconst (pc := 330) F (x := (0 : Int32)) dL_tells_330 (by decide) ?_
        exact V_zret (pc := 331) F (Or.inr rfl) dL_tells_331
      · refine V_iconst (pc := 326) F (x := (1 : Int32)) dL_tells_326 (by decide) ?_
        refine V_goto (pc := 327) F 331 dL_tells_327 (by decide) ?_
        exact V_zret (pc := 331) F (Or.inr rfl) dL_tells_331
  · refine V_aload_n (pc := 12) F dL_tells_12 4 rfl ?_
    refine V_iload (pc := 13) F dL_tells_13 0 rfl ?_
    refine V_iald (pc := 15) F dL_tells_15 ?_
    intro z108
    refine V_bipush (pc := 16) F (x := (8 : Int32)) dL_tells_16 (by decide) ?_
    refine V_icmp_ge (pc := 18) F 32 dL_tells_18 (by decide) ?_ ?_
    · refine V_sub [1, 4, 5, 6, 7, 8, 9, 10, 17, 0] (L' := [(0, vR x0), (3, vR x3), (4, vR x4), (5, vR x5), (6, vR x6), (7, vR x7), (8, vR x8), (9, vR x9), (16, vR x16), (17, vI z1)]) rfl ?_
      exact vB_L_tells_32 F hm x0 x3 x4 x5 x6 x7 x8 x9 x16 z1 h2
    · refine V_aload (pc := 21) F dL_tells_21 17 rfl ?_
      refine V_iconst (pc := 23) F (x := (0 : Int32)) dL_tells_23 (by decide) ?_
      refine V_iald (pc := 24) F dL_tells_24 ?_
      intro z109
      refine V_if_ne (pc := 25) F 32 dL_tells_25 (by decide) ?_ ?_
      · refine V_sub [1, 4, 5, 6, 7, 8, 9, 10, 17, 0] (L' := [(0, vR x0), (3, vR x3), (4, vR x4), (5, vR x5), (6, vR x6), (7, vR x7), (8, vR x8), (9, vR x9), (16, vR x16), (17, vI z1)]) rfl ?_
        exact vB_L_tells_32 F hm x0 x3 x4 x5 x6 x7 x8 x9 x16 z1 h2
      · refine V_iconst (pc := 28) F (x := (1 : Int32)) dL_tells_28 (by decide) ?_
        refine V_goto (pc := 29) F 33 dL_tells_29 (by decide) ?_
        refine V_sub [1, 4, 5, 6, 7, 8, 9, 10, 17, 0] (L' := [(0, vR x0), (3, vR x3), (4, vR x4), (5, vR x5), (6, vR x6), (7, vR x7), (8, vR x8), (9, vR x9), (16, vR x16), (17, vI z1)]) rfl ?_
        exact vB_L_tells_33 F hm x0 x3 x4 x5 x6 x7 x8 x9 x16 z1 (1 : Int32) h2
theorem C_L_tells (x0 : Option Nat) (x1 : Int32) (x2 : Int32) (x3 : Option Nat) (x4 : Option Nat) (x5 : Option Nat) (x6 : Option Nat) (x7 : Option Nat) (x8 : Option Nat) (x9 : Option Nat) (x10 : Option Nat) (x11 : Option Nat) (x12 : Option Nat) (x13 : Option Nat) (x14 : Option Nat) (x15 : Option Nat) (x16 : Option Nat) (h : MH) : CtrX yL_tells (WSm yL_tells cL_tells 22 (some .boolean)) 10 [vR x0, vI x1, vI x2, vR x3, vR x4, vR x5, vR x6, vR x7, vR x8, vR x9, vR x10, vR x11, vR x12, vR x13, vR x14, vR x15, vR x16] h (M_L_tells x0 x1 x2 x3 x4 x5 x6 x7 x8 x9 x10 x11 x12 x13 x14 x15 x16 h) :=
  CtrX_of (by decide) (Nat.le_of_ble_eq_true rfl) (fun K F hm hi => vM_L_tells F hm x0 x1 x2 x3 x4 x5 x6 x7 x8 x9 x10 x11 x12 x13 x14 x15 x16 h)
def B_L_same_254 (rc128 : Option Nat → Int32 → Option Nat → Option Nat → Option Nat → Option Nat → Option Nat → Option Nat → Option Nat → Option Nat → Option Nat → Option Nat → Option Nat → Option Nat → Option Nat → Option Nat → Int32 → Int32 → MH → Res) (x0 : Option Nat) (x1 : Int32) (x2 : Option Nat) (x3 : Option Nat) (x4 : Option Nat) (x5 : Option Nat) (x6 : Option Nat) (x7 : Option Nat) (x8 : Option Nat) (x9 : Option Nat) (x10 : Option Nat) (x11 : Option Nat) (x12 : Option Nat) (x13 : Option Nat) (x14 : Option Nat) (x15 : Option Nat) (x19 : Int32) (s0 : Int32) (h : MH) : Res := bnd (x19 + (1)) fun z45 => rc128 x0 x1 x2 x3 x4 x5 x6 x7 x8 x9 x10 x11 x12 x13 x14 x15 s0 z45 h
def B_L_same_253 (rc128 : Option Nat → Int32 → Option Nat → Option Nat → Option Nat → Option Nat → Option Nat → Option Nat → Option Nat → Option Nat → Option Nat → Option Nat → Option Nat → Option Nat → Option Nat → Option Nat → Int32 → Int32 → MH → Res) (x0 : Option Nat) (x1 : Int32) (x2 : Option Nat) (x3 : Option Nat) (x4 : Option Nat) (x5 : Option Nat) (x6 : Option Nat) (x7 : Option Nat) (x8 : Option Nat) (x9 : Option Nat) (x10 : Option Nat) (x11 : Option Nat) (x12 : Option Nat) (x13 : Option Nat) (x14 : Option Nat) (x15 : Option Nat) (x19 : Int32) (h : MH) : Res := B_L_same_254 rc128 x0 x1 x2 x3 x4 x5 x6 x7 x8 x9 x10 x11 x12 x13 x14 x15 x19 (0 : Int32) h
def B_L_same_200 (rc128 : Option Nat → Int32 → Option Nat → Option Nat → Option Nat → Option Nat → Option Nat → Option Nat → Option Nat → Option Nat → Option Nat → Option Nat → Option Nat → Option Nat → Option Nat → Option Nat → Int32 → Int32 → MH → Res) (x0 : Option Nat) (x1 : Int32) (x2 : Option Nat) (x3 : Option Nat) (x4 : Option Nat) (x5 : Option Nat) (x6 : Option Nat) (x7 : Option Nat) (x8 : Option Nat) (x9 : Option Nat) (x10 : Option Nat) (x11 : Option Nat) (x12 : Option Nat) (x13 : Option Nat) (x14 : Option Nat) (x15 : Option Nat) (x19 : Int32) (x20 : Int32) (x21 : Int32) (x22 : Int32) (s0 : Int32) (h : MH) : Res := chk h x0 8 <| calI (M_X8_ofLayer x0 x20 x21 (0 : Int32) h) fun z37 h38 => if z37 ≠ x22 then (B_L_same_253 rc128 x0 x1 x2 x3 x4 x5 x6 x7 x8 x9 x10 x11 x12 x13 x14 x15 x19 h38) else (chk h38 x0 8 <| calI (M_X8_ofLayer x0 x20 x21 (1 : Int32) h38) fun z39 h40 => if z39 ≠ s0 then (B_L_same_253 rc128 x0 x1 x2 x3 x4 x5 x6 x7 x8 x9 x10 x11 x12 x13 x14 x15 x19 h40) else (chk h40 x0 8 <| calI (M_X8_ofLayer x0 x20 x21 (2 : Int32) h40) fun z41 h42 => bnd ((5 : Int32) * s0) fun z43 => bnd (z43 - x22) fun z44 => if z41 ≠ z44 then (B_L_same_253 rc128 x0 x1 x2 x3 x4 x5 x6 x7 x8 x9 x10 x11 x12 x13 x14 x15 x19 h42) else (B_L_same_254 rc128 x0 x1 x2 x3 x4 x5 x6 x7 x8 x9 x10 x11 x12 x13 x14 x15 x19 (1 : Int32) h42)))
def B_L_same_180 (rc128 : Option Nat → Int32 → Option Nat → Option Nat → Option Nat → Option Nat → Option Nat → Option Nat → Option Nat → Option Nat → Option Nat → Option Nat → Option Nat → Option Nat → Option Nat → Option Nat → Int32 → Int32 → MH → Res) (x0 : Option Nat) (x1 : Int32) (x2 : Option Nat) (x3 : Option Nat) (x4 : Option Nat) (x5 : Option Nat) (x6 : Option Nat) (x7 : Option Nat) (x8 : Option Nat) (x9 : Option Nat) (x10 : Option Nat) (x11 : Option Nat) (x12 : Option Nat) (x13 : Option Nat) (x14 : Option Nat) (x15 : Option Nat) (x19 : Int32) (x20 : Int32) (x21 : Int32) (s0 : Int32) (h : MH) : Res := if x21 ≠ 0 then (rdI h x6 20 x20 fun z35 => B_L_same_200 rc128 x0 x1 x2 x3 x4 x5 x6 x7 x8 x9 x10 x11 x12 x13 x14 x15 x19 x20 x21 s0 z35 h) else (rdI h x5 20 x20 fun z36 => B_L_same_200 rc128 x0 x1 x2 x3 x4 x5 x6 x7 x8 x9 x10 x11 x12 x13 x14 x15 x19 x20 x21 s0 z36 h)
def B_L_same_362 (rc265 : Option Nat → Int32 → Option Nat → Option Nat → Option Nat → Option Nat → Option Nat → Option Nat → Option Nat → Option Nat → Option Nat → Option Nat → Int32 → Int32 → MH → Res) (x0 : Option Nat) (x1 : Int32) (x2 : Option Nat) (x7 : Option Nat) (x8 : Option Nat) (x9 : Option Nat) (x10 : Option Nat) (x11 : Option Nat) (x12 : Option Nat) (x13 : Option Nat) (x14 : Option Nat) (x15 : Option Nat) (x19 : Int32) (s0 : Int32) (h : MH) : Res := bnd (x19 + (1)) fun z66 => rc265 x0 x1 x2 x7 x8 x9 x10 x11 x12 x13 x14 x15 s0 z66 h
def B_L_same_361 (rc265 : Option Nat → Int32 → Option Nat → Option Nat → Option Nat → Option Nat → Option Nat → Option Nat → Option Nat → Option Nat → Option Nat → Option Nat → Int32 → Int32 → MH → Res) (x0 : Option Nat) (x1 : Int32) (x2 : Option Nat) (x7 : Option Nat) (x8 : Option Nat) (x9 : Option Nat) (x10 : Option Nat) (x11 : Option Nat) (x12 : Option Nat) (x13 : Option Nat) (x14 : Option Nat) (x15 : Option Nat) (x19 : Int32) (h : MH) : Res := B_L_same_362 rc265 x0 x1 x2 x7 x8 x9 x10 x11 x12 x13 x14 x15 x19 (0 : Int32) h
def B_L_same_572 (rc430 : Option Nat → Int32 → Option Nat → Option Nat → Option Nat → Option Nat → Option Nat → Option Nat → Option Nat → Int32 → Int32 → MH → Res) (x0 : Option Nat) (x1 : Int32) (x2 : Option Nat) (x7 : Option Nat) (x8 : Option Nat) (x9 : Option Nat) (x10 : Option Nat) (x14 : Option Nat) (x15 : Option Nat) (x19 : Int32) (s0 : Int32) (h : MH) : Res := bnd (x19 + (1)) fun z101 => rc430 x0 x1 x2 x7 x8 x9 x10 x14 x15 s0 z101 h
def B_L_same_571 (rc430 : Option Nat → Int32 → Option Nat → Option Nat → Option Nat → Option Nat → Option Nat → Option Nat → Option Nat → Int32 → Int32 → MH → Res) (x0 : Option Nat) (x1 : Int32) (x2 : Option Nat) (x7 : Option Nat) (x8 : Option Nat) (x9 : Option Nat) (x10 : Option Nat) (x14 : Option Nat) (x15 : Option Nat) (x19 : Int32) (h : MH) : Res := B_L_same_572 rc430 x0 x1 x2 x7 x8 x9 x10 x14 x15 x19 (0 : Int32) h
def B_L_same_546 (rc430 : Option Nat → Int32 → Option Nat → Option Nat → Option Nat → Option Nat → Option Nat → Option Nat → Option Nat → Int32 → Int32 → MH → Res) (x0 : Option Nat) (x1 : Int32) (x2 : Option Nat) (x7 : Option Nat) (x8 : Option Nat) (x9 : Option Nat) (x10 : Option Nat) (x14 : Option Nat) (x15 : Option Nat) (x19 : Int32) (h : MH) : Res := chk h x0 8 <| calI (M_X8_ofReading x0 x19 (4 : Int32) h) fun z97 h98 => calI (M_L_flag x19 x9 x10 x15 h98) fun z99 h100 => if z97 ≠ z99 then (B_L_same_571 rc430 x0 x1 x2 x7 x8 x9 x10 x14 x15 x19 h100) else (B_L_same_572 rc430 x0 x1 x2 x7 x8 x9 x10 x14 x15 x19 (1 : Int32) h100)
def B_L_same_838 (s0 : Int32) (s1 : Int32) (h : MH) : Res := if s0 ≠ s1 then (rtZ (0 : Int32) h) else (rtZ (1 : Int32) h)
def B_L_same_730 (x0 : Option Nat) (x1 : Int32) (x7 : Option Nat) (x8 : Option Nat) (x9 : Option Nat) (x10 : Option Nat) (x14 : Option Nat) (x15 : Option Nat) (x21 : Int32) (s0 : Int32) (h : MH) : Res := rdI h x15 20 (5 : Int32) fun z127 => if z127 = 0 then (rtZ s0 h) else (if s0 ≠ 0 then (bnd (x1 >>> ((1 : Int32) &&& 31)) fun z128 => rdI h x15 20 (5 : Int32) fun z129 => calI (M_L_low z128 z129 h) fun z130 h131 => rdI h131 x8 20 z130 fun z132 => rmI z132 (64 : Int32) fun z133 => rdI h131 x8 20 z130 fun z134 => dvI z134 (64 : Int32) fun z135 => calV (M_L_map z133 z135 x21 z130 x8 x9 x10 x7 x14 x15 h131) fun h136 => calI (M_L_calls x0 (8 : Int32) z130 x21 (0 : Int32) h136) fun z137 h138 => rdI h138 x14 20 (1 : Int32) fun z139 => if z139 ≠ 0 then (calI (M_L_corrected z130 x9 x10 x7 h138) fun z140 h141 => rdI h141 x14 20 (0 : Int32) fun z142 => rdI h141 x14 20 (1 : Int32) fun z143 => dvI z142 z143 fun z144 => bnd (z140 - z144) fun z145 => B_L_same_838 z137 z145 h141) else (B_L_same_838 z137 (-2000000003 : Int32) h138)) else (rtZ s0 h))
def B_L_same_729 (x0 : Option Nat) (x1 : Int32) (x7 : Option Nat) (x8 : Option Nat) (x9 : Option Nat) (x10 : Option Nat) (x14 : Option Nat) (x15 : Option Nat) (x21 : Int32) (h : MH) : Res := B_L_same_730 x0 x1 x7 x8 x9 x10 x14 x15 x21 (0 : Int32) h
def B_L_same_722 (x0 : Option Nat) (x1 : Int32) (x7 : Option Nat) (x8 : Option Nat) (x9 : Option Nat) (x10 : Option Nat) (x14 : Option Nat) (x15 : Option Nat) (x21 : Int32) (s0 : Int32) (s1 : Int32) (h : MH) : Res := if s0 ≠ s1 then (B_L_same_729 x0 x1 x7 x8 x9 x10 x14 x15 x21 h) else (B_L_same_730 x0 x1 x7 x8 x9 x10 x14 x15 x21 (1 : Int32) h)
def B_L_same_683 (x0 : Option Nat) (x1 : Int32) (x2 : Option Nat) (x7 : Option Nat) (x8 : Option Nat) (x9 : Option Nat) (x10 : Option Nat) (x14 : Option Nat) (x15 : Option Nat) (x19 : Int32) (x20 : Int32) (x21 : Int32) (s0 : Int32) (s1 : Int32) (h : MH) : Res := if s0 ≠ s1 then (B_L_same_729 x0 x1 x7 x8 x9 x10 x14 x15 x21 h) else (calI (M_L_calls x0 (7 : Int32) x19 x20 x21 h) fun z121 h122 => rdI h122 x2 20 x19 fun z123 => if z123 ≤ (7 : Int32) then (rdI h122 x14 20 (1 : Int32) fun z124 => bnd ((1 : Int32) + z124) fun z125 => dvI (1000 : Int32) z125 fun z126 => B_L_same_722 x0 x1 x7 x8 x9 x10 x14 x15 x21 z121 z126 h122) else (B_L_same_722 x0 x1 x7 x8 x9 x10 x14 x15 x21 z121 (-2000000003 : Int32) h122))
def B_L_same_669 (x0 : Option Nat) (x1 : Int32) (x2 : Option Nat) (x7 : Option Nat) (x8 : Option Nat) (x9 : Option Nat) (x10 : Option Nat) (x14 : Option Nat) (x15 : Option Nat) (x19 : Int32) (x20 : Int32) (x21 : Int32) (s0 : Int32) (h : MH) : Res := B_L_same_683 x0 x1 x2 x7 x8 x9 x10 x14 x15 x19 x20 x21 s0 (-2000000003 : Int32) h
def B_L_same_580 (x0 : Option Nat) (x1 : Int32) (x2 : Option Nat) (x7 : Option Nat) (x8 : Option Nat) (x9 : Option Nat) (x10 : Option Nat) (x14 : Option Nat) (x15 : Option Nat) (x18 : Int32) (h : MH) : Res := bnd (x1 >>> ((4 : Int32) &&& 31)) fun z102 => calI (M_L_low z102 (60 : Int32) h) fun z103 h104 => bnd (x1 >>> ((2 : Int32) &&& 31)) fun z105 => rdI h104 x15 20 (0 : Int32) fun z106 => bnd (z106 + (3 : Int32)) fun z107 => calI (M_L_low z105 z107 h104) fun z108 h109 => bnd (x1 >>> ((5 : Int32) &&& 31)) fun z110 => calI (M_L_low z110 (12 : Int32) h109) fun z111 h112 => calV (M_L_map z103 z108 z111 (-1 : Int32) x8 x9 x10 x7 x14 x15 h112) fun h113 => if x18 = 0 then (B_L_same_729 x0 x1 x7 x8 x9 x10 x14 x15 z111 h113) else (calI (M_L_calls x0 (6 : Int32) z103 z108 z111 h113) fun z114 h115 => rdI h115 x2 20 z103 fun z116 => if (7 : Int32) < z116 then (B_L_same_669 x0 x1 x2 x7 x8 x9 x10 x14 x15 z103 z108 z111 z114 h115) else (rdI h115 x14 20 (1 : Int32) fun z117 => if z117 ≠ 0 then (rdI h115 x14 20 (0 : Int32) fun z118 => rdI h115 x14 20 (1 : Int32) fun z119 => dvI z118 z119 fun z120 => B_L_same_683 x0 x1 x2 x7 x8 x9 x10 x14 x15 z103 z108 z111 z114 z120 h115) else (B_L_same_669 x0 x1 x2 x7 x8 x9 x10 x14 x15 z103 z108 z111 z114 h115)))
def B_L_same_430 (rc430 : Option Nat → Int32 → Option Nat → Option Nat → Option Nat → Option Nat → Option Nat → Option Nat → Option Nat → Int32 → Int32 → MH → Res) (x0 : Option Nat) (x1 : Int32) (x2 : Option Nat) (x7 : Option Nat) (x8 : Option Nat) (x9 : Option Nat) (x10 : Option Nat) (x14 : Option Nat) (x15 : Option Nat) (x18 : Int32) (x19 : Int32) (h : MH) : Res := rdI h x15 20 (5 : Int32) fun z74 => if z74 ≤ x19 then (B_L_same_580 x0 x1 x2 x7 x8 x9 x10 x14 x15 x18 h) else (if x18 = 0 then (B_L_same_580 x0 x1 x2 x7 x8 x9 x10 x14 x15 x18 h) else (rmI x19 (4 : Int32) fun z75 => rmI x1 (4 : Int32) fun z76 => if z75 ≠ z76 then (B_L_same_546 rc430 x0 x1 x2 x7 x8 x9 x10 x14 x15 x19 h) else (chk h x0 8 <| calI (M_X8_ofReading x0 x19 (0 : Int32) h) fun z77 h78 => rdI h78 x8 20 x19 fun z79 => dvI z79 (64 : Int32) fun z80 => if z77 ≠ z80 then (B_L_same_571 rc430 x0 x1 x2 x7 x8 x9 x10 x14 x15 x19 h78) else (chk h78 x0 8 <| calI (M_X8_ofReading x0 x19 (1 : Int32) h78) fun z81 h82 => rdI h82 x8 20 x19 fun z83 => rmI z83 (64 : Int32) fun z84 => if z81 ≠ z84 then (B_L_same_571 rc430 x0 x1 x2 x7 x8 x9 x10 x14 x15 x19 h82) else (chk h82 x0 8 <| calI (M_X8_ofReading x0 x19 (2 : Int32) h82) fun z85 h86 => rdI h86 x9 20 x19 fun z87 => if z85 ≠ z87 then (B_L_same_571 rc430 x0 x1 x2 x7 x8 x9 x10 x14 x15 x19 h86) else (chk h86 x0 8 <| calI (M_X8_ofReading x0 x19 (3 : Int32) h86) fun z88 h89 => calI (M_L_corrected x19 x9 x10 x7 h89) fun z90 h91 => if z88 ≠ z90 then (B_L_same_571 rc430 x0 x1 x2 x7 x8 x9 x10 x14 x15 x19 h91) else (chk h91 x0 8 <| calI (M_X8_ofReading x0 x19 (5 : Int32) h91) fun z92 h93 => rdI h93 x10 20 x19 fun z94 => rmI z94 (16 : Int32) fun z95 => bnd (z95 - (1 : Int32)) fun z96 => if z92 ≠ z96 then (B_L_same_571 rc430 x0 x1 x2 x7 x8 x9 x10 x14 x15 x19 h93) else (B_L_same_546 rc430 x0 x1 x2 x7 x8 x9 x10 x14 x15 x19 h93))))))))
def L_L_same_430 : Nat → Option Nat → Int32 → Option Nat → Option Nat → Option Nat → Option Nat → Option Nat → Option Nat → Option Nat → Int32 → Int32 → MH → Res
  | 0 => fun _ _ _ _ _ _ _ _ _ _ _ _ => none
  | n + 1 => B_L_same_430 (L_L_same_430 n)
def B_L_same_427 (x0 : Option Nat) (x1 : Int32) (x2 : Option Nat) (x7 : Option Nat) (x8 : Option Nat) (x9 : Option Nat) (x10 : Option Nat) (x14 : Option Nat) (x15 : Option Nat) (x18 : Int32) (h : MH) : Res := L_L_same_430 fuel x0 x1 x2 x7 x8 x9 x10 x14 x15 x18 (0 : Int32) h
def B_L_same_425 (x0 : Option Nat) (x1 : Int32) (x2 : Option Nat) (x7 : Option Nat) (x8 : Option Nat) (x9 : Option Nat) (x10 : Option Nat) (x14 : Option Nat) (x15 : Option Nat) (s0 : Int32) (h : MH) : Res := B_L_same_427 x0 x1 x2 x7 x8 x9 x10 x14 x15 s0 h
def B_L_same_420 (x0 : Option Nat) (x1 : Int32) (x2 : Option Nat) (x7 : Option Nat) (x8 : Option Nat) (x9 : Option Nat) (x10 : Option Nat) (x14 : Option Nat) (x15 : Option Nat) (h : MH) : Res := B_L_same_425 x0 x1 x2 x7 x8 x9 x10 x14 x15 (1 : Int32) h
def B_L_same_424 (x0 : Option Nat) (x1 : Int32) (x2 : Option Nat) (x7 : Option Nat) (x8 : Option Nat) (x9 : Option Nat) (x10 : Option Nat) (x14 : Option Nat) (x15 : Option Nat) (h : MH) : Res := B_L_same_425 x0 x1 x2 x7 x8 x9 x10 x14 x15 (0 : Int32) h
def B_L_same_370 (x0 : Option Nat) (x1 : Int32) (x2 : Option Nat) (x7 : Option Nat) (x8 : Option Nat) (x9 : Option Nat) (x10 : Option Nat) (x11 : Option Nat) (x12 : Option Nat) (x13 : Option Nat) (x14 : Option Nat) (x15 : Option Nat) (x18 : Int32) (h : MH) : Res := rdI h x15 20 (6 : Int32) fun z67 => if z67 ≤ 0 then (B_L_same_427 x0 x1 x2 x7 x8 x9 x10 x14 x15 x18 h) else (if x18 = 0 then (B_L_same_427 x0 x1 x2 x7 x8 x9 x10 x14 x15 x18 h) else (calI (M_L_searches x0 (0 : Int32) x1 x11 x13 h) fun z68 h69 => if z68 = 0 then (B_L_same_424 x0 x1 x2 x7 x8 x9 x10 x14 x15 h69) else (rdI h69 x15 20 (6 : Int32) fun z70 => if z70 = (1 : Int32) then (B_L_same_420 x0 x1 x2 x7 x8 x9 x10 x14 x15 h69) else (bnd (x1 >>> ((2 : Int32) &&& 31)) fun z71 => calI (M_L_searches x0 (1 : Int32) z71 x12 x13 h69) fun z72 h73 => if z72 = 0 then (B_L_same_424 x0 x1 x2 x7 x8 x9 x10 x14 x15 h73) else (B_L_same_420 x0 x1 x2 x7 x8 x9 x10 x14 x15 h73)))))
def B_L_same_265 (rc265 : Option Nat → Int32 → Option Nat → Option Nat → Option Nat → Option Nat → Option Nat → Option Nat → Option Nat → Option Nat → Option Nat → Option Nat → Int32 → Int32 → MH → Res) (x0 : Option Nat) (x1 : Int32) (x2 : Option Nat) (x7 : Option Nat) (x8 : Option Nat) (x9 : Option Nat) (x10 : Option Nat) (x11 : Option Nat) (x12 : Option Nat) (x13 : Option Nat) (x14 : Option Nat) (x15 : Option Nat) (x18 : Int32) (x19 : Int32) (h : MH) : Res := rdI h x15 20 (2 : Int32) fun z46 => if z46 ≤ x19 then (B_L_same_370 x0 x1 x2 x7 x8 x9 x10 x11 x12 x13 x14 x15 x18 h) else (if x18 = 0 then (B_L_same_370 x0 x1 x2 x7 x8 x9 x10 x11 x12 x13 x14 x15 x18 h) else (chk h x0 8 <| calI (M_X8_ofFloat x0 x19 (0 : Int32) h) fun z47 h48 => bnd ((8 : Int32) * x19) fun z49 => rdI h48 x7 20 z49 fun z50 => if z47 ≠ z50 then (B_L_same_361 rc265 x0 x1 x2 x7 x8 x9 x10 x11 x12 x13 x14 x15 x19 h48) else (chk h48 x0 8 <| calI (M_X8_ofFloat x0 x19 (1 : Int32) h48) fun z51 h52 => bnd ((8 : Int32) * x19) fun z53 => bnd (z53 + (2 : Int32)) fun z54 => rdI h52 x7 20 z54 fun z55 => if z51 ≠ z55 then (B_L_same_361 rc265 x0 x1 x2 x7 x8 x9 x10 x11 x12 x13 x14 x15 x19 h52) else (chk h52 x0 8 <| calI (M_X8_ofFloat x0 x19 (2 : Int32) h52) fun z56 h57 => bnd ((8 : Int32) * x19) fun z58 => bnd (z58 + (3 : Int32)) fun z59 => rdI h57 x7 20 z59 fun z60 => if z56 ≠ z60 then (B_L_same_361 rc265 x0 x1 x2 x7 x8 x9 x10 x11 x12 x13 x14 x15 x19 h57) else (chk h57 x0 8 <| calI (M_X8_ofFloat x0 x19 (3 : Int32) h57) fun z61 h62 => bnd ((8 : Int32) * x19) fun z63 => bnd (z63 + (5 : Int32)) fun z64 => rdI h62 x7 20 z64 fun z65 => if z61 ≠ z65 then (B_L_same_361 rc265 x0 x1 x2 x7 x8 x9 x10 x11 x12 x13 x14 x15 x19 h62) else (B_L_same_362 rc265 x0 x1 x2 x7 x8 x9 x10 x11 x12 x13 x14 x15 x19 (1 : Int32) h62))))))
def L_L_same_265 : Nat → Option Nat → Int32 → Option Nat → Option Nat → Option Nat → Option Nat → Option Nat → Option Nat → Option Nat → Option Nat → Option Nat → Option Nat → Int32 → Int32 → MH → Res
  | 0 => fun _ _ _ _ _ _ _ _ _ _ _ _ _ _ _ => none
  | n + 1 => B_L_same_265 (L_L_same_265 n)
def B_L_same_262 (x0 : Option Nat) (x1 : Int32) (x2 : Option Nat) (x7 : Option Nat) (x8 : Option Nat) (x9 : Option Nat) (x10 : Option Nat) (x11 : Option Nat) (x12 : Option Nat) (x13 : Option Nat) (x14 : Option Nat) (x15 : Option Nat) (x18 : Int32) (h : MH) : Res := L_L_same_265 fuel x0 x1 x2 x7 x8 x9 x10 x11 x12 x13 x14 x15 x18 (0 : Int32) h
def B_L_same_128 (rc128 : Option Nat → Int32 → Option Nat → Option Nat → Option Nat → Option Nat → Option Nat → Option Nat → Option Nat → Option Nat → Option Nat → Option Nat → Option Nat → Option Nat → Option Nat → Option Nat → Int32 → Int32 → MH → Res) (x0 : Option Nat) (x1 : Int32) (x2 : Option Nat) (x3 : Option Nat) (x4 : Option Nat) (x5 : Option Nat) (x6 : Option Nat) (x7 : Option Nat) (x8 : Option Nat) (x9 : Option Nat) (x10 : Option Nat) (x11 : Option Nat) (x12 : Option Nat) (x13 : Option Nat) (x14 : Option Nat) (x15 : Option Nat) (x18 : Int32) (x19 : Int32) (h : MH) : Res := if (10 : Int32) ≤ x19 then (B_L_same_262 x0 x1 x2 x7 x8 x9 x10 x11 x12 x13 x14 x15 x18 h) else (if x18 = 0 then (B_L_same_262 x0 x1 x2 x7 x8 x9 x10 x11 x12 x13 x14 x15 x18 h) else (bnd ((13 : Int32) * x19) fun z26 => bnd (x1 + z26) fun z27 => calI (M_L_low z27 (60 : Int32) h) fun z28 h29 => bnd (x1 >>> ((3 : Int32) &&& 31)) fun z30 => calI (M_L_low z30 (2 : Int32) h29) fun z31 h32 => if z31 ≠ 0 then (rdI h32 x4 20 z28 fun z33 => B_L_same_180 rc128 x0 x1 x2 x3 x4 x5 x6 x7 x8 x9 x10 x11 x12 x13 x14 x15 x19 z28 z31 z33 h32) else (rdI h32 x3 20 z28 fun z34 => B_L_same_180 rc128 x0 x1 x2 x3 x4 x5 x6 x7 x8 x9 x10 x11 x12 x13 x14 x15 x19 z28 z31 z34 h32)))
def L_L_same_128 : Nat → Option Nat → Int32 → Option Nat → Option Nat → Option Nat → Option Nat → Option Nat → Option Nat → Option Nat → Option Nat → Option Nat → Option Nat → Option Nat → Option Nat → Option Nat → Option Nat → Int32 → Int32 → MH → Res
  | 0 => fun _ _ _ _ _ _ _ _ _ _ _ _ _ _ _ _ _ _ _ => none
  | n + 1 => B_L_same_128 (L_L_same_128 n)
def B_L_same_123 (x0 : Option Nat) (x1 : Int32) (x2 : Option Nat) (x3 : Option Nat) (x4 : Option Nat) (x5 : Option Nat) (x6 : Option Nat) (x7 : Option Nat) (x8 : Option Nat) (x9 : Option Nat) (x10 : Option Nat) (x11 : Option Nat) (x12 : Option Nat) (x13 : Option Nat) (x14 : Option Nat) (x15 : Option Nat) (s0 : Int32) (h : MH) : Res := L_L_same_128 fuel x0 x1 x2 x3 x4 x5 x6 x7 x8 x9 x10 x11 x12 x13 x14 x15 s0 (0 : Int32) h
def B_L_same_122 (x0 : Option Nat) (x1 : Int32) (x2 : Option Nat) (x3 : Option Nat) (x4 : Option Nat) (x5 : Option Nat) (x6 : Option Nat) (x7 : Option Nat) (x8 : Option Nat) (x9 : Option Nat) (x10 : Option Nat) (x11 : Option Nat) (x12 : Option Nat) (x13 : Option Nat) (x14 : Option Nat) (x15 : Option Nat) (h : MH) : Res := B_L_same_123 x0 x1 x2 x3 x4 x5 x6 x7 x8 x9 x10 x11 x12 x13 x14 x15 (0 : Int32) h
def B_L_same_9 (rc9 : Option Nat → Int32 → Option Nat → Option Nat → Option Nat → Option Nat → Option Nat → Option Nat → Option Nat → Option Nat → Option Nat → Option Nat → Option Nat → Option Nat → Option Nat → Option Nat → Int32 → Int32 → Int32 → MH → Res) (x0 : Option Nat) (x1 : Int32) (x2 : Option Nat) (x3 : Option Nat) (x4 : Option Nat) (x5 : Option Nat) (x6 : Option Nat) (x7 : Option Nat) (x8 : Option Nat) (x9 : Option Nat) (x10 : Option Nat) (x11 : Option Nat) (x12 : Option Nat) (x13 : Option Nat) (x14 : Option Nat) (x15 : Option Nat) (x16 : Int32) (x17 : Int32) (x18 : Int32) (h : MH) : Res := if (60 : Int32) ≤ x18 then (chk h x0 8 <| calI (M_X8_day x0 h) fun z1 h2 => rdI h2 x15 20 (0 : Int32) fun z3 => if z1 ≠ z3 then (B_L_same_122 x0 x1 x2 x3 x4 x5 x6 x7 x8 x9 x10 x11 x12 x13 x14 x15 h2) else (chk h2 x0 8 <| calI (M_X8_total x0 (0 : Int32) h2) fun z4 h5 => if z4 ≠ x16 then (B_L_same_122 x0 x1 x2 x3 x4 x5 x6 x7 x8 x9 x10 x11 x12 x13 x14 x15 h5) else (chk h5 x0 8 <| calI (M_X8_total x0 (1 : Int32) h5) fun z6 h7 => if z6 ≠ x17 then (B_L_same_122 x0 x1 x2 x3 x4 x5 x6 x7 x8 x9 x10 x11 x12 x13 x14 x15 h7) else (chk h7 x0 8 <| calI (M_X8_total x0 (2 : Int32) h7) fun z8 h9 => rdI h9 x15 20 (1 : Int32) fun z10 => if z8 ≠ z10 then (B_L_same_122 x0 x1 x2 x3 x4 x5 x6 x7 x8 x9 x10 x11 x12 x13 x14 x15 h9) else (chk h9 x0 8 <| calI (M_X8_stations x0 h9) fun z11 h12 => rdI h12 x15 20 (3 : Int32) fun z13 => if z11 ≠ z13 then (B_L_same_122 x0 x1 x2 x3 x4 x5 x6 x7 x8 x9 x10 x11 x12 x13 x14 x15 h12) else (chk h12 x0 8 <| calI (M_X8_readings x0 h12) fun z14 h15 => rdI h15 x15 20 (5 : Int32) fun z16 => if z14 ≠ z16 then (B_L_same_122 x0 x1 x2 x3 x4 x5 x6 x7 x8 x9 x10 x11 x12 x13 x14 x15 h15) else (B_L_same_123 x0 x1 x2 x3 x4 x5 x6 x7 x8 x9 x10 x11 x12 x13 x14 x15 (1 : Int32) h15))))))) else (rdI h x3 20 x18 fun z17 => rdI h x4 20 x18 fun z18 => bnd (z17 + z18) fun z19 => bnd (x16 + z19) fun z20 => rdI h x5 20 x18 fun z21 => rdI h x6 20 x18 fun z22 => bnd (z21 + z22) fun z23 => bnd (x17 + z23) fun z24 => bnd (x18 + (1)) fun z25 => rc9 x0 x1 x2 x3 x4 x5 x6 x7 x8 x9 x10 x11 x12 x13 x14 x15 z20 z24 z25 h)
def L_L_same_9 : Nat → Option Nat → Int32 → Option Nat → Option Nat → Option Nat → Option Nat → Option Nat → Option Nat → Option Nat → Option Nat → Option Nat → Option Nat → Option Nat → Option Nat → Option Nat → Option Nat → Int32 → Int32 → Int32 → MH → Res
  | 0 => fun _ _ _ _ _ _ _ _ _ _ _ _ _ _ _ _ _ _ _ _ => none
  | n + 1 => B_L_same_9 (L_L_same_9 n)
def M_L_same (x0 : Option Nat) (x1 : Int32) (x2 : Option Nat) (x3 : Option Nat) (x4 : Option Nat) (x5 : Option Nat) (x6 : Option Nat) (x7 : Option Nat) (x8 : Option Nat) (x9 : Option Nat) (x10 : Option Nat) (x11 : Option Nat) (x12 : Option Nat) (x13 : Option Nat) (x14 : Option Nat) (x15 : Option Nat) (h : MH) : Res := L_L_same_9 fuel x0 x1 x2 x3 x4 x5 x6 x7 x8 x9 x10 x11 x12 x13 x14 x15 (0 : Int32) (0 : Int32) (0 : Int32) h
theorem vB_L_same_254 {K : CT} (F : Fr K cL_same RL (some .boolean) [] 10 1) (hm : mxL K = 24) (rc128 : Option Nat → Int32 → Option Nat → Option Nat → Option Nat → Option Nat → Option Nat → Option Nat → Option Nat → Option Nat → Option Nat → Option Nat → Option Nat → Option Nat → Option Nat → Option Nat → Int32 → Int32 → MH → Res) (hrc128 : ∀ x0 x1 x2 x3 x4 x5 x6 x7 x8 x9 x10 x11 x12 x13 x14 x15 x18 x19 h, V K 128 [(0, vR x0), (1, vI x1), (2, vR x2), (3, vR x3), (4, vR x4), (5, vR x5), (6, vR x6), (7, vR x7), (8, vR x8), (9, vR x9), (10, vR x10), (11, vR x11), (12, vR x12), (13, vR x13), (14, vR x14), (15, vR x15), (18, vI x18), (19, vI x19)] [] h (rc128 x0 x1 x2 x3 x4 x5 x6 x7 x8 x9 x10 x11 x12 x13 x14 x15 x18 x19 h)) (x0 : Option Nat) (x1 : Int32) (x2 : Option Nat) (x3 : Option Nat) (x4 : Option Nat) (x5 : Option Nat) (x6 : Option Nat) (x7 : Option Nat) (x8 : Option Nat) (x9 : Option Nat) (x10 : Option Nat) (x11 : Option Nat) (x12 : Option Nat) (x13 : Option Nat) (x14 : Option Nat) (x15 : Option Nat) (x19 : Int32) (s0 : Int32) (h : MH) : V K 254 [(0, vR x0), (1, vI x1), (2, vR x2), (3, vR x3), (4, vR x4), (5, vR x5), (6, vR x6), (7, vR x7), (8, vR x8), (9, vR x9), (10, vR x10), (11, vR x11), (12, vR x12), (13, vR x13), (14, vR x14), (15, vR x15), (19, vI x19)] [vI s0] h (B_L_same_254 rc128 x0 x1 x2 x3 x4 x5 x6 x7 x8 x9 x10 x11 x12 x13 x14 x15 x19 s0 h) := by
  unfold B_L_same_254
  refine V_istore (pc := 254) F [(18, vI s0), (0, vR x0), (1, vI x1), (2, vR x2), (3, vR x3), (4, vR x4), (5, vR x5), (6, vR x6), (7, vR x7), (8, vR x8), (9, vR x9), (10, vR x10), (11, vR x11), (12, vR x12), (13, vR x13), (14, vR x14), (15, vR x15), (19, vI x19)] dL_same_254 (lt_mx hm (by decide)) rfl ?_
  refine V_iinc (pc := 256) F (fun z45 => [(19, vI z45), (18, vI s0), (0, vR x0), (1, vI x1), (2, vR x2), (3, vR x3), (4, vR x4), (5, vR x5), (6, vR x6), (7, vR x7), (8, vR x8), (9, vR x9), (10, vR x10), (11, vR x11), (12, vR x12), (13, vR x13), (14, vR x14), (15, vR x15)]) dL_same_256 (lt_mx hm (by decide)) 17 rfl (dx := (1 : Int32)) (by decide) (fun _ => rfl) ?_
  intro z45
  refine V_goto (pc := 259) F 128 dL_same_259 (by decide) ?_
  refine V_sub [2, 3, 4, 5, 6, 7, 8, 9, 10, 11, 12, 13, 14, 15, 16, 17, 1, 0] (L' := [(0, vR x0), (1, vI x1), (2, vR x2), (3, vR x3), (4, vR x4), (5, vR x5), (6, vR x6), (7, vR x7), (8, vR x8), (9, vR x9), (10, vR x10), (11, vR x11), (12, vR x12), (13, vR x13), (14, vR x14), (15, vR x15), (18, vI s0), (19, vI z45)]) rfl ?_
  exact hrc128 x0 x1 x2 x3 x4 x5 x6 x7 x8 x9 x10 x11 x12 x13 x14 x15 s0 z45 h
theorem vB_L_same_253 {K : CT} (F : Fr K cL_same RL (some .boolean) [] 10 1) (hm : mxL K = 24) (rc128 : Option Nat → Int32 → Option Nat → Option Nat → Option Nat → Option Nat → Option Nat → Option Nat → Option Nat → Option Nat → Option Nat → Option Nat → Option Nat → Option Nat → Option Nat → Option Nat → Int32 → Int32 → MH → Res) (hrc128 : ∀ x0 x1 x2 x3 x4 x5 x6 x7 x8 x9 x10 x11 x12 x13 x14 x15 x18 x19 h, V K 128 [(0, vR x0), (1, vI x1), (2, vR x2), (3, vR x3), (4, vR x4), (5, vR x5), (6, vR x6), (7, vR x7), (8, vR x8), (9, vR x9), (10, vR x10), (11, vR x11), (12, vR x12), (13, vR x13), (14, vR x14), (15, vR x15), (18, vI x18), (19, vI x19)] [] h (rc128 x0 x1 x2 x3 x4 x5 x6 x7 x8 x9 x10 x11 x12 x13 x14 x15 x18 x19 h)) (x0 : Option Nat) (x1 : Int32) (x2 : Option Nat) (x3 : Option Nat) (x4 : Option Nat) (x5 : Option Nat) (x6 : Option Nat) (x7 : Option Nat) (x8 : Option Nat) (x9 : Option Nat) (x10 : Option Nat) (x11 : Option Nat) (x12 : Option Nat) (x13 : Option Nat) (x14 : Option Nat) (x15 : Option Nat) (x19 : Int32) (h : MH) : V K 253 [(0, vR x0), (1, vI x1), (2, vR x2), (3, vR x3), (4, vR x4), (5, vR x5), (6, vR x6), (7, vR x7), (8, vR x8), (9, vR x9), (10, vR x10), (11, vR x11), (12, vR x12), (13, vR x13), (14, vR x14), (15, vR x15), (19, vI x19)] [] h (B_L_same_253 rc128 x0 x1 x2 x3 x4 x5 x6 x7 x8 x9 x10 x11 x12 x13 x14 x15 x19 h) := by
  unfold B_L_same_253
  refine V_iconst (pc := 253) F (x := (0 : Int32)) dL_same_253 (by decide) ?_
  exact vB_L_same_254 F hm rc128 hrc128 x0 x1 x2 x3 x4 x5 x6 x7 x8 x9 x10 x11 x12 x13 x14 x15 x19 (0 : Int32) h
theorem vB_L_same_200 {K : CT} (F : Fr K cL_same RL (some .boolean) [] 10 1) (hm : mxL K = 24) (rc128 : Option Nat → Int32 → Option Nat → Option Nat → Option Nat → Option Nat → Option Nat → Option Nat → Option Nat → Option Nat → Option Nat → Option Nat → Option Nat → Option Nat → Option Nat → Option Nat → Int32 → Int32 → MH → Res) (hrc128 : ∀ x0 x1 x2 x3 x4 x5 x6 x7 x8 x9 x10 x11 x12 x13 x14 x15 x18 x19 h, V K 128 [(0, vR x0), (1, vI x1), (2, vR x2), (3, vR x3), (4, vR x4), (5, vR x5), (6, vR x6), (7, vR x7), (8, vR x8), (9, vR x9), (10, vR x10), (11, vR x11), (12, vR x12), (13, vR x13), (14, vR x14), (15, vR x15), (18, vI x18), (19, vI x19)] [] h (rc128 x0 x1 x2 x3 x4 x5 x6 x7 x8 x9 x10 x11 x12 x13 x14 x15 x18 x19 h)) (x0 : Option Nat) (x1 : Int32) (x2 : Option Nat) (x3 : Option Nat) (x4 : Option Nat) (x5 : Option Nat) (x6 : Option Nat) (x7 : Option Nat) (x8 : Option Nat) (x9 : Option Nat) (x10 : Option Nat) (x11 : Option Nat) (x12 : Option Nat) (x13 : Option Nat) (x14 : Option Nat) (x15 : Option Nat) (x19 : Int32) (x20 : Int32) (x21 : Int32) (x22 : Int32) (s0 : Int32) (h : MH) : V K 200 [(0, vR x0), (1, vI x1), (2, vR x2), (3, vR x3), (4, vR x4), (5, vR x5), (6, vR x6), (7, vR x7), (8, vR x8), (9, vR x9), (10, vR x10), (11, vR x11), (12, vR x12), (13, vR x13), (14, vR x14), (15, vR x15), (19, vI x19), (20, vI x20), (21, vI x21), (22, vI x22)] [vI s0] h (B_L_same_200 rc128 x0 x1 x2 x3 x4 x5 x6 x7 x8 x9 x10 x11 x12 x13 x14 x15 x19 x20 x21 x22 s0 h) := by
  unfold B_L_same_200
  refine V_istore (pc := 200) F [(23, vI s0), (0, vR x0), (1, vI x1), (2, vR x2), (3, vR x3), (4, vR x4), (5, vR x5), (6, vR x6), (7, vR x7), (8, vR x8), (9, vR x9), (10, vR x10), (11, vR x11), (12, vR x12), (13, vR x13), (14, vR x14), (15, vR x15), (19, vI x19), (20, vI x20), (21, vI x21), (22, vI x22)] dL_same_200 (lt_mx hm (by decide)) rfl ?_
  refine V_aload_n (pc := 202) F dL_same_202 1 rfl ?_
  refine V_iload (pc := 203) F dL_same_203 18 rfl ?_
  refine V_iload (pc := 205) F dL_same_205 19 rfl ?_
  refine V_iconst (pc := 207) F (x := (0 : Int32)) dL_same_207 (by decide) ?_
  refine V_cV (pc := 208) F 8 (by decide) (as := [vI x20, vI x21, vI (0 : Int32)]) (C_X8_ofLayer x0 x20 x21 (0 : Int32) h) w_X8_ofLayer g_in_X8_ofLayer g_se_X8_ofLayer g_ml_RL_113 (by decide) (rest := []) rfl rfl (Nat.le_of_ble_eq_true rfl) dL_same_208 (k_I fun z37 h38 => ?_) (fun _ _ => VX_out F)
  refine V_iload (pc := 211) F dL_same_211 20 rfl ?_
  refine V_icmp_ne (pc := 213) F 253 dL_same_213 (by decide) ?_ ?_
  · refine V_sub [1, 2, 3, 4, 5, 6, 7, 8, 9, 10, 11, 12, 13, 14, 15, 16, 17] (L' := [(0, vR x0), (1, vI x1), (2, vR x2), (3, vR x3), (4, vR x4), (5, vR x5), (6, vR x6), (7, vR x7), (8, vR x8), (9, vR x9), (10, vR x10), (11, vR x11), (12, vR x12), (13, vR x13), (14, vR x14), (15, vR x15), (19, vI x19)]) rfl ?_
    exact vB_L_same_253 F hm rc128 hrc128 x0 x1 x2 x3 x4 x5 x6 x7 x8 x9 x10 x11 x12 x13 x14 x15 x19 h38
  · refine V_aload_n (pc := 216) F dL_same_216 1 rfl ?_
    refine V_iload (pc := 217) F dL_same_217 18 rfl ?_
    refine V_iload (pc := 219) F dL_same_219 19 rfl ?_
    refine V_iconst (pc := 221) F (x := (1 : Int32)) dL_same_221 (by decide) ?_
    refine V_cV (pc := 222) F 8 (by decide) (as := [vI x20, vI x21, vI (1 : Int32)]) (C_X8_ofLayer x0 x20 x21 (1 : Int32) h38) w_X8_ofLayer g_in_X8_ofLayer g_se_X8_ofLayer g_ml_RL_113 (by decide) (rest := []) rfl rfl (Nat.le_of_ble_eq_true rfl) dL_same_222 (k_I fun z39 h40 => ?_) (fun _ _ => VX_out F)
    refine V_iload (pc := 225) F dL_same_225 0 rfl ?_
    refine V_icmp_ne (pc := 227) F 253 dL_same_227 (by decide) ?_ ?_
    · refine V_sub [1, 2, 3, 4, 5, 6, 7, 8, 9, 10, 11, 12, 13, 14, 15, 16, 17] (L' := [(0, vR x0), (1, vI x1), (2, vR x2), (3, vR x3), (4, vR x4), (5, vR x5), (6, vR x6), (7, vR x7), (8, vR x8), (9, vR x9), (10, vR x10), (11, vR x11), (12, vR x12), (13, vR x13), (14, vR x14), (15, vR x15), (19, vI x19)]) rfl ?_
      exact vB_L_same_253 F hm rc128 hrc128 x0 x1 x2 x3 x4 x5 x6 x7 x8 x9 x10 x11 x12 x13 x14 x15 x19 h40
    · refine V_aload_n (pc := 230) F dL_same_230 1 rfl ?_
      refine V_iload (pc := 231) F dL_same_231 18 rfl ?_
      refine V_iload (pc := 233) F dL_same_233 19 rfl ?_
      refine V_iconst (pc := 235) F (x := (2 : Int32)) dL_same_235 (by decide) ?_
      refine V_cV (pc := 236) F 8 (by decide) (as := [vI x20, vI x21, vI (2 : Int32)]) (C_X8_ofLayer x0 x20 x21 (2 : Int32) h40) w_X8_ofLayer g_in_X8_ofLayer g_se_X8_ofLayer g_ml_RL_113 (by decide) (rest := []) rfl rfl (Nat.le_of_ble_eq_true rfl) dL_same_236 (k_I fun z41 h42 => ?_) (fun _ _ => VX_out F)
      refine V_iconst (pc := 239) F (x := (5 : Int32)) dL_same_239 (by decide) ?_
      refine V_iload (pc := 240) F dL_same_240 0 rfl ?_
      refine V_imul (pc := 242) F dL_same_242 ?_
      intro z43
      refine V_iload (pc := 243) F dL_same_243 20 rfl ?_
      refine V_isub (pc := 245) F dL_same_245 ?_
      intro z44
      refine V_icmp_ne (pc := 246) F 253 dL_same_246 (by decide) ?_ ?_
      · refine V_sub [1, 2, 3, 4, 5, 6, 7, 8, 9, 10, 11, 12, 13, 14, 15, 16, 17] (L' := [(0, vR x0), (1, vI x1), (2, vR x2), (3, vR x3), (4, vR x4), (5, vR x5), (6, vR x6), (7, vR x7), (8, vR x8), (9, vR x9), (10, vR x10), (11, vR x11), (12, vR x12), (13, vR x13), (14, vR x14), (15, vR x15), (19, vI x19)]) rfl ?_
        exact vB_L_same_253 F hm rc128 hrc128 x0 x1 x2 x3 x4 x5 x6 x7 x8 x9 x10 x11 x12 x13 x14 x15 x19 h42
      · refine V_iconst (pc := 249) F (x := (1 : Int32)) dL_same_249 (by decide) ?_
        refine V_goto (pc := 250) F 254 dL_same_250 (by decide) ?_
        refine V_sub [1, 2, 3, 4, 5, 6, 7, 8, 9, 10, 11, 12, 13, 14, 15, 16, 17] (L' := [(0, vR x0), (1, vI x1), (2, vR x2), (3, vR x3), (4, vR x4), (5, vR x5), (6, vR x6), (7, vR x7), (8, vR x8), (9, vR x9), (10, vR x10), (11, vR x11), (12, vR x12), (13, vR x13), (14, vR x14), (15, vR x15), (19, vI x19)]) rfl ?_
        exact vB_L_same_254 F hm rc128 hrc128 x0 x1 x2 x3 x4 x5 x6 x7 x8 x9 x10 x11 x12 x13 x14 x15 x19 (1 : Int32) h42
theorem vB_L_same_180 {K : CT} (F : Fr K cL_same RL (some .boolean) [] 10 1) (hm : mxL K = 24) (rc128 : Option Nat → Int32 → Option Nat → Option Nat → Option Nat → Option Nat → Option Nat → Option Nat → Option Nat → Option Nat → Option Nat → Option Nat → Option Nat → Option Nat → Option Nat → Option Nat → Int32 → Int32 → MH → Res) (hrc128 : ∀ x0 x1 x2 x3 x4 x5 x6 x7 x8 x9 x10 x11 x12 x13 x14 x15 x18 x19 h, V K 128 [(0, vR x0), (1, vI x1), (2, vR x2), (3, vR x3), (4, vR x4), (5, vR x5), (6, vR x6), (7, vR x7), (8, vR x8), (9, vR x9), (10, vR x10), (11, vR x11), (12, vR x12), (13, vR x13), (14, vR x14), (15, vR x15), (18, vI x18), (19, vI x19)] [] h (rc128 x0 x1 x2 x3 x4 x5 x6 x7 x8 x9 x10 x11 x12 x13 x14 x15 x18 x19 h)) (x0 : Option Nat) (x1 : Int32) (x2 : Option Nat) (x3 : Option Nat) (x4 : Option Nat) (x5 : Option Nat) (x6 : Option Nat) (x7 : Option Nat) (x8 : Option Nat) (x9 : Option Nat) (x10 : Option Nat) (x11 : Option Nat) (x12 : Option Nat) (x13 : Option Nat) (x14 : Option Nat) (x15 : Option Nat) (x19 : Int32) (x20 : Int32) (x21 : Int32) (s0 : Int32) (h : MH) : V K 180 [(0, vR x0), (1, vI x1), (2, vR x2), (3, vR x3), (4, vR x4), (5, vR x5), (6, vR x6), (7, vR x7), (8, vR x8), (9, vR x9), (10, vR x10), (11, vR x11), (12, vR x12), (13, vR x13), (14, vR x14), (15, vR x15), (19, vI x19), (20, vI x20), (21, vI x21)] [vI s0] h (B_L_same_180 rc128 x0 x1 x2 x3 x4 x5 x6 x7 x8 x9 x10 x11 x12 x13 x14 x15 x19 x20 x21 s0 h) := by
  unfold B_L_same_180
  refine V_istore (pc := 180) F [(22, vI s0), (0, vR x0), (1, vI x1), (2, vR x2), (3, vR x3), (4, vR x4), (5, vR x5), (6, vR x6), (7, vR x7), (8, vR x8), (9, vR x9), (10, vR x10), (11, vR x11), (12, vR x12), (13, vR x13), (14, vR x14), (15, vR x15), (19, vI x19), (20, vI x20), (21, vI x21)] dL_same_180 (lt_mx hm (by decide)) rfl ?_
  refine V_iload (pc := 182) F dL_same_182 19 rfl ?_
  refine V_if_ne (pc := 184) F 195 dL_same_184 (by decide) ?_ ?_
  · refine V_aload (pc := 195) F dL_same_195 7 rfl ?_
    refine V_iload (pc := 197) F dL_same_197 18 rfl ?_
    refine V_iald (pc := 199) F dL_same_199 ?_
    intro z35
    refine V_sub [1, 2, 3, 4, 5, 6, 7, 8, 9, 10, 11, 12, 13, 14, 15, 16, 17, 18, 19, 0] (L' := [(0, vR x0), (1, vI x1), (2, vR x2), (3, vR x3), (4, vR x4), (5, vR x5), (6, vR x6), (7, vR x7), (8, vR x8), (9, vR x9), (10, vR x10), (11, vR x11), (12, vR x12), (13, vR x13), (14, vR x14), (15, vR x15), (19, vI x19), (20, vI x20), (21, vI x21), (22, vI s0)]) rfl ?_
    exact vB_L_same_200 F hm rc128 hrc128 x0 x1 x2 x3 x4 x5 x6 x7 x8 x9 x10 x11 x12 x13 x14 x15 x19 x20 x21 s0 z35 h
  · refine V_aload (pc := 187) F dL_same_187 6 rfl ?_
    refine V_iload (pc := 189) F dL_same_189 18 rfl ?_
    refine V_iald (pc := 191) F dL_same_191 ?_
    intro z36
    refine V_goto (pc := 192) F 200 dL_same_192 (by decide) ?_
    refine V_sub [1, 2, 3, 4, 5, 6, 7, 8, 9, 10, 11, 12, 13, 14, 15, 16, 17, 18, 19, 0] (L' := [(0, vR x0), (1, vI x1), (2, vR x2), (3, vR x3), (4, vR x4), (5, vR x5), (6, vR x6), (7, vR x7), (8, vR x8), (9, vR x9), (10, vR x10), (11, vR x11), (12, vR x12), (13, vR x13), (14, vR x14), (15, vR x15), (19, vI x19), (20, vI x20), (21, vI x21), (22, vI s0)]) rfl ?_
    exact vB_L_same_200 F hm rc128 hrc128 x0 x1 x2 x3 x4 x5 x6 x7 x8 x9 x10 x11 x12 x13 x14 x15 x19 x20 x21 s0 z36 h
theorem vB_L_same_362 {K : CT} (F : Fr K cL_same RL (some .boolean) [] 10 1) (hm : mxL K = 24) (rc265 : Option Nat → Int32 → Option Nat → Option Nat → Option Nat → Option Nat → Option Nat → Option Nat → Option Nat → Option Nat → Option Nat → Option Nat → Int32 → Int32 → MH → Res) (hrc265 : ∀ x0 x1 x2 x7 x8 x9 x10 x11 x12 x13 x14 x15 x18 x19 h, V K 265 [(0, vR x0), (1, vI x1), (2, vR x2), (7, vR x7), (8, vR x8), (9, vR x9), (10, vR x10), (11, vR x11), (12, vR x12), (13, vR x13), (14, vR x14), (15, vR x15), (18, vI x18), (19, vI x19)] [] h (rc265 x0 x1 x2 x7 x8 x9 x10 x11 x12 x13 x14 x15 x18 x19 h)) (x0 : Option Nat) (x1 : Int32) (x2 : Option Nat) (x7 : Option Nat) (x8 : Option Nat) (x9 : Option Nat) (x10 : Option Nat) (x11 : Option Nat) (x12 : Option Nat) (x13 : Option Nat) (x14 : Option Nat) (x15 : Option Nat) (x19 : Int32) (s0 : Int32) (h : MH) : V K 362 [(0, vR x0), (1, vI x1), (2, vR x2), (7, vR x7), (8, vR x8), (9, vR x9), (10, vR x10), (11, vR x11), (12, vR x12), (13, vR x13), (14, vR x14), (15, vR x15), (19, vI x19)] [vI s0] h (B_L_same_362 rc265 x0 x1 x2 x7 x8 x9 x10 x11 x12 x13 x14 x15 x19 s0 h) := by
  unfold B_L_same_362
  refine V_istore (pc := 362) F [(18, vI s0), (0, vR x0), (1, vI x1), (2, vR x2), (7, vR x7), (8, vR x8), (9, vR x9), (10, vR x10), (11, vR x11), (12, vR x12), (13, vR x13), (14, vR x14), (15, vR x15), (19, vI x19)] dL_same_362 (lt_mx hm (by decide)) rfl ?_
  refine V_iinc (pc := 364) F (fun z66 => [(19, vI z66), (18, vI s0), (0, vR x0), (1, vI x1), (2, vR x2), (7, vR x7), (8, vR x8), (9, vR x9), (10, vR x10), (11, vR x11), (12, vR x12), (13, vR x13), (14, vR x14), (15, vR x15)]) dL_same_364 (lt_mx hm (by decide)) 13 rfl (dx := (1 : Int32)) (by decide) (fun _ => rfl) ?_
  intro z66
  refine V_goto (pc := 367) F 265 dL_same_367 (by decide) ?_
  refine V_sub [2, 3, 4, 5, 6, 7, 8, 9, 10, 11, 12, 13, 1, 0] (L' := [(0, vR x0), (1, vI x1), (2, vR x2), (7, vR x7), (8, vR x8), (9, vR x9), (10, vR x10), (11, vR x11), (12, vR x12), (13, vR x13), (14, vR x14), (15, vR x15), (18, vI s0), (19, vI z66)]) rfl ?_
  exact hrc265 x0 x1 x2 x7 x8 x9 x10 x11 x12 x13 x14 x15 s0 z66 h
theorem vB_L_same_361 {K : CT} (F : Fr K cL_same RL (some .boolean) [] 10 1) (hm : mxL K = 24) (rc265 : Option Nat → Int32 → Option Nat → Option Nat → Option Nat → Option Nat → Option Nat → Option Nat → Option Nat → Option Nat → Option Nat → Option Nat → Int32 → Int32 → MH → Res) (hrc265 : ∀ x0 x1 x2 x7 x8 x9 x10 x11 x12 x13 x14 x15 x18 x19 h, V K 265 [(0, vR x0), (1, vI x1), (2, vR x2), (7, vR x7), (8, vR x8), (9, vR x9), (10, vR x10), (11, vR x11), (12, vR x12), (13, vR x13), (14, vR x14), (15, vR x15), (18, vI x18), (19, vI x19)] [] h (rc265 x0 x1 x2 x7 x8 x9 x10 x11 x12 x13 x14 x15 x18 x19 h)) (x0 : Option Nat) (x1 : Int32) (x2 : Option Nat) (x7 : Option Nat) (x8 : Option Nat) (x9 : Option Nat) (x10 : Option Nat) (x11 : Option Nat) (x12 : Option Nat) (x13 : Option Nat) (x14 : Option Nat) (x15 : Option Nat) (x19 : Int32) (h : MH) : V K 361 [(0, vR x0), (1, vI x1), (2, vR x2), (7, vR x7), (8, vR x8), (9, vR x9), (10, vR x10), (11, vR x11), (12, vR x12), (13, vR x13), (14, vR x14), (15, vR x15), (19, vI x19)] [] h (B_L_same_361 rc265 x0 x1 x2 x7 x8 x9 x10 x11 x12 x13 x14 x15 x19 h) := by
  unfold B_L_same_361
  refine V_iconst (pc := 361) F (x := (0 : Int32)) dL_same_361 (by decide) ?_
  exact vB_L_same_362 F hm rc265 hrc265 x0 x1 x2 x7 x8 x9 x10 x11 x12 x13 x14 x15 x19 (0 : Int32) h
theorem vB_L_same_572 {K : CT} (F : Fr K cL_same RL (some .boolean) [] 10 1) (hm : mxL K = 24) (rc430 : Option Nat → Int32 → Option Nat → Option Nat → Option Nat → Option Nat → Option Nat → Option Nat → Option Nat → Int32 → Int32 → MH → Res) (hrc430 : ∀ x0 x1 x2 x7 x8 x9 x10 x14 x15 x18 x19 h, V K 430 [(0, vR x0), (1, vI x1), (2, vR x2), (7, vR x7), (8, vR x8), (9, vR x9), (10, vR x10), (14, vR x14), (15, vR x15), (18, vI x18), (19, vI x19)] [] h (rc430 x0 x1 x2 x7 x8 x9 x10 x14 x15 x18 x19 h)) (x0 : Option Nat) (x1 : Int32) (x2 : Option Nat) (x7 : Option Nat) (x8 : Option Nat) (x9 : Option Nat) (x10 : Option Nat) (x14 : Option Nat) (x15 : Option Nat) (x19 : Int32) (s0 : Int32) (h : MH) : V K 572 [(0, vR x0), (1, vI x1), (2, vR x2), (7, vR x7), (8, vR x8), (9, vR x9), (10, vR x10), (14, vR x14), (15, vR x15), (19, vI x19)] [vI s0] h (B_L_same_572 rc430 x0 x1 x2 x7 x8 x9 x10 x14 x15 x19 s0 h) := by
  unfold B_L_same_572
  refine V_istore (pc := 572) F [(18, vI s0), (0, vR x0), (1, vI x1), (2, vR x2), (7, vR x7), (8, vR x8), (9, vR x9), (10, vR x10), (14, vR x14), (15, vR x15), (19, vI x19)] dL_same_572 (lt_mx hm (by decide)) rfl ?_
  refine V_iinc (pc := 574) F (fun z101 => [(19, vI z101), (18, vI s0), (0, vR x0), (1, vI x1), (2, vR x2), (7, vR x7), (8, vR x8), (9, vR x9), (10, vR x10), (14, vR x14), (15, vR x15)]) dL_same_574 (lt_mx hm (by decide)) 10 rfl (dx := (1 : Int32)) (by decide) (fun _ => rfl) ?_
  intro z101
  refine V_goto (pc := 577) F 430 dL_same_577 (by decide) ?_
  refine V_sub [2, 3, 4, 5, 6, 7, 8, 9, 10, 1, 0] (L' := [(0, vR x0), (1, vI x1), (2, vR x2), (7, vR x7), (8, vR x8), (9, vR x9), (10, vR x10), (14, vR x14), (15, vR x15), (18, vI s0), (19, vI z101)]) rfl ?_
  exact hrc430 x0 x1 x2 x7 x8 x9 x10 x14 x15 s0 z101 h
theorem vB_L_same_571 {K : CT} (F : Fr K cL_same RL (some .boolean) [] 10 1) (hm : mxL K = 24) (rc430 : Option Nat → Int32 → Option Nat → Option Nat → Option Nat → Option Nat → Option Nat → Option Nat → Option Nat → Int32 → Int32 → MH → Res) (hrc430 : ∀ x0 x1 x2 x7 x8 x9 x10 x14 x15 x18 x19 h, V K 430 [(0, vR x0), (1, vI x1), (2, vR x2), (7, vR x7), (8, vR x8), (9, vR x9), (10, vR x10), (14, vR x14), (15, vR x15), (18, vI x18), (19, vI x19)] [] h (rc430 x0 x1 x2 x7 x8 x9 x10 x14 x15 x18 x19 h)) (x0 : Option Nat) (x1 : Int32) (x2 : Option Nat) (x7 : Option Nat) (x8 : Option Nat) (x9 : Option Nat) (x10 : Option Nat) (x14 : Option Nat) (x15 : Option Nat) (x19 : Int32) (h : MH) : V K 571 [(0, vR x0), (1, vI x1), (2, vR x2), (7, vR x7), (8, vR x8), (9, vR x9), (10, vR x10), (14, vR x14), (15, vR x15), (19, vI x19)] [] h (B_L_same_571 rc430 x0 x1 x2 x7 x8 x9 x10 x14 x15 x19 h) := by
  unfold B_L_same_571
  refine V_iconst (pc := 571) F (x := (0 : Int32)) dL_same_571 (by decide) ?_
  exact vB_L_same_572 F hm rc430 hrc430 x0 x1 x2 x7 x8 x9 x10 x14 x15 x19 (0 : Int32) h
theorem vB_L_same_546 {K : CT} (F : Fr K cL_same RL (some .boolean) [] 10 1) (hm : mxL K = 24) (rc430 : Option Nat → Int32 → Option Nat → Option Nat → Option Nat → Option Nat → Option Nat → Option Nat → Option Nat → Int32 → Int32 → MH → Res) (hrc430 : ∀ x0 x1 x2 x7 x8 x9 x10 x14 x15 x18 x19 h, V K 430 [(0, vR x0), (1, vI x1), (2, vR x2), (7, vR x7), (8, vR x8), (9, vR x9), (10, vR x10), (14, vR x14), (15, vR x15), (18, vI x18), (19, vI x19)] [] h (rc430 x0 x1 x2 x7 x8 x9 x10 x14 x15 x18 x19 h)) (x0 : Option Nat) (x1 : Int32) (x2 : Option Nat) (x7 : Option Nat) (x8 : Option Nat) (x9 : Option Nat) (x10 : Option Nat) (x14 : Option Nat) (x15 : Option Nat) (x19 : Int32) (h : MH) : V K 546 [(0, vR x0), (1, vI x1), (2, vR x2), (7, vR x7), (8, vR x8), (9, vR x9), (10, vR x10), (14, vR x14), (15, vR x15), (19, vI x19)] [] h (B_L_same_546 rc430 x0 x1 x2 x7 x8 x9 x10 x14 x15 x19 h) := by
  unfold B_L_same_546
  refine V_aload_n (pc := 546) F dL_same_546 0 rfl ?_
  refine V_iload (pc := 547) F dL_same_547 9 rfl ?_
  refine V_iconst (pc := 549) F (x := (4 : Int32)) dL_same_549 (by decide) ?_
  refine V_cV (pc := 550) F 8 (by decide) (as := [vI x19, vI (4 : Int32)]) (C_X8_ofReading x0 x19 (4 : Int32) h) w_X8_ofReading g_in_X8_ofReading g_se_X8_ofReading g_ml_RL_123 (by decide) (rest := []) rfl rfl (Nat.le_of_ble_eq_true rfl) dL_same_550 (k_I fun z97 h98 => ?_) (fun _ _ => VX_out F)
  refine V_iload (pc := 553) F dL_same_553 9 rfl ?_
  refine V_aload (pc := 555) F dL_same_555 5 rfl ?_
  refine V_aload (pc := 557) F dL_same_557 6 rfl ?_
  refine V_aload (pc := 559) F dL_same_559 8 rfl ?_
  refine V_cSM (pc := 561) F (as := [vI x19, vR x9, vR x10, vR x15]) (C_L_flag x19 x9 x10 x15 h98) w_L_flag g_st_L_flag g_ml_RL_81 (by decide) (rest := [vI z97]) rfl rfl (Nat.le_of_ble_eq_true rfl) dL_same_561 (k_I fun z99 h100 => ?_)
  refine V_icmp_ne (pc := 564) F 571 dL_same_564 (by decide) ?_ ?_
  · exact vB_L_same_571 F hm rc430 hrc430 x0 x1 x2 x7 x8 x9 x10 x14 x15 x19 h100
  · refine V_iconst (pc := 567) F (x := (1 : Int32)) dL_same_567 (by decide) ?_
    refine V_goto (pc := 568) F 572 dL_same_568 (by decide) ?_
    exact vB_L_same_572 F hm rc430 hrc430 x0 x1 x2 x7 x8 x9 x10 x14 x15 x19 (1 : Int32) h100
theorem vB_L_same_838 {K : CT} (F : Fr K cL_same RL (some .boolean) [] 10 1) (hm : mxL K = 24) (s0 : Int32) (s1 : Int32) (h : MH) : V K 838 [] [vI s1, vI s0] h (B_L_same_838 s0 s1 h) := by
  unfold B_L_same_838
  refine V_icmp_ne (pc := 838) F 845 dL_same_838 (by decide) ?_ ?_
  · refine V_iconst (pc := 845) F (x := (0 : Int32)) dL_same_845 (by decide) ?_
    exact V_zret (pc := 846) F (Or.inr rfl) dL_same_846
  · refine V_iconst (pc := 841) F (x := (1 : Int32)) dL_same_841 (by decide) ?_
    refine V_goto (pc := 842) F 846 dL_same_842 (by decide) ?_
    exact V_zret (pc := 846) F (Or.inr rfl) dL_same_846
theorem vB_L_same_730 {K : CT} (F : Fr K cL_same RL (some .boolean) [] 10 1) (hm : mxL K = 24) (x0 : Option Nat) (x1 : Int32) (x7 : Option Nat) (x8 : Option Nat) (x9 : Option Nat) (x10 : Option Nat) (x14 : Option Nat) (x15 : Option Nat) (x21 : Int32) (s0 : Int32) (h : MH) : V K 730 [(0, vR x0), (1, vI x1), (7, vR x7), (8, vR x8), (9, vR x9), (10, vR x10), (14, vR x14), (15, vR x15), (21, vI x21)] [vI s0] h (B_L_same_730 x0 x1 x7 x8 x9 x10 x14 x15 x21 s0 h) := by
  unfold B_L_same_730
  refine V_istore (pc := 730) F [(18, vI s0), (0, vR x0), (1, vI x1), (7, vR x7), (8, vR x8), (9, vR x9), (10, vR x10), (14, vR x14), (15, vR x15), (21, vI x21)] dL_same_730 (lt_mx hm (by decide)) rfl ?_
  refine V_aload (pc := 732) F dL_same_732 8 rfl ?_
  refine V_iconst (pc := 734) F (x := (5 : Int32)) dL_same_734 (by decide) ?_
  refine V_iald (pc := 735) F dL_same_735 ?_
  intro z127
  refine V_if_eq (pc := 736) F 744 dL_same_736 (by decide) ?_ ?_
  · refine V_iload (pc := 744) F dL_same_744 0 rfl ?_
    exact V_zret (pc := 746) F (Or.inr rfl) dL_same_746
  · refine V_iload (pc := 739) F dL_same_739 0 rfl ?_
    refine V_if_ne (pc := 741) F 747 dL_same_741 (by decide) ?_ ?_
    · refine V_iload_n (pc := 747) F dL_same_747 2 rfl ?_
      refine V_iconst (pc := 748) F (x := (1 : Int32)) dL_same_748 (by decide) ?_
      refine V_ishr (pc := 749) F dL_same_749 ?_
      intro z128
      refine V_aload (pc := 750) F dL_same_750 8 rfl ?_
      refine V_iconst (pc := 752) F (x := (5 : Int32)) dL_same_752 (by decide) ?_
      refine V_iald (pc := 753) F dL_same_753 ?_
      intro z129
      refine V_cSM (pc := 754) F (as := [vI z128, vI z129]) (C_L_low z128 z129 h) w_L_low g_st_L_low g_ml_RL_29 (by decide) (rest := []) rfl rfl (Nat.le_of_ble_eq_true rfl) dL_same_754 (k_I fun z130 h131 => ?_)
      refine V_istore (pc := 757) F [(22, vI z130), (18, vI s0), (0, vR x0), (1, vI x1), (7, vR x7), (8, vR x8), (9, vR x9), (10, vR x10), (14, vR x14), (15, vR x15), (21, vI x21)] dL_same_757 (lt_mx hm (by decide)) rfl ?_
      refine V_aload (pc := 759) F dL_same_759 5 rfl ?_
      refine V_iload (pc := 761) F dL_same_761 0 rfl ?_
      refine V_iald (pc := 763) F dL_same_763 ?_
      intro z132
      refine V_bipush (pc := 764) F (x := (64 : Int32)) dL_same_764 (by decide) ?_
      refine V_irem (pc := 766) F dL_same_766 ?_
      intro z133
      refine V_aload (pc := 767) F dL_same_767 5 rfl ?_
      refine V_iload (pc := 769) F dL_same_769 0 rfl ?_
      refine V_iald (pc := 771) F dL_same_771 ?_
      intro z134
      refine V_bipush (pc := 772) F (x := (64 : Int32)) dL_same_772 (by decide) ?_
      refine V_idiv (pc := 774) F dL_same_774 ?_
      intro z135
      refine V_iload (pc := 775) F dL_same_775 10 rfl ?_
      refine V_iload (pc := 777) F dL_same_777 0 rfl ?_
      refine V_aload (pc := 779) F dL_same_779 5 rfl ?_
      refine V_aload (pc := 781) F dL_same_781 6 rfl ?_
      refine V_aload (pc := 783) F dL_same_783 7 rfl ?_
      refine V_aload (pc := 785) F dL_same_785 4 rfl ?_
      refine V_aload (pc := 787) F dL_same_787 8 rfl ?_
      refine V_aload (pc := 789) F dL_same_789 9 rfl ?_
      refine V_cSM (pc := 791) F (as := [vI z133, vI z135, vI x21, vI z130, vR x8, vR x9, vR x10, vR x7, vR x14, vR x15]) (C_L_map z133 z135 x21 z130 x8 x9 x10 x7 x14 x15 h131) w_L_map g_st_L_map g_ml_RL_126 (by decide) (rest := []) rfl rfl (Nat.le_of_ble_eq_true rfl) dL_same_791 (k_V fun h136 => ?_)
      refine V_aload_n (pc := 794) F dL_same_794 2 rfl ?_
      refine V_bipush (pc := 795) F (x := (8 : Int32)) dL_same_795 (by decide) ?_
      refine V_iload (pc := 797) F dL_same_797 0 rfl ?_
      refine V_iload (pc := 799) F dL_same_799 10 rfl ?_
      refine V_iconst (pc := 801) F (x := (0 : Int32)) dL_same_801 (by decide) ?_
      refine V_cSW (pc := 802) F (as := [vR x0, vI (8 : Int32), vI z130, vI x21, vI (0 : Int32)]) (C_L_calls x0 (8 : Int32) z130 x21 (0 : Int32) h136) w_L_calls g_st_L_calls g_ml_RL_130 (by decide) (rest := []) rfl rfl (Nat.le_of_ble_eq_true rfl) dL_same_802 (k_I fun z137 h138 => ?_) (fun _ _ => VX_out F)
      refine V_aload (pc := 805) F dL_same_805 8 rfl ?_
      refine V_iconst (pc := 807) F (x := (1 : Int32)) dL_same_807 (by decide) ?_
      refine V_iald (pc := 808) F dL_same_808 ?_
      intro z139
      refine V_if_ne (pc := 809) F 817 dL_same_809 (by decide) ?_ ?_
      · refine V_iload (pc := 817) F dL_same_817 0 rfl ?_
        refine V_aload (pc := 819) F dL_same_819 6 rfl ?_
        refine V_aload (pc := 821) F dL_same_821 7 rfl ?_
        refine V_aload (pc := 823) F dL_same_823 4 rfl ?_
        refine V_cSM (pc := 825) F (as := [vI z130, vR x9, vR x10, vR x7]) (C_L_corrected z130 x9 x10 x7 h138) w_L_corrected g_st_L_corrected g_ml_RL_85 (by decide) (rest := [vI z137]) rfl rfl (Nat.le_of_ble_eq_true rfl) dL_same_825 (k_I fun z140 h141 => ?_)
        refine V_aload (pc := 828) F dL_same_828 8 rfl ?_
        refine V_iconst (pc := 830) F (x := (0 : Int32)) dL_same_830 (by decide) ?_
        refine V_iald (pc := 831) F dL_same_831 ?_
        intro z142
        refine V_aload (pc := 832) F dL_same_832 8 rfl ?_
        refine V_iconst (pc := 834) F (x := (1 : Int32)) dL_same_834 (by decide) ?_
        refine V_iald (pc := 835) F dL_same_835 ?_
        intro z143
        refine V_idiv (pc := 836) F dL_same_836 ?_
        intro z144
        refine V_isub (pc := 837) F dL_same_837 ?_
        intro z145
        refine V_sub [] (L' := []) rfl ?_
        exact vB_L_same_838 F hm z137 z145 h141
      · refine V_ldc (pc := 812) F (x := (-2000000003 : Int32)) g_co_RL_50 dL_same_812 ?_
        refine V_goto (pc := 814) F 838 dL_same_814 (by decide) ?_
        refine V_sub [] (L' := []) rfl ?_
        exact vB_L_same_838 F hm z137 (-2000000003 : Int32) h138
    · refine V_iload (pc := 744) F dL_same_744 0 rfl ?_
      exact V_zret (pc := 746) F (Or.inr rfl) dL_same_746
theorem vB_L_same_729 {K : CT} (F : Fr K cL_same RL (some .boolean) [] 10 1) (hm : mxL K = 24) (x0 : Option Nat) (x1 : Int32) (x7 : Option Nat) (x8 : Option Nat) (x9 : Option Nat) (x10 : Option Nat) (x14 : Option Nat) (x15 : Option Nat) (x21 : Int32) (h : MH) : V K 729 [(0, vR x0), (1, vI x1), (7, vR x7), (8, vR x8), (9, vR x9), (10, vR x10), (14, vR x14), (15, vR x15), (21, vI x21)] [] h (B_L_same_729 x0 x1 x7 x8 x9 x10 x14 x15 x21 h) := by
  unfold B_L_same_729
  refine V_iconst (pc := 729) F (x := (0 : Int32)) dL_same_729 (by decide) ?_
  exact vB_L_same_730 F hm x0 x1 x7 x8 x9 x10 x14 x15 x21 (0 : Int32) h
theorem vB_L_same_722 {K : CT} (F : Fr K cL_same RL (some .boolean) [] 10 1) (hm : mxL K = 24) (x0 : Option Nat) (x1 : Int32) (x7 : Option Nat) (x8 : Option Nat) (x9 : Option Nat) (x10 : Option Nat) (x14 : Option Nat) (x15 : Option Nat) (x21 : Int32) (s0 : Int32) (s1 : Int32) (h : MH) : V K 722 [(0, vR x0), (1, vI x1), (7, vR x7), (8, vR x8), (9, vR x9), (10, vR x10), (14, vR x14), (15, vR x15), (21, vI x21)] [vI s1, vI s0] h (B_L_same_722 x0 x1 x7 x8 x9 x10 x14 x15 x21 s0 s1 h) := by
  unfold B_L_same_722
  refine V_icmp_ne (pc := 722) F 729 dL_same_722 (by decide) ?_ ?_
  · exact vB_L_same_729 F hm x0 x1 x7 x8 x9 x10 x14 x15 x21 h
  · refine V_iconst (pc := 725) F (x := (1 : Int32)) dL_same_725 (by decide) ?_
    refine V_goto (pc := 726) F 730 dL_same_726 (by decide) ?_
    exact vB_L_same_730 F hm x0 x1 x7 x8 x9 x10 x14 x15 x21 (1 : Int32) h
theorem vB_L_same_683 {K : CT} (F : Fr K cL_same RL (some .boolean) [] 10 1) (hm : mxL K = 24) (x0 : Option Nat) (x1 : Int32) (x2 : Option Nat) (x7 : Option Nat) (x8 : Option Nat) (x9 : Option Nat) (x10 : Option Nat) (x14 : Option Nat) (x15 : Option Nat) (x19 : Int32) (x20 : Int32) (x21 : Int32) (s0 : Int32) (s1 : Int32) (h : MH) : V K 683 [(0, vR x0), (1, vI x1), (2, vR x2), (7, vR x7), (8, vR x8), (9, vR x9), (10, vR x10), (14, vR x14), (15, vR x15), (19, vI x19), (20, vI x20), (21, vI x21)] [vI s1, vI s0] h (B_L_same_683 x0 x1 x2 x7 x8 x9 x10 x14 x15 x19 x20 x21 s0 s1 h) := by
  unfold B_L_same_683
  refine V_icmp_ne (pc := 683) F 729 dL_same_683 (by decide) ?_ ?_
  · refine V_sub [0, 1, 3, 4, 5, 6, 7, 8, 11] (L' := [(0, vR x0), (1, vI x1), (7, vR x7), (8, vR x8), (9, vR x9), (10, vR x10), (14, vR x14), (15, vR x15), (21, vI x21)]) rfl ?_
    exact vB_L_same_729 F hm x0 x1 x7 x8 x9 x10 x14 x15 x21 h
  · refine V_aload_n (pc := 686) F dL_same_686 0 rfl ?_
    refine V_bipush (pc := 687) F (x := (7 : Int32)) dL_same_687 (by decide) ?_
    refine V_iload (pc := 689) F dL_same_689 9 rfl ?_
    refine V_iload (pc := 691) F dL_same_691 10 rfl ?_
    refine V_iload (pc := 693) F dL_same_693 11 rfl ?_
    refine V_cSW (pc := 695) F (as := [vR x0, vI (7 : Int32), vI x19, vI x20, vI x21]) (C_L_calls x0 (7 : Int32) x19 x20 x21 h) w_L_calls g_st_L_calls g_ml_RL_130 (by decide) (rest := []) rfl rfl (Nat.le_of_ble_eq_true rfl) dL_same_695 (k_I fun z121 h122 => ?_) (fun _ _ => VX_out F)
    refine V_aload_n (pc := 698) F dL_same_698 2 rfl ?_
    refine V_iload (pc := 699) F dL_same_699 9 rfl ?_
    refine V_iald (pc := 701) F dL_same_701 ?_
    intro z123
    refine V_bipush (pc := 702) F (x := (7 : Int32)) dL_same_702 (by decide) ?_
    refine V_icmp_le (pc := 704) F 712 dL_same_704 (by decide) ?_ ?_
    · refine V_sipush (pc := 712) F (x := (1000 : Int32)) dL_same_712 (by decide) ?_
      refine V_iconst (pc := 715) F (x := (1 : Int32)) dL_same_715 (by decide) ?_
      refine V_aload (pc := 716) F dL_same_716 7 rfl ?_
      refine V_iconst (pc := 718) F (x := (1 : Int32)) dL_same_718 (by decide) ?_
      refine V_iald (pc := 719) F dL_same_719 ?_
      intro z124
      refine V_iadd (pc := 720) F dL_same_720 ?_
      intro z125
      refine V_idiv (pc := 721) F dL_same_721 ?_
      intro z126
      refine V_sub [0, 1, 3, 4, 5, 6, 7, 8, 11] (L' := [(0, vR x0), (1, vI x1), (7, vR x7), (8, vR x8), (9, vR x9), (10, vR x10), (14, vR x14), (15, vR x15), (21, vI x21)]) rfl ?_
      exact vB_L_same_722 F hm x0 x1 x7 x8 x9 x10 x14 x15 x21 z121 z126 h122
    · refine V_ldc (pc := 707) F (x := (-2000000003 : Int32)) g_co_RL_50 dL_same_707 ?_
      refine V_goto (pc := 709) F 722 dL_same_709 (by decide) ?_
      refine V_sub [0, 1, 3, 4, 5, 6, 7, 8, 11] (L' := [(0, vR x0), (1, vI x1), (7, vR x7), (8, vR x8), (9, vR x9), (10, vR x10), (14, vR x14), (15, vR x15), (21, vI x21)]) rfl ?_
      exact vB_L_same_722 F hm x0 x1 x7 x8 x9 x10 x14 x15 x21 z121 (-2000000003 : Int32) h122
theorem vB_L_same_669 {K : CT} (F : Fr K cL_same RL (some .boolean) [] 10 1) (hm : mxL K = 24) (x0 : Option Nat) (x1 : Int32) (x2 : Option Nat) (x7 : Option Nat) (x8 : Option Nat) (x9 : Option Nat) (x10 : Option Nat) (x14 : Option Nat) (x15 : Option Nat) (x19 : Int32) (x20 : Int32) (x21 : Int32) (s0 : Int32) (h : MH) : V K 669 [(0, vR x0), (1, vI x1), (2, vR x2), (7, vR x7), (8, vR x8), (9, vR x9), (10, vR x10), (14, vR x14), (15, vR x15), (19, vI x19), (20, vI x20), (21, vI x21)] [vI s0] h (B_L_same_669 x0 x1 x2 x7 x8 x9 x10 x14 x15 x19 x20 x21 s0 h) := by
  unfold B_L_same_669
  refine V_ldc (pc := 669) F (x := (-2000000003 : Int32)) g_co_RL_50 dL_same_669 ?_
  refine V_goto (pc := 671) F 683 dL_same_671 (by decide) ?_
  exact vB_L_same_683 F hm x0 x1 x2 x7 x8 x9 x10 x14 x15 x19 x20 x21 s0 (-2000000003 : Int32) h
theorem vB_L_same_580 {K : CT} (F : Fr K cL_same RL (some .boolean) [] 10 1) (hm : mxL K = 24) (x0 : Option Nat) (x1 : Int32) (x2 : Option Nat) (x7 : Option Nat) (x8 : Option Nat) (x9 : Option Nat) (x10 : Option Nat) (x14 : Option Nat) (x15 : Option Nat) (x18 : Int32) (h : MH) : V K 580 [(0, vR x0), (1, vI x1), (2, vR x2), (7, vR x7), (8, vR x8), (9, vR x9), (10, vR x10), (14, vR x14), (15, vR x15), (18, vI x18)] [] h (B_L_same_580 x0 x1 x2 x7 x8 x9 x10 x14 x15 x18 h) := by
  unfold B_L_same_580
  refine V_iload_n (pc := 580) F dL_same_580 1 rfl ?_
  refine V_iconst (pc := 581) F (x := (4 : Int32)) dL_same_581 (by decide) ?_
  refine V_ishr (pc := 582) F dL_same_582 ?_
  intro z102
  refine V_bipush (pc := 583) F (x := (60 : Int32)) dL_same_583 (by decide) ?_
  refine V_cSM (pc := 585) F (as := [vI z102, vI (60 : Int32)]) (C_L_low z102 (60 : Int32) h) w_L_low g_st_L_low g_ml_RL_29 (by decide) (rest := []) rfl rfl (Nat.le_of_ble_eq_true rfl) dL_same_585 (k_I fun z103 h104 => ?_)
  refine V_istore (pc := 588) F [(19, vI z103), (0, vR x0), (1, vI x1), (2, vR x2), (7, vR x7), (8, vR x8), (9, vR x9), (10, vR x10), (14, vR x14), (15, vR x15), (18, vI x18)] dL_same_588 (lt_mx hm (by decide)) rfl ?_
  refine V_iload_n (pc := 590) F dL_same_590 2 rfl ?_
  refine V_iconst (pc := 591) F (x := (2 : Int32)) dL_same_591 (by decide) ?_
  refine V_ishr (pc := 592) F dL_same_592 ?_
  intro z105
  refine V_aload (pc := 593) F dL_same_593 9 rfl ?_
  refine V_iconst (pc := 595) F (x := (0 : Int32)) dL_same_595 (by decide) ?_
  refine V_iald (pc := 596) F dL_same_596 ?_
  intro z106
  refine V_iconst (pc := 597) F (x := (3 : Int32)) dL_same_597 (by decide) ?_
  refine V_iadd (pc := 598) F dL_same_598 ?_
  intro z107
  refine V_cSM (pc := 599) F (as := [vI z105, vI z107]) (C_L_low z105 z107 h104) w_L_low g_st_L_low g_ml_RL_29 (by decide) (rest := []) rfl rfl (Nat.le_of_ble_eq_true rfl) dL_same_599 (k_I fun z108 h109 => ?_)
  refine V_istore (pc := 602) F [(20, vI z108), (19, vI z103), (0, vR x0), (1, vI x1), (2, vR x2), (7, vR x7), (8, vR x8), (9, vR x9), (10, vR x10), (14, vR x14), (15, vR x15), (18, vI x18)] dL_same_602 (lt_mx hm (by decide)) rfl ?_
  refine V_iload_n (pc := 604) F dL_same_604 3 rfl ?_
  refine V_iconst (pc := 605) F (x := (5 : Int32)) dL_same_605 (by decide) ?_
  refine V_ishr (pc := 606) F dL_same_606 ?_
  intro z110
  refine V_bipush (pc := 607) F (x := (12 : Int32)) dL_same_607 (by decide) ?_
  refine V_cSM (pc := 609) F (as := [vI z110, vI (12 : Int32)]) (C_L_low z110 (12 : Int32) h109) w_L_low g_st_L_low g_ml_RL_29 (by decide) (rest := []) rfl rfl (Nat.le_of_ble_eq_true rfl) dL_same_609 (k_I fun z111 h112 => ?_)
  refine V_istore (pc := 612) F [(21, vI z111), (20, vI z108), (19, vI z103), (0, vR x0), (1, vI x1), (2, vR x2), (7, vR x7), (8, vR x8), (9, vR x9), (10, vR x10), (14, vR x14), (15, vR x15), (18, vI x18)] dL_same_612 (lt_mx hm (by decide)) rfl ?_
  refine V_iload (pc := 614) F dL_same_614 2 rfl ?_
  refine V_iload (pc := 616) F dL_same_616 1 rfl ?_
  refine V_iload (pc := 618) F dL_same_618 0 rfl ?_
  refine V_iconst (pc := 620) F (x := (-1 : Int32)) dL_same_620 (by decide) ?_
  refine V_aload (pc := 621) F dL_same_621 7 rfl ?_
  refine V_aload (pc := 623) F dL_same_623 8 rfl ?_
  refine V_aload (pc := 625) F dL_same_625 9 rfl ?_
  refine V_aload (pc := 627) F dL_same_627 6 rfl ?_
  refine V_aload (pc := 629) F dL_same_629 10 rfl ?_
  refine V_aload (pc := 631) F dL_same_631 11 rfl ?_
  refine V_cSM (pc := 633) F (as := [vI z103, vI z108, vI z111, vI (-1 : Int32), vR x8, vR x9, vR x10, vR x7, vR x14, vR x15]) (C_L_map z103 z108 z111 (-1 : Int32) x8 x9 x10 x7 x14 x15 h112) w_L_map g_st_L_map g_ml_RL_126 (by decide) (rest := []) rfl rfl (Nat.le_of_ble_eq_true rfl) dL_same_633 (k_V fun h113 => ?_)
  refine V_iload (pc := 636) F dL_same_636 12 rfl ?_
  refine V_if_eq (pc := 638) F 729 dL_same_638 (by decide) ?_ ?_
  · refine V_sub [3, 4, 6, 7, 8, 9, 10, 11, 0] (L' := [(0, vR x0), (1, vI x1), (7, vR x7), (8, vR x8), (9, vR x9), (10, vR x10), (14, vR x14), (15, vR x15), (21, vI z111)]) rfl ?_
    exact vB_L_same_729 F hm x0 x1 x7 x8 x9 x10 x14 x15 z111 h113
  · refine V_aload_n (pc := 641) F dL_same_641 3 rfl ?_
    refine V_bipush (pc := 642) F (x := (6 : Int32)) dL_same_642 (by decide) ?_
    refine V_iload (pc := 644) F dL_same_644 2 rfl ?_
    refine V_iload (pc := 646) F dL_same_646 1 rfl ?_
    refine V_iload (pc := 648) F dL_same_648 0 rfl ?_
    refine V_cSW (pc := 650) F (as := [vR x0, vI (6 : Int32), vI z103, vI z108, vI z111]) (C_L_calls x0 (6 : Int32) z103 z108 z111 h113) w_L_calls g_st_L_calls g_ml_RL_130 (by decide) (rest := []) rfl rfl (Nat.le_of_ble_eq_true rfl) dL_same_650 (k_I fun z114 h115 => ?_) (fun _ _ => VX_out F)
    refine V_aload_n (pc := 653) F dL_same_653 5 rfl ?_
    refine V_iload (pc := 654) F dL_same_654 2 rfl ?_
    refine V_iald (pc := 656) F dL_same_656 ?_
    intro z116
    refine V_bipush (pc := 657) F (x := (7 : Int32)) dL_same_657 (by decide) ?_
    refine V_icmp_gt (pc := 659) F 669 dL_same_659 (by decide) ?_ ?_
    · refine V_sub [3, 4, 5, 6, 7, 8, 9, 10, 11, 2, 1, 0] (L' := [(0, vR x0), (1, vI x1), (2, vR x2), (7, vR x7), (8, vR x8), (9, vR x9), (10, vR x10), (14, vR x14), (15, vR x15), (19, vI z103), (20, vI z108), (21, vI z111)]) rfl ?_
      exact vB_L_same_669 F hm x0 x1 x2 x7 x8 x9 x10 x14 x15 z103 z108 z111 z114 h115
    · refine V_aload (pc := 662) F dL_same_662 10 rfl ?_
      refine V_iconst (pc := 664) F (x := (1 : Int32)) dL_same_664 (by decide) ?_
      refine V_iald (pc := 665) F dL_same_665 ?_
      intro z117
      refine V_if_ne (pc := 666) F 674 dL_same_666 (by decide) ?_ ?_
      · refine V_aload (pc := 674) F dL_same_674 10 rfl ?_
        refine V_iconst (pc := 676) F (x := (0 : Int32)) dL_same_676 (by decide) ?_
        refine V_iald (pc := 677) F dL_same_677 ?_
        intro z118
        refine V_aload (pc := 678) F dL_same_678 10 rfl ?_
        refine V_iconst (pc := 680) F (x := (1 : Int32)) dL_same_680 (by decide) ?_
        refine V_iald (pc := 681) F dL_same_681 ?_
        intro z119
        refine V_idiv (pc := 682) F dL_same_682 ?_
        intro z120
        refine V_sub [3, 4, 5, 6, 7, 8, 9, 10, 11, 2, 1, 0] (L' := [(0, vR x0), (1, vI x1), (2, vR x2), (7, vR x7), (8, vR x8), (9, vR x9), (10, vR x10), (14, vR x14), (15, vR x15), (19, vI z103), (20, vI z108), (21, vI z111)]) rfl ?_
        exact vB_L_same_683 F hm x0 x1 x2 x7 x8 x9 x10 x14 x15 z103 z108 z111 z114 z120 h115
      · refine V_sub [3, 4, 5, 6, 7, 8, 9, 10, 11, 2, 1, 0] (L' := [(0, vR x0), (1, vI x1), (2, vR x2), (7, vR x7), (8, vR x8), (9, vR x9), (10, vR x10), (14, vR x14), (15, vR x15), (19, vI z103), (20, vI z108), (21, vI z111)]) rfl ?_
        exact vB_L_same_669 F hm x0 x1 x2 x7 x8 x9 x10 x14 x15 z103 z108 z111 z114 h115
theorem vB_L_same_430 {K : CT} (F : Fr K cL_same RL (some .boolean) [] 10 1) (hm : mxL K = 24) (rc430 : Option Nat → Int32 → Option Nat → Option Nat → Option Nat → Option Nat → Option Nat → Option Nat → Option Nat → Int32 → Int32 → MH → Res) (hrc430 : ∀ x0 x1 x2 x7 x8 x9 x10 x14 x15 x18 x19 h, V K 430 [(0, vR x0), (1, vI x1), (2, vR x2), (7, vR x7), (8, vR x8), (9, vR x9), (10, vR x10), (14, vR x14), (15, vR x15), (18, vI x18), (19, vI x19)] [] h (rc430 x0 x1 x2 x7 x8 x9 x10 x14 x15 x18 x19 h)) (x0 : Option Nat) (x1 : Int32) (x2 : Option Nat) (x7 : Option Nat) (x8 : Option Nat) (x9 : Option Nat) (x10 : Option Nat) (x14 : Option Nat) (x15 : Option Nat) (x18 : Int32) (x19 : Int32) (h : MH) : V K 430 [(0, vR x0), (1, vI x1), (2, vR x2), (7, vR x7), (8, vR x8), (9, vR x9), (10, vR x10), (14, vR x14), (15, vR x15), (18, vI x18), (19, vI x19)] [] h (B_L_same_430 rc430 x0 x1 x2 x7 x8 x9 x10 x14 x15 x18 x19 h) := by
  unfold B_L_same_430
  refine V_iload (pc := 430) F dL_same_430 10 rfl ?_
  refine V_aload (pc := 432) F dL_same_432 8 rfl ?_
  refine V_iconst (pc := 434) F (x := (5 : Int32)) dL_same_434 (by decide) ?_
  refine V_iald (pc := 435) F dL_same_435 ?_
  intro z74
  refine V_icmp_ge (pc := 436) F 580 dL_same_436 (by decide) ?_ ?_
  · refine V_sub [0, 1, 2, 3, 4, 5, 6, 7, 8, 9] (L' := [(0, vR x0), (1, vI x1), (2, vR x2), (7, vR x7), (8, vR x8), (9, vR x9), (10, vR x10), (14, vR x14), (15, vR x15), (18, vI x18)]) rfl ?_
    exact vB_L_same_580 F hm x0 x1 x2 x7 x8 x9 x10 x14 x15 x18 h
  · refine V_iload (pc := 439) F dL_same_439 9 rfl ?_
    refine V_if_eq (pc := 441) F 580 dL_same_441 (by decide) ?_ ?_
    · refine V_sub [0, 1, 2, 3, 4, 5, 6, 7, 8, 9] (L' := [(0, vR x0), (1, vI x1), (2, vR x2), (7, vR x7), (8, vR x8), (9, vR x9), (10, vR x10), (14, vR x14), (15, vR x15), (18, vI x18)]) rfl ?_
      exact vB_L_same_580 F hm x0 x1 x2 x7 x8 x9 x10 x14 x15 x18 h
    · refine V_iload (pc := 444) F dL_same_444 10 rfl ?_
      refine V_iconst (pc := 446) F (x := (4 : Int32)) dL_same_446 (by decide) ?_
      refine V_irem (pc := 447) F dL_same_447 ?_
      intro z75
      refine V_iload_n (pc := 448) F dL_same_448 1 rfl ?_
      refine V_iconst (pc := 449) F (x := (4 : Int32)) dL_same_449 (by decide) ?_
      refine V_irem (pc := 450) F dL_same_450 ?_
      intro z76
      refine V_icmp_ne (pc := 451) F 546 dL_same_451 (by decide) ?_ ?_
      · refine V_sub [0, 1, 2, 3, 4, 5, 6, 7, 8, 10] (L' := [(0, vR x0), (1, vI x1), (2, vR x2), (7, vR x7), (8, vR x8), (9, vR x9), (10, vR x10), (14, vR x14), (15, vR x15), (19, vI x19)]) rfl ?_
        exact vB_L_same_546 F hm rc430 hrc430 x0 x1 x2 x7 x8 x9 x10 x14 x15 x19 h
      · refine V_aload_n (pc := 454) F dL_same_454 0 rfl ?_
        refine V_iload (pc := 455) F dL_same_455 10 rfl ?_
        refine V_iconst (pc := 457) F (x := (0 : Int32)) dL_same_457 (by decide) ?_
        refine V_cV (pc := 458) F 8 (by decide) (as := [vI x19, vI (0 : Int32)]) (C_X8_ofReading x0 x19 (0 : Int32) h) w_X8_ofReading g_in_X8_ofReading g_se_X8_ofReading g_ml_RL_123 (by decide) (rest := []) rfl rfl (Nat.le_of_ble_eq_true rfl) dL_same_458 (k_I fun z77 h78 => ?_) (fun _ _ => VX_out F)
        refine V_aload (pc := 461) F dL_same_461 4 rfl ?_
        refine V_iload (pc := 463) F dL_same_463 10 rfl ?_
        refine V_iald (pc := 465) F dL_same_465 ?_
        intro z79
        refine V_bipush (pc := 466) F (x := (64 : Int32)) dL_same_466 (by decide) ?_
        refine V_idiv (pc := 468) F dL_same_468 ?_
        intro z80
        refine V_icmp_ne (pc := 469) F 571 dL_same_469 (by decide) ?_ ?_
        · refine V_sub [0, 1, 2, 3, 4, 5, 6, 7, 8, 10] (L' := [(0, vR x0), (1, vI x1), (2, vR x2), (7, vR x7), (8, vR x8), (9, vR x9), (10, vR x10), (14, vR x14), (15, vR x15), (19, vI x19)]) rfl ?_
          exact vB_L_same_571 F hm rc430 hrc430 x0 x1 x2 x7 x8 x9 x10 x14 x15 x19 h78
        · refine V_aload_n (pc := 472) F dL_same_472 0 rfl ?_
          refine V_iload (pc := 473) F dL_same_473 10 rfl ?_
          refine V_iconst (pc := 475) F (x := (1 : Int32)) dL_same_475 (by decide) ?_
          refine V_cV (pc := 476) F 8 (by decide) (as := [vI x19, vI (1 : Int32)]) (C_X8_ofReading x0 x19 (1 : Int32) h78) w_X8_ofReading g_in_X8_ofReading g_se_X8_ofReading g_ml_RL_123 (by decide) (rest := []) rfl rfl (Nat.le_of_ble_eq_true rfl) dL_same_476 (k_I fun z81 h82 => ?_) (fun _ _ => VX_out F)
          refine V_aload (pc := 479) F dL_same_479 4 rfl ?_
          refine V_iload (pc := 481) F dL_same_481 10 rfl ?_
          refine V_iald (pc := 483) F dL_same_483 ?_
          intro z83
          refine V_bipush (pc := 484) F (x := (64 : Int32)) dL_same_484 (by decide) ?_
          refine V_irem (pc := 486) F dL_same_486 ?_
          intro z84
          refine V_icmp_ne (pc := 487) F 571 dL_same_487 (by decide) ?_ ?_
          · refine V_sub [0, 1, 2, 3, 4, 5, 6, 7, 8, 10] (L' := [(0, vR x0), (1, vI x1), (2, vR x2), (7, vR x7), (8, vR x8), (9, vR x9), (10, vR x10), (14, vR x14), (15, vR x15), (19, vI x19)]) rfl ?_
            exact vB_L_same_571 F hm rc430 hrc430 x0 x1 x2 x7 x8 x9 x10 x14 x15 x19 h82
          · refine V_aload_n (pc := 490) F dL_same_490 0 rfl ?_
            refine V_iload (pc := 491) F dL_same_491 10 rfl ?_
            refine V_iconst (pc := 493) F (x := (2 : Int32)) dL_same_493 (by decide) ?_
            refine V_cV (pc := 494) F 8 (by decide) (as := [vI x19, vI (2 : Int32)]) (C_X8_ofReading x0 x19 (2 : Int32) h82) w_X8_ofReading g_in_X8_ofReading g_se_X8_ofReading g_ml_RL_123 (by decide) (rest := []) rfl rfl (Nat.le_of_ble_eq_true rfl) dL_same_494 (k_I fun z85 h86 => ?_) (fun _ _ => VX_out F)
            refine V_aload (pc := 497) F dL_same_497 5 rfl ?_
            refine V_iload (pc := 499) F dL_same_499 10 rfl ?_
            refine V_iald (pc := 501) F dL_same_501 ?_
            intro z87
            refine V_icmp_ne (pc := 502) F 571 dL_same_502 (by decide) ?_ ?_
            · refine V_sub [0, 1, 2, 3, 4, 5, 6, 7, 8, 10] (L' := [(0, vR x0), (1, vI x1), (2, vR x2), (7, vR x7), (8, vR x8), (9, vR x9), (10, vR x10), (14, vR x14), (15, vR x15), (19, vI x19)]) rfl ?_
              exact vB_L_same_571 F hm rc430 hrc430 x0 x1 x2 x7 x8 x9 x10 x14 x15 x19 h86
            · refine V_aload_n (pc := 505) F dL_same_505 0 rfl ?_
              refine V_iload (pc := 506) F dL_same_506 10 rfl ?_
              refine V_iconst (pc := 508) F (x := (3 : Int32)) dL_same_508 (by decide) ?_
              refine V_cV (pc := 509) F 8 (by decide) (as := [vI x19, vI (3 : Int32)]) (C_X8_ofReading x0 x19 (3 : Int32) h86) w_X8_ofReading g_in_X8_ofReading g_se_X8_ofReading g_ml_RL_123 (by decide) (rest := []) rfl rfl (Nat.le_of_ble_eq_true rfl) dL_same_509 (k_I fun z88 h89 => ?_) (fun _ _ => VX_out F)
              refine V_iload (pc := 512) F dL_same_512 10 rfl ?_
              refine V_aload (pc := 514) F dL_same_514 5 rfl ?_
              refine V_aload (pc := 516) F dL_same_516 6 rfl ?_
              refine V_aload (pc := 518) F dL_same_518 3 rfl ?_
              refine V_cSM (pc := 520) F (as := [vI x19, vR x9, vR x10, vR x7]) (C_L_corrected x19 x9 x10 x7 h89) w_L_corrected g_st_L_corrected g_ml_RL_85 (by decide) (rest := [vI z88]) rfl rfl (Nat.le_of_ble_eq_true rfl) dL_same_520 (k_I fun z90 h91 => ?_)
              refine V_icmp_ne (pc := 523) F 571 dL_same_523 (by decide) ?_ ?_
              · refine V_sub [0, 1, 2, 3, 4, 5, 6, 7, 8, 10] (L' := [(0, vR x0), (1, vI x1), (2, vR x2), (7, vR x7), (8, vR x8), (9, vR x9), (10, vR x10), (14, vR x14), (15, vR x15), (19, vI x19)]) rfl ?_
                exact vB_L_same_571 F hm rc430 hrc430 x0 x1 x2 x7 x8 x9 x10 x14 x15 x19 h91
              · refine V_aload_n (pc := 526) F dL_same_526 0 rfl ?_
                refine V_iload (pc := 527) F dL_same_527 10 rfl ?_
                refine V_iconst (pc := 529) F (x := (5 : Int32)) dL_same_529 (by decide) ?_
                refine V_cV (pc := 530) F 8 (by decide) (as := [vI x19, vI (5 : Int32)]) (C_X8_ofReading x0 x19 (5 : Int32) h91) w_X8_ofReading g_in_X8_ofReading g_se_X8_ofReading g_ml_RL_123 (by decide) (rest := []) rfl rfl (Nat.le_of_ble_eq_true rfl) dL_same_530 (k_I fun z92 h93 => ?_) (fun _ _ => VX_out F)
                refine V_aload (pc := 533) F dL_same_533 6 rfl ?_
                refine V_iload (pc := 535) F dL_same_535 10 rfl ?_
                refine V_iald (pc := 537) F dL_same_537 ?_
                intro z94
                refine V_bipush (pc := 538) F (x := (16 : Int32)) dL_same_538 (by decide) ?_
                refine V_irem (pc := 540) F dL_same_540 ?_
                intro z95
                refine V_iconst (pc := 541) F (x := (1 : Int32)) dL_same_541 (by decide) ?_
                refine V_isub (pc := 542) F dL_same_542 ?_
                intro z96
                refine V_icmp_ne (pc := 543) F 571 dL_same_543 (by decide) ?_ ?_
                · refine V_sub [0, 1, 2, 3, 4, 5, 6, 7, 8, 10] (L' := [(0, vR x0), (1, vI x1), (2, vR x2), (7, vR x7), (8, vR x8), (9, vR x9), (10, vR x10), (14, vR x14), (15, vR x15), (19, vI x19)]) rfl ?_
                  exact vB_L_same_571 F hm rc430 hrc430 x0 x1 x2 x7 x8 x9 x10 x14 x15 x19 h93
                · refine V_sub [0, 1, 2, 3, 4, 5, 6, 7, 8, 10] (L' := [(0, vR x0), (1, vI x1), (2, vR x2), (7, vR x7), (8, vR x8), (9, vR x9), (10, vR x10), (14, vR x14), (15, vR x15), (19, vI x19)]) rfl ?_
                  exact vB_L_same_546 F hm rc430 hrc430 x0 x1 x2 x7 x8 x9 x10 x14 x15 x19 h93
theorem vL_L_same_430 {K : CT} (F : Fr K cL_same RL (some .boolean) [] 10 1) (hm : mxL K = 24) (n : Nat) : ∀ x0 x1 x2 x7 x8 x9 x10 x14 x15 x18 x19 h, V K 430 [(0, vR x0), (1, vI x1), (2, vR x2), (7, vR x7), (8, vR x8), (9, vR x9), (10, vR x10), (14, vR x14), (15, vR x15), (18, vI x18), (19, vI x19)] [] h (L_L_same_430 n x0 x1 x2 x7 x8 x9 x10 x14 x15 x18 x19 h) := by
  induction n with
  | zero => intros; exact V_none
  | succ n ih => intro x0 x1 x2 x7 x8 x9 x10 x14 x15 x18 x19 h; exact vB_L_same_430 F hm _ ih x0 x1 x2 x7 x8 x9 x10 x14 x15 x18 x19 h
theorem vB_L_same_427 {K : CT} (F : Fr K cL_same RL (some .boolean) [] 10 1) (hm : mxL K = 24) (x0 : Option Nat) (x1 : Int32) (x2 : Option Nat) (x7 : Option Nat) (x8 : Option Nat) (x9 : Option Nat) (x10 : Option Nat) (x14 : Option Nat) (x15 : Option Nat) (x18 : Int32) (h : MH) : V K 427 [(0, vR x0), (1, vI x1), (2, vR x2), (7, vR x7), (8, vR x8), (9, vR x9), (10, vR x10), (14, vR x14), (15, vR x15), (18, vI x18)] [] h (B_L_same_427 x0 x1 x2 x7 x8 x9 x10 x14 x15 x18 h) := by
  unfold B_L_same_427
  refine V_iconst (pc := 427) F (x := (0 : Int32)) dL_same_427 (by decide) ?_
  refine V_istore (pc := 428) F [(19, vI (0 : Int32)), (0, vR x0), (1, vI x1), (2, vR x2), (7, vR x7), (8, vR x8), (9, vR x9), (10, vR x10), (14, vR x14), (15, vR x15), (18, vI x18)] dL_same_428 (lt_mx hm (by decide)) rfl ?_
  refine V_sub [1, 2, 3, 4, 5, 6, 7, 8, 9, 10, 0] (L' := [(0, vR x0), (1, vI x1), (2, vR x2), (7, vR x7), (8, vR x8), (9, vR x9), (10, vR x10), (14, vR x14), (15, vR x15), (18, vI x18), (19, vI (0 : Int32))]) rfl ?_
  exact vL_L_same_430 F hm fuel x0 x1 x2 x7 x8 x9 x10 x14 x15 x18 (0 : Int32) h
theorem vB_L_same_425 {K : CT} (F : Fr K cL_same RL (some .boolean) [] 10 1) (hm : mxL K = 24) (x0 : Option Nat) (x1 : Int32) (x2 : Option Nat) (x7 : Option Nat) (x8 : Option Nat) (x9 : Option Nat) (x10 : Option Nat) (x14 : Option Nat) (x15 : Option Nat) (s0 : Int32) (h : MH) : V K 425 [(0, vR x0), (1, vI x1), (2, vR x2), (7, vR x7), (8, vR x8), (9, vR x9), (10, vR x10), (14, vR x14), (15, vR x15)] [vI s0] h (B_L_same_425 x0 x1 x2 x7 x8 x9 x10 x14 x15 s0 h) := by
  unfold B_L_same_425
  refine V_istore (pc := 425) F [(18, vI s0), (0, vR x0), (1, vI x1), (2, vR x2), (7, vR x7), (8, vR x8), (9, vR x9), (10, vR x10), (14, vR x14), (15, vR x15)] dL_same_425 (lt_mx hm (by decide)) rfl ?_
  refine V_sub [1, 2, 3, 4, 5, 6, 7, 8, 9, 0] (L' := [(0, vR x0), (1, vI x1), (2, vR x2), (7, vR x7), (8, vR x8), (9, vR x9), (10, vR x10), (14, vR x14), (15, vR x15), (18, vI s0)]) rfl ?_
  exact vB_L_same_427 F hm x0 x1 x2 x7 x8 x9 x10 x14 x15 s0 h
theorem vB_L_same_420 {K : CT} (F : Fr K cL_same RL (some .boolean) [] 10 1) (hm : mxL K = 24) (x0 : Option Nat) (x1 : Int32) (x2 : Option Nat) (x7 : Option Nat) (x8 : Option Nat) (x9 : Option Nat) (x10 : Option Nat) (x14 : Option Nat) (x15 : Option Nat) (h : MH) : V K 420 [(0, vR x0), (1, vI x1), (2, vR x2), (7, vR x7), (8, vR x8), (9, vR x9), (10, vR x10), (14, vR x14), (15, vR x15)] [] h (B_L_same_420 x0 x1 x2 x7 x8 x9 x10 x14 x15 h) := by
  unfold B_L_same_420
  refine V_iconst (pc := 420) F (x := (1 : Int32)) dL_same_420 (by decide) ?_
  refine V_goto (pc := 421) F 425 dL_same_421 (by decide) ?_
  exact vB_L_same_425 F hm x0 x1 x2 x7 x8 x9 x10 x14 x15 (1 : Int32) h
theorem vB_L_same_424 {K : CT} (F : Fr K cL_same RL (some .boolean) [] 10 1) (hm : mxL K = 24) (x0 : Option Nat) (x1 : Int32) (x2 : Option Nat) (x7 : Option Nat) (x8 : Option Nat) (x9 : Option Nat) (x10 : Option Nat) (x14 : Option Nat) (x15 : Option Nat) (h : MH) : V K 424 [(0, vR x0), (1, vI x1), (2, vR x2), (7, vR x7), (8, vR x8), (9, vR x9), (10, vR x10), (14, vR x14), (15, vR x15)] [] h (B_L_same_424 x0 x1 x2 x7 x8 x9 x10 x14 x15 h) := by
  unfold B_L_same_424
  refine V_iconst (pc := 424) F (x := (0 : Int32)) dL_same_424 (by decide) ?_
  exact vB_L_same_425 F hm x0 x1 x2 x7 x8 x9 x10 x14 x15 (0 : Int32) h
theorem vB_L_same_370 {K : CT} (F : Fr K cL_same RL (some .boolean) [] 10 1) (hm : mxL K = 24) (x0 : Option Nat) (x1 : Int32) (x2 : Option Nat) (x7 : Option Nat) (x8 : Option Nat) (x9 : Option Nat) (x10 : Option Nat) (x11 : Option Nat) (x12 : Option Nat) (x13 : Option Nat) (x14 : Option Nat) (x15 : Option Nat) (x18 : Int32) (h : MH) : V K 370 [(0, vR x0), (1, vI x1), (2, vR x2), (7, vR x7), (8, vR x8), (9, vR x9), (10, vR x10), (11, vR x11), (12, vR x12), (13, vR x13), (14, vR x14), (15, vR x15), (18, vI x18)] [] h (B_L_same_370 x0 x1 x2 x7 x8 x9 x10 x11 x12 x13 x14 x15 x18 h) := by
  unfold B_L_same_370
  refine V_aload (pc := 370) F dL_same_370 11 rfl ?_
  refine V_bipush (pc := 372) F (x := (6 : Int32)) dL_same_372 (by decide) ?_
  refine V_iald (pc := 374) F dL_same_374 ?_
  intro z67
  refine V_if_le (pc := 375) F 427 dL_same_375 (by decide) ?_ ?_
  · refine V_sub [0, 1, 2, 3, 4, 5, 6, 10, 11, 12] (L' := [(0, vR x0), (1, vI x1), (2, vR x2), (7, vR x7), (8, vR x8), (9, vR x9), (10, vR x10), (14, vR x14), (15, vR x15), (18, vI x18)]) rfl ?_
    exact vB_L_same_427 F hm x0 x1 x2 x7 x8 x9 x10 x14 x15 x18 h
  · refine V_iload (pc := 378) F dL_same_378 12 rfl ?_
    refine V_if_eq (pc := 380) F 427 dL_same_380 (by decide) ?_ ?_
    · refine V_sub [0, 1, 2, 3, 4, 5, 6, 10, 11, 12] (L' := [(0, vR x0), (1, vI x1), (2, vR x2), (7, vR x7), (8, vR x8), (9, vR x9), (10, vR x10), (14, vR x14), (15, vR x15), (18, vI x18)]) rfl ?_
      exact vB_L_same_427 F hm x0 x1 x2 x7 x8 x9 x10 x14 x15 x18 h
    · refine V_aload_n (pc := 383) F dL_same_383 0 rfl ?_
      refine V_iconst (pc := 384) F (x := (0 : Int32)) dL_same_384 (by decide) ?_
      refine V_iload_n (pc := 385) F dL_same_385 1 rfl ?_
      refine V_aload (pc := 386) F dL_same_386 7 rfl ?_
      refine V_aload (pc := 388) F dL_same_388 9 rfl ?_
      refine V_cS (pc := 390) F (as := [vR x0, vI (0 : Int32), vI x1, vR x11, vR x13]) (C_L_searches x0 (0 : Int32) x1 x11 x13 h) w_L_searches g_st_L_searches g_ml_RL_119 (by decide) (rest := []) rfl rfl (Nat.le_of_ble_eq_true rfl) dL_same_390 (k_I fun z68 h69 => ?_) (fun _ _ => VX_out F)
      refine V_if_eq (pc := 393) F 424 dL_same_393 (by decide) ?_ ?_
      · refine V_sub [0, 1, 2, 3, 4, 5, 6, 10, 11] (L' := [(0, vR x0), (1, vI x1), (2, vR x2), (7, vR x7), (8, vR x8), (9, vR x9), (10, vR x10), (14, vR x14), (15, vR x15)]) rfl ?_
        exact vB_L_same_424 F hm x0 x1 x2 x7 x8 x9 x10 x14 x15 h69
      · refine V_aload (pc := 396) F dL_same_396 11 rfl ?_
        refine V_bipush (pc := 398) F (x := (6 : Int32)) dL_same_398 (by decide) ?_
        refine V_iald (pc := 400) F dL_same_400 ?_
        intro z70
        refine V_iconst (pc := 401) F (x := (1 : Int32)) dL_same_401 (by decide) ?_
        refine V_icmp_eq (pc := 402) F 420 dL_same_402 (by decide) ?_ ?_
        · refine V_sub [0, 1, 2, 3, 4, 5, 6, 10, 11] (L' := [(0, vR x0), (1, vI x1), (2, vR x2), (7, vR x7), (8, vR x8), (9, vR x9), (10, vR x10), (14, vR x14), (15, vR x15)]) rfl ?_
          exact vB_L_same_420 F hm x0 x1 x2 x7 x8 x9 x10 x14 x15 h69
        · refine V_aload_n (pc := 405) F dL_same_405 0 rfl ?_
          refine V_iconst (pc := 406) F (x := (1 : Int32)) dL_same_406 (by decide) ?_
          refine V_iload_n (pc := 407) F dL_same_407 1 rfl ?_
          refine V_iconst (pc := 408) F (x := (2 : Int32)) dL_same_408 (by decide) ?_
          refine V_ishr (pc := 409) F dL_same_409 ?_
          intro z71
          refine V_aload (pc := 410) F dL_same_410 8 rfl ?_
          refine V_aload (pc := 412) F dL_same_412 9 rfl ?_
          refine V_cS (pc := 414) F (as := [vR x0, vI (1 : Int32), vI z71, vR x12, vR x13]) (C_L_searches x0 (1 : Int32) z71 x12 x13 h69) w_L_searches g_st_L_searches g_ml_RL_119 (by decide) (rest := []) rfl rfl (Nat.le_of_ble_eq_true rfl) dL_same_414 (k_I fun z72 h73 => ?_) (fun _ _ => VX_out F)
          refine V_if_eq (pc := 417) F 424 dL_same_417 (by decide) ?_ ?_
          · refine V_sub [0, 1, 2, 3, 4, 5, 6, 10, 11] (L' := [(0, vR x0), (1, vI x1), (2, vR x2), (7, vR x7), (8, vR x8), (9, vR x9), (10, vR x10), (14, vR x14), (15, vR x15)]) rfl ?_
            exact vB_L_same_424 F hm x0 x1 x2 x7 x8 x9 x10 x14 x15 h73
          · refine V_sub [0, 1, 2, 3, 4, 5, 6, 10, 11] (L' := [(0, vR x0), (1, vI x1), (2, vR x2), (7, vR x7), (8, vR x8), (9, vR x9), (10, vR x10), (14, vR x14), (15, vR x15)]) rfl ?_
            exact vB_L_same_420 F hm x0 x1 x2 x7 x8 x9 x10 x14 x15 h73
theorem vB_L_same_265 {K : CT} (F : Fr K cL_same RL (some .boolean) [] 10 1) (hm : mxL K = 24) (rc265 : Option Nat → Int32 → Option Nat → Option Nat → Option Nat → Option Nat → Option Nat → Option Nat → Option Nat → Option Nat → Option Nat → Option Nat → Int32 → Int32 → MH → Res) (hrc265 : ∀ x0 x1 x2 x7 x8 x9 x10 x11 x12 x13 x14 x15 x18 x19 h, V K 265 [(0, vR x0), (1, vI x1), (2, vR x2), (7, vR x7), (8, vR x8), (9, vR x9), (10, vR x10), (11, vR x11), (12, vR x12), (13, vR x13), (14, vR x14), (15, vR x15), (18, vI x18), (19, vI x19)] [] h (rc265 x0 x1 x2 x7 x8 x9 x10 x11 x12 x13 x14 x15 x18 x19 h)) (x0 : Option Nat) (x1 : Int32) (x2 : Option Nat) (x7 : Option Nat) (x8 : Option Nat) (x9 : Option Nat) (x10 : Option Nat) (x11 : Option Nat) (x12 : Option Nat) (x13 : Option Nat) (x14 : Option Nat) (x15 : Option Nat) (x18 : Int32) (x19 : Int32) (h : MH) : V K 265 [(0, vR x0), (1, vI x1), (2, vR x2), (7, vR x7), (8, vR x8), (9, vR x9), (10, vR x10), (11, vR x11), (12, vR x12), (13, vR x13), (14, vR x14), (15, vR x15), (18, vI x18), (19, vI x19)] [] h (B_L_same_265 rc265 x0 x1 x2 x7 x8 x9 x10 x11 x12 x13 x14 x15 x18 x19 h) := by
  unfold B_L_same_265
  refine V_iload (pc := 265) F dL_same_265 13 rfl ?_
  refine V_aload (pc := 267) F dL_same_267 11 rfl ?_
  refine V_iconst (pc := 269) F (x := (2 : Int32)) dL_same_269 (by decide) ?_
  refine V_iald (pc := 270) F dL_same_270 ?_
  intro z46
  refine V_icmp_ge (pc := 271) F 370 dL_same_271 (by decide) ?_ ?_
  · refine V_sub [0, 1, 2, 3, 4, 5, 6, 7, 8, 9, 10, 11, 12] (L' := [(0, vR x0), (1, vI x1), (2, vR x2), (7, vR x7), (8, vR x8), (9, vR x9), (10, vR x10), (11, vR x11), (12, vR x12), (13, vR x13), (14, vR x14), (15, vR x15), (18, vI x18)]) rfl ?_
    exact vB_L_same_370 F hm x0 x1 x2 x7 x8 x9 x10 x11 x12 x13 x14 x15 x18 h
  · refine V_iload (pc := 274) F dL_same_274 12 rfl ?_
    refine V_if_eq (pc := 276) F 370 dL_same_276 (by decide) ?_ ?_
    · refine V_sub [0, 1, 2, 3, 4, 5, 6, 7, 8, 9, 10, 11, 12] (L' := [(0, vR x0), (1, vI x1), (2, vR x2), (7, vR x7), (8, vR x8), (9, vR x9), (10, vR x10), (11, vR x11), (12, vR x12), (13, vR x13), (14, vR x14), (15, vR x15), (18, vI x18)]) rfl ?_
      exact vB_L_same_370 F hm x0 x1 x2 x7 x8 x9 x10 x11 x12 x13 x14 x15 x18 h
    · refine V_aload_n (pc := 279) F dL_same_279 0 rfl ?_
      refine V_iload (pc := 280) F dL_same_280 13 rfl ?_
      refine V_iconst (pc := 282) F (x := (0 : Int32)) dL_same_282 (by decide) ?_
      refine V_cV (pc := 283) F 8 (by decide) (as := [vI x19, vI (0 : Int32)]) (C_X8_ofFloat x0 x19 (0 : Int32) h) w_X8_ofFloat g_in_X8_ofFloat g_se_X8_ofFloat g_ml_RL_116 (by decide) (rest := []) rfl rfl (Nat.le_of_ble_eq_true rfl) dL_same_283 (k_I fun z47 h48 => ?_) (fun _ _ => VX_out F)
      refine V_aload (pc := 286) F dL_same_286 3 rfl ?_
      refine V_bipush (pc := 288) F (x := (8 : Int32)) dL_same_288 (by decide) ?_
      refine V_iload (pc := 290) F dL_same_290 13 rfl ?_
      refine V_imul (pc := 292) F dL_same_292 ?_
      intro z49
      refine V_iald (pc := 293) F dL_same_293 ?_
      intro z50
      refine V_icmp_ne (pc := 294) F 361 dL_same_294 (by decide) ?_ ?_
      · refine V_sub [0, 1, 2, 3, 4, 5, 6, 7, 8, 9, 10, 11, 13] (L' := [(0, vR x0), (1, vI x1), (2, vR x2), (7, vR x7), (8, vR x8), (9, vR x9), (10, vR x10), (11, vR x11), (12, vR x12), (13, vR x13), (14, vR x14), (15, vR x15), (19, vI x19)]) rfl ?_
        exact vB_L_same_361 F hm rc265 hrc265 x0 x1 x2 x7 x8 x9 x10 x11 x12 x13 x14 x15 x19 h48
      · refine V_aload_n (pc := 297) F dL_same_297 0 rfl ?_
        refine V_iload (pc := 298) F dL_same_298 13 rfl ?_
        refine V_iconst (pc := 300) F (x := (1 : Int32)) dL_same_300 (by decide) ?_
        refine V_cV (pc := 301) F 8 (by decide) (as := [vI x19, vI (1 : Int32)]) (C_X8_ofFloat x0 x19 (1 : Int32) h48) w_X8_ofFloat g_in_X8_ofFloat g_se_X8_ofFloat g_ml_RL_116 (by decide) (rest := []) rfl rfl (Nat.le_of_ble_eq_true rfl) dL_same_301 (k_I fun z51 h52 => ?_) (fun _ _ => VX_out F)
        refine V_aload (pc := 304) F dL_same_304 3 rfl ?_
        refine V_bipush (pc := 306) F (x := (8 : Int32)) dL_same_306 (by decide) ?_
        refine V_iload (pc := 308) F dL_same_308 13 rfl ?_
        refine V_imul (pc := 310) F dL_same_310 ?_
        intro z53
        refine V_iconst (pc := 311) F (x := (2 : Int32)) dL_same_311 (by decide) ?_
        refine V_iadd (pc := 312) F dL_same_312 ?_
        intro z54
        refine V_iald (pc := 313) F dL_same_313 ?_
        intro z55
        refine V_icmp_ne (pc := 314) F 361 dL_same_314 (by decide) ?_ ?_
        · refine V_sub [0, 1, 2, 3, 4, 5, 6, 7, 8, 9, 10, 11, 13] (L' := [(0, vR x0), (1, vI x1), (2, vR x2), (7, vR x7), (8, vR x8), (9, vR x9), (10, vR x10), (11, vR x11), (12, vR x12), (13, vR x13), (14, vR x14), (15, vR x15), (19, vI x19)]) rfl ?_
          exact vB_L_same_361 F hm rc265 hrc265 x0 x1 x2 x7 x8 x9 x10 x11 x12 x13 x14 x15 x19 h52
        · refine V_aload_n (pc := 317) F dL_same_317 0 rfl ?_
          refine V_iload (pc := 318) F dL_same_318 13 rfl ?_
          refine V_iconst (pc := 320) F (x := (2 : Int32)) dL_same_320 (by decide) ?_
          refine V_cV (pc := 321) F 8 (by decide) (as := [vI x19, vI (2 : Int32)]) (C_X8_ofFloat x0 x19 (2 : Int32) h52) w_X8_ofFloat g_in_X8_ofFloat g_se_X8_ofFloat g_ml_RL_116 (by decide) (rest := []) rfl rfl (Nat.le_of_ble_eq_true rfl) dL_same_321 (k_I fun z56 h57 => ?_) (fun _ _ => VX_out F)
          refine V_aload (pc := 324) F dL_same_324 3 rfl ?_
          refine V_bipush (pc := 326) F (x := (8 : Int32)) dL_same_326 (by decide) ?_
          refine V_iload (pc := 328) F dL_same_328 13 rfl ?_
          refine V_imul (pc := 330) F dL_same_330 ?_
          intro z58
          refine V_iconst (pc := 331) F (x := (3 : Int32)) dL_same_331 (by decide) ?_
          refine V_iadd (pc := 332) F dL_same_332 ?_
          intro z59
          refine V_iald (pc := 333) F dL_same_333 ?_
          intro z60
          refine V_icmp_ne (pc := 334) F 361 dL_same_334 (by decide) ?_ ?_
          · refine V_sub [0, 1, 2, 3, 4, 5, 6, 7, 8, 9, 10, 11, 13] (L' := [(0, vR x0), (1, vI x1), (2, vR x2), (7, vR x7), (8, vR x8), (9, vR x9), (10, vR x10), (11, vR x11), (12, vR x12), (13, vR x13), (14, vR x14), (15, vR x15), (19, vI x19)]) rfl ?_
            exact vB_L_same_361 F hm rc265 hrc265 x0 x1 x2 x7 x8 x9 x10 x11 x12 x13 x14 x15 x19 h57
          · refine V_aload_n (pc := 337) F dL_same_337 0 rfl ?_
            refine V_iload (pc := 338) F dL_same_338 13 rfl ?_
            refine V_iconst (pc := 340) F (x := (3 : Int32)) dL_same_340 (by decide) ?_
            refine V_cV (pc := 341) F 8 (by decide) (as := [vI x19, vI (3 : Int32)]) (C_X8_ofFloat x0 x19 (3 : Int32) h57) w_X8_ofFloat g_in_X8_ofFloat g_se_X8_ofFloat g_ml_RL_116 (by decide) (rest := []) rfl rfl (Nat.le_of_ble_eq_true rfl) dL_same_341 (k_I fun z61 h62 => ?_) (fun _ _ => VX_out F)
            refine V_aload (pc := 344) F dL_same_344 3 rfl ?_
            refine V_bipush (pc := 346) F (x := (8 : Int32)) dL_same_346 (by decide) ?_
            refine V_iload (pc := 348) F dL_same_348 13 rfl ?_
            refine V_imul (pc := 350) F dL_same_350 ?_
            intro z63
            refine V_iconst (pc := 351) F (x := (5 : Int32)) dL_same_351 (by decide) ?_
            refine V_iadd (pc := 352) F dL_same_352 ?_
            intro z64
            refine V_iald (pc := 353) F dL_same_353 ?_
            intro z65
            refine V_icmp_ne (pc := 354) F 361 dL_same_354 (by decide) ?_ ?_
            · refine V_sub [0, 1, 2, 3, 4, 5, 6, 7, 8, 9, 10, 11, 13] (L' := [(0, vR x0), (1, vI x1), (2, vR x2), (7, vR x7), (8, vR x8), (9, vR x9), (10, vR x10), (11, vR x11), (12, vR x12), (13, vR x13), (14, vR x14), (15, vR x15), (19, vI x19)]) rfl ?_
              exact vB_L_same_361 F hm rc265 hrc265 x0 x1 x2 x7 x8 x9 x10 x11 x12 x13 x14 x15 x19 h62
            · refine V_iconst (pc := 357) F (x := (1 : Int32)) dL_same_357 (by decide) ?_
              refine V_goto (pc := 358) F 362 dL_same_358 (by decide) ?_
              refine V_sub [0, 1, 2, 3, 4, 5, 6, 7, 8, 9, 10, 11, 13] (L' := [(0, vR x0), (1, vI x1), (2, vR x2), (7, vR x7), (8, vR x8), (9, vR x9), (10, vR x10), (11, vR x11), (12, vR x12), (13, vR x13), (14, vR x14), (15, vR x15), (19, vI x19)]) rfl ?_
              exact vB_L_same_362 F hm rc265 hrc265 x0 x1 x2 x7 x8 x9 x10 x11 x12 x13 x14 x15 x19 (1 : Int32) h62
theorem vL_L_same_265 {K : CT} (F : Fr K cL_same RL (some .boolean) [] 10 1) (hm : mxL K = 24) (n : Nat) : ∀ x0 x1 x2 x7 x8 x9 x10 x11 x12 x13 x14 x15 x18 x19 h, V K 265 [(0, vR x0), (1, vI x1), (2, vR x2), (7, vR x7), (8, vR x8), (9, vR x9), (10, vR x10), (11, vR x11), (12, vR x12), (13, vR x13), (14, vR x14), (15, vR x15), (18, vI x18), (19, vI x19)] [] h (L_L_same_265 n x0 x1 x2 x7 x8 x9 x10 x11 x12 x13 x14 x15 x18 x19 h) := by
  induction n with
  | zero => intros; exact V_none
  | succ n ih => intro x0 x1 x2 x7 x8 x9 x10 x11 x12 x13 x14 x15 x18 x19 h; exact vB_L_same_265 F hm _ ih x0 x1 x2 x7 x8 x9 x10 x11 x12 x13 x14 x15 x18 x19 h
theorem vB_L_same_262 {K : CT} (F : Fr K cL_same RL (some .boolean) [] 10 1) (hm : mxL K = 24) (x0 : Option Nat) (x1 : Int32) (x2 : Option Nat) (x7 : Option Nat) (x8 : Option Nat) (x9 : Option Nat) (x10 : Option Nat) (x11 : Option Nat) (x12 : Option Nat) (x13 : Option Nat) (x14 : Option Nat) (x15 : Option Nat) (x18 : Int32) (h : MH) : V K 262 [(0, vR x0), (1, vI x1), (2, vR x2), (7, vR x7), (8, vR x8), (9, vR x9), (10, vR x10), (11, vR x11), (12, vR x12), (13, vR x13), (14, vR x14), (15, vR x15), (18, vI x18)] [] h (B_L_same_262 x0 x1 x2 x7 x8 x9 x10 x11 x12 x13 x14 x15 x18 h) := by
  unfold B_L_same_262
  refine V_iconst (pc := 262) F (x := (0 : Int32)) dL_same_262 (by decide) ?_
  refine V_istore (pc := 263) F [(19, vI (0 : Int32)), (0, vR x0), (1, vI x1), (2, vR x2), (7, vR x7), (8, vR x8), (9, vR x9), (10, vR x10), (11, vR x11), (12, vR x12), (13, vR x13), (14, vR x14), (15, vR x15), (18, vI x18)] dL_same_263 (lt_mx hm (by decide)) rfl ?_
  refine V_sub [1, 2, 3, 4, 5, 6, 7, 8, 9, 10, 11, 12, 13, 0] (L' := [(0, vR x0), (1, vI x1), (2, vR x2), (7, vR x7), (8, vR x8), (9, vR x9), (10, vR x10), (11, vR x11), (12, vR x12), (13, vR x13), (14, vR x14), (15, vR x15), (18, vI x18), (19, vI (0 : Int32))]) rfl ?_
  exact vL_L_same_265 F hm fuel x0 x1 x2 x7 x8 x9 x10 x11 x12 x13 x14 x15 x18 (0 : Int32) h
theorem vB_L_same_128 {K : CT} (F : Fr K cL_same RL (some .boolean) [] 10 1) (hm : mxL K = 24) (rc128 : Option Nat → Int32 → Option Nat → Option Nat → Option Nat → Option Nat → Option Nat → Option Nat → Option Nat → Option Nat → Option Nat → Option Nat → Option Nat → Option Nat → Option Nat → Option Nat → Int32 → Int32 → MH → Res) (hrc128 : ∀ x0 x1 x2 x3 x4 x5 x6 x7 x8 x9 x10 x11 x12 x13 x14 x15 x18 x19 h, V K 128 [(0, vR x0), (1, vI x1), (2, vR x2), (3, vR x3), (4, vR x4), (5, vR x5), (6, vR x6), (7, vR x7), (8, vR x8), (9, vR x9), (10, vR x10), (11, vR x11), (12, vR x12), (13, vR x13), (14, vR x14), (15, vR x15), (18, vI x18), (19, vI x19)] [] h (rc128 x0 x1 x2 x3 x4 x5 x6 x7 x8 x9 x10 x11 x12 x13 x14 x15 x18 x19 h)) (x0 : Option Nat) (x1 : Int32) (x2 : Option Nat) (x3 : Option Nat) (x4 : Option Nat) (x5 : Option Nat) (x6 : Option Nat) (x7 : Option Nat) (x8 : Option Nat) (x9 : Option Nat) (x10 : Option Nat) (x11 : Option Nat) (x12 : Option Nat) (x13 : Option Nat) (x14 : Option Nat) (x15 : Option Nat) (x18 : Int32) (x19 : Int32) (h : MH) : V K 128 [(0, vR x0), (1, vI x1), (2, vR x2), (3, vR x3), (4, vR x4), (5, vR x5), (6, vR x6), (7, vR x7), (8, vR x8), (9, vR x9), (10, vR x10), (11, vR x11), (12, vR x12), (13, vR x13), (14, vR x14), (15, vR x15), (18, vI x18), (19, vI x19)] [] h (B_L_same_128 rc128 x0 x1 x2 x3 x4 x5 x6 x7 x8 x9 x10 x11 x12 x13 x14 x15 x18 x19 h) := by
  unfold B_L_same_128
  refine V_iload (pc := 128) F dL_same_128 17 rfl ?_
  refine V_bipush (pc := 130) F (x := (10 : Int32)) dL_same_130 (by decide) ?_
  refine V_icmp_ge (pc := 132) F 262 dL_same_132 (by decide) ?_ ?_
  · refine V_sub [0, 1, 2, 7, 8, 9, 10, 11, 12, 13, 14, 15, 16] (L' := [(0, vR x0), (1, vI x1), (2, vR x2), (7, vR x7), (8, vR x8), (9, vR x9), (10, vR x10), (11, vR x11), (12, vR x12), (13, vR x13), (14, vR x14), (15, vR x15), (18, vI x18)]) rfl ?_
    exact vB_L_same_262 F hm x0 x1 x2 x7 x8 x9 x10 x11 x12 x13 x14 x15 x18 h
  · refine V_iload (pc := 135) F dL_same_135 16 rfl ?_
    refine V_if_eq (pc := 137) F 262 dL_same_137 (by decide) ?_ ?_
    · refine V_sub [0, 1, 2, 7, 8, 9, 10, 11, 12, 13, 14, 15, 16] (L' := [(0, vR x0), (1, vI x1), (2, vR x2), (7, vR x7), (8, vR x8), (9, vR x9), (10, vR x10), (11, vR x11), (12, vR x12), (13, vR x13), (14, vR x14), (15, vR x15), (18, vI x18)]) rfl ?_
      exact vB_L_same_262 F hm x0 x1 x2 x7 x8 x9 x10 x11 x12 x13 x14 x15 x18 h
    · refine V_iload_n (pc := 140) F dL_same_140 1 rfl ?_
      refine V_bipush (pc := 141) F (x := (13 : Int32)) dL_same_141 (by decide) ?_
      refine V_iload (pc := 143) F dL_same_143 17 rfl ?_
      refine V_imul (pc := 145) F dL_same_145 ?_
      intro z26
      refine V_iadd (pc := 146) F dL_same_146 ?_
      intro z27
      refine V_bipush (pc := 147) F (x := (60 : Int32)) dL_same_147 (by decide) ?_
      refine V_cSM (pc := 149) F (as := [vI z27, vI (60 : Int32)]) (C_L_low z27 (60 : Int32) h) w_L_low g_st_L_low g_ml_RL_29 (by decide) (rest := []) rfl rfl (Nat.le_of_ble_eq_true rfl) dL_same_149 (k_I fun z28 h29 => ?_)
      refine V_istore (pc := 152) F [(20, vI z28), (0, vR x0), (1, vI x1), (2, vR x2), (3, vR x3), (4, vR x4), (5, vR x5), (6, vR x6), (7, vR x7), (8, vR x8), (9, vR x9), (10, vR x10), (11, vR x11), (12, vR x12), (13, vR x13), (14, vR x14), (15, vR x15), (18, vI x18), (19, vI x19)] dL_same_152 (lt_mx hm (by decide)) rfl ?_
      refine V_iload_n (pc := 154) F dL_same_154 2 rfl ?_
      refine V_iconst (pc := 155) F (x := (3 : Int32)) dL_same_155 (by decide) ?_
      refine V_ishr (pc := 156) F dL_same_156 ?_
      intro z30
      refine V_iconst (pc := 157) F (x := (2 : Int32)) dL_same_157 (by decide) ?_
      refine V_cSM (pc := 158) F (as := [vI z30, vI (2 : Int32)]) (C_L_low z30 (2 : Int32) h29) w_L_low g_st_L_low g_ml_RL_29 (by decide) (rest := []) rfl rfl (Nat.le_of_ble_eq_true rfl) dL_same_158 (k_I fun z31 h32 => ?_)
      refine V_istore (pc := 161) F [(21, vI z31), (20, vI z28), (0, vR x0), (1, vI x1), (2, vR x2), (3, vR x3), (4, vR x4), (5, vR x5), (6, vR x6), (7, vR x7), (8, vR x8), (9, vR x9), (10, vR x10), (11, vR x11), (12, vR x12), (13, vR x13), (14, vR x14), (15, vR x15), (18, vI x18), (19, vI x19)] dL_same_161 (lt_mx hm (by decide)) rfl ?_
      refine V_iload (pc := 163) F dL_same_163 0 rfl ?_
      refine V_if_ne (pc := 165) F 175 dL_same_165 (by decide) ?_ ?_
      · refine V_aload (pc := 175) F dL_same_175 6 rfl ?_
        refine V_iload (pc := 177) F dL_same_177 1 rfl ?_
        refine V_iald (pc := 179) F dL_same_179 ?_
        intro z33
        refine V_sub [2, 3, 4, 5, 6, 7, 8, 9, 10, 11, 12, 13, 14, 15, 16, 17, 19, 1, 0] (L' := [(0, vR x0), (1, vI x1), (2, vR x2), (3, vR x3), (4, vR x4), (5, vR x5), (6, vR x6), (7, vR x7), (8, vR x8), (9, vR x9), (10, vR x10), (11, vR x11), (12, vR x12), (13, vR x13), (14, vR x14), (15, vR x15), (19, vI x19), (20, vI z28), (21, vI z31)]) rfl ?_
        exact vB_L_same_180 F hm rc128 hrc128 x0 x1 x2 x3 x4 x5 x6 x7 x8 x9 x10 x11 x12 x13 x14 x15 x19 z28 z31 z33 h32
      · refine V_aload_n (pc := 168) F dL_same_168 5 rfl ?_
        refine V_iload (pc := 169) F dL_same_169 1 rfl ?_
        refine V_iald (pc := 171) F dL_same_171 ?_
        intro z34
        refine V_goto (pc := 172) F 180 dL_same_172 (by decide) ?_
        refine V_sub [2, 3, 4, 5, 6, 7, 8, 9, 10, 11, 12, 13, 14, 15, 16, 17, 19, 1, 0] (L' := [(0, vR x0), (1, vI x1), (2, vR x2), (3, vR x3), (4, vR x4), (5, vR x5), (6, vR x6), (7, vR x7), (8, vR x8), (9, vR x9), (10, vR x10), (11, vR x11), (12, vR x12), (13, vR x13), (14, vR x14), (15, vR x15), (19, vI x19), (20, vI z28), (21, vI z31)]) rfl ?_
        exact vB_L_same_180 F hm rc128 hrc128 x0 x1 x2 x3 x4 x5 x6 x7 x8 x9 x10 x11 x12 x13 x14 x15 x19 z28 z31 z34 h32
theorem vL_L_same_128 {K : CT} (F : Fr K cL_same RL (some .boolean) [] 10 1) (hm : mxL K = 24) (n : Nat) : ∀ x0 x1 x2 x3 x4 x5 x6 x7 x8 x9 x10 x11 x12 x13 x14 x15 x18 x19 h, V K 128 [(0, vR x0), (1, vI x1), (2, vR x2), (3, vR x3), (4, vR x4), (5, vR x5), (6, vR x6), (7, vR x7), (8, vR x8), (9, vR x9), (10, vR x10), (11, vR x11), (12, vR x12), (13, vR x13), (14, vR x14), (15, vR x15), (18, vI x18), (19, vI x19)] [] h (L_L_same_128 n x0 x1 x2 x3 x4 x5 x6 x7 x8 x9 x10 x11 x12 x13 x14 x15 x18 x19 h) := by
  induction n with
  | zero => intros; exact V_none
  | succ n ih => intro x0 x1 x2 x3 x4 x5 x6 x7 x8 x9 x10 x11 x12 x13 x14 x15 x18 x19 h; exact vB_L_same_128 F hm _ ih x0 x1 x2 x3 x4 x5 x6 x7 x8 x9 x10 x11 x12 x13 x14 x15 x18 x19 h
theorem vB_L_same_123 {K : CT} (F : Fr K cL_same RL (some .boolean) [] 10 1) (hm : mxL K = 24) (x0 : Option Nat) (x1 : Int32) (x2 : Option Nat) (x3 : Option Nat) (x4 : Option Nat) (x5 : Option Nat) (x6 : Option Nat) (x7 : Option Nat) (x8 : Option Nat) (x9 : Option Nat) (x10 : Option Nat) (x11 : Option Nat) (x12 : Option Nat) (x13 : Option Nat) (x14 : Option Nat) (x15 : Option Nat) (s0 : Int32) (h : MH) : V K 123 [(0, vR x0), (1, vI x1), (2, vR x2), (3, vR x3), (4, vR x4), (5, vR x5), (6, vR x6), (7, vR x7), (8, vR x8), (9, vR x9), (10, vR x10), (11, vR x11), (12, vR x12), (13, vR x13), (14, vR x14), (15, vR x15)] [vI s0] h (B_L_same_123 x0 x1 x2 x3 x4 x5 x6 x7 x8 x9 x10 x11 x12 x13 x14 x15 s0 h) := by
  unfold B_L_same_123
  refine V_istore (pc := 123) F [(18, vI s0), (0, vR x0), (1, vI x1), (2, vR x2), (3, vR x3), (4, vR x4), (5, vR x5), (6, vR x6), (7, vR x7), (8, vR x8), (9, vR x9), (10, vR x10), (11, vR x11), (12, vR x12), (13, vR x13), (14, vR x14), (15, vR x15)] dL_same_123 (lt_mx hm (by decide)) rfl ?_
  refine V_iconst (pc := 125) F (x := (0 : Int32)) dL_same_125 (by decide) ?_
  refine V_istore (pc := 126) F [(19, vI (0 : Int32)), (18, vI s0), (0, vR x0), (1, vI x1), (2, vR x2), (3, vR x3), (4, vR x4), (5, vR x5), (6, vR x6), (7, vR x7), (8, vR x8), (9, vR x9), (10, vR x10), (11, vR x11), (12, vR x12), (13, vR x13), (14, vR x14), (15, vR x15)] dL_same_126 (lt_mx hm (by decide)) rfl ?_
  refine V_sub [2, 3, 4, 5, 6, 7, 8, 9, 10, 11, 12, 13, 14, 15, 16, 17, 1, 0] (L' := [(0, vR x0), (1, vI x1), (2, vR x2), (3, vR x3), (4, vR x4), (5, vR x5), (6, vR x6), (7, vR x7), (8, vR x8), (9, vR x9), (10, vR x10), (11, vR x11), (12, vR x12), (13, vR x13), (14, vR x14), (15, vR x15), (18, vI s0), (19, vI (0 : Int32))]) rfl ?_
  exact vL_L_same_128 F hm fuel x0 x1 x2 x3 x4 x5 x6 x7 x8 x9 x10 x11 x12 x13 x14 x15 s0 (0 : Int32) h
theorem vB_L_same_122 {K : CT} (F : Fr K cL_same RL (some .boolean) [] 10 1) (hm : mxL K = 24) (x0 : Option Nat) (x1 : Int32) (x2 : Option Nat) (x3 : Option Nat) (x4 : Option Nat) (x5 : Option Nat) (x6 : Option Nat) (x7 : Option Nat) (x8 : Option Nat) (x9 : Option Nat) (x10 : Option Nat) (x11 : Option Nat) (x12 : Option Nat) (x13 : Option Nat) (x14 : Option Nat) (x15 : Option Nat) (h : MH) : V K 122 [(0, vR x0), (1, vI x1), (2, vR x2), (3, vR x3), (4, vR x4), (5, vR x5), (6, vR x6), (7, vR x7), (8, vR x8), (9, vR x9), (10, vR x10), (11, vR x11), (12, vR x12), (13, vR x13), (14, vR x14), (15, vR x15)] [] h (B_L_same_122 x0 x1 x2 x3 x4 x5 x6 x7 x8 x9 x10 x11 x12 x13 x14 x15 h) := by
  unfold B_L_same_122
  refine V_iconst (pc := 122) F (x := (0 : Int32)) dL_same_122 (by decide) ?_
  exact vB_L_same_123 F hm x0 x1 x2 x3 x4 x5 x6 x7 x8 x9 x10 x11 x12 x13 x14 x15 (0 : Int32) h
theorem vB_L_same_9 {K : CT} (F : Fr K cL_same RL (some .boolean) [] 10 1) (hm : mxL K = 24) (rc9 : Option Nat → Int32 → Option Nat → Option Nat → Option Nat → Option Nat → Option Nat → Option Nat → Option Nat → Option Nat → Option Nat → Option Nat → Option Nat → Option Nat → Option Nat → Option Nat → Int32 → Int32 → Int32 → MH → Res) (hrc9 : ∀ x0 x1 x2 x3 x4 x5 x6 x7 x8 x9 x10 x11 x12 x13 x14 x15 x16 x17 x18 h, V K 9 [(0, vR x0), (1, vI x1), (2, vR x2), (3, vR x3), (4, vR x4), (5, vR x5), (6, vR x6), (7, vR x7), (8, vR x8), (9, vR x9), (10, vR x10), (11, vR x11), (12, vR x12), (13, vR x13), (14, vR x14), (15, vR x15), (16, vI x16), (17, vI x17), (18, vI x18)] [] h (rc9 x0 x1 x2 x3 x4 x5 x6 x7 x8 x9 x10 x11 x12 x13 x14 x15 x16 x17 x18 h)) (x0 : Option Nat) (x1 : Int32) (x2 : Option Nat) (x3 : Option Nat) (x4 : Option Nat) (x5 : Option Nat) (x6 : Option Nat) (x7 : Option Nat) (x8 : Option Nat) (x9 : Option Nat) (x10 : Option Nat) (x11 : Option Nat) (x12 : Option Nat) (x13 : Option Nat) (x14 : Option Nat) (x15 : Option Nat) (x16 : Int32) (x17 : Int32) (x18 : Int32) (h : MH) : V K 9 [(0, vR x0), (1, vI x1), (2, vR x2), (3, vR x3), (4, vR x4), (5, vR x5), (6, vR x6), (7, vR x7), (8, vR x8), (9, vR x9), (10, vR x10), (11, vR x11), (12, vR x12), (13, vR x13), (14, vR x14), (15, vR x15), (16, vI x16), (17, vI x17), (18, vI x18)] [] h (B_L_same_9 rc9 x0 x1 x2 x3 x4 x5 x6 x7 x8 x9 x10 x11 x12 x13 x14 x15 x16 x17 x18 h) := by
  unfold B_L_same_9
  refine V_iload (pc := 9) F dL_same_9 18 rfl ?_
  refine V_bipush (pc := 11) F (x := (60 : Int32)) dL_same_11 (by decide) ?_
  refine V_icmp_ge (pc := 13) F 53 dL_same_13 (by decide) ?_ ?_
  · refine V_aload_n (pc := 53) F dL_same_53 0 rfl ?_
    refine V_cVM (pc := 54) F 8 (by decide) (as := []) (C_X8_day x0 h) w_X8_day g_in_X8_day g_se_X8_day g_ml_RL_100 (by decide) (rest := []) rfl rfl (Nat.le_of_ble_eq_true rfl) dL_same_54 (k_I fun z1 h2 => ?_)
    refine V_aload (pc := 57) F dL_same_57 15 rfl ?_
    refine V_iconst (pc := 59) F (x := (0 : Int32)) dL_same_59 (by decide) ?_
    refine V_iald (pc := 60) F dL_same_60 ?_
    intro z3
    refine V_icmp_ne (pc := 61) F 122 dL_same_61 (by decide) ?_ ?_
    · refine V_sub [0, 1, 2, 3, 4, 5, 6, 7, 8, 9, 10, 11, 12, 13, 14, 15] (L' := [(0, vR x0), (1, vI x1), (2, vR x2), (3, vR x3), (4, vR x4), (5, vR x5), (6, vR x6), (7, vR x7), (8, vR x8), (9, vR x9), (10, vR x10), (11, vR x11), (12, vR x12), (13, vR x13), (14, vR x14), (15, vR x15)]) rfl ?_
      exact vB_L_same_122 F hm x0 x1 x2 x3 x4 x5 x6 x7 x8 x9 x10 x11 x12 x13 x14 x15 h2
    · refine V_aload_n (pc := 64) F dL_same_64 0 rfl ?_
      refine V_iconst (pc := 65) F (x := (0 : Int32)) dL_same_65 (by decide) ?_
      refine V_cV (pc := 66) F 8 (by decide) (as := [vI (0 : Int32)]) (C_X8_total x0 (0 : Int32) h2) w_X8_total g_in_X8_total g_se_X8_total g_ml_RL_104 (by decide) (rest := []) rfl rfl (Nat.le_of_ble_eq_true rfl) dL_same_66 (k_I fun z4 h5 => ?_) (fun _ _ => VX_out F)
      refine V_iload (pc := 69) F dL_same_69 16 rfl ?_
      refine V_icmp_ne (pc := 71) F 122 dL_same_71 (by decide) ?_ ?_
      · refine V_sub [0, 1, 2, 3, 4, 5, 6, 7, 8, 9, 10, 11, 12, 13, 14, 15] (L' := [(0, vR x0), (1, vI x1), (2, vR x2), (3, vR x3), (4, vR x4), (5, vR x5), (6, vR x6), (7, vR x7), (8, vR x8), (9, vR x9), (10, vR x10), (11, vR x11), (12, vR x12), (13, vR x13), (14, vR x14), (15, vR x15)]) rfl ?_
        exact vB_L_same_122 F hm x0 x1 x2 x3 x4 x5 x6 x7 x8 x9 x10 x11 x12 x13 x14 x15 h5
      · refine V_aload_n (pc := 74) F dL_same_74 0 rfl ?_
        refine V_iconst (pc := 75) F (x := (1 : Int32)) dL_same_75 (by decide) ?_
        refine V_cV (pc := 76) F 8 (by decide) (as := [vI (1 : Int32)]) (C_X8_total x0 (1 : Int32) h5) w_X8_total g_in_X8_total g_se_X8_total g_ml_RL_104 (by decide) (rest := []) rfl rfl (Nat.le_of_ble_eq_true rfl) dL_same_76 (k_I fun z6 h7 => ?_) (fun _ _ => VX_out F)
        refine V_iload (pc := 79) F dL_same_79 17 rfl ?_
        refine V_icmp_ne (pc := 81) F 122 dL_same_81 (by decide) ?_ ?_
        · refine V_sub [0, 1, 2, 3, 4, 5, 6, 7, 8, 9, 10, 11, 12, 13, 14, 15] (L' := [(0, vR x0), (1, vI x1), (2, vR x2), (3, vR x3), (4, vR x4), (5, vR x5), (6, vR x6), (7, vR x7), (8, vR x8), (9, vR x9), (10, vR x10), (11, vR x11), (12, vR x12), (13, vR x13), (14, vR x14), (15, vR x15)]) rfl ?_
          exact vB_L_same_122 F hm x0 x1 x2 x3 x4 x5 x6 x7 x8 x9 x10 x11 x12 x13 x14 x15 h7
        · refine V_aload_n (pc := 84) F dL_same_84 0 rfl ?_
          refine V_iconst (pc := 85) F (x := (2 : Int32)) dL_same_85 (by decide) ?_
          refine V_cV (pc := 86) F 8 (by decide) (as := [vI (2 : Int32)]) (C_X8_total x0 (2 : Int32) h7) w_X8_total g_in_X8_total g_se_X8_total g_ml_RL_104 (by decide) (rest := []) rfl rfl (Nat.le_of_ble_eq_true rfl) dL_same_86 (k_I fun z8 h9 => ?_) (fun _ _ => VX_out F)
          refine V_aload (pc := 89) F dL_same_89 15 rfl ?_
          refine V_iconst (pc := 91) F (x := (1 : Int32)) dL_same_91 (by decide) ?_
          refine V_iald (pc := 92) F dL_same_92 ?_
          intro z10
          refine V_icmp_ne (pc := 93) F 122 dL_same_93 (by decide) ?_ ?_
          · refine V_sub [0, 1, 2, 3, 4, 5, 6, 7, 8, 9, 10, 11, 12, 13, 14, 15] (L' := [(0, vR x0), (1, vI x1), (2, vR x2), (3, vR x3), (4, vR x4), (5, vR x5), (6, vR x6), (7, vR x7), (8, vR x8), (9, vR x9), (10, vR x10), (11, vR x11), (12, vR x12), (13, vR x13), (14, vR x14), (15, vR x15)]) rfl ?_
            exact vB_L_same_122 F hm x0 x1 x2 x3 x4 x5 x6 x7 x8 x9 x10 x11 x12 x13 x14 x15 h9
          · refine V_aload_n (pc := 96) F dL_same_96 0 rfl ?_
            refine V_cVM (pc := 97) F 8 (by decide) (as := []) (C_X8_stations x0 h9) w_X8_stations g_in_X8_stations g_se_X8_stations g_ml_RL_107 (by decide) (rest := []) rfl rfl (Nat.le_of_ble_eq_true rfl) dL_same_97 (k_I fun z11 h12 => ?_)
            refine V_aload (pc := 100) F dL_same_100 15 rfl ?_
            refine V_iconst (pc := 102) F (x := (3 : Int32)) dL_same_102 (by decide) ?_
            refine V_iald (pc := 103) F dL_same_103 ?_
            intro z13
            refine V_icmp_ne (pc := 104) F 122 dL_same_104 (by decide) ?_ ?_
            · refine V_sub [0, 1, 2, 3, 4, 5, 6, 7, 8, 9, 10, 11, 12, 13, 14, 15] (L' := [(0, vR x0), (1, vI x1), (2, vR x2), (3, vR x3), (4, vR x4), (5, vR x5), (6, vR x6), (7, vR x7), (8, vR x8), (9, vR x9), (10, vR x10), (11, vR x11), (12, vR x12), (13, vR x13), (14, vR x14), (15, vR x15)]) rfl ?_
              exact vB_L_same_122 F hm x0 x1 x2 x3 x4 x5 x6 x7 x8 x9 x10 x11 x12 x13 x14 x15 h12
            · refine V_aload_n (pc := 107) F dL_same_107 0 rfl ?_
              refine V_cVM (pc := 108) F 8 (by decide) (as := []) (C_X8_readings x0 h12) w_X8_readings g_in_X8_readings g_se_X8_readings g_ml_RL_110 (by decide) (rest := []) rfl rfl (Nat.le_of_ble_eq_true rfl) dL_same_108 (k_I fun z14 h15 => ?_)
              refine V_aload (pc := 111) F dL_same_111 15 rfl ?_
              refine V_iconst (pc := 113) F (x := (5 : Int32)) dL_same_113 (by decide) ?_
              refine V_iald (pc := 114) F dL_same_114 ?_
              intro z16
              refine V_icmp_ne (pc := 115) F 122 dL_same_115 (by decide) ?_ ?_
              · refine V_sub [0, 1, 2, 3, 4, 5, 6, 7, 8, 9, 10, 11, 12, 13, 14, 15] (L' := [(0, vR x0), (1, vI x1), (2, vR x2), (3, vR x3), (4, vR x4), (5, vR x5), (6, vR x6), (7, vR x7), (8, vR x8), (9, vR x9), (10, vR x10), (11, vR x11), (12, vR x12), (13, vR x13), (14, vR x14), (15, vR x15)]) rfl ?_
                exact vB_L_same_122 F hm x0 x1 x2 x3 x4 x5 x6 x7 x8 x9 x10 x11 x12 x13 x14 x15 h15
              · refine V_iconst (pc := 118) F (x := (1 : Int32)) dL_same_118 (by decide) ?_
                refine V_goto (pc := 119) F 123 dL_same_119 (by decide) ?_
                refine V_sub [0, 1, 2, 3, 4, 5, 6, 7, 8, 9, 10, 11, 12, 13, 14, 15] (L' := [(0, vR x0), (1, vI x1), (2, vR x2), (3, vR x3), (4, vR x4), (5, vR x5), (6, vR x6), (7, vR x7), (8, vR x8), (9, vR x9), (10, vR x10), (11, vR x11), (12, vR x12), (13, vR x13), (14, vR x14), (15, vR x15)]) rfl ?_
                exact vB_L_same_123 F hm x0 x1 x2 x3 x4 x5 x6 x7 x8 x9 x10 x11 x12 x13 x14 x15 (1 : Int32) h15
  · refine V_iload (pc := 16) F dL_same_16 16 rfl ?_
    refine V_aload_n (pc := 18) F dL_same_18 3 rfl ?_
    refine V_iload (pc := 19) F dL_same_19 18 rfl ?_
    refine V_iald (pc := 21) F dL_same_21 ?_
    intro z17
    refine V_aload (pc := 22) F dL_same_22 4 rfl ?_
    refine V_iload (pc := 24) F dL_same_24 18 rfl ?_
    refine V_iald (pc := 26) F dL_same_26 ?_
    intro z18
    refine V_iadd (pc := 27) F dL_same_27 ?_
    intro z19
    refine V_iadd (pc := 28) F dL_same_28 ?_
    intro z20
    refine V_istore (pc := 29) F [(16, vI z20), (0, vR x0), (1, vI x1), (2, vR x2), (3, vR x3), (4, vR x4), (5, vR x5), (6, vR x6), (7, vR x7), (8, vR x8), (9, vR x9), (10, vR x10), (11, vR x11), (12, vR x12), (13, vR x13), (14, vR x14), (15, vR x15), (17, vI x17), (18, vI x18)] dL_same_29 (lt_mx hm (by decide)) rfl ?_
    refine V_iload (pc := 31) F dL_same_31 17 rfl ?_
    refine V_aload (pc := 33) F dL_same_33 6 rfl ?_
    refine V_iload (pc := 35) F dL_same_35 18 rfl ?_
    refine V_iald (pc := 37) F dL_same_37 ?_
    intro z21
    refine V_aload (pc := 38) F dL_same_38 7 rfl ?_
    refine V_iload (pc := 40) F dL_same_40 18 rfl ?_
    refine V_iald (pc := 42) F dL_same_42 ?_
    intro z22
    refine V_iadd (pc := 43) F dL_same_43 ?_
    intro z23
    refine V_iadd (pc := 44) F dL_same_44 ?_
    intro z24
    refine V_istore (pc := 45) F [(17, vI z24), (16, vI z20), (0, vR x0), (1, vI x1), (2, vR x2), (3, vR x3), (4, vR x4), (5, vR x5), (6, vR x6), (7, vR x7), (8, vR x8), (9, vR x9), (10, vR x10), (11, vR x11), (12, vR x12), (13, vR x13), (14, vR x14), (15, vR x15), (18, vI x18)] dL_same_45 (lt_mx hm (by decide)) rfl ?_
    refine V_iinc (pc := 47) F (fun z25 => [(18, vI z25), (17, vI z24), (16, vI z20), (0, vR x0), (1, vI x1), (2, vR x2), (3, vR x3), (4, vR x4), (5, vR x5), (6, vR x6), (7, vR x7), (8, vR x8), (9, vR x9), (10, vR x10), (11, vR x11), (12, vR x12), (13, vR x13), (14, vR x14), (15, vR x15)]) dL_same_47 (lt_mx hm (by decide)) 18 rfl (dx := (1 : Int32)) (by decide) (fun _ => rfl) ?_
    intro z25
    refine V_goto (pc := 50) F 9 dL_same_50 (by decide) ?_
    refine V_sub [3, 4, 5, 6, 7, 8, 9, 10, 11, 12, 13, 14, 15, 16, 17, 18, 2, 1, 0] (L' := [(0, vR x0), (1, vI x1), (2, vR x2), (3, vR x3), (4, vR x4), (5, vR x5), (6, vR x6), (7, vR x7), (8, vR x8), (9, vR x9), (10, vR x10), (11, vR x11), (12, vR x12), (13, vR x13), (14, vR x14), (15, vR x15), (16, vI z20), (17, vI z24), (18, vI z25)]) rfl ?_
    exact hrc9 x0 x1 x2 x3 x4 x5 x6 x7 x8 x9 x10 x11 x12 x13 x14 x15 z20 z24 z25 h
theorem vL_L_same_9 {K : CT} (F : Fr K cL_same RL (some .boolean) [] 10 1) (hm : mxL K = 24) (n : Nat) : ∀ x0 x1 x2 x3 x4 x5 x6 x7 x8 x9 x10 x11 x12 x13 x14 x15 x16 x17 x18 h, V K 9 [(0, vR x0), (1, vI x1), (2, vR x2), (3, vR x3), (4, vR x4), (5, vR x5), (6, vR x6), (7, vR x7), (8, vR x8), (9, vR x9), (10, vR x10), (11, vR x11), (12, vR x12), (13, vR x13), (14, vR x14), (15, vR x15), (16, vI x16), (17, vI x17), (18, vI x18)] [] h (L_L_same_9 n x0 x1 x2 x3 x4 x5 x6 x7 x8 x9 x10 x11 x12 x13 x14 x15 x16 x17 x18 h) := by
  induction n with
  | zero => intros; exact V_none
  | succ n ih => intro x0 x1 x2 x3 x4 x5 x6 x7 x8 x9 x10 x11 x12 x13 x14 x15 x16 x17 x18 h; exact vB_L_same_9 F hm _ ih x0 x1 x2 x3 x4 x5 x6 x7 x8 x9 x10 x11 x12 x13 x14 x15 x16 x17 x18 h
theorem vM_L_same {K : CT} (F : Fr K cL_same RL (some .boolean) [] 10 1) (hm : mxL K = 24) (x0 : Option Nat) (x1 : Int32) (x2 : Option Nat) (x3 : Option Nat) (x4 : Option Nat) (x5 : Option Nat) (x6 : Option Nat) (x7 : Option Nat) (x8 : Option Nat) (x9 : Option Nat) (x10 : Option Nat) (x11 : Option Nat) (x12 : Option Nat) (x13 : Option Nat) (x14 : Option Nat) (x15 : Option Nat) (h : MH) : V K 0 [(0, vR x0), (1, vI x1), (2, vR x2), (3, vR x3), (4, vR x4), (5, vR x5), (6, vR x6), (7, vR x7), (8, vR x8), (9, vR x9), (10, vR x10), (11, vR x11), (12, vR x12), (13, vR x13), (14, vR x14), (15, vR x15)] [] h (M_L_same x0 x1 x2 x3 x4 x5 x6 x7 x8 x9 x10 x11 x12 x13 x14 x15 h) := by
  unfold M_L_same
  refine V_iconst (pc := 0) F (x := (0 : Int32)) dL_same_0 (by decide) ?_
  refine V_istore (pc := 1) F [(16, vI (0 : Int32)), (0, vR x0), (1, vI x1), (2, vR x2), (3, vR x3), (4, vR x4), (5, vR x5), (6, vR x6), (7, vR x7), (8, vR x8), (9, vR x9), (10, vR x10), (11, vR x11), (12, vR x12), (13, vR x13), (14, vR x14), (15, vR x15)] dL_same_1 (lt_mx hm (by decide)) rfl ?_
  refine V_iconst (pc := 3) F (x := (0 : Int32)) dL_same_3 (by decide) ?_
  refine V_istore (pc := 4) F [(17, vI (0 : Int32)), (16, vI (0 : Int32)), (0, vR x0), (1, vI x1), (2, vR x2), (3, vR x3), (4, vR x4), (5, vR x5), (6, vR x6), (7, vR x7), (8, vR x8), (9, vR x9), (10, vR x10), (11, vR x11), (12, vR x12), (13, vR x13), (14, vR x14), (15, vR x15)] dL_same_4 (lt_mx hm (by decide)) rfl ?_
  refine V_iconst (pc := 6) F (x := (0 : Int32)) dL_same_6 (by decide) ?_
  refine V_istore (pc := 7) F [(18, vI (0 : Int32)), (17, vI (0 : Int32)), (16, vI (0 : Int32)), (0, vR x0), (1, vI x1), (2, vR x2), (3, vR x3), (4, vR x4), (5, vR x5), (6, vR x6), (7, vR x7), (8, vR x8), (9, vR x9), (10, vR x10), (11, vR x11), (12, vR x12), (13, vR x13), (14, vR x14), (15, vR x15)] dL_same_7 (lt_mx hm (by decide)) rfl ?_
  refine V_sub [3, 4, 5, 6, 7, 8, 9, 10, 11, 12, 13, 14, 15, 16, 17, 18, 2, 1, 0] (L' := [(0, vR x0), (1, vI x1), (2, vR x2), (3, vR x3), (4, vR x4), (5, vR x5), (6, vR x6), (7, vR x7), (8, vR x8), (9, vR x9), (10, vR x10), (11, vR x11), (12, vR x12), (13, vR x13), (14, vR x14), (15, vR x15), (16, vI (0 : Int32)), (17, vI (0 : Int32)), (18, vI (0 : Int32))]) rfl ?_
  exact vL_L_same_9 F hm fuel x0 x1 x2 x3 x4 x5 x6 x7 x8 x9 x10 x11 x12 x13 x14 x15 (0 : Int32) (0 : Int32) (0 : Int32) h
theorem C_L_same (x0 : Option Nat) (x1 : Int32) (x2 : Option Nat) (x3 : Option Nat) (x4 : Option Nat) (x5 : Option Nat) (x6 : Option Nat) (x7 : Option Nat) (x8 : Option Nat) (x9 : Option Nat) (x10 : Option Nat) (x11 : Option Nat) (x12 : Option Nat) (x13 : Option Nat) (x14 : Option Nat) (x15 : Option Nat) (h : MH) : CtrX yL_same (WSm yL_same cL_same 24 (some .boolean)) 10 [vR x0, vI x1, vR x2, vR x3, vR x4, vR x5, vR x6, vR x7, vR x8, vR x9, vR x10, vR x11, vR x12, vR x13, vR x14, vR x15] h (M_L_same x0 x1 x2 x3 x4 x5 x6 x7 x8 x9 x10 x11 x12 x13 x14 x15 h) :=
  CtrX_of (by decide) (Nat.le_of_ble_eq_true rfl) (fun K F hm hi => vM_L_same F hm x0 x1 x2 x3 x4 x5 x6 x7 x8 x9 x10 x11 x12 x13 x14 x15 h)
