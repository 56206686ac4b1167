/-! the weight of a reading for a map -/
def fr (a c : Nat) : Int32 := ab (nI (a % 10) - nI (c % 10)) + ab (nI (a / 10) - nI (c / 10))
def wgt (m : Nat → Nat → Int32) (nr c : Nat) (d span : Int32) (a r : Nat) : Int32 := if (8 : Int32) ≤ fr a c then 0 else if span < ab (m 40 r - d) then 0 else if flg m nr r ≠ 0 then 0 else 8 - fr a c
