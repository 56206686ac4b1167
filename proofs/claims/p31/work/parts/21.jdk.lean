def B_J7_fill_53178_5 (rc5 : Option Nat → Int32 → Int32 → Int32 → MH → Res) (x0 : Option Nat) (x1 : Int32) (x2 : Int32) (x3 : Int32) (h : MH) : Res := if x3 ≤ x2 then (rtV h) else (wrI h x0 20 x2 x1 fun h2 => bnd (x2 + (1)) fun z3 => rc5 x0 x1 z3 x3 h2)
def L_J7_fill_53178_5 : Nat → Option Nat → Int32 → Int32 → Int32 → MH → Res
  | 0 => fun _ _ _ _ _ => none
  | n + 1 => B_J7_fill_53178_5 (L_J7_fill_53178_5 n)
def M_J7_fill_53178 (x0 : Option Nat) (x1 : Int32) (h : MH) : Res := aln h x0 fun z1 => L_J7_fill_53178_5 fuel x0 x1 (0 : Int32) z1 h
theorem vB_J7_fill_53178_5 {K : CT} (F : Fr K cJ7_fill_53178 RJ7 none [] 0 0) (hm : mxL K = 4) (rc5 : Option Nat → Int32 → Int32 → Int32 → MH → Res) (hrc5 : ∀ x0 x1 x2 x3 h, V K 5 [(0, vR x0), (1, vI x1), (2, vI x2), (3, vI x3)] [] h (rc5 x0 x1 x2 x3 h)) (x0 : Option Nat) (x1 : Int32) (x2 : Int32) (x3 : Int32) (h : MH) : V K 5 [(0, vR x0), (1, vI x1), (2, vI x2), (3, vI x3)] [] h (B_J7_fill_53178_5 rc5 x0 x1 x2 x3 h) := by
  unfold B_J7_fill_53178_5
  refine V_iload_n (pc := 5) F dJ7_fill_53178_5 2 rfl ?_
  refine V_iload_n (pc := 6) F dJ7_fill_53178_6 3 rfl ?_
  refine V_icmp_ge (pc := 7) F 20 dJ7_fill_53178_7 (by decide) ?_ ?_
  · exact V_vret (pc := 20) F (Or.inl rfl) dJ7_fill_53178_20
  · refine V_aload_n (pc := 10) F dJ7_fill_53178_10 0 rfl ?_
    refine V_iload_n (pc := 11) F dJ7_fill_53178_11 2 rfl ?_
    refine V_iload_n (pc := 12) F dJ7_fill_53178_12 1 rfl ?_
    refine V_iast (pc := 13) F dJ7_fill_53178_13 ?_
    intro h2
    refine V_iinc (pc := 14) F (fun z3 => [(2, vI z3), (0, vR x0), (1, vI x1), (3, vI x3)]) dJ7_fill_53178_14 (lt_mx hm (by decide)) 2 rfl (dx := (1 : Int32)) (by decide) (fun _ => rfl) ?_
    intro z3
    refine V_goto (pc := 17) F 5 dJ7_fill_53178_17 (by decide) ?_
    refine V_sub [1, 2, 0, 3] (L' := [(0, vR x0), (1, vI x1), (2, vI z3), (3, vI x3)]) rfl ?_
    exact hrc5 x0 x1 z3 x3 h2
theorem vL_J7_fill_53178_5 {K : CT} (F : Fr K cJ7_fill_53178 RJ7 none [] 0 0) (hm : mxL K = 4) (n : Nat) : ∀ x0 x1 x2 x3 h, V K 5 [(0, vR x0), (1, vI x1), (2, vI x2), (3, vI x3)] [] h (L_J7_fill_53178_5 n x0 x1 x2 x3 h) := by
  induction n with
  | zero => intros; exact V_none
  | succ n ih => intro x0 x1 x2 x3 h; exact vB_J7_fill_53178_5 F hm _ ih x0 x1 x2 x3 h
theorem vM_J7_fill_53178 {K : CT} (F : Fr K cJ7_fill_53178 RJ7 none [] 0 0) (hm : mxL K = 4) (x0 : Option Nat) (x1 : Int32) (h : MH) : V K 0 [(0, vR x0), (1, vI x1)] [] h (M_J7_fill_53178 x0 x1 h) := by
  unfold M_J7_fill_53178
  refine V_iconst (pc := 0) F (x := (0 : Int32)) dJ7_fill_53178_0 (by decide) ?_
  refine V_istore_n (pc := 1) F [(2, vI (0 : Int32)), (0, vR x0), (1, vI x1)] dJ7_fill_53178_1 (lt_mx hm (by decide)) rfl ?_
  refine V_aload_n (pc := 2) F dJ7_fill_53178_2 1 rfl ?_
  refine V_alen (pc := 3) F dJ7_fill_53178_3 ?_
  intro z1
  refine V_istore_n (pc := 4) F [(3, vI z1), (2, vI (0 : Int32)), (0, vR x0), (1, vI x1)] dJ7_fill_53178_4 (lt_mx hm (by decide)) rfl ?_
  refine V_sub [2, 3, 1, 0] (L' := [(0, vR x0), (1, vI x1), (2, vI (0 : Int32)), (3, vI z1)]) rfl ?_
  exact vL_J7_fill_53178_5 F hm fuel x0 x1 (0 : Int32) z1 h
theorem C_J7_fill_53178 (x0 : Option Nat) (x1 : Int32) (h : MH) : CtrM yJ7_fill_53178 (WSm yJ7_fill_53178 cJ7_fill_53178 4 none) 0 [vR x0, vI x1] h (M_J7_fill_53178 x0 x1 h) :=
  CtrM_of (by decide) (Nat.le_of_ble_eq_true rfl) (fun K F hm hi => vM_J7_fill_53178 F hm x0 x1 h)
