/-! the law's turn: telling land -/
theorem zI_step {b p q : Bool} : zI (b && !(p || q)) = if zI (b && !p) = 0 then 0 else if q = true then 0 else 1 := by
  cases b <;> cases p <;> cases q <;> decide
theorem zI_e {b : Bool} : (zI b = 0) = (b = false) := by cases b <;> decide
section
variable {h : MH} {K g M : Nat → Nat → Int32} {B nb nr ns nsm nst d : Nat} {z : Int32}
theorem l_38 (O : Ok B h K g M nb nr ns nsm nst d) {c : Nat} {b : Bool} : L_L_tells_38 fuel (some 1) (some 22) (some 23) (some 24) (some 25) (some 26) (some 27) (some 28) (some 37) (nI c) (zI b) 0 (st h K M) = L_L_tells_81 fuel (some 1) (some 22) (some 23) (some 24) (some 25) (some 26) (some 28) (some 37) (nI c) (zI (b && !anB (fun k => g 30 k = nI c) nb)) 0 (st h K M) := by
  have F := O.F
  obtain ⟨R, L, A, hns, hn, hd⟩ := id O
  have nb8 := O.nb8
  have q2 : M 37 2 = nI nb := A.2.2.2.2.2.2.2.1.2.1
  have hG := zlp0 (G := fun n i => L_L_tells_38 n (some 1) (some 22) (some 23) (some 24) (some 25) (some 26) (some 27) (some 28) (some 37) (nI c) (zI (b && !anB (fun k => g 30 k = nI c) i)) (nI i) (st h K M)) (N := nb) (r := L_L_tells_81 fuel (some 1) (some 22) (some 23) (some 24) (some 25) (some 26) (some 28) (some 37) (nI c) (zI (b && !anB (fun k => g 30 k = nI c) nb)) 0 (st h K M)) (by have : fuel = 1000 := rfl; omega) (fun n i hi => ?_) (fun n => ?_)
  · have e : zI (b && !anB (fun k => g 30 k = nI c) 0) = zI b := by cases b <;> rfl
    rw [← e]; exact hG
  · have e : zI (b && !anB (fun k => g 30 k = nI c) (i + 1)) = _ := zI_step
    show B_L_tells_38 (L_L_tells_38 n) (some 1) (some 22) (some 23) (some 24) (some 25) (some 26) (some 27) (some 28) (some 37) (nI c) (zI (b && !anB (fun k => g 30 k = nI c) i)) (nI i) (st h K M) = L_L_tells_38 n (some 1) (some 22) (some 23) (some 24) (some 25) (some 26) (some 27) (some 28) (some 37) (nI c) (zI (b && !anB (fun k => g 30 k = nI c) (i + 1))) (nI (i + 1)) (st h K M)
    unfold B_L_tells_38 B_L_tells_69 B_L_tells_70
    rw [e, rq2 F, q2, if_neg (nI_ge hi (by omega)), x_bnd, nIs]
    by_cases w : zI (b && !anB (fun k => g 30 k = nI c) i) = 0
    · rw [if_pos w, if_pos w]
    · rw [if_neg w, if_neg w, x_bnd, show (8 : Int32) * nI i = nI (8 * i) from pk_mul 8 i, d27 F (by omega), (A.2.2.2.1.1 i hi).1.1, x_bnd]
      by_cases w2 : g 30 i = nI c
      · rw [if_pos w2, if_pos (decide_eq_true w2)]
      · rw [if_neg w2, if_neg (by rw [decide_eq_true_iff]; exact w2)]
  · show B_L_tells_38 (L_L_tells_38 n) (some 1) (some 22) (some 23) (some 24) (some 25) (some 26) (some 27) (some 28) (some 37) (nI c) (zI (b && !anB (fun k => g 30 k = nI c) nb)) (nI nb) (st h K M) = _
    unfold B_L_tells_38
    rw [rq2 F, q2, if_pos (nI_le (Nat.le_refl _) (by omega))]
theorem l_81 (O : Ok B h K g M nb nr ns nsm nst d) {c : Nat} {b : Bool} : L_L_tells_81 fuel (some 1) (some 22) (some 23) (some 24) (some 25) (some 26) (some 28) (some 37) (nI c) (zI b) 0 (st h K M) = L_L_tells_124 fuel (some 1) (some 22) (some 23) (some 24) (some 25) (some 26) (some 37) (nI c) (zI (b && !anB (fun k => g 37 k = nI c) nst)) 0 (st h K M) := by
  have F := O.F
  obtain ⟨R, L, A, hns, hn, hd⟩ := id O
  have n30 : nst ≤ 30 := R.2.2.2.2.2.2.1.1.2.2
  have q3 : M 37 3 = nI nst := A.2.2.2.2.2.2.2.1.2.2.1
  have hG := zlp0 (G := fun n i => L_L_tells_81 n (some 1) (some 22) (some 23) (some 24) (some 25) (some 26) (some 28) (some 37) (nI c) (zI (b && !anB (fun k => g 37 k = nI c) i)) (nI i) (st h K M)) (N := nst) (r := L_L_tells_124 fuel (some 1) (some 22) (some 23) (some 24) (some 25) (some 26) (some 37) (nI c) (zI (b && !anB (fun k => g 37 k = nI c) nst)) 0 (st h K M)) (by have : fuel = 1000 := rfl; omega) (fun n i hi => ?_) (fun n => ?_)
  · have e : zI (b && !anB (fun k => g 37 k = nI c) 0) = zI b := by cases b <;> rfl
    rw [← e]; exact hG
  · have e : zI (b && !anB (fun k => g 37 k = nI c) (i + 1)) = _ := zI_step
    obtain ⟨D, c', t1, t2, t3, t4, t5⟩ := A.2.2.2.2.2.2.1.1 i hi
    show B_L_tells_81 (L_L_tells_81 n) (some 1) (some 22) (some 23) (some 24) (some 25) (some 26) (some 28) (some 37) (nI c) (zI (b && !anB (fun k => g 37 k = nI c) i)) (nI i) (st h K M) = L_L_tells_81 n (some 1) (some 22) (some 23) (some 24) (some 25) (some 26) (some 28) (some 37) (nI c) (zI (b && !anB (fun k => g 37 k = nI c) (i + 1))) (nI (i + 1)) (st h K M)
    unfold B_L_tells_81 B_L_tells_112 B_L_tells_113
    rw [e, rq3 F, q3, if_neg (nI_ge hi (by omega)), x_bnd, nIs]
    by_cases w : zI (b && !anB (fun k => g 37 k = nI c) i) = 0
    · rw [if_pos w, if_pos w]
    · rw [if_neg w, if_neg w, d28 F (by omega), t5, rm64 (by omega), show (64 * D + c') % 64 = c' by omega, x_bnd, ← t4]
      by_cases w2 : g 37 i = nI c
      · rw [if_pos w2, if_pos (decide_eq_true w2)]
      · rw [if_neg w2, if_neg (by rw [decide_eq_true_iff]; exact w2)]
  · show B_L_tells_81 (L_L_tells_81 n) (some 1) (some 22) (some 23) (some 24) (some 25) (some 26) (some 28) (some 37) (nI c) (zI (b && !anB (fun k => g 37 k = nI c) nst)) (nI nst) (st h K M) = _
    unfold B_L_tells_81
    rw [rq3 F, q3, if_pos (nI_le (Nat.le_refl _) (by omega))]
theorem l_124 (O : Ok B h K g M nb nr ns nsm nst d) {c : Nat} {b : Bool} : L_L_tells_124 fuel (some 1) (some 22) (some 23) (some 24) (some 25) (some 26) (some 37) (nI c) (zI b) 0 (st h K M) = L_L_tells_171 fuel (some 1) (some 22) (some 23) (some 24) (some 25) (some 26) (nI c) (zI (b && !anB (fun k => g 45 k = nI c) ns)) 0 0 (st h K M) := by
  have F := O.F
  obtain ⟨R, L, A, hns, hn, hd⟩ := id O
  have q6 : M 37 6 = nI ns := A.2.2.2.2.2.2.2.1.2.2.2.2.2
  have q9 := A.2.2.2.2.2.2.2.2.2
  have hG := zlp0 (G := fun n i => L_L_tells_124 n (some 1) (some 22) (some 23) (some 24) (some 25) (some 26) (some 37) (nI c) (zI (b && !anB (fun k => g 45 k = nI c) i)) (nI i) (st h K M)) (N := ns) (r := L_L_tells_171 fuel (some 1) (some 22) (some 23) (some 24) (some 25) (some 26) (nI c) (zI (b && !anB (fun k => g 45 k = nI c) ns)) 0 0 (st h K M)) (by have : fuel = 1000 := rfl; omega) (fun n i hi => ?_) (fun n => ?_)
  · have e : zI (b && !anB (fun k => g 45 k = nI c) 0) = zI b := by cases b <;> rfl
    rw [← e]; exact hG
  · have e : zI (b && !anB (fun k => g 45 k = nI c) (i + 1)) = _ := zI_step
    show B_L_tells_124 (L_L_tells_124 n) (some 1) (some 22) (some 23) (some 24) (some 25) (some 26) (some 37) (nI c) (zI (b && !anB (fun k => g 45 k = nI c) i)) (nI i) (st h K M) = L_L_tells_124 n (some 1) (some 22) (some 23) (some 24) (some 25) (some 26) (some 37) (nI c) (zI (b && !anB (fun k => g 45 k = nI c) (i + 1))) (nI (i + 1)) (st h K M)
    unfold B_L_tells_124 B_L_tells_156 B_L_tells_157
    rw [e, rq6 F, q6, if_neg (nI_ge hi (by omega)), x_bnd, nIs]
    by_cases w : zI (b && !anB (fun k => g 45 k = nI c) i) = 0
    · rw [if_pos w, if_pos w]
    · rw [if_neg w, if_neg w, x_bnd, show (14 : Int32) + nI i = nI (14 + i) from nI_add 14 i, d37 F (by omega), q9 i hi, x_bnd]
      by_cases w2 : g 45 i = nI c
      · rw [if_pos w2, if_pos (decide_eq_true w2)]
      · rw [if_neg w2, if_neg (by rw [decide_eq_true_iff]; exact w2)]
  · show B_L_tells_124 (L_L_tells_124 n) (some 1) (some 22) (some 23) (some 24) (some 25) (some 26) (some 37) (nI c) (zI (b && !anB (fun k => g 45 k = nI c) ns)) (nI ns) (st h K M) = _
    unfold B_L_tells_124
    rw [rq6 F, q6, if_pos (nI_le (Nat.le_refl _) (by omega))]
theorem l_171 (O : Ok B h K g M nb nr ns nsm nst d) {c : Nat} {x18 : Int32} (hc : c < 60) : L_L_tells_171 fuel (some 1) (some 22) (some 23) (some 24) (some 25) (some 26) (nI c) x18 0 0 (st h K M) = B_L_tells_171 (L_L_tells_171 0) (some 1) (some 22) (some 23) (some 24) (some 25) (some 26) (nI c) x18 (lsum (upd (g 23) c 1) 60) (nI 60) (st h K M) := by
  have F := O.F
  obtain ⟨R, L, A, hns, hn, hd⟩ := id O
  have hG := zlp0 (G := fun n i => L_L_tells_171 n (some 1) (some 22) (some 23) (some 24) (some 25) (some 26) (nI c) x18 (lsum (upd (g 23) c 1) i) (nI i) (st h K M)) (N := 60) (r := B_L_tells_171 (L_L_tells_171 0) (some 1) (some 22) (some 23) (some 24) (some 25) (some 26) (nI c) x18 (lsum (upd (g 23) c 1) 60) (nI 60) (st h K M)) (by decide) (fun n i hi => ?_) (fun n => ?_)
  · exact hG
  · have e : lsum (upd (g 23) c 1) (i + 1) = lsum (upd (g 23) c 1) i + (if upd (g 23) c 1 i = 0 then 0 else 1) := rfl
    show B_L_tells_171 (L_L_tells_171 n) (some 1) (some 22) (some 23) (some 24) (some 25) (some 26) (nI c) x18 (lsum (upd (g 23) c 1) i) (nI i) (st h K M) = L_L_tells_171 n (some 1) (some 22) (some 23) (some 24) (some 25) (some 26) (nI c) x18 (lsum (upd (g 23) c 1) (i + 1)) (nI (i + 1)) (st h K M)
    unfold B_L_tells_171 B_L_tells_196 B_L_tells_201
    rw [if_neg (show ¬ (60 : Int32) ≤ nI i from nI_ge (b := 60) hi (by decide)), d22 F hi, e, x_bnd, x_bnd, nIs, x_bnd, x_bnd]
    by_cases w : i = c
    · rw [w, upd_s, if_neg (show ¬ (1 : Int32) = 0 by decide), if_neg (show ¬ nI c ≠ nI c from fun z => z rfl), ite_self]
    · rw [upd_o w]
      by_cases hl : g 23 i = 0
      · rw [if_neg (A.1.sea hi hl).2.2.2, if_pos hl]
        rw [if_pos (show nI i ≠ nI c from fun z => w ((nI_eq (by omega) (by omega)).mp z))]
      · rw [if_pos (A.1.lnd hi hl).2.2.2, if_neg hl]
  · show B_L_tells_171 (L_L_tells_171 n) (some 1) (some 22) (some 23) (some 24) (some 25) (some 26) (nI c) x18 (lsum (upd (g 23) c 1) 60) (nI 60) (st h K M) = _
    unfold B_L_tells_171
    rw [if_pos (show (60 : Int32) ≤ nI 60 from nI_le (a := 60) (Nat.le_refl _) (by decide)), if_pos (show (60 : Int32) ≤ nI 60 from nI_le (a := 60) (Nat.le_refl _) (by decide))]
end
