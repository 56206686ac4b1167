/-! the state: layout h, contents K of the class, contents m of the model -/
def st (h : MH) (K m : Nat → Nat → Int32) : MH := (hk h, hl h, (fun a => if 22 ≤ a ∧ a < 38 then m a else K a), hr h, hq h, hn h, hc h, hs h)
theorem st_id (h : MH) : st h (hi h) (hi h) = h := by
  have e : (fun a => if 22 ≤ a ∧ a < 38 then hi h a else hi h a) = hi h := by funext a; split <;> rfl
  unfold st; rw [e]; rfl
def KT : List Nat := [8, 5, 1, 20, 20, 1, 20, 20, 20, 20, 21, 20, 22, 2, 24, 7, 20, 20, 20, 25, 23, 20, 20, 20, 20, 20, 20, 20, 20, 20, 20, 20, 20, 20, 20, 20, 20]
def LT : List Nat := [10, 8, 2, 60, 60, 2, 60, 60, 60, 6, 60, 60, 8, 3, 100, 5, 30, 20, 20, 4, 6, 60, 60, 60, 60, 60, 64, 30, 40, 64, 64, 64, 60, 60, 60, 60, 16]
def RT : List (Nat × Nat × Nat) := [(1, 0, 2), (1, 1, 13), (1, 2, 14), (1, 3, 16), (1, 4, 20), (1, 5, 21), (2, 0, 3), (2, 1, 6), (2, 2, 9), (2, 3, 10), (2, 5, 11), (2, 6, 12), (3, 0, 4), (3, 1, 5), (6, 0, 7), (6, 1, 8), (14, 0, 15), (16, 1, 17), (16, 2, 18), (16, 3, 19)]
def Fix (h : MH) : Prop := (∀ a, a < 37 → hk h (a + 1) = KT.getD a 0 ∧ hl h (a + 1) = LT.getD a 0) ∧ (∀ q ∈ RT, hr h q.1 q.2.1 = some q.2.2) ∧ 37 ≤ hn h ∧ ∀ a, hn h < a → 40 ≤ hk h a
theorem Fix.k {h : MH} (F : Fix h) (a : Nat) (ha : a < 37 := by decide) : hk h (a + 1) = KT.getD a 0 := (F.1 a ha).1
theorem Fix.l {h : MH} (F : Fix h) (a : Nat) (ha : a < 37 := by decide) : hl h (a + 1) = LT.getD a 0 := (F.1 a ha).2
theorem Fix.r {h : MH} (F : Fix h) (a j b : Nat) (ha : (a, j, b) ∈ RT := by decide) : hr h a j = some b := F.2.1 (a, j, b) ha
theorem st_w {h : MH} {K m : Nat → Nat → Int32} {a j : Nat} {v : Int32} (ha : a < 22 ∨ 38 ≤ a) : sI (st h K m) a j v = st h (up2 K a j v) m := by
  have e : up2 (fun a => if 22 ≤ a ∧ a < 38 then m a else K a) a j v = (fun b => if 22 ≤ b ∧ b < 38 then m b else up2 K a j v b) := by
    funext b k
    unfold up2
    by_cases hb : b = a
    · subst hb; rw [if_neg (show ¬ (22 ≤ b ∧ b < 38) by omega)]; simp only [if_neg (show ¬ (22 ≤ b ∧ b < 38) by omega)]
    · simp only [hb, false_and, if_false]
  show (hk h, hl h, up2 (fun a => if 22 ≤ a ∧ a < 38 then m a else K a) a j v, hr h, hq h, hn h, hc h, hs h) = _
  rw [e]; rfl
theorem st_wm {h : MH} {K m : Nat → Nat → Int32} {a j : Nat} {v : Int32} (ha : 22 ≤ a ∧ a < 38) : sI (st h K m) a j v = st h K (up2 m a j v) := by
  have e : up2 (fun a => if 22 ≤ a ∧ a < 38 then m a else K a) a j v = (fun b => if 22 ≤ b ∧ b < 38 then up2 m a j v b else K b) := by
    funext b k
    unfold up2
    by_cases hb : b = a
    · subst hb; simp only [if_pos ha]
    · simp only [hb, false_and, if_false]
  show (hk h, hl h, up2 (fun a => if 22 ≤ a ∧ a < 38 then m a else K a) a j v, hr h, hq h, hn h, hc h, hs h) = _
  rw [e]; rfl
theorem st_r {h : MH} {K m : Nat → Nat → Int32} {a : Nat} (ha : a < 22 ∨ 38 ≤ a) : hi (st h K m) a = K a := if_neg (by omega)
theorem st_rm {h : MH} {K m : Nat → Nat → Int32} {a : Nat} (ha : 22 ≤ a ∧ a < 38) : hi (st h K m) a = m a := if_pos ha
theorem nI_ok {j n : Nat} (h : j < n) (hn : n ≤ 1000) : 0 ≤ nI j ∧ (nI j).toNatClampNeg < n := ⟨nI_pos' (by omega), by rw [nI_clamp (by omega)]; exact h⟩
theorem up2_up2 {α : Type} {f : Nat → Nat → α} {a j : Nat} {v w : α} : up2 (up2 f a j v) a j w = up2 f a j w := by
  funext b k; unfold up2; split <;> rfl
/-- whole rows -/
def upw (f : Nat → Nat → Int32) (a : Nat) (g : Nat → Int32) : Nat → Nat → Int32 := fun b => if b = a then g else f b
theorem upw_s {f : Nat → Nat → Int32} {a : Nat} {g : Nat → Int32} : upw f a g a = g := if_pos rfl
theorem upw_o {f : Nat → Nat → Int32} {a b : Nat} {g : Nat → Int32} (h : b ≠ a) : upw f a g b = f b := if_neg h
theorem upw_at {f : Nat → Nat → Int32} {a b : Nat} {g : Nat → Int32} : upw f a g b = if b = a then g else f b := rfl
theorem upw_w {f : Nat → Nat → Int32} {a : Nat} {g g' : Nat → Int32} : upw (upw f a g) a g' = upw f a g' := by
  funext b; unfold upw; split <;> rfl
theorem up2_upw {f : Nat → Nat → Int32} {a j : Nat} {v : Int32} : up2 f a j v = upw f a (upd (f a) j v) := by
  funext b k
  unfold up2 upw upd
  by_cases hb : b = a
  · subst hb; simp
  · simp [hb]
/-! general rows: reads and writes where kind and length are known -/
theorem q_gfI {h : MH} {a ci j : Nat} {k : Int32 → Res} (hk1 : hk h a = ci) : gfI h (some a) ci j k = k (hi h a j) := if_pos hk1
theorem q_gfR {h : MH} {a ci j : Nat} {k : Option Nat → Res} (hk1 : hk h a = ci) : gfR h (some a) ci j k = k (hr h a j) := if_pos hk1
theorem q_pfI {h : MH} {a ci j : Nat} {v : Int32} {k : MH → Res} (hk1 : hk h a = ci) : pfI h (some a) ci j v k = k (sI h a j v) := if_pos hk1
theorem q_rdI {h : MH} {a kd i n : Nat} {k : Int32 → Res} (hk1 : hk h a = kd) (hl1 : hl h a = n) (hi1 : i < n) (hn1 : n ≤ 1000) : rdI h (some a) kd (nI i) k = k (hi h a i) := by
  unfold rdI
  simp only [hk1, hl1, true_and]
  rw [if_pos (nI_ok hi1 hn1), nI_clamp (by omega)]
theorem q_wrI {h : MH} {a kd i n : Nat} {v : Int32} {k : MH → Res} (hk1 : hk h a = kd) (hl1 : hl h a = n) (hi1 : i < n) (hn1 : n ≤ 1000) (hb : kd = 21 → v = 0 ∨ v = 1) : wrI h (some a) kd (nI i) v k = k (sI h a i v) := by
  unfold wrI
  simp only [hk1, hl1, true_and]
  rw [if_pos ⟨(nI_ok hi1 hn1).1, (nI_ok hi1 hn1).2, hb⟩, nI_clamp (by omega)]
theorem q_rdR {h : MH} {a kd i n : Nat} {k : Option Nat → Res} (hk1 : hk h a = kd) (hkd : 22 ≤ kd ∧ kd < 26) (hl1 : hl h a = n) (hi1 : i < n) (hn1 : n ≤ 1000) : rdR h (some a) (nI i) k = k (hr h a i) := by
  unfold rdR
  simp only [hk1, hl1]
  rw [if_pos ⟨hkd, nI_ok hi1 hn1⟩, nI_clamp (by omega)]
theorem q_aln {h : MH} {a kd n : Nat} {k : Int32 → Res} (hk1 : hk h a = kd) (hkd : kd ∈ AK) (hl1 : hl h a = n) : aln h (some a) k = k (nI n) := by
  unfold aln
  simp only [hk1, hl1]
  rw [if_pos hkd]; rfl
theorem q_chk {h : MH} {a ci : Nat} {k : Res} (hk1 : hk h a = ci) : chk h (some a) ci k = k := if_pos hk1
/-! the fixed addresses -/
theorem Fk1 {h : MH} (F : Fix h) : hk h 1 = 8 := F.k 0
theorem Fl1 {h : MH} (F : Fix h) : hl h 1 = 10 := F.l 0
theorem Fk2 {h : MH} (F : Fix h) : hk h 2 = 5 := F.k 1
theorem Fl2 {h : MH} (F : Fix h) : hl h 2 = 8 := F.l 1
theorem Fk3 {h : MH} (F : Fix h) : hk h 3 = 1 := F.k 2
theorem Fl3 {h : MH} (F : Fix h) : hl h 3 = 2 := F.l 2
theorem Fk4 {h : MH} (F : Fix h) : hk h 4 = 20 := F.k 3
theorem Fl4 {h : MH} (F : Fix h) : hl h 4 = 60 := F.l 3
theorem Fk5 {h : MH} (F : Fix h) : hk h 5 = 20 := F.k 4
theorem Fl5 {h : MH} (F : Fix h) : hl h 5 = 60 := F.l 4
theorem Fk6 {h : MH} (F : Fix h) : hk h 6 = 1 := F.k 5
theorem Fl6 {h : MH} (F : Fix h) : hl h 6 = 2 := F.l 5
theorem Fk7 {h : MH} (F : Fix h) : hk h 7 = 20 := F.k 6
theorem Fl7 {h : MH} (F : Fix h) : hl h 7 = 60 := F.l 6
theorem Fk8 {h : MH} (F : Fix h) : hk h 8 = 20 := F.k 7
theorem Fl8 {h : MH} (F : Fix h) : hl h 8 = 60 := F.l 7
theorem Fk9 {h : MH} (F : Fix h) : hk h 9 = 20 := F.k 8
theorem Fl9 {h : MH} (F : Fix h) : hl h 9 = 60 := F.l 8
theorem Fk10 {h : MH} (F : Fix h) : hk h 10 = 20 := F.k 9
theorem Fl10 {h : MH} (F : Fix h) : hl h 10 = 6 := F.l 9
theorem Fk11 {h : MH} (F : Fix h) : hk h 11 = 21 := F.k 10
theorem Fl11 {h : MH} (F : Fix h) : hl h 11 = 60 := F.l 10
theorem Fk12 {h : MH} (F : Fix h) : hk h 12 = 20 := F.k 11
theorem Fl12 {h : MH} (F : Fix h) : hl h 12 = 60 := F.l 11
theorem Fk13 {h : MH} (F : Fix h) : hk h 13 = 22 := F.k 12
theorem Fl13 {h : MH} (F : Fix h) : hl h 13 = 8 := F.l 12
theorem Fk14 {h : MH} (F : Fix h) : hk h 14 = 2 := F.k 13
theorem Fl14 {h : MH} (F : Fix h) : hl h 14 = 3 := F.l 13
theorem Fk15 {h : MH} (F : Fix h) : hk h 15 = 24 := F.k 14
theorem Fl15 {h : MH} (F : Fix h) : hl h 15 = 100 := F.l 14
theorem Fk16 {h : MH} (F : Fix h) : hk h 16 = 7 := F.k 15
theorem Fl16 {h : MH} (F : Fix h) : hl h 16 = 5 := F.l 15
theorem Fk17 {h : MH} (F : Fix h) : hk h 17 = 20 := F.k 16
theorem Fl17 {h : MH} (F : Fix h) : hl h 17 = 30 := F.l 16
theorem Fk18 {h : MH} (F : Fix h) : hk h 18 = 20 := F.k 17
theorem Fl18 {h : MH} (F : Fix h) : hl h 18 = 20 := F.l 17
theorem Fk19 {h : MH} (F : Fix h) : hk h 19 = 20 := F.k 18
theorem Fl19 {h : MH} (F : Fix h) : hl h 19 = 20 := F.l 18
theorem Fk20 {h : MH} (F : Fix h) : hk h 20 = 25 := F.k 19
theorem Fl20 {h : MH} (F : Fix h) : hl h 20 = 4 := F.l 19
theorem Fk21 {h : MH} (F : Fix h) : hk h 21 = 23 := F.k 20
theorem Fl21 {h : MH} (F : Fix h) : hl h 21 = 6 := F.l 20
theorem Fk22 {h : MH} (F : Fix h) : hk h 22 = 20 := F.k 21
theorem Fl22 {h : MH} (F : Fix h) : hl h 22 = 60 := F.l 21
theorem Fk23 {h : MH} (F : Fix h) : hk h 23 = 20 := F.k 22
theorem Fl23 {h : MH} (F : Fix h) : hl h 23 = 60 := F.l 22
theorem Fk24 {h : MH} (F : Fix h) : hk h 24 = 20 := F.k 23
theorem Fl24 {h : MH} (F : Fix h) : hl h 24 = 60 := F.l 23
theorem Fk25 {h : MH} (F : Fix h) : hk h 25 = 20 := F.k 24
theorem Fl25 {h : MH} (F : Fix h) : hl h 25 = 60 := F.l 24
theorem Fk26 {h : MH} (F : Fix h) : hk h 26 = 20 := F.k 25
theorem Fl26 {h : MH} (F : Fix h) : hl h 26 = 60 := F.l 25
theorem Fk27 {h : MH} (F : Fix h) : hk h 27 = 20 := F.k 26
theorem Fl27 {h : MH} (F : Fix h) : hl h 27 = 64 := F.l 26
theorem Fk28 {h : MH} (F : Fix h) : hk h 28 = 20 := F.k 27
theorem Fl28 {h : MH} (F : Fix h) : hl h 28 = 30 := F.l 27
theorem Fk29 {h : MH} (F : Fix h) : hk h 29 = 20 := F.k 28
theorem Fl29 {h : MH} (F : Fix h) : hl h 29 = 40 := F.l 28
theorem Fk30 {h : MH} (F : Fix h) : hk h 30 = 20 := F.k 29
theorem Fl30 {h : MH} (F : Fix h) : hl h 30 = 64 := F.l 29
theorem Fk31 {h : MH} (F : Fix h) : hk h 31 = 20 := F.k 30
theorem Fl31 {h : MH} (F : Fix h) : hl h 31 = 64 := F.l 30
theorem Fk32 {h : MH} (F : Fix h) : hk h 32 = 20 := F.k 31
theorem Fl32 {h : MH} (F : Fix h) : hl h 32 = 64 := F.l 31
theorem Fk33 {h : MH} (F : Fix h) : hk h 33 = 20 := F.k 32
theorem Fl33 {h : MH} (F : Fix h) : hl h 33 = 60 := F.l 32
theorem Fk34 {h : MH} (F : Fix h) : hk h 34 = 20 := F.k 33
theorem Fl34 {h : MH} (F : Fix h) : hl h 34 = 60 := F.l 33
theorem Fk35 {h : MH} (F : Fix h) : hk h 35 = 20 := F.k 34
theorem Fl35 {h : MH} (F : Fix h) : hl h 35 = 60 := F.l 34
theorem Fk36 {h : MH} (F : Fix h) : hk h 36 = 20 := F.k 35
theorem Fl36 {h : MH} (F : Fix h) : hl h 36 = 60 := F.l 35
theorem Fk37 {h : MH} (F : Fix h) : hk h 37 = 20 := F.k 36
theorem Fl37 {h : MH} (F : Fix h) : hl h 37 = 16 := F.l 36
theorem g1 {h : MH} {K m : Nat → Nat → Int32} {j : Nat} {k : Int32 → Res} (F : Fix h) : gfI (st h K m) (some 1) 8 j k = k (K 1 j) := by
  rw [q_gfI (h := st h K m) (Fk1 F), st_r (Or.inl (by decide))]
theorem p1 {h : MH} {K m : Nat → Nat → Int32} {j : Nat} {v : Int32} {k : MH → Res} (F : Fix h) : pfI (st h K m) (some 1) 8 j v k = k (st h (upw K 1 (upd (K 1) j v)) m) := by
  rw [q_pfI (h := st h K m) (Fk1 F), st_w (Or.inl (by decide)), up2_upw]
theorem c1 {h : MH} {K m : Nat → Nat → Int32} {k : Res} (F : Fix h) : chk (st h K m) (some 1) 8 k = k := q_chk (h := st h K m) (Fk1 F)
theorem g2 {h : MH} {K m : Nat → Nat → Int32} {j : Nat} {k : Int32 → Res} (F : Fix h) : gfI (st h K m) (some 2) 5 j k = k (K 2 j) := by
  rw [q_gfI (h := st h K m) (Fk2 F), st_r (Or.inl (by decide))]
theorem p2 {h : MH} {K m : Nat → Nat → Int32} {j : Nat} {v : Int32} {k : MH → Res} (F : Fix h) : pfI (st h K m) (some 2) 5 j v k = k (st h (upw K 2 (upd (K 2) j v)) m) := by
  rw [q_pfI (h := st h K m) (Fk2 F), st_w (Or.inl (by decide)), up2_upw]
theorem c2 {h : MH} {K m : Nat → Nat → Int32} {k : Res} (F : Fix h) : chk (st h K m) (some 2) 5 k = k := q_chk (h := st h K m) (Fk2 F)
theorem g3 {h : MH} {K m : Nat → Nat → Int32} {j : Nat} {k : Int32 → Res} (F : Fix h) : gfI (st h K m) (some 3) 1 j k = k (K 3 j) := by
  rw [q_gfI (h := st h K m) (Fk3 F), st_r (Or.inl (by decide))]
theorem p3 {h : MH} {K m : Nat → Nat → Int32} {j : Nat} {v : Int32} {k : MH → Res} (F : Fix h) : pfI (st h K m) (some 3) 1 j v k = k (st h (upw K 3 (upd (K 3) j v)) m) := by
  rw [q_pfI (h := st h K m) (Fk3 F), st_w (Or.inl (by decide)), up2_upw]
theorem c3 {h : MH} {K m : Nat → Nat → Int32} {k : Res} (F : Fix h) : chk (st h K m) (some 3) 1 k = k := q_chk (h := st h K m) (Fk3 F)
theorem d4 {h : MH} {K m : Nat → Nat → Int32} {i : Nat} {k : Int32 → Res} (F : Fix h) (hi1 : i < 60) : rdI (st h K m) (some 4) 20 (nI i) k = k (K 4 i) := by
  rw [q_rdI (h := st h K m) (Fk4 F) (Fl4 F) hi1 (by decide), st_r (Or.inl (by decide))]
theorem w4 {h : MH} {K m : Nat → Nat → Int32} {i : Nat} {v : Int32} {k : MH → Res} (F : Fix h) (hi1 : i < 60) : wrI (st h K m) (some 4) 20 (nI i) v k = k (st h (upw K 4 (upd (K 4) i v)) m) := by
  rw [q_wrI (h := st h K m) (Fk4 F) (Fl4 F) hi1 (by decide) (fun q => absurd q (by decide)), st_w (Or.inl (by decide)), up2_upw]
theorem a4 {h : MH} {K m : Nat → Nat → Int32} {k : Int32 → Res} (F : Fix h) : aln (st h K m) (some 4) k = k (nI 60) := q_aln (h := st h K m) (Fk4 F) (by decide) (Fl4 F)
theorem d5 {h : MH} {K m : Nat → Nat → Int32} {i : Nat} {k : Int32 → Res} (F : Fix h) (hi1 : i < 60) : rdI (st h K m) (some 5) 20 (nI i) k = k (K 5 i) := by
  rw [q_rdI (h := st h K m) (Fk5 F) (Fl5 F) hi1 (by decide), st_r (Or.inl (by decide))]
theorem w5 {h : MH} {K m : Nat → Nat → Int32} {i : Nat} {v : Int32} {k : MH → Res} (F : Fix h) (hi1 : i < 60) : wrI (st h K m) (some 5) 20 (nI i) v k = k (st h (upw K 5 (upd (K 5) i v)) m) := by
  rw [q_wrI (h := st h K m) (Fk5 F) (Fl5 F) hi1 (by decide) (fun q => absurd q (by decide)), st_w (Or.inl (by decide)), up2_upw]
theorem a5 {h : MH} {K m : Nat → Nat → Int32} {k : Int32 → Res} (F : Fix h) : aln (st h K m) (some 5) k = k (nI 60) := q_aln (h := st h K m) (Fk5 F) (by decide) (Fl5 F)
theorem g6 {h : MH} {K m : Nat → Nat → Int32} {j : Nat} {k : Int32 → Res} (F : Fix h) : gfI (st h K m) (some 6) 1 j k = k (K 6 j) := by
  rw [q_gfI (h := st h K m) (Fk6 F), st_r (Or.inl (by decide))]
theorem p6 {h : MH} {K m : Nat → Nat → Int32} {j : Nat} {v : Int32} {k : MH → Res} (F : Fix h) : pfI (st h K m) (some 6) 1 j v k = k (st h (upw K 6 (upd (K 6) j v)) m) := by
  rw [q_pfI (h := st h K m) (Fk6 F), st_w (Or.inl (by decide)), up2_upw]
theorem c6 {h : MH} {K m : Nat → Nat → Int32} {k : Res} (F : Fix h) : chk (st h K m) (some 6) 1 k = k := q_chk (h := st h K m) (Fk6 F)
theorem d7 {h : MH} {K m : Nat → Nat → Int32} {i : Nat} {k : Int32 → Res} (F : Fix h) (hi1 : i < 60) : rdI (st h K m) (some 7) 20 (nI i) k = k (K 7 i) := by
  rw [q_rdI (h := st h K m) (Fk7 F) (Fl7 F) hi1 (by decide), st_r (Or.inl (by decide))]
theorem w7 {h : MH} {K m : Nat → Nat → Int32} {i : Nat} {v : Int32} {k : MH → Res} (F : Fix h) (hi1 : i < 60) : wrI (st h K m) (some 7) 20 (nI i) v k = k (st h (upw K 7 (upd (K 7) i v)) m) := by
  rw [q_wrI (h := st h K m) (Fk7 F) (Fl7 F) hi1 (by decide) (fun q => absurd q (by decide)), st_w (Or.inl (by decide)), up2_upw]
theorem a7 {h : MH} {K m : Nat → Nat → Int32} {k : Int32 → Res} (F : Fix h) : aln (st h K m) (some 7) k = k (nI 60) := q_aln (h := st h K m) (Fk7 F) (by decide) (Fl7 F)
theorem d8 {h : MH} {K m : Nat → Nat → Int32} {i : Nat} {k : Int32 → Res} (F : Fix h) (hi1 : i < 60) : rdI (st h K m) (some 8) 20 (nI i) k = k (K 8 i) := by
  rw [q_rdI (h := st h K m) (Fk8 F) (Fl8 F) hi1 (by decide), st_r (Or.inl (by decide))]
theorem w8 {h : MH} {K m : Nat → Nat → Int32} {i : Nat} {v : Int32} {k : MH → Res} (F : Fix h) (hi1 : i < 60) : wrI (st h K m) (some 8) 20 (nI i) v k = k (st h (upw K 8 (upd (K 8) i v)) m) := by
  rw [q_wrI (h := st h K m) (Fk8 F) (Fl8 F) hi1 (by decide) (fun q => absurd q (by decide)), st_w (Or.inl (by decide)), up2_upw]
theorem a8 {h : MH} {K m : Nat → Nat → Int32} {k : Int32 → Res} (F : Fix h) : aln (st h K m) (some 8) k = k (nI 60) := q_aln (h := st h K m) (Fk8 F) (by decide) (Fl8 F)
theorem d9 {h : MH} {K m : Nat → Nat → Int32} {i : Nat} {k : Int32 → Res} (F : Fix h) (hi1 : i < 60) : rdI (st h K m) (some 9) 20 (nI i) k = k (K 9 i) := by
  rw [q_rdI (h := st h K m) (Fk9 F) (Fl9 F) hi1 (by decide), st_r (Or.inl (by decide))]
theorem w9 {h : MH} {K m : Nat → Nat → Int32} {i : Nat} {v : Int32} {k : MH → Res} (F : Fix h) (hi1 : i < 60) : wrI (st h K m) (some 9) 20 (nI i) v k = k (st h (upw K 9 (upd (K 9) i v)) m) := by
  rw [q_wrI (h := st h K m) (Fk9 F) (Fl9 F) hi1 (by decide) (fun q => absurd q (by decide)), st_w (Or.inl (by decide)), up2_upw]
theorem a9 {h : MH} {K m : Nat → Nat → Int32} {k : Int32 → Res} (F : Fix h) : aln (st h K m) (some 9) k = k (nI 60) := q_aln (h := st h K m) (Fk9 F) (by decide) (Fl9 F)
theorem d10 {h : MH} {K m : Nat → Nat → Int32} {i : Nat} {k : Int32 → Res} (F : Fix h) (hi1 : i < 6) : rdI (st h K m) (some 10) 20 (nI i) k = k (K 10 i) := by
  rw [q_rdI (h := st h K m) (Fk10 F) (Fl10 F) hi1 (by decide), st_r (Or.inl (by decide))]
theorem w10 {h : MH} {K m : Nat → Nat → Int32} {i : Nat} {v : Int32} {k : MH → Res} (F : Fix h) (hi1 : i < 6) : wrI (st h K m) (some 10) 20 (nI i) v k = k (st h (upw K 10 (upd (K 10) i v)) m) := by
  rw [q_wrI (h := st h K m) (Fk10 F) (Fl10 F) hi1 (by decide) (fun q => absurd q (by decide)), st_w (Or.inl (by decide)), up2_upw]
theorem a10 {h : MH} {K m : Nat → Nat → Int32} {k : Int32 → Res} (F : Fix h) : aln (st h K m) (some 10) k = k (nI 6) := q_aln (h := st h K m) (Fk10 F) (by decide) (Fl10 F)
theorem d11 {h : MH} {K m : Nat → Nat → Int32} {i : Nat} {k : Int32 → Res} (F : Fix h) (hi1 : i < 60) : rdI (st h K m) (some 11) 21 (nI i) k = k (K 11 i) := by
  rw [q_rdI (h := st h K m) (Fk11 F) (Fl11 F) hi1 (by decide), st_r (Or.inl (by decide))]
theorem w11 {h : MH} {K m : Nat → Nat → Int32} {i : Nat} {v : Int32} {k : MH → Res} (F : Fix h) (hi1 : i < 60) (hb : v = 0 ∨ v = 1) : wrI (st h K m) (some 11) 21 (nI i) v k = k (st h (upw K 11 (upd (K 11) i v)) m) := by
  rw [q_wrI (h := st h K m) (Fk11 F) (Fl11 F) hi1 (by decide) (fun _ => hb), st_w (Or.inl (by decide)), up2_upw]
theorem a11 {h : MH} {K m : Nat → Nat → Int32} {k : Int32 → Res} (F : Fix h) : aln (st h K m) (some 11) k = k (nI 60) := q_aln (h := st h K m) (Fk11 F) (by decide) (Fl11 F)
theorem d12 {h : MH} {K m : Nat → Nat → Int32} {i : Nat} {k : Int32 → Res} (F : Fix h) (hi1 : i < 60) : rdI (st h K m) (some 12) 20 (nI i) k = k (K 12 i) := by
  rw [q_rdI (h := st h K m) (Fk12 F) (Fl12 F) hi1 (by decide), st_r (Or.inl (by decide))]
theorem w12 {h : MH} {K m : Nat → Nat → Int32} {i : Nat} {v : Int32} {k : MH → Res} (F : Fix h) (hi1 : i < 60) : wrI (st h K m) (some 12) 20 (nI i) v k = k (st h (upw K 12 (upd (K 12) i v)) m) := by
  rw [q_wrI (h := st h K m) (Fk12 F) (Fl12 F) hi1 (by decide) (fun q => absurd q (by decide)), st_w (Or.inl (by decide)), up2_upw]
theorem a12 {h : MH} {K m : Nat → Nat → Int32} {k : Int32 → Res} (F : Fix h) : aln (st h K m) (some 12) k = k (nI 60) := q_aln (h := st h K m) (Fk12 F) (by decide) (Fl12 F)
theorem d13 {h : MH} {K m : Nat → Nat → Int32} {i : Nat} {k : Option Nat → Res} (F : Fix h) (hi1 : i < 8) : rdR (st h K m) (some 13) (nI i) k = k (hr h 13 i) := q_rdR (h := st h K m) (Fk13 F) ⟨by decide, by decide⟩ (Fl13 F) hi1 (by decide)
theorem a13 {h : MH} {K m : Nat → Nat → Int32} {k : Int32 → Res} (F : Fix h) : aln (st h K m) (some 13) k = k (nI 8) := q_aln (h := st h K m) (Fk13 F) (by decide) (Fl13 F)
theorem g14 {h : MH} {K m : Nat → Nat → Int32} {j : Nat} {k : Int32 → Res} (F : Fix h) : gfI (st h K m) (some 14) 2 j k = k (K 14 j) := by
  rw [q_gfI (h := st h K m) (Fk14 F), st_r (Or.inl (by decide))]
theorem p14 {h : MH} {K m : Nat → Nat → Int32} {j : Nat} {v : Int32} {k : MH → Res} (F : Fix h) : pfI (st h K m) (some 14) 2 j v k = k (st h (upw K 14 (upd (K 14) j v)) m) := by
  rw [q_pfI (h := st h K m) (Fk14 F), st_w (Or.inl (by decide)), up2_upw]
theorem c14 {h : MH} {K m : Nat → Nat → Int32} {k : Res} (F : Fix h) : chk (st h K m) (some 14) 2 k = k := q_chk (h := st h K m) (Fk14 F)
theorem d15 {h : MH} {K m : Nat → Nat → Int32} {i : Nat} {k : Option Nat → Res} (F : Fix h) (hi1 : i < 100) : rdR (st h K m) (some 15) (nI i) k = k (hr h 15 i) := q_rdR (h := st h K m) (Fk15 F) ⟨by decide, by decide⟩ (Fl15 F) hi1 (by decide)
theorem a15 {h : MH} {K m : Nat → Nat → Int32} {k : Int32 → Res} (F : Fix h) : aln (st h K m) (some 15) k = k (nI 100) := q_aln (h := st h K m) (Fk15 F) (by decide) (Fl15 F)
theorem g16 {h : MH} {K m : Nat → Nat → Int32} {j : Nat} {k : Int32 → Res} (F : Fix h) : gfI (st h K m) (some 16) 7 j k = k (K 16 j) := by
  rw [q_gfI (h := st h K m) (Fk16 F), st_r (Or.inl (by decide))]
theorem p16 {h : MH} {K m : Nat → Nat → Int32} {j : Nat} {v : Int32} {k : MH → Res} (F : Fix h) : pfI (st h K m) (some 16) 7 j v k = k (st h (upw K 16 (upd (K 16) j v)) m) := by
  rw [q_pfI (h := st h K m) (Fk16 F), st_w (Or.inl (by decide)), up2_upw]
theorem c16 {h : MH} {K m : Nat → Nat → Int32} {k : Res} (F : Fix h) : chk (st h K m) (some 16) 7 k = k := q_chk (h := st h K m) (Fk16 F)
theorem d17 {h : MH} {K m : Nat → Nat → Int32} {i : Nat} {k : Int32 → Res} (F : Fix h) (hi1 : i < 30) : rdI (st h K m) (some 17) 20 (nI i) k = k (K 17 i) := by
  rw [q_rdI (h := st h K m) (Fk17 F) (Fl17 F) hi1 (by decide), st_r (Or.inl (by decide))]
theorem w17 {h : MH} {K m : Nat → Nat → Int32} {i : Nat} {v : Int32} {k : MH → Res} (F : Fix h) (hi1 : i < 30) : wrI (st h K m) (some 17) 20 (nI i) v k = k (st h (upw K 17 (upd (K 17) i v)) m) := by
  rw [q_wrI (h := st h K m) (Fk17 F) (Fl17 F) hi1 (by decide) (fun q => absurd q (by decide)), st_w (Or.inl (by decide)), up2_upw]
theorem a17 {h : MH} {K m : Nat → Nat → Int32} {k : Int32 → Res} (F : Fix h) : aln (st h K m) (some 17) k = k (nI 30) := q_aln (h := st h K m) (Fk17 F) (by decide) (Fl17 F)
theorem d18 {h : MH} {K m : Nat → Nat → Int32} {i : Nat} {k : Int32 → Res} (F : Fix h) (hi1 : i < 20) : rdI (st h K m) (some 18) 20 (nI i) k = k (K 18 i) := by
  rw [q_rdI (h := st h K m) (Fk18 F) (Fl18 F) hi1 (by decide), st_r (Or.inl (by decide))]
theorem w18 {h : MH} {K m : Nat → Nat → Int32} {i : Nat} {v : Int32} {k : MH → Res} (F : Fix h) (hi1 : i < 20) : wrI (st h K m) (some 18) 20 (nI i) v k = k (st h (upw K 18 (upd (K 18) i v)) m) := by
  rw [q_wrI (h := st h K m) (Fk18 F) (Fl18 F) hi1 (by decide) (fun q => absurd q (by decide)), st_w (Or.inl (by decide)), up2_upw]
theorem a18 {h : MH} {K m : Nat → Nat → Int32} {k : Int32 → Res} (F : Fix h) : aln (st h K m) (some 18) k = k (nI 20) := q_aln (h := st h K m) (Fk18 F) (by decide) (Fl18 F)
theorem d19 {h : MH} {K m : Nat → Nat → Int32} {i : Nat} {k : Int32 → Res} (F : Fix h) (hi1 : i < 20) : rdI (st h K m) (some 19) 20 (nI i) k = k (K 19 i) := by
  rw [q_rdI (h := st h K m) (Fk19 F) (Fl19 F) hi1 (by decide), st_r (Or.inl (by decide))]
theorem w19 {h : MH} {K m : Nat → Nat → Int32} {i : Nat} {v : Int32} {k : MH → Res} (F : Fix h) (hi1 : i < 20) : wrI (st h K m) (some 19) 20 (nI i) v k = k (st h (upw K 19 (upd (K 19) i v)) m) := by
  rw [q_wrI (h := st h K m) (Fk19 F) (Fl19 F) hi1 (by decide) (fun q => absurd q (by decide)), st_w (Or.inl (by decide)), up2_upw]
theorem a19 {h : MH} {K m : Nat → Nat → Int32} {k : Int32 → Res} (F : Fix h) : aln (st h K m) (some 19) k = k (nI 20) := q_aln (h := st h K m) (Fk19 F) (by decide) (Fl19 F)
theorem d20 {h : MH} {K m : Nat → Nat → Int32} {i : Nat} {k : Option Nat → Res} (F : Fix h) (hi1 : i < 4) : rdR (st h K m) (some 20) (nI i) k = k (hr h 20 i) := q_rdR (h := st h K m) (Fk20 F) ⟨by decide, by decide⟩ (Fl20 F) hi1 (by decide)
theorem a20 {h : MH} {K m : Nat → Nat → Int32} {k : Int32 → Res} (F : Fix h) : aln (st h K m) (some 20) k = k (nI 4) := q_aln (h := st h K m) (Fk20 F) (by decide) (Fl20 F)
theorem d21 {h : MH} {K m : Nat → Nat → Int32} {i : Nat} {k : Option Nat → Res} (F : Fix h) (hi1 : i < 6) : rdR (st h K m) (some 21) (nI i) k = k (hr h 21 i) := q_rdR (h := st h K m) (Fk21 F) ⟨by decide, by decide⟩ (Fl21 F) hi1 (by decide)
theorem a21 {h : MH} {K m : Nat → Nat → Int32} {k : Int32 → Res} (F : Fix h) : aln (st h K m) (some 21) k = k (nI 6) := q_aln (h := st h K m) (Fk21 F) (by decide) (Fl21 F)
theorem d22 {h : MH} {K m : Nat → Nat → Int32} {i : Nat} {k : Int32 → Res} (F : Fix h) (hi1 : i < 60) : rdI (st h K m) (some 22) 20 (nI i) k = k (m 22 i) := by
  rw [q_rdI (h := st h K m) (Fk22 F) (Fl22 F) hi1 (by decide), st_rm ⟨by decide, by decide⟩]
theorem w22 {h : MH} {K m : Nat → Nat → Int32} {i : Nat} {v : Int32} {k : MH → Res} (F : Fix h) (hi1 : i < 60) : wrI (st h K m) (some 22) 20 (nI i) v k = k (st h K (upw m 22 (upd (m 22) i v))) := by
  rw [q_wrI (h := st h K m) (Fk22 F) (Fl22 F) hi1 (by decide) (fun q => absurd q (by decide)), st_wm ⟨by decide, by decide⟩, up2_upw]
theorem a22 {h : MH} {K m : Nat → Nat → Int32} {k : Int32 → Res} (F : Fix h) : aln (st h K m) (some 22) k = k (nI 60) := q_aln (h := st h K m) (Fk22 F) (by decide) (Fl22 F)
theorem d23 {h : MH} {K m : Nat → Nat → Int32} {i : Nat} {k : Int32 → Res} (F : Fix h) (hi1 : i < 60) : rdI (st h K m) (some 23) 20 (nI i) k = k (m 23 i) := by
  rw [q_rdI (h := st h K m) (Fk23 F) (Fl23 F) hi1 (by decide), st_rm ⟨by decide, by decide⟩]
theorem w23 {h : MH} {K m : Nat → Nat → Int32} {i : Nat} {v : Int32} {k : MH → Res} (F : Fix h) (hi1 : i < 60) : wrI (st h K m) (some 23) 20 (nI i) v k = k (st h K (upw m 23 (upd (m 23) i v))) := by
  rw [q_wrI (h := st h K m) (Fk23 F) (Fl23 F) hi1 (by decide) (fun q => absurd q (by decide)), st_wm ⟨by decide, by decide⟩, up2_upw]
theorem a23 {h : MH} {K m : Nat → Nat → Int32} {k : Int32 → Res} (F : Fix h) : aln (st h K m) (some 23) k = k (nI 60) := q_aln (h := st h K m) (Fk23 F) (by decide) (Fl23 F)
theorem d24 {h : MH} {K m : Nat → Nat → Int32} {i : Nat} {k : Int32 → Res} (F : Fix h) (hi1 : i < 60) : rdI (st h K m) (some 24) 20 (nI i) k = k (m 24 i) := by
  rw [q_rdI (h := st h K m) (Fk24 F) (Fl24 F) hi1 (by decide), st_rm ⟨by decide, by decide⟩]
theorem w24 {h : MH} {K m : Nat → Nat → Int32} {i : Nat} {v : Int32} {k : MH → Res} (F : Fix h) (hi1 : i < 60) : wrI (st h K m) (some 24) 20 (nI i) v k = k (st h K (upw m 24 (upd (m 24) i v))) := by
  rw [q_wrI (h := st h K m) (Fk24 F) (Fl24 F) hi1 (by decide) (fun q => absurd q (by decide)), st_wm ⟨by decide, by decide⟩, up2_upw]
theorem a24 {h : MH} {K m : Nat → Nat → Int32} {k : Int32 → Res} (F : Fix h) : aln (st h K m) (some 24) k = k (nI 60) := q_aln (h := st h K m) (Fk24 F) (by decide) (Fl24 F)
theorem d25 {h : MH} {K m : Nat → Nat → Int32} {i : Nat} {k : Int32 → Res} (F : Fix h) (hi1 : i < 60) : rdI (st h K m) (some 25) 20 (nI i) k = k (m 25 i) := by
  rw [q_rdI (h := st h K m) (Fk25 F) (Fl25 F) hi1 (by decide), st_rm ⟨by decide, by decide⟩]
theorem w25 {h : MH} {K m : Nat → Nat → Int32} {i : Nat} {v : Int32} {k : MH → Res} (F : Fix h) (hi1 : i < 60) : wrI (st h K m) (some 25) 20 (nI i) v k = k (st h K (upw m 25 (upd (m 25) i v))) := by
  rw [q_wrI (h := st h K m) (Fk25 F) (Fl25 F) hi1 (by decide) (fun q => absurd q (by decide)), st_wm ⟨by decide, by decide⟩, up2_upw]
theorem a25 {h : MH} {K m : Nat → Nat → Int32} {k : Int32 → Res} (F : Fix h) : aln (st h K m) (some 25) k = k (nI 60) := q_aln (h := st h K m) (Fk25 F) (by decide) (Fl25 F)
theorem d26 {h : MH} {K m : Nat → Nat → Int32} {i : Nat} {k : Int32 → Res} (F : Fix h) (hi1 : i < 60) : rdI (st h K m) (some 26) 20 (nI i) k = k (m 26 i) := by
  rw [q_rdI (h := st h K m) (Fk26 F) (Fl26 F) hi1 (by decide), st_rm ⟨by decide, by decide⟩]
theorem w26 {h : MH} {K m : Nat → Nat → Int32} {i : Nat} {v : Int32} {k : MH → Res} (F : Fix h) (hi1 : i < 60) : wrI (st h K m) (some 26) 20 (nI i) v k = k (st h K (upw m 26 (upd (m 26) i v))) := by
  rw [q_wrI (h := st h K m) (Fk26 F) (Fl26 F) hi1 (by decide) (fun q => absurd q (by decide)), st_wm ⟨by decide, by decide⟩, up2_upw]
theorem a26 {h : MH} {K m : Nat → Nat → Int32} {k : Int32 → Res} (F : Fix h) : aln (st h K m) (some 26) k = k (nI 60) := q_aln (h := st h K m) (Fk26 F) (by decide) (Fl26 F)
theorem d27 {h : MH} {K m : Nat → Nat → Int32} {i : Nat} {k : Int32 → Res} (F : Fix h) (hi1 : i < 64) : rdI (st h K m) (some 27) 20 (nI i) k = k (m 27 i) := by
  rw [q_rdI (h := st h K m) (Fk27 F) (Fl27 F) hi1 (by decide), st_rm ⟨by decide, by decide⟩]
theorem w27 {h : MH} {K m : Nat → Nat → Int32} {i : Nat} {v : Int32} {k : MH → Res} (F : Fix h) (hi1 : i < 64) : wrI (st h K m) (some 27) 20 (nI i) v k = k (st h K (upw m 27 (upd (m 27) i v))) := by
  rw [q_wrI (h := st h K m) (Fk27 F) (Fl27 F) hi1 (by decide) (fun q => absurd q (by decide)), st_wm ⟨by decide, by decide⟩, up2_upw]
theorem a27 {h : MH} {K m : Nat → Nat → Int32} {k : Int32 → Res} (F : Fix h) : aln (st h K m) (some 27) k = k (nI 64) := q_aln (h := st h K m) (Fk27 F) (by decide) (Fl27 F)
theorem d28 {h : MH} {K m : Nat → Nat → Int32} {i : Nat} {k : Int32 → Res} (F : Fix h) (hi1 : i < 30) : rdI (st h K m) (some 28) 20 (nI i) k = k (m 28 i) := by
  rw [q_rdI (h := st h K m) (Fk28 F) (Fl28 F) hi1 (by decide), st_rm ⟨by decide, by decide⟩]
theorem w28 {h : MH} {K m : Nat → Nat → Int32} {i : Nat} {v : Int32} {k : MH → Res} (F : Fix h) (hi1 : i < 30) : wrI (st h K m) (some 28) 20 (nI i) v k = k (st h K (upw m 28 (upd (m 28) i v))) := by
  rw [q_wrI (h := st h K m) (Fk28 F) (Fl28 F) hi1 (by decide) (fun q => absurd q (by decide)), st_wm ⟨by decide, by decide⟩, up2_upw]
theorem a28 {h : MH} {K m : Nat → Nat → Int32} {k : Int32 → Res} (F : Fix h) : aln (st h K m) (some 28) k = k (nI 30) := q_aln (h := st h K m) (Fk28 F) (by decide) (Fl28 F)
theorem d29 {h : MH} {K m : Nat → Nat → Int32} {i : Nat} {k : Int32 → Res} (F : Fix h) (hi1 : i < 40) : rdI (st h K m) (some 29) 20 (nI i) k = k (m 29 i) := by
  rw [q_rdI (h := st h K m) (Fk29 F) (Fl29 F) hi1 (by decide), st_rm ⟨by decide, by decide⟩]
theorem w29 {h : MH} {K m : Nat → Nat → Int32} {i : Nat} {v : Int32} {k : MH → Res} (F : Fix h) (hi1 : i < 40) : wrI (st h K m) (some 29) 20 (nI i) v k = k (st h K (upw m 29 (upd (m 29) i v))) := by
  rw [q_wrI (h := st h K m) (Fk29 F) (Fl29 F) hi1 (by decide) (fun q => absurd q (by decide)), st_wm ⟨by decide, by decide⟩, up2_upw]
theorem a29 {h : MH} {K m : Nat → Nat → Int32} {k : Int32 → Res} (F : Fix h) : aln (st h K m) (some 29) k = k (nI 40) := q_aln (h := st h K m) (Fk29 F) (by decide) (Fl29 F)
theorem d30 {h : MH} {K m : Nat → Nat → Int32} {i : Nat} {k : Int32 → Res} (F : Fix h) (hi1 : i < 64) : rdI (st h K m) (some 30) 20 (nI i) k = k (m 30 i) := by
  rw [q_rdI (h := st h K m) (Fk30 F) (Fl30 F) hi1 (by decide), st_rm ⟨by decide, by decide⟩]
theorem w30 {h : MH} {K m : Nat → Nat → Int32} {i : Nat} {v : Int32} {k : MH → Res} (F : Fix h) (hi1 : i < 64) : wrI (st h K m) (some 30) 20 (nI i) v k = k (st h K (upw m 30 (upd (m 30) i v))) := by
  rw [q_wrI (h := st h K m) (Fk30 F) (Fl30 F) hi1 (by decide) (fun q => absurd q (by decide)), st_wm ⟨by decide, by decide⟩, up2_upw]
theorem a30 {h : MH} {K m : Nat → Nat → Int32} {k : Int32 → Res} (F : Fix h) : aln (st h K m) (some 30) k = k (nI 64) := q_aln (h := st h K m) (Fk30 F) (by decide) (Fl30 F)
theorem d31 {h : MH} {K m : Nat → Nat → Int32} {i : Nat} {k : Int32 → Res} (F : Fix h) (hi1 : i < 64) : rdI (st h K m) (some 31) 20 (nI i) k = k (m 31 i) := by
  rw [q_rdI (h := st h K m) (Fk31 F) (Fl31 F) hi1 (by decide), st_rm ⟨by decide, by decide⟩]
theorem w31 {h : MH} {K m : Nat → Nat → Int32} {i : Nat} {v : Int32} {k : MH → Res} (F : Fix h) (hi1 : i < 64) : wrI (st h K m) (some 31) 20 (nI i) v k = k (st h K (upw m 31 (upd (m 31) i v))) := by
  rw [q_wrI (h := st h K m) (Fk31 F) (Fl31 F) hi1 (by decide) (fun q => absurd q (by decide)), st_wm ⟨by decide, by decide⟩, up2_upw]
theorem a31 {h : MH} {K m : Nat → Nat → Int32} {k : Int32 → Res} (F : Fix h) : aln (st h K m) (some 31) k = k (nI 64) := q_aln (h := st h K m) (Fk31 F) (by decide) (Fl31 F)
theorem d32 {h : MH} {K m : Nat → Nat → Int32} {i : Nat} {k : Int32 → Res} (F : Fix h) (hi1 : i < 64) : rdI (st h K m) (some 32) 20 (nI i) k = k (m 32 i) := by
  rw [q_rdI (h := st h K m) (Fk32 F) (Fl32 F) hi1 (by decide), st_rm ⟨by decide, by decide⟩]
theorem w32 {h : MH} {K m : Nat → Nat → Int32} {i : Nat} {v : Int32} {k : MH → Res} (F : Fix h) (hi1 : i < 64) : wrI (st h K m) (some 32) 20 (nI i) v k = k (st h K (upw m 32 (upd (m 32) i v))) := by
  rw [q_wrI (h := st h K m) (Fk32 F) (Fl32 F) hi1 (by decide) (fun q => absurd q (by decide)), st_wm ⟨by decide, by decide⟩, up2_upw]
theorem a32 {h : MH} {K m : Nat → Nat → Int32} {k : Int32 → Res} (F : Fix h) : aln (st h K m) (some 32) k = k (nI 64) := q_aln (h := st h K m) (Fk32 F) (by decide) (Fl32 F)
theorem d33 {h : MH} {K m : Nat → Nat → Int32} {i : Nat} {k : Int32 → Res} (F : Fix h) (hi1 : i < 60) : rdI (st h K m) (some 33) 20 (nI i) k = k (m 33 i) := by
  rw [q_rdI (h := st h K m) (Fk33 F) (Fl33 F) hi1 (by decide), st_rm ⟨by decide, by decide⟩]
theorem w33 {h : MH} {K m : Nat → Nat → Int32} {i : Nat} {v : Int32} {k : MH → Res} (F : Fix h) (hi1 : i < 60) : wrI (st h K m) (some 33) 20 (nI i) v k = k (st h K (upw m 33 (upd (m 33) i v))) := by
  rw [q_wrI (h := st h K m) (Fk33 F) (Fl33 F) hi1 (by decide) (fun q => absurd q (by decide)), st_wm ⟨by decide, by decide⟩, up2_upw]
theorem a33 {h : MH} {K m : Nat → Nat → Int32} {k : Int32 → Res} (F : Fix h) : aln (st h K m) (some 33) k = k (nI 60) := q_aln (h := st h K m) (Fk33 F) (by decide) (Fl33 F)
theorem d34 {h : MH} {K m : Nat → Nat → Int32} {i : Nat} {k : Int32 → Res} (F : Fix h) (hi1 : i < 60) : rdI (st h K m) (some 34) 20 (nI i) k = k (m 34 i) := by
  rw [q_rdI (h := st h K m) (Fk34 F) (Fl34 F) hi1 (by decide), st_rm ⟨by decide, by decide⟩]
theorem w34 {h : MH} {K m : Nat → Nat → Int32} {i : Nat} {v : Int32} {k : MH → Res} (F : Fix h) (hi1 : i < 60) : wrI (st h K m) (some 34) 20 (nI i) v k = k (st h K (upw m 34 (upd (m 34) i v))) := by
  rw [q_wrI (h := st h K m) (Fk34 F) (Fl34 F) hi1 (by decide) (fun q => absurd q (by decide)), st_wm ⟨by decide, by decide⟩, up2_upw]
theorem a34 {h : MH} {K m : Nat → Nat → Int32} {k : Int32 → Res} (F : Fix h) : aln (st h K m) (some 34) k = k (nI 60) := q_aln (h := st h K m) (Fk34 F) (by decide) (Fl34 F)
theorem d35 {h : MH} {K m : Nat → Nat → Int32} {i : Nat} {k : Int32 → Res} (F : Fix h) (hi1 : i < 60) : rdI (st h K m) (some 35) 20 (nI i) k = k (m 35 i) := by
  rw [q_rdI (h := st h K m) (Fk35 F) (Fl35 F) hi1 (by decide), st_rm ⟨by decide, by decide⟩]
theorem w35 {h : MH} {K m : Nat → Nat → Int32} {i : Nat} {v : Int32} {k : MH → Res} (F : Fix h) (hi1 : i < 60) : wrI (st h K m) (some 35) 20 (nI i) v k = k (st h K (upw m 35 (upd (m 35) i v))) := by
  rw [q_wrI (h := st h K m) (Fk35 F) (Fl35 F) hi1 (by decide) (fun q => absurd q (by decide)), st_wm ⟨by decide, by decide⟩, up2_upw]
theorem a35 {h : MH} {K m : Nat → Nat → Int32} {k : Int32 → Res} (F : Fix h) : aln (st h K m) (some 35) k = k (nI 60) := q_aln (h := st h K m) (Fk35 F) (by decide) (Fl35 F)
theorem d36 {h : MH} {K m : Nat → Nat → Int32} {i : Nat} {k : Int32 → Res} (F : Fix h) (hi1 : i < 60) : rdI (st h K m) (some 36) 20 (nI i) k = k (m 36 i) := by
  rw [q_rdI (h := st h K m) (Fk36 F) (Fl36 F) hi1 (by decide), st_rm ⟨by decide, by decide⟩]
theorem w36 {h : MH} {K m : Nat → Nat → Int32} {i : Nat} {v : Int32} {k : MH → Res} (F : Fix h) (hi1 : i < 60) : wrI (st h K m) (some 36) 20 (nI i) v k = k (st h K (upw m 36 (upd (m 36) i v))) := by
  rw [q_wrI (h := st h K m) (Fk36 F) (Fl36 F) hi1 (by decide) (fun q => absurd q (by decide)), st_wm ⟨by decide, by decide⟩, up2_upw]
theorem a36 {h : MH} {K m : Nat → Nat → Int32} {k : Int32 → Res} (F : Fix h) : aln (st h K m) (some 36) k = k (nI 60) := q_aln (h := st h K m) (Fk36 F) (by decide) (Fl36 F)
theorem d37 {h : MH} {K m : Nat → Nat → Int32} {i : Nat} {k : Int32 → Res} (F : Fix h) (hi1 : i < 16) : rdI (st h K m) (some 37) 20 (nI i) k = k (m 37 i) := by
  rw [q_rdI (h := st h K m) (Fk37 F) (Fl37 F) hi1 (by decide), st_rm ⟨by decide, by decide⟩]
theorem w37 {h : MH} {K m : Nat → Nat → Int32} {i : Nat} {v : Int32} {k : MH → Res} (F : Fix h) (hi1 : i < 16) : wrI (st h K m) (some 37) 20 (nI i) v k = k (st h K (upw m 37 (upd (m 37) i v))) := by
  rw [q_wrI (h := st h K m) (Fk37 F) (Fl37 F) hi1 (by decide) (fun q => absurd q (by decide)), st_wm ⟨by decide, by decide⟩, up2_upw]
theorem a37 {h : MH} {K m : Nat → Nat → Int32} {k : Int32 → Res} (F : Fix h) : aln (st h K m) (some 37) k = k (nI 16) := q_aln (h := st h K m) (Fk37 F) (by decide) (Fl37 F)
theorem r1_0 {h : MH} {K m : Nat → Nat → Int32} {k : Option Nat → Res} (F : Fix h) : gfR (st h K m) (some 1) 8 0 k = k (some 2) := by
  rw [q_gfR (h := st h K m) (Fk1 F)]; exact congrArg k (F.r 1 0 2)
theorem r1_1 {h : MH} {K m : Nat → Nat → Int32} {k : Option Nat → Res} (F : Fix h) : gfR (st h K m) (some 1) 8 1 k = k (some 13) := by
  rw [q_gfR (h := st h K m) (Fk1 F)]; exact congrArg k (F.r 1 1 13)
theorem r1_2 {h : MH} {K m : Nat → Nat → Int32} {k : Option Nat → Res} (F : Fix h) : gfR (st h K m) (some 1) 8 2 k = k (some 14) := by
  rw [q_gfR (h := st h K m) (Fk1 F)]; exact congrArg k (F.r 1 2 14)
theorem r1_3 {h : MH} {K m : Nat → Nat → Int32} {k : Option Nat → Res} (F : Fix h) : gfR (st h K m) (some 1) 8 3 k = k (some 16) := by
  rw [q_gfR (h := st h K m) (Fk1 F)]; exact congrArg k (F.r 1 3 16)
theorem r1_4 {h : MH} {K m : Nat → Nat → Int32} {k : Option Nat → Res} (F : Fix h) : gfR (st h K m) (some 1) 8 4 k = k (some 20) := by
  rw [q_gfR (h := st h K m) (Fk1 F)]; exact congrArg k (F.r 1 4 20)
theorem r1_5 {h : MH} {K m : Nat → Nat → Int32} {k : Option Nat → Res} (F : Fix h) : gfR (st h K m) (some 1) 8 5 k = k (some 21) := by
  rw [q_gfR (h := st h K m) (Fk1 F)]; exact congrArg k (F.r 1 5 21)
theorem r2_0 {h : MH} {K m : Nat → Nat → Int32} {k : Option Nat → Res} (F : Fix h) : gfR (st h K m) (some 2) 5 0 k = k (some 3) := by
  rw [q_gfR (h := st h K m) (Fk2 F)]; exact congrArg k (F.r 2 0 3)
theorem r2_1 {h : MH} {K m : Nat → Nat → Int32} {k : Option Nat → Res} (F : Fix h) : gfR (st h K m) (some 2) 5 1 k = k (some 6) := by
  rw [q_gfR (h := st h K m) (Fk2 F)]; exact congrArg k (F.r 2 1 6)
theorem r2_2 {h : MH} {K m : Nat → Nat → Int32} {k : Option Nat → Res} (F : Fix h) : gfR (st h K m) (some 2) 5 2 k = k (some 9) := by
  rw [q_gfR (h := st h K m) (Fk2 F)]; exact congrArg k (F.r 2 2 9)
theorem r2_3 {h : MH} {K m : Nat → Nat → Int32} {k : Option Nat → Res} (F : Fix h) : gfR (st h K m) (some 2) 5 3 k = k (some 10) := by
  rw [q_gfR (h := st h K m) (Fk2 F)]; exact congrArg k (F.r 2 3 10)
theorem r2_5 {h : MH} {K m : Nat → Nat → Int32} {k : Option Nat → Res} (F : Fix h) : gfR (st h K m) (some 2) 5 5 k = k (some 11) := by
  rw [q_gfR (h := st h K m) (Fk2 F)]; exact congrArg k (F.r 2 5 11)
theorem r2_6 {h : MH} {K m : Nat → Nat → Int32} {k : Option Nat → Res} (F : Fix h) : gfR (st h K m) (some 2) 5 6 k = k (some 12) := by
  rw [q_gfR (h := st h K m) (Fk2 F)]; exact congrArg k (F.r 2 6 12)
theorem r3_0 {h : MH} {K m : Nat → Nat → Int32} {k : Option Nat → Res} (F : Fix h) : gfR (st h K m) (some 3) 1 0 k = k (some 4) := by
  rw [q_gfR (h := st h K m) (Fk3 F)]; exact congrArg k (F.r 3 0 4)
theorem r3_1 {h : MH} {K m : Nat → Nat → Int32} {k : Option Nat → Res} (F : Fix h) : gfR (st h K m) (some 3) 1 1 k = k (some 5) := by
  rw [q_gfR (h := st h K m) (Fk3 F)]; exact congrArg k (F.r 3 1 5)
theorem r6_0 {h : MH} {K m : Nat → Nat → Int32} {k : Option Nat → Res} (F : Fix h) : gfR (st h K m) (some 6) 1 0 k = k (some 7) := by
  rw [q_gfR (h := st h K m) (Fk6 F)]; exact congrArg k (F.r 6 0 7)
theorem r6_1 {h : MH} {K m : Nat → Nat → Int32} {k : Option Nat → Res} (F : Fix h) : gfR (st h K m) (some 6) 1 1 k = k (some 8) := by
  rw [q_gfR (h := st h K m) (Fk6 F)]; exact congrArg k (F.r 6 1 8)
theorem r14_0 {h : MH} {K m : Nat → Nat → Int32} {k : Option Nat → Res} (F : Fix h) : gfR (st h K m) (some 14) 2 0 k = k (some 15) := by
  rw [q_gfR (h := st h K m) (Fk14 F)]; exact congrArg k (F.r 14 0 15)
theorem r16_1 {h : MH} {K m : Nat → Nat → Int32} {k : Option Nat → Res} (F : Fix h) : gfR (st h K m) (some 16) 7 1 k = k (some 17) := by
  rw [q_gfR (h := st h K m) (Fk16 F)]; exact congrArg k (F.r 16 1 17)
theorem r16_2 {h : MH} {K m : Nat → Nat → Int32} {k : Option Nat → Res} (F : Fix h) : gfR (st h K m) (some 16) 7 2 k = k (some 18) := by
  rw [q_gfR (h := st h K m) (Fk16 F)]; exact congrArg k (F.r 16 2 18)
theorem r16_3 {h : MH} {K m : Nat → Nat → Int32} {k : Option Nat → Res} (F : Fix h) : gfR (st h K m) (some 16) 7 3 k = k (some 19) := by
  rw [q_gfR (h := st h K m) (Fk16 F)]; exact congrArg k (F.r 16 3 19)
