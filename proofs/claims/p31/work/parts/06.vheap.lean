/-! the heap read and written -/
def gfI (h : MH) (r : Option Nat) (ci j : Nat) (k : Int32 → Res) : Res := match r with
  | none => none
  | some a => if hk h a = ci then k (hi h a j) else none
def gfR (h : MH) (r : Option Nat) (ci j : Nat) (k : Option Nat → Res) : Res := match r with
  | none => none
  | some a => if hk h a = ci then k (hr h a j) else none
def pfI (h : MH) (r : Option Nat) (ci j : Nat) (v : Int32) (k : MH → Res) : Res := match r with
  | none => none
  | some a => if hk h a = ci then k (sI h a j v) else none
def pfR (h : MH) (r : Option Nat) (ci j : Nat) (v : Option Nat) (k : MH → Res) : Res := match r with
  | none => none
  | some a => if hk h a = ci then k (sR h a j v) else none
def rdI (h : MH) (r : Option Nat) (kd : Nat) (i : Int32) (k : Int32 → Res) : Res := match r with
  | none => none
  | some a => if hk h a = kd ∧ 0 ≤ i ∧ i.toNatClampNeg < hl h a then k (hi h a i.toNatClampNeg) else none
def wrI (h : MH) (r : Option Nat) (kd : Nat) (i v : Int32) (k : MH → Res) : Res := match r with
  | none => none
  | some a => if hk h a = kd ∧ 0 ≤ i ∧ i.toNatClampNeg < hl h a ∧ (kd = 21 → v = 0 ∨ v = 1) then k (sI h a i.toNatClampNeg v) else none
def rdR (h : MH) (r : Option Nat) (i : Int32) (k : Option Nat → Res) : Res := match r with
  | none => none
  | some a => if (22 ≤ hk h a ∧ hk h a < 26) ∧ 0 ≤ i ∧ i.toNatClampNeg < hl h a then k (hr h a i.toNatClampNeg) else none
def wrR (h : MH) (r : Option Nat) (i : Int32) (v : Option Nat) (k : MH → Res) : Res := match r with
  | none => none
  | some a => match v with
    | none => none
    | some b => if (22 ≤ hk h a ∧ hk h a < 26) ∧ 0 ≤ i ∧ i.toNatClampNeg < hl h a ∧ hk h b = coK (hk h a) ∧ coK (hk h a) < 9 then k (sR h a i.toNatClampNeg (some b)) else none
def rdQ (h : MH) (r : Option Nat) (i : Int32) (k : Int64 → Res) : Res := match r with
  | none => none
  | some a => if hk h a = 30 ∧ 0 ≤ i ∧ i.toNatClampNeg < hl h a then k (hq h a i.toNatClampNeg) else none
def wrQ (h : MH) (r : Option Nat) (i : Int32) (v : Int64) (k : MH → Res) : Res := match r with
  | none => none
  | some a => if hk h a = 30 ∧ 0 ≤ i ∧ i.toNatClampNeg < hl h a then k (sQ h a i.toNatClampNeg v) else none
def aln (h : MH) (r : Option Nat) (k : Int32 → Res) : Res := match r with
  | none => none
  | some a => if hk h a ∈ AK then k (Int32.ofNat (hl h a)) else none
def nwO (h : MH) (ci : Nat) (k : Option Nat → MH → Res) : Res := k (some (hn h + 1)) (alc h ci (nF ci))
def nwA (h : MH) (kd : Nat) (n : Int32) (k : Option Nat → MH → Res) : Res := if 0 ≤ n ∧ n.toNatClampNeg ≤ 1000 then k (some (hn h + 1)) (alc h kd n.toNatClampNeg) else none
theorem up1_o {α : Type} {f : Nat → α} {a b : Nat} {v : α} (h : b ≠ a) : up1 f a v b = f b := if_neg h
theorem up1_s {α : Type} {f : Nat → α} {a : Nat} {v : α} : up1 f a v a = v := if_pos rfl
theorem vpin {i : Int32} {n : Nat} (h0 : 0 ≤ i) (h1 : i.toNatClampNeg < n) : vp_in i n := by
  rintro (h | h)
  · exact absurd h (Int32.not_lt.mpr h0)
  · omega
theorem nwf {t : FieldType} (h : isRt t = true) (v : Option Nat) : narrow t (va_rf v) = va_rf v ∧ fits t (va_rf v) = true := by
  cases t <;> first | (cases v <;> exact ⟨rfl, rfl⟩) | (simp [isRt] at h)
theorem AK40 {k : Nat} (h : k ∈ AK) : 20 ≤ k ∧ k < 40 := by
  simp [AK] at h; omega
theorem Wld.low {D : va_G} {cy : Nat → ClassId} {base : Nat} {ad : Nat → Nat} {h : MH} {H : Heap} (w : Wld D cy base ad h H) {a k : Nat} (hka : hk h a = k) (h4 : k < 40) : ∃ q, q < hn h ∧ a = q + 1 := w.inb (by omega)
theorem RA_inj {s : State} {a b : ClassId} {ty : FieldType} (h1 : va_RA s a ty) (h2 : va_RA s b ty) : a = b := by
  cases ty with
  | object C =>
    obtain ⟨_, _, _, _, _, g1⟩ := h1
    obtain ⟨_, _, _, _, _, g2⟩ := h2
    exact Option.some.inj (g1.symm.trans g2)
  | _ => exact Option.some.inj (Eq.trans (Eq.symm h1) h2)
theorem Wld.sIo {D : va_G} {cy : Nat → ClassId} {base : Nat} {ad : Nat → Nat} {h : MH} {H H1 : Heap} {q ci j : Nat} {v : Int32} (w : Wld D cy base ad h H) (hq0 : q < hn h) (hka : hk h (q + 1) = ci) (hci : ci < 20) (hj : j < nF ci) (hI : isR ci j = false)
    (hP : va_P D CL ((wsO cy ad h).set q (ad (q + 1), .inr (ci, ((List.range (nF ci)).map fun j => if isR ci j = true then va_rf ((hr h (q + 1) j).map ad) else .int (hi h (q + 1) j)).set j (.int v)))) H1)
    (hD : va_D (bA base) ((wsO cy ad h).set q (ad (q + 1), .inr (ci, ((List.range (nF ci)).map fun j => if isR ci j = true then va_rf ((hr h (q + 1) j).map ad) else .int (hi h (q + 1) j)).set j (.int v))))) : Wld D cy base ad (sI h (q + 1) j v) H1 := by
  have e : (wsO cy ad h).set q (ad (q + 1), .inr (ci, ((List.range (nF ci)).map fun j => if isR ci j = true then va_rf ((hr h (q + 1) j).map ad) else .int (hi h (q + 1) j)).set j (.int v))) = wsO cy ad (sI h (q + 1) j v) := by
    refine wsO_set hq0 rfl ?_ (fun b hb => clO_same rfl rfl (up2_oth hb) rfl rfl (fun _ => rfl))
    rw [clO_obj (h := sI h (q + 1) j v) (ci := ci) hka hci]
    refine congrArg _ (congrArg _ ?_)
    have := map_set_eq (n := nF ci) (k := j) (f := fun j => if isR ci j = true then va_rf ((hr h (q + 1) j).map ad) else Value.int (hi h (q + 1) j)) (g := fun k => if isR ci k = true then va_rf ((hr h (q + 1) k).map ad) else Value.int (hi (sI h (q + 1) j v) (q + 1) k)) hj (fun k _ hne => by
      show (if _ then _ else Value.int (up2 (hi h) (q + 1) j v (q + 1) k)) = _
      rw [up2_o (by rintro ⟨-, e⟩; exact hne e)])
    rw [← show (fun k => if isR ci k = true then va_rf ((hr h (q + 1) k).map ad) else Value.int (hi (sI h (q + 1) j v) (q + 1) k)) j = Value.int v by
      show (if isR ci j = true then _ else Value.int (up2 (hi h) (q + 1) j v (q + 1) j)) = _
      rw [hI, up2_s]; rfl]
    exact this
  rw [e] at hP hD
  exact ⟨hP, hD, w.2.2.1, w.2.2.2⟩
theorem Wld.sRo {D : va_G} {cy : Nat → ClassId} {base : Nat} {ad : Nat → Nat} {h : MH} {H H1 : Heap} {q ci j : Nat} {v : Option Nat} (w : Wld D cy base ad h H) (hq0 : q < hn h) (hka : hk h (q + 1) = ci) (hci : ci < 20) (hj : j < nF ci) (hR : isR ci j = true) (hv : okv (hn h) (vR v))
    (hP : va_P D CL ((wsO cy ad h).set q (ad (q + 1), .inr (ci, ((List.range (nF ci)).map fun j => if isR ci j = true then va_rf ((hr h (q + 1) j).map ad) else .int (hi h (q + 1) j)).set j (va_rf (v.map ad))))) H1)
    (hD : va_D (bA base) ((wsO cy ad h).set q (ad (q + 1), .inr (ci, ((List.range (nF ci)).map fun j => if isR ci j = true then va_rf ((hr h (q + 1) j).map ad) else .int (hi h (q + 1) j)).set j (va_rf (v.map ad)))))) : Wld D cy base ad (sR h (q + 1) j v) H1 := by
  have e : (wsO cy ad h).set q (ad (q + 1), .inr (ci, ((List.range (nF ci)).map fun j => if isR ci j = true then va_rf ((hr h (q + 1) j).map ad) else .int (hi h (q + 1) j)).set j (va_rf (v.map ad)))) = wsO cy ad (sR h (q + 1) j v) := by
    refine wsO_set hq0 rfl ?_ (fun b hb => clO_same rfl rfl rfl (up2_oth hb) rfl (fun _ => rfl))
    rw [clO_obj (h := sR h (q + 1) j v) (ci := ci) hka hci]
    refine congrArg _ (congrArg _ ?_)
    have := map_set_eq (n := nF ci) (k := j) (f := fun j => if isR ci j = true then va_rf ((hr h (q + 1) j).map ad) else Value.int (hi h (q + 1) j)) (g := fun k => if isR ci k = true then va_rf ((hr (sR h (q + 1) j v) (q + 1) k).map ad) else Value.int (hi h (q + 1) k)) hj (fun k _ hne => by
      show (if _ then va_rf ((up2 (hr h) (q + 1) j v (q + 1) k).map ad) else _) = _
      rw [up2_o (by rintro ⟨-, e⟩; exact hne e)])
    rw [← show (fun k => if isR ci k = true then va_rf ((hr (sR h (q + 1) j v) (q + 1) k).map ad) else Value.int (hi h (q + 1) k)) j = va_rf (v.map ad) by
      show (if isR ci j = true then va_rf ((up2 (hr h) (q + 1) j v (q + 1) j).map ad) else _) = _
      rw [hR, up2_s]; rfl]
    exact this
  rw [e] at hP hD
  refine ⟨hP, hD, w.2.2.1, fun a k r hra => ?_⟩
  by_cases q9 : a = q + 1 ∧ k = j
  · have h1 : up2 (hr h) (q + 1) j v a k = some r := hra
    obtain ⟨rfl, rfl⟩ := q9
    rw [up2_s] at h1
    exact hv r (by rw [h1])
  · have h1 : up2 (hr h) (q + 1) j v a k = some r := hra
    rw [up2_o q9] at h1
    exact w.2.2.2 a k r h1
theorem Wld.sIa {D : va_G} {cy : Nat → ClassId} {base : Nat} {ad : Nat → Nat} {h : MH} {H H1 : Heap} {q kd : Nat} {f : Nat → Int32} (w : Wld D cy base ad h H) (hq0 : q < hn h) (hka : hk h (q + 1) = kd) (h1 : ¬ kd < 20) (h2 : kd < 22)
    (hP : va_P D CL ((wsO cy ad h).set q (ad (q + 1), .inl (cy kd, hl h (q + 1), .inl f))) H1) (hD : va_D (bA base) ((wsO cy ad h).set q (ad (q + 1), .inl (cy kd, hl h (q + 1), .inl f)))) {h9 : MH} (e9 : h9 = sIr h (q + 1) f) : Wld D cy base ad h9 H1 := by
  subst e9
  have e : (wsO cy ad h).set q (ad (q + 1), .inl (cy kd, hl h (q + 1), .inl f)) = wsO cy ad (sIr h (q + 1) f) := by
    refine wsO_set hq0 rfl ?_ (fun b hb => clO_same rfl rfl (upr_o hb) rfl rfl (fun _ => rfl))
    rw [clO_int (h := sIr h (q + 1) f) (k := kd) hka h1 h2]
    show _ = Sum.inl (cy kd, hl h (q + 1), Sum.inl (upr (hi h) (q + 1) f (q + 1)))
    rw [upr_s]
  rw [e] at hP hD
  exact ⟨hP, hD, w.2.2.1, w.2.2.2⟩
theorem sI_row {h : MH} {a j : Nat} {v : Int32} : sI h a j v = sIr h a (upd (hi h a) j v) := by
  unfold sI sIr
  have : up2 (hi h) a j v = upr (hi h) a (upd (hi h a) j v) := by
    funext b k
    by_cases e : b = a
    · subst e; simp [up2, upr, upd]
    · simp [up2, upr, e]
  rw [this]
theorem Wld.sRa {D : va_G} {cy : Nat → ClassId} {base : Nat} {ad : Nat → Nat} {h : MH} {H H1 : Heap} {q kd j b : Nat} (w : Wld D cy base ad h H) (hq0 : q < hn h) (hka : hk h (q + 1) = kd) (h1 : ¬ kd < 22) (h2 : kd < 30) (hb : b ≤ hn h)
    (hP : va_P D CL ((wsO cy ad h).set q (ad (q + 1), .inl (cy kd, hl h (q + 1), .inr (.inr (.inr (.inr (va_up (fun j => (hr h (q + 1) j).map ad) j (some (ad b))))))))) H1)
    (hD : va_D (bA base) ((wsO cy ad h).set q (ad (q + 1), .inl (cy kd, hl h (q + 1), .inr (.inr (.inr (.inr (va_up (fun j => (hr h (q + 1) j).map ad) j (some (ad b)))))))))) : Wld D cy base ad (sR h (q + 1) j (some b)) H1 := by
  have e : (wsO cy ad h).set q (ad (q + 1), .inl (cy kd, hl h (q + 1), .inr (.inr (.inr (.inr (va_up (fun j => (hr h (q + 1) j).map ad) j (some (ad b)))))))) = wsO cy ad (sR h (q + 1) j (some b)) := by
    refine wsO_set hq0 rfl ?_ (fun b hb => clO_same rfl rfl rfl (up2_oth hb) rfl (fun _ => rfl))
    rw [clO_ref (h := sR h (q + 1) j (some b)) (k := kd) hka h1 h2]
    refine congrArg (fun z => Sum.inl (cy kd, hl h (q + 1), Sum.inr (Sum.inr (Sum.inr (Sum.inr z))))) ?_
    funext k
    show _ = (up2 (hr h) (q + 1) j (some b) (q + 1) k).map ad
    by_cases ek : k = j
    · subst ek; rw [up2_s]; simp [va_up]
    · rw [up2_o (by rintro ⟨-, z⟩; exact ek z)]; simp [va_up, ek, hr]
  rw [e] at hP hD
  refine ⟨hP, hD, w.2.2.1, fun a k r hra => ?_⟩
  by_cases q9 : a = q + 1 ∧ k = j
  · have h1 : up2 (hr h) (q + 1) j (some b) a k = some r := hra
    obtain ⟨rfl, rfl⟩ := q9
    rw [up2_s] at h1
    cases h1
    exact hb
  · have h1 : up2 (hr h) (q + 1) j (some b) a k = some r := hra
    rw [up2_o q9] at h1
    exact w.2.2.2 a k r h1
/-- a new cell -/
theorem Wld.push {D : va_G} {cy : Nat → ClassId} {base : Nat} {ad : Nat → Nat} {h : MH} {H H1 : Heap} {q kd n : Nat} {e : va_E} (w : Wld D cy base ad h H) (he : e = clO cy (up1 ad (hn h + 1) q) (alc h kd n) (hn h + 1))
    (hP : va_P D CL (wsO cy ad h ++ [(q, e)]) H1) (hD : va_D (bA base) (wsO cy ad h ++ [(q, e)])) : Wld D cy base (up1 ad (hn h + 1) q) (alc h kd n) H1 := by
  have e0 : wsO cy ad h ++ [(q, e)] = wsO cy (up1 ad (hn h + 1) q) (alc h kd n) := by
    subst he
    unfold wsO
    show _ = (List.range (hn h + 1)).map _
    rw [List.range_succ, List.map_append]
    congr 1
    · refine List.map_congr_left fun k hmem => ?_
      have hk2 : k < hn h := List.mem_range.mp hmem
      have hne : k + 1 ≠ hn h + 1 := by omega
      have ha : up1 ad (hn h + 1) q (k + 1) = ad (k + 1) := up1_o hne
      show (_, _) = (_, _)
      rw [ha]
      refine congrArg (fun z => (ad (k + 1), z)) (Eq.symm (clO_same ?_ ?_ (upr_o hne) (upr_o hne) (upr_o hne) (fun j => ?_)))
      · exact up1_o hne
      · exact up1_o hne
      · cases hj : hr h (k + 1) j with
        | none => rfl
        | some r =>
          have := w.2.2.2 _ _ _ hj
          show some (up1 ad (hn h + 1) q r) = some (ad r)
          simp [up1]; omega
    · show [(q, _)] = [(up1 ad (hn h + 1) q (hn h + 1), _)]
      simp [up1]
  rw [e0] at hP hD
  refine ⟨hP, hD, fun a ha => ?_, fun a j r hra => ?_⟩
  · have h2 : a = 0 ∨ hn h + 1 < a := ha
    show 40 ≤ up1 (hk h) (hn h + 1) kd a
    have hne : a ≠ hn h + 1 := by omega
    simp only [up1, hne, if_false]
    exact w.2.2.1 a (by omega)
  · have h2 : upr (hr h) (hn h + 1) (fun _ => none) a j = some r := hra
    show r ≤ hn h + 1
    by_cases e : a = hn h + 1
    · subst e; rw [upr_s] at h2; cases h2
    · rw [upr_o e] at h2
      have := w.2.2.2 a j r h2
      omega
