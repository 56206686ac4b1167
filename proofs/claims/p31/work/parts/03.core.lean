/-! small machine: values, heap, worlds -/
abbrev MV : Type := Int32 ⊕ (Option Nat ⊕ Int64)
abbrev vI (x : Int32) : MV := Sum.inl x
abbrev vR (r : Option Nat) : MV := Sum.inr (Sum.inl r)
abbrev vL (x : Int64) : MV := Sum.inr (Sum.inr x)
def cv (ad : Nat → Nat) (v : MV) : Value := match v with
  | .inl x => .int x
  | .inr (.inl r) => va_rf (r.map ad)
  | .inr (.inr x) => .long x
def cvl (ad : Nat → Nat) (q : Nat × MV) : Nat × Value := (q.1, cv ad q.2)
def okv (n : Nat) (v : MV) : Prop := ∀ a : Nat, v = vR (some a) → a ≤ n
theorem okv_I {n : Nat} {x : Int32} : okv n (vI x) := fun a h => by cases h
theorem okv_L {n : Nat} {x : Int64} : okv n (vL x) := fun a h => by cases h
theorem okv_N {n : Nat} : okv n (vR none) := fun a h => by cases h
theorem okv_mono {n m : Nat} {v : MV} (h : okv n v) (hm : n ≤ m) : okv m v := fun a e => Nat.le_trans (h a e) hm
theorem cv_congr {n : Nat} {v : MV} {ad ad' : Nat → Nat} (h : okv n v) (e : ∀ z, z < n + 1 → ad' z = ad z) : cv ad' v = cv ad v := by
  rcases v with x | r | x
  · rfl
  · cases r with
    | none => rfl
    | some a =>
      show va_rf (some (ad' a)) = va_rf (some (ad a))
      rw [e a (by have := h a rfl; omega)]
  · rfl
theorem map_cv_congr {n : Nat} {st : List MV} {ad ad' : Nat → Nat} (h : ∀ v ∈ st, okv n v) (e : ∀ z, z < n + 1 → ad' z = ad z) : st.map (cv ad') = st.map (cv ad) :=
  List.map_congr_left fun v hv => cv_congr (h v hv) e
theorem map_cvl_congr {n : Nat} {L : List (Nat × MV)} {ad ad' : Nat → Nat} (h : ∀ q ∈ L, okv n q.2) (e : ∀ z, z < n + 1 → ad' z = ad z) : L.map (cvl ad') = L.map (cvl ad) :=
  List.map_congr_left fun q hq => by unfold cvl; rw [cv_congr (h q hq) e]
abbrev MH : Type := (Nat → Nat) × (Nat → Nat) × (Nat → Nat → Int32) × (Nat → Nat → Option Nat) × (Nat → Nat → Int64) × Nat × Nat × Nat
def hk (h : MH) : Nat → Nat := h.1
def hl (h : MH) : Nat → Nat := h.2.1
def hi (h : MH) : Nat → Nat → Int32 := h.2.2.1
def hr (h : MH) : Nat → Nat → Option Nat := h.2.2.2.1
def hq (h : MH) : Nat → Nat → Int64 := h.2.2.2.2.1
def hn (h : MH) : Nat := h.2.2.2.2.2.1
def hc (h : MH) : Nat := h.2.2.2.2.2.2.1
def hs (h : MH) : Nat := h.2.2.2.2.2.2.2
def up2 {α : Type} (f : Nat → Nat → α) (a j : Nat) (v : α) : Nat → Nat → α := fun b k => if b = a ∧ k = j then v else f b k
def upr {α : Type} (f : Nat → Nat → α) (a : Nat) (g : Nat → α) : Nat → Nat → α := fun b k => if b = a then g k else f b k
def up1 {α : Type} (f : Nat → α) (a : Nat) (v : α) : Nat → α := fun b => if b = a then v else f b
def sI (h : MH) (a j : Nat) (v : Int32) : MH := (hk h, hl h, up2 (hi h) a j v, hr h, hq h, hn h, hc h, hs h)
def sR (h : MH) (a j : Nat) (v : Option Nat) : MH := (hk h, hl h, hi h, up2 (hr h) a j v, hq h, hn h, hc h, hs h)
def sQ (h : MH) (a j : Nat) (v : Int64) : MH := (hk h, hl h, hi h, hr h, up2 (hq h) a j v, hn h, hc h, hs h)
def sIr (h : MH) (a : Nat) (f : Nat → Int32) : MH := (hk h, hl h, upr (hi h) a f, hr h, hq h, hn h, hc h, hs h)
def alc (h : MH) (k n : Nat) : MH := (up1 (hk h) (hn h + 1) k, up1 (hl h) (hn h + 1) n, upr (hi h) (hn h + 1) (fun _ => 0), upr (hr h) (hn h + 1) (fun _ => none), upr (hq h) (hn h + 1) (fun _ => 0), hn h + 1, hc h + 1, hs h + n)
def exc (h : MH) : MH := (hk h, hl h, hi h, hr h, hq h, hn h, hc h + 1, hs h + 6)
def Hle (h h' : MH) : Prop := hn h ≤ hn h' ∧ hc h ≤ hc h' ∧ hs h ≤ hs h'
theorem Hle.rf {h : MH} : Hle h h := ⟨Nat.le_refl _, Nat.le_refl _, Nat.le_refl _⟩
theorem Hle.tr {a b c : MH} (h1 : Hle a b) (h2 : Hle b c) : Hle a c := ⟨Nat.le_trans h1.1 h2.1, Nat.le_trans h1.2.1 h2.2.1, Nat.le_trans h1.2.2 h2.2.2⟩
/-! tables of the classes -/
def CL : List vw_C := [(RX0, TX0, 9), (RX1, TX1, 2), (RX2, TX2, 3), (RX0, TX0, 9), (RX4, TX4, 7), (RX5, TX5, 8), (RX6, TX6, 3), (RX7, TX7, 5), (RX8, TX8, 10)]
def nF (k : Nat) : Nat := [9, 2, 3, 9, 7, 8, 3, 5, 10, 0].getD k 0
def RN (k : Nat) : String := [RX0, RX1, RX2, RX0, RX4, RX5, RX6, RX7, RX8, RX3].getD k ""
def TN (k : Nat) : u_T := [TX0, TX1, TX2, TX0, TX4, TX5, TX6, TX7, TX8, TX3].getD k TX0
def tyN (k : Nat) : Nat → FieldType := [tyX0, tyX1, tyX2, tyX0, tyX4, tyX5, tyX6, tyX7, tyX8, tyX3].getD k tyX0
def isRt (t : FieldType) : Bool := match t with
  | .object _ => true
  | .array _ => true
  | _ => false
def isR (k j : Nat) : Bool := isRt (tyN k j)
def AK : List Nat := [20, 21, 22, 23, 24, 25]
def tyK (k : Nat) : FieldType := match k with
  | 20 => .int
  | 21 => .boolean
  | 22 => .object RX0
  | 23 => .object RX3
  | 24 => .object RX4
  | 25 => .object RX6
  | _ => .long
def coK (k : Nat) : Nat := match k with
  | 22 => 0
  | 23 => 9
  | 24 => 4
  | _ => 6
def TYL (cy : Nat → ClassId) : List (ClassId × FieldType) := AK.map fun k => (cy k, tyK k)
def clO (cy : Nat → ClassId) (ad : Nat → Nat) (h : MH) (a : Nat) : va_E :=
  if hk h a < 20 then .inr (hk h a, (List.range (nF (hk h a))).map fun j => if isR (hk h a) j = true then va_rf ((hr h a j).map ad) else .int (hi h a j))
  else if hk h a < 22 then .inl (cy (hk h a), hl h a, .inl (hi h a))
  else if hk h a < 30 then .inl (cy (hk h a), hl h a, .inr (.inr (.inr (.inr fun j => (hr h a j).map ad))))
  else .inl (cy (hk h a), hl h a, .inr (.inl (hq h a)))
def wsO (cy : Nat → ClassId) (ad : Nat → Nat) (h : MH) : va_W := (List.range (hn h)).map fun k => (ad (k + 1), clO cy ad h (k + 1))
abbrev bA (base : Nat) : Nat → Prop := fun q => base ≤ q
def Wld (D : va_G) (cy : Nat → ClassId) (base : Nat) (ad : Nat → Nat) (h : MH) (H : Heap) : Prop :=
  va_P D CL (wsO cy ad h) H ∧ va_D (bA base) (wsO cy ad h) ∧ (∀ a, (a = 0 ∨ hn h < a) → 40 ≤ hk h a) ∧ ∀ a j r, hr h a j = some r → r ≤ hn h
theorem wsO_len {cy : Nat → ClassId} {ad : Nat → Nat} {h : MH} : (wsO cy ad h).length = hn h := by simp [wsO]
theorem wsO_at {cy : Nat → ClassId} {ad : Nat → Nat} {h : MH} {k : Nat} (hk : k < hn h) : (wsO cy ad h)[k]? = some (ad (k + 1), clO cy ad h (k + 1)) := by
  simp [wsO, hk]
theorem Wld.inb {D : va_G} {cy : Nat → ClassId} {base : Nat} {ad : Nat → Nat} {h : MH} {H : Heap} (w : Wld D cy base ad h H) {a : Nat} (ha : hk h a < 40) : ∃ q, q < hn h ∧ a = q + 1 := by
  have h1 : ¬ (a = 0 ∨ hn h < a) := fun q => absurd (w.2.2.1 a q) (by omega)
  exact ⟨a - 1, by omega, by omega⟩
theorem clO_obj {cy : Nat → ClassId} {ad : Nat → Nat} {h : MH} {a ci : Nat} (hka : hk h a = ci) (hci : ci < 20) : clO cy ad h a = .inr (ci, (List.range (nF ci)).map fun j => if isR ci j = true then va_rf ((hr h a j).map ad) else .int (hi h a j)) := by
  unfold clO; rw [hka, if_pos hci]
theorem clO_int {cy : Nat → ClassId} {ad : Nat → Nat} {h : MH} {a k : Nat} (hka : hk h a = k) (h1 : ¬ k < 20) (h2 : k < 22) : clO cy ad h a = .inl (cy k, hl h a, .inl (hi h a)) := by
  unfold clO; rw [hka, if_neg h1, if_pos h2]
theorem clO_ref {cy : Nat → ClassId} {ad : Nat → Nat} {h : MH} {a k : Nat} (hka : hk h a = k) (h1 : ¬ k < 22) (h2 : k < 30) : clO cy ad h a = .inl (cy k, hl h a, .inr (.inr (.inr (.inr fun j => (hr h a j).map ad)))) := by
  unfold clO; rw [hka, if_neg (by omega), if_neg h1, if_pos h2]
theorem clO_lng {cy : Nat → ClassId} {ad : Nat → Nat} {h : MH} {a : Nat} (hka : hk h a = 30) : clO cy ad h a = .inl (cy 30, hl h a, .inr (.inl (hq h a))) := by
  unfold clO; rw [hka, if_neg (by omega), if_neg (by omega), if_neg (by omega)]
theorem TYL_at {cy : Nat → ClassId} {k : Nat} (hk : k ∈ AK) : ∃ t0 : Nat, (TYL cy)[t0]? = some (cy k, tyK k) := by
  obtain ⟨t0, ht⟩ := List.getElem?_of_mem hk
  exact ⟨t0, by simp [TYL, ht]⟩
theorem clO_arr {cy : Nat → ClassId} {ad : Nat → Nat} {h : MH} {a k : Nat} (hka : hk h a = k) (h1 : ¬ k < 20) : ∃ x : vp_A, clO cy ad h a = .inl (cy k, x) ∧ x.1 = hl h a := by
  unfold clO
  rw [hka, if_neg h1]
  by_cases h2 : k < 22
  · rw [if_pos h2]; exact ⟨_, rfl, rfl⟩
  · rw [if_neg h2]
    by_cases h3 : k < 30
    · rw [if_pos h3]; exact ⟨_, rfl, rfl⟩
    · rw [if_neg h3]; exact ⟨_, rfl, rfl⟩
theorem CL_at {ci : Nat} (h : ci < 9) : CL[ci]? = some (RN ci, TN ci, nF ci) := by
  match ci, h with
  | 0, _ => rfl
  | 1, _ => rfl
  | 2, _ => rfl
  | 3, _ => rfl
  | 4, _ => rfl
  | 5, _ => rfl
  | 6, _ => rfl
  | 7, _ => rfl
  | 8, _ => rfl
  | n + 9, h => exact absurd h (by omega)
theorem tyN_ok {ci : Nat} (h : ci < 9) : ∀ k, k < nF ci → parseFieldDescriptor ((TN ci) k).2.2.1 = some (tyN ci k) := by
  match ci, h with
  | 0, _ => exact tyX0_ok
  | 1, _ => exact tyX1_ok
  | 2, _ => exact tyX2_ok
  | 3, _ => exact tyX0_ok
  | 4, _ => exact tyX4_ok
  | 5, _ => exact tyX5_ok
  | 6, _ => exact tyX6_ok
  | 7, _ => exact tyX7_ok
  | 8, _ => exact tyX8_ok
  | n + 9, h => exact absurd h (by omega)
theorem nmN {ci : Nat} (h : ci < 9) : ∀ a, a < nF ci → ∀ b, b < nF ci → a ≠ b → ((TN ci) a).2.1 ≠ ((TN ci) b).2.1 := by
  match ci, h with
  | 0, _ => exact nmX0
  | 1, _ => exact nmX1
  | 2, _ => exact nmX2
  | 3, _ => exact nmX0
  | 4, _ => exact nmX4
  | 5, _ => exact nmX5
  | 6, _ => exact nmX6
  | 7, _ => exact nmX7
  | 8, _ => exact nmX8
  | n + 9, h => exact absurd h (by omega)
def GW : List Cond := lw_tbl.filter goodWord
theorem GW_of {w : Cond} (h : w ∈ lw_tbl) (g : goodWord w = true) : w ∈ GW := List.mem_filter.mpr ⟨h, g⟩
theorem GW_t {w : Cond} (h : w ∈ GW) : w ∈ lw_tbl := (List.mem_filter.mp h).1
theorem GW_g {w : Cond} (h : w ∈ GW) : goodWord w = true := (List.mem_filter.mp h).2
theorem uws_g (C : String) (T : u_T) (N : Nat) : ∀ w ∈ u_ws C T N, goodWord w = true := by
  intro w hw
  obtain ⟨k, -, rfl⟩ := List.mem_map.mp hw
  unfold u_lay
  split <;> rfl
theorem inN0 : ∀ w ∈ wsX00, w ∈ lw_tbl := by decide +kernel
theorem inN1 : ∀ w ∈ wsX10, w ∈ lw_tbl := by decide +kernel
theorem inN2 : ∀ w ∈ wsX20, w ∈ lw_tbl := by decide +kernel
theorem inN4 : ∀ w ∈ wsX40, w ∈ lw_tbl := by decide +kernel
theorem inN5 : ∀ w ∈ wsX50, w ∈ lw_tbl := by decide +kernel
theorem inN6 : ∀ w ∈ wsX60, w ∈ lw_tbl := by decide +kernel
theorem inN7 : ∀ w ∈ wsX70, w ∈ lw_tbl := by decide +kernel
theorem inN8 : ∀ w ∈ wsX80, w ∈ lw_tbl := by decide +kernel
theorem inN {ci : Nat} (h : ci < 9) : ∀ w ∈ u_ws (RN ci) (TN ci) (nF ci), w ∈ GW := by
  intro w hw
  refine GW_of ?_ (uws_g _ _ _ w hw)
  match ci, h with
  | 0, _ => exact inN0 w hw
  | 1, _ => exact inN1 w hw
  | 2, _ => exact inN2 w hw
  | 3, _ => exact inN0 w hw
  | 4, _ => exact inN4 w hw
  | 5, _ => exact inN5 w hw
  | 6, _ => exact inN6 w hw
  | 7, _ => exact inN7 w hw
  | 8, _ => exact inN8 w hw
  | n + 9, h => exact absurd h (by omega)
/-! worlds change -/
theorem map_set_eq {α : Type} {n k : Nat} {f g : Nat → α} (hk : k < n) (h : ∀ j, j < n → j ≠ k → g j = f j) : ((List.range n).map f).set k (g k) = (List.range n).map g := by
  apply List.ext_getElem?
  intro i
  by_cases hi : i < n
  · by_cases e : i = k
    · subst e
      rw [List.getElem?_set_self (by simp [hk])]
      simp [hk]
    · rw [List.getElem?_set_ne (Ne.symm e)]
      simp [hi, h i hi e]
  · have h1 : ((List.range n).map g)[i]? = none := by simp; omega
    rw [h1]
    rw [List.getElem?_eq_none_iff]
    simp; omega
theorem wsO_set {cy : Nat → ClassId} {ad : Nat → Nat} {h h2 : MH} {q : Nat} {e : va_E} (hq : q < hn h) (hn2 : hn h2 = hn h) (he : e = clO cy ad h2 (q + 1)) (ho : ∀ b, b ≠ q + 1 → clO cy ad h2 b = clO cy ad h b) : (wsO cy ad h).set q (ad (q + 1), e) = wsO cy ad h2 := by
  subst he
  unfold wsO
  rw [hn2]
  exact map_set_eq (f := fun k => (ad (k + 1), clO cy ad h (k + 1))) (g := fun k => (ad (k + 1), clO cy ad h2 (k + 1))) hq (fun j _ hj => by show (_, _) = (_, _); rw [ho (j + 1) (by omega)])
theorem up2_s {α : Type} {f : Nat → Nat → α} {a j : Nat} {v : α} : up2 f a j v a j = v := by simp [up2]
theorem up2_o {α : Type} {f : Nat → Nat → α} {a j b k : Nat} {v : α} (h : ¬ (b = a ∧ k = j)) : up2 f a j v b k = f b k := by simp [up2, h]
theorem up2_row {f : Nat → Nat → Int32} {a j : Nat} {v : Int32} : up2 f a j v a = upd (f a) j v := by
  funext k; simp [up2, upd]
theorem up2_oth {α : Type} {f : Nat → Nat → α} {a j b : Nat} {v : α} (h : b ≠ a) : up2 f a j v b = f b := by
  funext k; simp [up2, h]
theorem upr_s {α : Type} {f : Nat → Nat → α} {a : Nat} {g : Nat → α} : upr f a g a = g := by funext k; simp [upr]
theorem upr_o {α : Type} {f : Nat → Nat → α} {a b : Nat} {g : Nat → α} (h : b ≠ a) : upr f a g b = f b := by funext k; simp [upr, h]
theorem clO_same {cy : Nat → ClassId} {ad ad' : Nat → Nat} {h h2 : MH} {b : Nat} (e1 : hk h2 b = hk h b) (e2 : hl h2 b = hl h b) (e3 : hi h2 b = hi h b) (e4 : hr h2 b = hr h b) (e5 : hq h2 b = hq h b) (ea : ∀ j, (hr h b j).map ad' = (hr h b j).map ad) : clO cy ad' h2 b = clO cy ad h b := by
  unfold clO
  rw [e1, e2, e3, e4, e5]
  simp only [ea]
