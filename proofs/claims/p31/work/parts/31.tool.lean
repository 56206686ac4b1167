/-! small rows of the pure part -/
theorem rtI_def {x : Int32} {h : MH} : calI (rtI x h) = fun k => k x h := rfl
theorem x_rtI {x : Int32} {h : MH} {k : Int32 → MH → Res} : calI (rtI x h) k = k x h := rfl
theorem x_rtV {h : MH} {k : MH → Res} : calV (rtV h) k = k h := rfl
theorem x_rtR {x : Option Nat} {h : MH} {k : Option Nat → MH → Res} : calR (rtR x h) k = k x h := rfl
theorem x_rtQ {x : Int64} {h : MH} {k : Int64 → MH → Res} : calL (rtQ x h) k = k x h := rfl
def bI (b : Prop) [Decidable b] : Int32 := if b then 1 else 0
theorem bI_t {b : Prop} [Decidable b] (h : b) : bI b = 1 := if_pos h
theorem bI_f {b : Prop} [Decidable b] (h : ¬ b) : bI b = 0 := if_neg h
theorem bI_0 {b : Prop} [Decidable b] : (bI b = 0) = ¬ b := by
  unfold bI; split
  · rename_i h; exact propext ⟨fun q => absurd q (by decide), fun q => absurd h q⟩
  · rename_i h; exact propext ⟨fun _ => h, fun _ => rfl⟩
theorem rtZ_0 {h : MH} : rtZ 0 h = rtI 0 h := if_pos (Or.inl rfl)
theorem rtZ_1 {h : MH} : rtZ 1 h = rtI 1 h := if_pos (Or.inr rfl)
theorem rtZ_b {b : Prop} [Decidable b] {h : MH} : rtZ (bI b) h = rtI (bI b) h := by
  unfold bI; split
  · exact rtZ_1
  · exact rtZ_0
theorem rtZ_01 {x : Int32} {h : MH} (hx : x = 0 ∨ x = 1) : rtZ x h = rtI x h := by
  rcases hx with rfl | rfl
  · exact rtZ_0
  · exact rtZ_1
theorem x_bnd {α : Type} {v : α} {k : α → Res} : bnd v k = k v := rfl
theorem q_dv {x y : Int32} {k : Int32 → Res} (h : y ≠ 0) : dvI x y k = k (x / y) := if_neg h
theorem q_rm {x y : Int32} {k : Int32 → Res} (h : y ≠ 0) : rmI x y k = k (x - x / y * y) := if_neg h
/-! ints that are naturals -/
theorem nI0 : (0 : Int32) = nI 0 := rfl
theorem nIs (i : Nat) : nI i + 1 = nI (i + 1) := (nI_succ i).symm
theorem nI_inj {a b : Nat} (ha : a < 1000000) (hb : b < 1000000) : (nI a = nI b) = (a = b) := propext (nI_eq (by omega) (by omega))
theorem nI_leP {a b : Nat} (ha : a < 1000000) (hb : b < 1000000) : (nI a ≤ nI b) = (a ≤ b) := propext (nI_leI (by omega) (by omega))
theorem nI_ltP {a b : Nat} (ha : a < 1000000) (hb : b < 1000000) : (nI a < nI b) = (a < b) := propext (nI_ltI (by omega) (by omega))
theorem nI_nm1 {a : Nat} (ha : a < 1000000) : (nI a = -1) = False := propext ⟨fun q => by
  have := congrArg Int32.toInt q
  rw [nI_toInt (by omega), show (-1 : Int32).toInt = -1 from by decide] at this
  omega, fun q => q.elim⟩
theorem nI_m1n {a : Nat} (ha : a < 1000000) : ((-1 : Int32) = nI a) = False := by
  rw [show ((-1 : Int32) = nI a) = (nI a = -1) from propext eq_comm, nI_nm1 ha]
theorem nI_div {a : Nat} (d : Nat) (ha : a < 1000000) (h0 : 0 < d) (hd : d < 1000000) : nI a / nI d = nI (a / d) := pk_div (by omega) h0 (by omega)
theorem nI_mod {a : Nat} (d : Nat) (ha : a < 1000000) (h0 : 0 < d) (hd : d < 1000000) : nI a - nI a / nI d * nI d = nI (a % d) := pk_rem (by omega) h0 (by omega)
theorem i_le (x y : Int32) : (x ≤ y) = (x.toInt ≤ y.toInt) := propext Int32.le_iff_toInt_le
theorem i_lt (x y : Int32) : (x < y) = (x.toInt < y.toInt) := propext Int32.lt_iff_toInt_lt
theorem i_nle {x y : Int32} : (¬ x ≤ y) = (y < x) := by rw [i_le, i_lt]; exact propext (by omega)
theorem i_nlt {x y : Int32} : (¬ x < y) = (y ≤ x) := by rw [i_le, i_lt]; exact propext (by omega)
/-- an int that lies between is a natural -/
theorem nI_rng {x : Int32} {n : Nat} (hn : n < 1000000) (h0 : 0 ≤ x) (h1 : x ≤ nI n) : ∃ j : Nat, j ≤ n ∧ x = nI j := by
  rcases pk_ix x (n := n + 1) (by omega) with h | h | ⟨j, hj, e⟩
  · rw [i_lt] at h; rw [i_le] at h0; omega
  · exfalso
    have := Int32.le_iff_toInt_le.mp h
    have h2 := Int32.le_iff_toInt_le.mp h1
    rw [nI_toInt (by omega)] at this h2
    omega
  · exact ⟨j, by omega, e⟩
/-! a loop, by its numbers: G n i is the loop with n turns of fuel left, at turn i -/
theorem zlp {G : Nat → Nat → Res} (Inv : Nat → Prop) (N : Nat) (r : Res) (hs : ∀ n i, i < N → Inv i → G (n + 1) i = r ∨ (Inv (i + 1) ∧ G (n + 1) i = G n (i + 1))) (he : ∀ n, Inv N → G (n + 1) N = r) : ∀ k n i, i + k = N → k < n → Inv i → G n i = r := by
  intro k
  induction k with
  | zero =>
    intro n i hi hn h
    obtain ⟨n, rfl⟩ : ∃ q, n = q + 1 := ⟨n - 1, by omega⟩
    have : i = N := by omega
    subst this
    exact he n h
  | succ k ih =>
    intro n i hi hn h
    obtain ⟨n, rfl⟩ : ∃ q, n = q + 1 := ⟨n - 1, by omega⟩
    rcases hs n i (by omega) h with e | ⟨h2, e⟩
    · exact e
    · rw [e]; exact ih n (i + 1) (by omega) (by omega) h2
/-- a loop with no way out but its end, from 0 -/
theorem zlp0 {G : Nat → Nat → Res} {N : Nat} {r : Res} (hN : N < fuel) (hs : ∀ n i, i < N → G (n + 1) i = G n (i + 1)) (he : ∀ n, G (n + 1) N = r) : G fuel 0 = r :=
  zlp (fun _ => True) N r (fun n i h _ => Or.inr ⟨trivial, hs n i h⟩) (fun n _ => he n) N fuel 0 (by omega) hN trivial
theorem zlp1 {G : Nat → Nat → Res} (Inv : Nat → Prop) {N : Nat} {r : Res} (hN : N < fuel) (h0 : Inv 0) (hs : ∀ n i, i < N → Inv i → G (n + 1) i = r ∨ (Inv (i + 1) ∧ G (n + 1) i = G n (i + 1))) (he : ∀ n, Inv N → G (n + 1) N = r) : G fuel 0 = r :=
  zlp Inv N r hs he N fuel 0 (by omega) hN h0
/-- from 0 upwards: the fold of f over 0 .. n-1 -/
def fo {σ : Type} (f : Nat → σ → σ) (s : σ) : Nat → σ
  | 0 => s
  | n + 1 => f n (fo f s n)
theorem upw_id {f : Nat → Nat → Int32} {a : Nat} : upw f a (f a) = f := by
  funext b; unfold upw; split
  · rename_i h; rw [h]
  · rfl
theorem upw_comm {f : Nat → Nat → Int32} {a b : Nat} {g g' : Nat → Int32} (h : a ≠ b) : upw (upw f a g) b g' = upw (upw f b g') a g := by
  funext c; unfold upw
  by_cases h1 : c = a
  · subst h1; simp [h]
  · simp [h1]
/-! rows of ints, at any address of the class or of the model -/
def cA (a : Nat) : Prop := a < 22 ∨ 38 ≤ a
def mA (a : Nat) : Prop := 22 ≤ a ∧ a < 38
theorem K_gf {h : MH} {K m : Nat → Nat → Int32} {a ci j : Nat} {k : Int32 → Res} (hk1 : hk h a = ci) (ha : cA a) : gfI (st h K m) (some a) ci j k = k (K a j) := by
  rw [q_gfI (h := st h K m) hk1, st_r ha]
theorem K_gr {h : MH} {K m : Nat → Nat → Int32} {a ci j : Nat} {k : Option Nat → Res} (hk1 : hk h a = ci) : gfR (st h K m) (some a) ci j k = k (hr h a j) := q_gfR (h := st h K m) hk1
theorem K_pf {h : MH} {K m : Nat → Nat → Int32} {a ci j : Nat} {v : Int32} {k : MH → Res} (hk1 : hk h a = ci) (ha : cA a) : pfI (st h K m) (some a) ci j v k = k (st h (upw K a (upd (K a) j v)) m) := by
  rw [q_pfI (h := st h K m) hk1, st_w ha, up2_upw]
theorem K_ck {h : MH} {K m : Nat → Nat → Int32} {a ci : Nat} {k : Res} (hk1 : hk h a = ci) : chk (st h K m) (some a) ci k = k := q_chk (h := st h K m) hk1
theorem K_rd {h : MH} {K m : Nat → Nat → Int32} {a n i kd : Nat} {k : Int32 → Res} (hk1 : hk h a = kd) (hl1 : hl h a = n) (ha : cA a) (hi1 : i < n) (hn1 : n ≤ 1000) : rdI (st h K m) (some a) kd (nI i) k = k (K a i) := by
  rw [q_rdI (h := st h K m) hk1 hl1 hi1 hn1, st_r ha]
theorem K_wr {h : MH} {K m : Nat → Nat → Int32} {a n i kd : Nat} {v : Int32} {k : MH → Res} (hk1 : hk h a = kd) (hl1 : hl h a = n) (ha : cA a) (hi1 : i < n) (hn1 : n ≤ 1000) (hb : kd = 21 → v = 0 ∨ v = 1) : wrI (st h K m) (some a) kd (nI i) v k = k (st h (upw K a (upd (K a) i v)) m) := by
  rw [q_wrI (h := st h K m) hk1 hl1 hi1 hn1 hb, st_w ha, up2_upw]
theorem K_al {h : MH} {K m : Nat → Nat → Int32} {a n kd : Nat} {k : Int32 → Res} (hk1 : hk h a = kd) (hkd : kd ∈ AK) (hl1 : hl h a = n) : aln (st h K m) (some a) k = k (nI n) := q_aln (h := st h K m) hk1 hkd hl1
theorem m_rd {h : MH} {K m : Nat → Nat → Int32} {a n i kd : Nat} {k : Int32 → Res} (hk1 : hk h a = kd) (hl1 : hl h a = n) (ha : mA a) (hi1 : i < n) (hn1 : n ≤ 1000) : rdI (st h K m) (some a) kd (nI i) k = k (m a i) := by
  rw [q_rdI (h := st h K m) hk1 hl1 hi1 hn1, st_rm ha]
theorem m_wr {h : MH} {K m : Nat → Nat → Int32} {a n i kd : Nat} {v : Int32} {k : MH → Res} (hk1 : hk h a = kd) (hl1 : hl h a = n) (ha : mA a) (hi1 : i < n) (hn1 : n ≤ 1000) (hb : kd = 21 → v = 0 ∨ v = 1) : wrI (st h K m) (some a) kd (nI i) v k = k (st h K (upw m a (upd (m a) i v))) := by
  rw [q_wrI (h := st h K m) hk1 hl1 hi1 hn1 hb, st_wm ha, up2_upw]
theorem st_sr {h : MH} {K m : Nat → Nat → Int32} {a : Nat} {g : Nat → Int32} (ha : cA a) : sIr (st h K m) a g = st h (upw K a g) m := by
  have e : upr (fun a => if 22 ≤ a ∧ a < 38 then m a else K a) a g = (fun b => if 22 ≤ b ∧ b < 38 then m b else upw K a g b) := by
    funext b k
    unfold upr upw
    by_cases hb : b = a
    · subst hb; simp only [if_neg (show ¬ (22 ≤ b ∧ b < 38) by unfold cA at ha; omega), if_true]
    · simp only [hb, if_false]
  show (hk h, hl h, upr (fun a => if 22 ≤ a ∧ a < 38 then m a else K a) a g, hr h, hq h, hn h, hc h, hs h) = _
  rw [e]; rfl
theorem K_cp {h : MH} {K m : Nat → Nat → Int32} {a0 a1 n0 n1 s d n : Nat} {k : MH → Res} (hk0 : hk h a0 = 20) (hk1 : hk h a1 = 20) (hl0 : hl h a0 = n0) (hl1 : hl h a1 = n1) (ha0 : cA a0) (ha1 : cA a1) (h0 : s + n ≤ n0) (h1 : d + n ≤ n1) (hn0 : n0 ≤ 1000) (hn1 : n1 ≤ 1000) : cpI (st h K m) (some a0) (nI s) (some a1) (nI d) (nI n) k = k (st h (upw K a1 (va_cpy (K a0) (K a1) s d n)) m) := by
  have c1 : (nI s).toNatClampNeg = s := nI_clamp (by omega)
  have c2 : (nI d).toNatClampNeg = d := nI_clamp (by omega)
  have c3 : (nI n).toNatClampNeg = n := nI_clamp (by omega)
  have e : cpI (st h K m) (some a0) (nI s) (some a1) (nI d) (nI n) k = k (sIr (st h K m) a1 (va_cpy (hi (st h K m) a0) (hi (st h K m) a1) (nI s).toNatClampNeg (nI d).toNatClampNeg (nI n).toNatClampNeg)) := by
    unfold cpI
    exact if_pos ⟨⟨hk0, hk1⟩, ⟨nI_pos' (by omega), nI_pos' (by omega), nI_pos' (by omega)⟩, by rw [c1, c3]; show s + n ≤ hl h a0; omega, by rw [c2, c3]; show d + n ≤ hl h a1; omega⟩
  rw [e, c1, c2, c3, st_r ha0, st_r ha1, st_sr ha1]
theorem fo_succ {σ : Type} {f : Nat → σ → σ} {s : σ} {n : Nat} : fo f s (n + 1) = f n (fo f s n) := rfl
theorem fo_congr {σ : Type} {f g : Nat → σ → σ} {s : σ} {n : Nat} (h : ∀ i, i < n → ∀ t, f i t = g i t) : fo f s n = fo g s n := by
  induction n with
  | zero => rfl
  | succ n ih => rw [fo_succ, fo_succ, ih (fun i hi => h i (by omega)), h n (by omega)]
