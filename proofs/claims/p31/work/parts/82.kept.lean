/-! what is kept: sums of naturals -/
def smn (f : Nat → Nat) : Nat → Nat
  | 0 => 0
  | n + 1 => smn f n + f n
theorem smn_congr {f g : Nat → Nat} : ∀ {n : Nat}, (∀ j, j < n → f j = g j) → smn f n = smn g n := by
  intro n
  induction n with
  | zero => intro _; rfl
  | succ n ih =>
    intro h
    show smn f n + f n = smn g n + g n
    rw [ih (fun j hj => h j (by omega)), h n (by omega)]
theorem smn_le {f g : Nat → Nat} : ∀ {n : Nat}, (∀ j, j < n → f j ≤ g j) → smn f n ≤ smn g n := by
  intro n
  induction n with
  | zero => intro _; exact Nat.le_refl _
  | succ n ih =>
    intro h
    have h1 := ih (fun j hj => h j (by omega))
    have h2 := h n (by omega)
    show smn f n + f n ≤ smn g n + g n
    omega
theorem smn_at {f : Nat → Nat} : ∀ {n j : Nat}, j < n → f j ≤ smn f n := by
  intro n
  induction n with
  | zero => intro j h; omega
  | succ n ih =>
    intro j h
    show f j ≤ smn f n + f n
    by_cases e : j = n
    · subst e; omega
    · have := ih (j := j) (by omega); omega
theorem smn_upd {f : Nat → Nat} {a v : Nat} : ∀ {n : Nat}, a < n → smn (fun j => if j = a then v else f j) n + f a = smn f n + v := by
  intro n
  induction n with
  | zero => intro h; omega
  | succ n ih =>
    intro h
    show smn (fun j => if j = a then v else f j) n + (if n = a then v else f n) + f a = smn f n + f n + v
    by_cases e : n = a
    · subst e
      rw [if_pos rfl, smn_congr (g := f) (fun j hj => if_neg (by omega))]; omega
    · rw [if_neg e]
      have := ih (by omega); omega
theorem smn_add {f g : Nat → Nat} {n : Nat} : smn (fun j => f j + g j) n = smn f n + smn g n := by
  induction n with
  | zero => rfl
  | succ n ih =>
    show smn (fun j => f j + g j) n + (f n + g n) = smn f n + f n + (smn g n + g n)
    omega
theorem smn_const {v n : Nat} : smn (fun _ => v) n = n * v := by
  induction n with
  | zero => exact (Nat.zero_mul v).symm
  | succ n ih =>
    show smn (fun _ => v) n + v = (n + 1) * v
    rw [ih, Nat.succ_mul]
theorem smn_split {f : Nat → Nat} {a b : Nat} : smn f (a + b) = smn f a + smn (fun j => f (a + j)) b := by
  induction b with
  | zero => rfl
  | succ b ih =>
    show smn f (a + b) + f (a + b) = smn f a + (smn (fun j => f (a + j)) b + f (a + b))
    omega
/-- t goes from c to o -/
def mvn (c o t : Nat) (f : Nat → Nat) : Nat → Nat := fun j => if j = o then (if o = c then f c - t else f o) + t else if j = c then f c - t else f j
theorem mvn_sum {c o t n : Nat} {f : Nat → Nat} (hc : c < n) (ho : o < n) (ht : t ≤ f c) : smn (mvn c o t f) n = smn f n := by
  have h1 := smn_upd (f := f) (v := f c - t) hc
  have h2 := smn_upd (f := fun j => if j = c then f c - t else f j) (v := (if o = c then f c - t else f o) + t) ho
  show smn (fun j => if j = o then (if o = c then f c - t else f o) + t else if j = c then f c - t else f j) n = smn f n
  generalize (if o = c then f c - t else f o) = z at h2 ⊢
  omega
theorem tr_nI {c t : Nat} {o : Option Nat} {r : Nat → Int32} {f : Nat → Nat} (h : ∀ j, j < 60 → r j = nI (f j)) (ht : t ≤ f c) (hc : c < 60) (ho : ∀ q, o = some q → q < 60) : ∃ f', (∀ j, j < 60 → tr c o (nI t) r j = nI (f' j)) ∧ smn f' 60 = smn f 60 ∧ (∀ j, j < 60 → j ≠ c → f j ≤ f' j) ∧ f c - t ≤ f' c := by
  cases o with
  | none => exact ⟨f, h, rfl, fun j _ _ => Nat.le_refl _, Nat.sub_le _ _⟩
  | some o =>
    have ho := ho o rfl
    refine ⟨mvn c o t f, fun j hj => ?_, mvn_sum hc ho ht, fun j hj hne => ?_, ?_⟩
    · show (if j = o then (if o = c then r c - nI t else r o) + nI t else if j = c then r c - nI t else r j) = nI (mvn c o t f j)
      unfold mvn
      rw [h c hc, h o ho, h j hj, pk_sub ht]
      by_cases h1 : j = o
      · rw [if_pos h1, if_pos h1]
        by_cases h2 : o = c
        · rw [if_pos h2, if_pos h2, nI_add]
        · rw [if_neg h2, if_neg h2, nI_add]
      · rw [if_neg h1, if_neg h1]
        by_cases h2 : j = c
        · rw [if_pos h2, if_pos h2]
        · rw [if_neg h2, if_neg h2]
    · unfold mvn
      by_cases h1 : j = o
      · rw [if_pos h1, if_neg (by omega), h1]; omega
      · rw [if_neg h1, if_neg hne]; omega
    · unfold mvn
      by_cases h1 : c = o
      · rw [if_pos h1, if_pos h1.symm]; omega
      · rw [if_neg h1, if_pos rfl]; omega
theorem flow_nI {la cu A : Nat → Int32} {a : Nat → Nat} (hA : ∀ j, j < 60 → A j = nI (a j)) (hs : smn a 60 < 2 ^ 30) : ∃ f, (∀ j, j < 60 → fo (flw la cu A) A 60 j = nI (f j)) ∧ smn f 60 = smn a 60 := by
  have key : ∀ n, n ≤ 60 → ∃ f, (∀ j, j < 60 → fo (flw la cu A) A n j = nI (f j)) ∧ smn f 60 = smn a 60 ∧ ∀ j, j < 60 → n ≤ j → a j ≤ f j := by
    intro n
    induction n with
    | zero => intro _; exact ⟨a, hA, rfl, fun j _ _ => Nat.le_refl _⟩
    | succ n ih =>
      intro hn
      obtain ⟨f, f1, f2, f3⟩ := ih (by omega)
      have hb := smn_at (f := a) (n := 60) (j := n) (by omega)
      have e : A n / 10 = nI (a n / 10) := by rw [hA n (by omega)]; exact pk_div (d := 10) (by omega) (by decide) (by decide)
      have h3 := f3 n (by omega) (Nat.le_refl _)
      obtain ⟨f', g1, g2, g3, -⟩ := tr_nI (c := n) (o := lea la cu n) (t := a n / 10) f1 (by omega) (by omega) (fun q hq => lea_lt (by omega) hq)
      refine ⟨f', fun j hj => ?_, g2.trans f2, fun j hj hnj => ?_⟩
      · rw [fo_succ]
        unfold flw
        rw [e]; exact g1 j hj
      · have := g3 j hj (by omega)
        have := f3 j hj (by omega)
        omega
  obtain ⟨f, h1, h2, -⟩ := key 60 (Nat.le_refl _)
  exact ⟨f, h1, h2⟩
theorem drift_nI {la cu A : Nat → Int32} {a : Nat → Nat} (hA : ∀ j, j < 60 → A j = nI (a j)) (hs : smn a 60 < 2 ^ 28) : ∃ f, (∀ j, j < 60 → fo (drf la cu A) A 60 j = nI (f j)) ∧ smn f 60 = smn a 60 := by
  have key : ∀ n, n ≤ 60 → ∃ f, (∀ j, j < 60 → fo (drf la cu A) A n j = nI (f j)) ∧ smn f 60 = smn a 60 ∧ ∀ j, j < 60 → n ≤ j → a j ≤ f j := by
    intro n
    induction n with
    | zero => intro _; exact ⟨a, hA, rfl, fun j _ _ => Nat.le_refl _⟩
    | succ n ih =>
      intro hn
      obtain ⟨f, f1, f2, f3⟩ := ih (by omega)
      have hb := smn_at (f := a) (n := 60) (j := n) (by omega)
      have hn60 : n < 60 := by omega
      have e : A n / 10 = nI (a n / 10) := by rw [hA n hn60]; exact pk_div (d := 10) (by omega) (by decide) (by decide)
      have e4 : 4 * A n / 10 = nI (4 * a n / 10) := by
        rw [hA n hn60, show (4 : Int32) * nI (a n) = nI (4 * a n) from pk_mul 4 _]
        exact pk_div (d := 10) (by omega) (by decide) (by decide)
      have h3 := f3 n hn60 (Nat.le_refl _)
      obtain ⟨p1, a1, a2, a3, a4⟩ := tr_nI (o := bes la n 1) (t := a n / 10) f1 (by omega) hn60 (fun q hq => bes_lt hn60 hq)
      obtain ⟨p2, b1, b2, b3, b4⟩ := tr_nI (o := bes la n 2) (t := a n / 10) a1 (by omega) hn60 (fun q hq => bes_lt hn60 hq)
      obtain ⟨p3, c1, c2, c3, c4⟩ := tr_nI (o := bes la n 3) (t := a n / 10) b1 (by omega) hn60 (fun q hq => bes_lt hn60 hq)
      obtain ⟨p4, d1, d2, d3, d4⟩ := tr_nI (o := bes la n 4) (t := a n / 10) c1 (by omega) hn60 (fun q hq => bes_lt hn60 hq)
      obtain ⟨p5, e1, e2, e3, -⟩ := tr_nI (o := lea la cu n) (t := 4 * a n / 10) d1 (by omega) hn60 (fun q hq => lea_lt hn60 hq)
      refine ⟨p5, fun j hj => ?_, by rw [e2, d2, c2, b2, a2, f2], fun j hj hnj => ?_⟩
      · rw [fo_succ]
        unfold drf
        rw [e, e4]; exact e1 j hj
      · have q1 := a3 j hj (by omega)
        have q2 := b3 j hj (by omega)
        have q3 := c3 j hj (by omega)
        have q4 := d3 j hj (by omega)
        have q5 := e3 j hj (by omega)
        have q6 := f3 j hj (by omega)
        omega
  obtain ⟨f, h1, h2, -⟩ := key 60 (Nat.le_refl _)
  exact ⟨f, h1, h2⟩
theorem drift_land {la cu A R : Nat → Int32} (hA : ∀ x, x < 60 → la x ≠ 0 → A x = 0) {n j : Nat} (hn : n ≤ 60) (hl : la j ≠ 0) : fo (drf la cu A) R n j = R j := by
  have hb (x d : Nat) (t : Int32) (ht : x = j → t = 0) : gvn x (bes la x d) t j = 0 := by
    unfold gvn
    rw [if_neg (fun z => hl (bes_nbr z).2)]
    by_cases e : x = j ∧ bes la x d ≠ none
    · rw [if_pos e, ht e.1]; decide
    · rw [if_neg e]; decide
  induction n with
  | zero => rfl
  | succ n ih =>
    have z : n = j → A n / 10 = 0 := fun e => by rw [hA n (by omega) (by rw [e]; exact hl)]; decide
    have z4 : n = j → 4 * A n / 10 = 0 := fun e => by rw [hA n (by omega) (by rw [e]; exact hl)]; decide
    show tr n (lea la cu n) (4 * A n / 10) (tr n (bes la n 4) (A n / 10) (tr n (bes la n 3) (A n / 10) (tr n (bes la n 2) (A n / 10) (tr n (bes la n 1) (A n / 10) (fo (drf la cu A) R n))))) j = R j
    rw [tr_gv, tr_gv, tr_gv, tr_gv, tr_gv, ih (by omega), hb n 1 _ z, hb n 2 _ z, hb n 3 _ z, hb n 4 _ z, show gvn n (lea la cu n) (4 * A n / 10) j = 0 from hb n (cu n).toNatClampNeg _ z4]
    simp only [Int32.add_zero]
/-! the sun and the layers, in naturals -/
theorem mx0_nI {x k : Nat} (hx : x < 2 ^ 30) (hk : k ≤ 100) : ∃ y, y ≤ x + 50 ∧ mx0 (nI x + (nI k - 50)) = nI y := by
  have e : nI x + (nI k - 50) = nI (x + k) - nI 50 := by
    rw [← nI_add, Int32.sub_eq_add_neg, Int32.sub_eq_add_neg, Int32.add_assoc]; rfl
  rw [e]
  unfold mx0
  by_cases h : 50 ≤ x + k
  · rw [pk_sub h]
    by_cases h0 : (0 : Int32) < nI (x + k - 50)
    · rw [if_pos h0]; exact ⟨_, by omega, rfl⟩
    · rw [if_neg h0]; exact ⟨0, by omega, rfl⟩
  · have := pk_sneg (a := x + k) (b := 50) (by decide) (by omega)
    rw [if_neg (by rw [i_nlt, i_le]; rw [i_lt] at this; omega)]
    exact ⟨0, by omega, rfl⟩
theorem half_nI {x y : Nat} (hx : x < 2 ^ 30) (hy : y < 2 ^ 30) : (nI x + nI y) / 2 = nI ((x + y) / 2) ∧ nI x + nI y - (nI x + nI y) / 2 = nI (x + y - (x + y) / 2) := by
  rw [nI_add]
  have e : nI (x + y) / 2 = nI ((x + y) / 2) := pk_div (d := 2) (by omega) (by decide) (by decide)
  rw [e]
  exact ⟨rfl, pk_sub (by omega)⟩
theorem turn_nI {a b s t : Nat → Int32} {c x y : Nat} (ha : a c = nI x) (hb : b c = nI y) (hx : x < 2 ^ 30) (hy : y < 2 ^ 30) : ∃ x' y', tnA a b s t c = nI x' ∧ tnB a b s t c = nI y' ∧ x' + y' = x + y := by
  unfold tnA tnB
  by_cases h : 5 * s c - a c ≤ 5 * t c - b c
  · rw [if_pos h, if_pos h]; exact ⟨x, y, ha, hb, rfl⟩
  · rw [if_neg h, if_neg h, ha, hb, (half_nI hx hy).2, (half_nI hx hy).1]
    exact ⟨_, _, rfl, rfl, by omega⟩
theorem turn_nI2 {a b s t : Nat → Int32} {c x y : Nat} (ha : s c = nI x) (hb : t c = nI y) (hx : x < 2 ^ 30) (hy : y < 2 ^ 30) : ∃ x' y', tnS a b s t c = nI x' ∧ tnT a b s t c = nI y' ∧ x' + y' = x + y := by
  unfold tnS tnT
  by_cases h : 5 * s c - a c ≤ 5 * t c - b c
  · rw [if_pos h, if_pos h]; exact ⟨x, y, ha, hb, rfl⟩
  · rw [if_neg h, if_neg h, ha, hb, (half_nI hx hy).2, (half_nI hx hy).1]
    exact ⟨_, _, rfl, rfl, by omega⟩
/-- a choice for each of the first n -/
theorem pick {P : Nat → Nat → Nat → Prop} : ∀ n, (∀ j, j < n → ∃ x y, P j x y) → ∃ f g : Nat → Nat, ∀ j, j < n → P j (f j) (g j) := by
  intro n
  induction n with
  | zero => intro _; exact ⟨fun _ => 0, fun _ => 0, fun j h => by omega⟩
  | succ n ih =>
    intro h
    obtain ⟨f, g, hfg⟩ := ih (fun j hj => h j (by omega))
    obtain ⟨x, y, hxy⟩ := h n (by omega)
    refine ⟨fun j => if j = n then x else f j, fun j => if j = n then y else g j, fun j hj => ?_⟩
    by_cases e : j = n
    · subst e; simp only [if_true]; exact hxy
    · simp only [e, if_false]; exact hfg j (by omega)
/-- heat and salt of all layers as naturals, with their sums -/
def Hts (r26 r27 : Nat → Int32) (T : Nat) : Prop := ∃ he sa : Nat → Nat, (∀ j, j < 120 → r26 j = nI (he j) ∧ r27 j = nI (sa j)) ∧ smn he 120 ≤ T ∧ smn sa 120 ≤ 42600
def Suns (r25 : Nat → Int32) : Prop := ∀ y, y < 6 → ∃ k, k ≤ 100 ∧ r25 y = nI k - 50
theorem two60 {f : Nat → Nat} : smn f 120 = smn f 60 + smn (fun j => f (60 + j)) 60 := smn_split (a := 60) (b := 60)
theorem join60 {f g : Nat → Nat} : smn (fun j => if j < 60 then f j else g (j - 60)) 120 = smn (fun j => f j + g j) 60 := by
  rw [two60, smn_add, smn_congr (f := fun j => if j < 60 then f j else g (j - 60)) (g := f) (fun j hj => if_pos hj), smn_congr (f := fun j => if 60 + j < 60 then f (60 + j) else g (60 + j - 60)) (g := g) (fun j hj => by rw [if_neg (by omega), show 60 + j - 60 = j by omega])]
theorem Hts.day {g : Nat → Nat → Int32} {T : Nat} (H : Hts (g 26) (g 27) T) (U : Suns (g 25)) (hT : T < 2 ^ 29) (hz : ∀ c, c < 60 → g 23 c ≠ 0 → g 26 c = 0 ∧ g 26 (60 + c) = 0 ∧ g 27 c = 0 ∧ g 27 (60 + c) = 0) : Hts (dayM1 g 26) (dayM1 g 27) (T + 3000) := by
  obtain ⟨he, sa, h1, h2, h3⟩ := H
  have e9 : ∀ a, a ≠ 22 → m9 g a = g a := fun a ha => by unfold m9; rw [upw_o ha]
  have hz9 : ∀ c, c < 60 → m9 g 23 c ≠ 0 → m9 g 26 c = 0 ∧ m9 g 26 (60 + c) = 0 ∧ m9 g 27 c = 0 ∧ m9 g 27 (60 + c) = 0 := by
    rw [e9 23 (by decide), e9 26 (by decide), e9 27 (by decide)]; exact hz
  have s1 : smn he 60 ≤ smn he 120 := by rw [two60]; omega
  have s2 : smn sa 60 ≤ smn sa 120 := by rw [two60]; omega
  obtain ⟨f, f1, f2⟩ := flow_nI (la := g 23) (cu := g 24) (A := g 26) (fun j hj => (h1 j (by omega)).1) (by omega)
  obtain ⟨q, q1, q2⟩ := flow_nI (la := g 23) (cu := g 24) (A := g 27) (fun j hj => (h1 j (by omega)).2) (by omega)
  have m26 : ∀ j, j < 60 → flowM (m9 g) 26 j = nI (f j) := fun j hj => by
    rw [flowM_26 (fun c hc hl => (hz9 c hc hl).1) j hj, e9 23 (by decide), e9 24 (by decide), e9 26 (by decide)]; exact f1 j hj
  have m27 : ∀ j, j < 60 → flowM (m9 g) 27 j = nI (q j) := fun j hj => by
    rw [flowM_27 (fun c hc hl => (hz9 c hc hl).2.2.1) j hj, e9 23 (by decide), e9 24 (by decide), e9 27 (by decide)]; exact q1 j hj
  have u26 : ∀ j, j < 60 → hi6 (flowM (m9 g) 26) j = nI (he (60 + j)) := fun j hj => by
    show flowM (m9 g) 26 (60 + j) = _
    rw [flowM_26h _ (by omega), e9 26 (by decide)]; exact (h1 (60 + j) (by omega)).1
  have u27 : ∀ j, j < 60 → hi6 (flowM (m9 g) 27) j = nI (sa (60 + j)) := fun j hj => by
    show flowM (m9 g) 27 (60 + j) = _
    rw [flowM_27h _ (by omega), e9 27 (by decide)]; exact (h1 (60 + j) (by omega)).2
  have bf : ∀ j, j < 60 → f j < 2 ^ 29 := fun j hj => by have := smn_at (f := f) hj; omega
  have bq : ∀ j, j < 60 → q j < 2 ^ 29 := fun j hj => by have := smn_at (f := q) hj; omega
  have bh : ∀ j, j < 60 → he (60 + j) < 2 ^ 29 := fun j hj => by have := smn_at (f := he) (n := 120) (j := 60 + j) (by omega); omega
  have bs : ∀ j, j < 60 → sa (60 + j) < 2 ^ 29 := fun j hj => by have := smn_at (f := sa) (n := 120) (j := 60 + j) (by omega); omega
  have w1 : ∀ j, j < 60 → ∃ w _y : Nat, w ≤ f j + 50 ∧ wr1 (flowM (m9 g)) j = nI w := fun j hj => by
    show ∃ w _y : Nat, w ≤ f j + 50 ∧ wrm _ _ _ j = nI w
    unfold wrm
    rw [flowM_o (a := 23) (by decide), flowM_o (a := 25) (by decide), e9 23 (by decide), e9 25 (by decide), m26 j hj]
    by_cases hl : g 23 j = 0
    · rw [if_pos hl]
      obtain ⟨k, hk, ek⟩ := U (j / 10) (by omega)
      rw [ek]
      obtain ⟨y, hy, ey⟩ := mx0_nI (x := f j) (k := k) (by have := bf j hj; omega) hk
      exact ⟨y, 0, hy, ey⟩
    · rw [if_neg hl]; exact ⟨f j, 0, by omega, rfl⟩
  obtain ⟨w, -, hw⟩ := pick (P := fun j w _ => w ≤ f j + 50 ∧ wr1 (flowM (m9 g)) j = nI w) 60 w1
  have bw : ∀ j, j < 60 → w j < 2 ^ 30 := fun j hj => by have := (hw j hj).1; have := bf j hj; omega
  obtain ⟨x, y, hxy⟩ := pick (P := fun j x y => tnA (wr1 (flowM (m9 g))) (hi6 (flowM (m9 g) 26)) (flowM (m9 g) 27) (hi6 (flowM (m9 g) 27)) j = nI x ∧ tnB (wr1 (flowM (m9 g))) (hi6 (flowM (m9 g) 26)) (flowM (m9 g) 27) (hi6 (flowM (m9 g) 27)) j = nI y ∧ x + y = w j + he (60 + j)) 60 (fun j hj => turn_nI (hw j hj).2 (u26 j hj) (bw j hj) (by have := bh j hj; omega))
  obtain ⟨s, t, hst⟩ := pick (P := fun j x y => tnS (wr1 (flowM (m9 g))) (hi6 (flowM (m9 g) 26)) (flowM (m9 g) 27) (hi6 (flowM (m9 g) 27)) j = nI x ∧ tnT (wr1 (flowM (m9 g))) (hi6 (flowM (m9 g) 26)) (flowM (m9 g) 27) (hi6 (flowM (m9 g) 27)) j = nI y ∧ x + y = q j + sa (60 + j)) 60 (fun j hj => turn_nI2 (m27 j hj) (u27 j hj) (by have := bq j hj; omega) (by have := bs j hj; omega))
  refine ⟨fun j => if j < 60 then x j else y (j - 60), fun j => if j < 60 then s j else t (j - 60), fun j hj => ?_, ?_, ?_⟩
  · unfold dayM1
    by_cases hj6 : j < 60
    · obtain ⟨r1, -, r3, -⟩ := warmM_r (m := flowM (m9 g)) hj6
      simp only [if_pos hj6]
      rw [r1, r3]
      exact ⟨(hxy j hj6).1, (hst j hj6).1⟩
    · obtain ⟨i, rfl⟩ : ∃ i, j = 60 + i := ⟨j - 60, by omega⟩
      obtain ⟨-, r2, -, r4⟩ := warmM_r (m := flowM (m9 g)) (j := i) (by omega)
      simp only [if_neg hj6, show 60 + i - 60 = i by omega]
      rw [r2, r4]
      exact ⟨(hxy i (by omega)).2.1, (hst i (by omega)).2.1⟩
  · rw [join60, smn_congr (g := fun j => w j + he (60 + j)) (fun j hj => (hxy j hj).2.2), smn_add]
    have h5 : smn w 60 ≤ smn (fun j => f j + 50) 60 := smn_le (fun j hj => (hw j hj).1)
    rw [smn_add, smn_const] at h5
    rw [two60] at h2
    omega
  · rw [join60, smn_congr (g := fun j => q j + sa (60 + j)) (fun j hj => (hst j hj).2.2), smn_add]
    rw [two60] at h3
    omega
