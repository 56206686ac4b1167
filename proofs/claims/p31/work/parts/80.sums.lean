/-! what comes to a cell: scattered and gathered -/
def gvn (c : Nat) (o : Option Nat) (t : Int32) (j : Nat) : Int32 := (if o = some j then t else 0) - (if c = j ∧ o ≠ none then t else 0)
theorem tr_gv {c : Nat} {o : Option Nat} {t : Int32} {r : Nat → Int32} {j : Nat} : tr c o t r j = r j + gvn c o t j := by
  cases o with
  | none =>
    show r j = r j + ((if none = some j then t else 0) - (if c = j ∧ none ≠ none then t else 0))
    rw [if_neg (by intro z; cases z), if_neg (fun z => z.2 rfl), Int32.sub_zero, Int32.add_zero]
  | some o =>
    show (if j = o then (if o = c then r c - t else r o) + t else if j = c then r c - t else r j) = r j + ((if some o = some j then t else 0) - (if c = j ∧ some o ≠ none then t else 0))
    have hn : some o ≠ none := by intro z; cases z
    by_cases h1 : j = o
    · subst h1
      rw [if_pos rfl, if_pos rfl]
      by_cases h2 : j = c
      · subst h2; rw [if_pos rfl, if_pos ⟨rfl, hn⟩, Int32.sub_add_cancel, Int32.sub_self, Int32.add_zero]
      · rw [if_neg h2, if_neg (fun z => h2 z.1.symm), Int32.sub_zero]
    · rw [if_neg h1, if_neg (fun z => h1 (Option.some.inj z).symm)]
      by_cases h2 : j = c
      · subst h2; rw [if_pos rfl, if_pos ⟨rfl, hn⟩, Int32.zero_sub, Int32.sub_eq_add_neg]
      · rw [if_neg h2, if_neg (fun z => h2 z.1.symm), Int32.sub_zero, Int32.add_zero]
theorem smf_add {a b : Nat → Int32} {n : Nat} : smf (fun k => a k + b k) n = smf a n + smf b n := by
  induction n with
  | zero => rfl
  | succ n ih =>
    show smf (fun k => a k + b k) n + (a n + b n) = (smf a n + a n) + (smf b n + b n)
    rw [ih]; ac_rfl
theorem smf_sub {a b : Nat → Int32} {n : Nat} : smf (fun k => a k - b k) n = smf a n - smf b n := by
  induction n with
  | zero => exact (Int32.sub_self 0).symm
  | succ n ih =>
    show smf (fun k => a k - b k) n + (a n - b n) = (smf a n + a n) - (smf b n + b n)
    rw [ih]
    simp only [Int32.sub_eq_add_neg, Int32.neg_add]; ac_rfl
theorem smf_zero {a : Nat → Int32} {n : Nat} (h : ∀ k, k < n → a k = 0) : smf a n = 0 := by
  induction n with
  | zero => rfl
  | succ n ih =>
    show smf a n + a n = 0
    rw [ih (fun k hk => h k (by omega)), h n (by omega)]; rfl
theorem smf_pt {a n : Nat} {v : Int32} (h : a < n) : smf (fun k => if k = a then v else 0) n = v := by
  induction n with
  | zero => omega
  | succ n ih =>
    show smf (fun k => if k = a then v else 0) n + (if n = a then v else 0) = v
    by_cases e : n = a
    · rw [if_pos e, smf_zero (fun k hk => if_neg (by omega)), Int32.zero_add]
    · rw [if_neg e, ih (by omega), Int32.add_zero]
theorem smf_one {o : Option Nat} {t : Nat → Int32} {n : Nat} (h : ∀ q, o = some q → q < n) : smf (fun x => if o = some x then t x else 0) n = o.elim 0 t := by
  cases o with
  | none => exact smf_zero (fun k _ => if_neg (by intro z; cases z))
  | some q =>
    have e : (fun x => if some q = some x then t x else 0) = fun x => if x = q then t q else (0 : Int32) := by
      funext x
      by_cases e : x = q
      · subst e; rw [if_pos rfl, if_pos rfl]
      · rw [if_neg (fun z => e (Option.some.inj z).symm), if_neg e]
    rw [e, smf_pt (h q rfl)]; rfl
theorem fo_tr {o : Nat → Option Nat} {t R : Nat → Int32} {n j : Nat} : fo (fun c r => tr c (o c) (t c) r) R n j = R j + smf (fun c => gvn c (o c) (t c) j) n := by
  induction n with
  | zero => exact (Int32.add_zero _).symm
  | succ n ih =>
    rw [fo_succ, tr_gv, ih]
    show _ = R j + (smf (fun c => gvn c (o c) (t c) j) n + gvn n (o n) (t n) j)
    rw [Int32.add_assoc]
/-! neighbours -/
def opd (d : Nat) : Nat := if d = 1 then 2 else if d = 2 then 1 else if d = 3 then 4 else 3
theorem nbr_v {c k x : Nat} (h : nbr c k = some x) : (k = 1 ∧ x = c + 1 ∧ c % 10 < 9) ∨ (k = 2 ∧ x + 1 = c ∧ 0 < c % 10) ∨ (k = 3 ∧ x = c + 10 ∧ c / 10 < 5) ∨ (k = 4 ∧ x + 10 = c) := by
  unfold nbr at h
  by_cases h1 : k = 1
  · rw [if_pos h1] at h
    by_cases q : c % 10 < 9
    · rw [if_pos q] at h; cases h; exact Or.inl ⟨h1, rfl, q⟩
    · rw [if_neg q] at h; cases h
  · rw [if_neg h1] at h
    by_cases h2 : k = 2
    · rw [if_pos h2] at h
      by_cases q : 0 < c % 10
      · rw [if_pos q] at h; cases h; exact Or.inr (Or.inl ⟨h2, by omega, q⟩)
      · rw [if_neg q] at h; cases h
    · rw [if_neg h2] at h
      by_cases h3 : k = 3
      · rw [if_pos h3] at h
        by_cases q : c / 10 < 5
        · rw [if_pos q] at h; cases h; exact Or.inr (Or.inr (Or.inl ⟨h3, rfl, q⟩))
        · rw [if_neg q] at h; cases h
      · rw [if_neg h3] at h
        by_cases h4 : k = 4
        · rw [if_pos h4] at h
          by_cases q : 0 < c / 10
          · rw [if_pos q] at h; cases h; exact Or.inr (Or.inr (Or.inr ⟨h4, by omega⟩))
          · rw [if_neg q] at h; cases h
        · rw [if_neg h4] at h; cases h
theorem nbr_op (x : Nat) (hx : x < 60) (d : Nat) (_hd : d < 5) (j : Nat) (hj : j < 60) (h : nbr x d = some j) : 1 ≤ d ∧ nbr j (opd d) = some x ∧ 1 ≤ opd d ∧ opd d < 5 ∧ opd (opd d) = d := by
  rcases nbr_v h with ⟨rfl, e, q⟩ | ⟨rfl, e, q⟩ | ⟨rfl, e, q⟩ | ⟨rfl, e⟩
  · refine ⟨by decide, ?_, by decide, by decide, by decide⟩
    show nbr j 2 = some x
    unfold nbr
    rw [if_neg (by decide), if_pos rfl, if_pos (by omega), show j - 1 = x by omega]
  · refine ⟨by decide, ?_, by decide, by decide, by decide⟩
    show nbr j 1 = some x
    unfold nbr
    rw [if_pos rfl, if_pos (by omega), e]
  · refine ⟨by decide, ?_, by decide, by decide, by decide⟩
    show nbr j 4 = some x
    unfold nbr
    rw [if_neg (by decide), if_neg (by decide), if_neg (by decide), if_pos rfl, if_pos (by omega), show j - 10 = x by omega]
  · refine ⟨by decide, ?_, by decide, by decide, by decide⟩
    show nbr j 3 = some x
    unfold nbr
    rw [if_neg (by decide), if_neg (by decide), if_pos rfl, if_pos (by omega), e]
theorem nbr_dis {c k k' x : Nat} (h : nbr c k = some x) (hne : k ≠ k') : nbr c k' ≠ some x := fun z => by
  have a := nbr_v h
  have b := nbr_v z
  omega
theorem cov {f : Nat → Int32} {c : Nat} (hc : c < 60) (hz : ∀ x, x < 60 → (∀ k, 1 ≤ k → k < 5 → nbr c k ≠ some x) → f x = 0) : smf f 60 = (nbr c 1).elim 0 f + (nbr c 2).elim 0 f + (nbr c 3).elim 0 f + (nbr c 4).elim 0 f := by
  have e : smf f 60 = smf (fun x => (((if nbr c 1 = some x then f x else 0) + (if nbr c 2 = some x then f x else 0)) + (if nbr c 3 = some x then f x else 0)) + (if nbr c 4 = some x then f x else 0)) 60 := by
    refine smf_congr (fun x hx => ?_)
    have d (k k' : Nat) (_h1 : k < 5) (_h2 : k' < 5) (h : nbr c k = some x) (hne : k ≠ k') := nbr_dis h hne
    by_cases h1 : nbr c 1 = some x
    · rw [if_pos h1, if_neg (d 1 2 (by decide) (by decide) h1 (by decide)), if_neg (d 1 3 (by decide) (by decide) h1 (by decide)), if_neg (d 1 4 (by decide) (by decide) h1 (by decide)), Int32.add_zero, Int32.add_zero, Int32.add_zero]
    · rw [if_neg h1, Int32.zero_add]
      by_cases h2 : nbr c 2 = some x
      · rw [if_pos h2, if_neg (d 2 3 (by decide) (by decide) h2 (by decide)), if_neg (d 2 4 (by decide) (by decide) h2 (by decide)), Int32.add_zero, Int32.add_zero]
      · rw [if_neg h2, Int32.zero_add]
        by_cases h3 : nbr c 3 = some x
        · rw [if_pos h3, if_neg (d 3 4 (by decide) (by decide) h3 (by decide)), Int32.add_zero]
        · rw [if_neg h3, Int32.zero_add]
          by_cases h4 : nbr c 4 = some x
          · rw [if_pos h4]
          · rw [if_neg h4]
            refine hz x hx (fun k k1 k5 => ?_)
            rcases (show k = 1 ∨ k = 2 ∨ k = 3 ∨ k = 4 by omega) with rfl | rfl | rfl | rfl
            · exact h1
            · exact h2
            · exact h3
            · exact h4
  have o (k : Nat) : ∀ q, nbr c k = some q → q < 60 := fun q h => nbr_lt hc h
  rw [e, smf_add, smf_add, smf_add, smf_one (o 1), smf_one (o 2), smf_one (o 3), smf_one (o 4)]
theorem bes_nbr {la : Nat → Int32} {c d q : Nat} (h : bes la c d = some q) : nbr c d = some q ∧ la q = 0 := by
  unfold bes at h
  rw [Option.filter_eq_some_iff] at h
  exact ⟨h.1, of_decide_eq_true h.2⟩
theorem bes_of {la : Nat → Int32} {c d q : Nat} (h : nbr c d = some q) (h0 : la q = 0) : bes la c d = some q := by
  unfold bes
  rw [Option.filter_eq_some_iff]
  exact ⟨h, decide_eq_true h0⟩
theorem lea_nbr {la cu : Nat → Int32} {c q : Nat} (hcu : ∃ d, d ≤ 4 ∧ cu c = nI d) (h : lea la cu c = some q) : ∃ d, d < 5 ∧ nbr c d = some q ∧ la q = 0 := by
  obtain ⟨d, hd, e⟩ := hcu
  unfold lea at h
  rw [e, nI_clamp (by omega)] at h
  exact ⟨d, by omega, bes_nbr h⟩
/-- what comes by the currents from one side -/
def inw (la cu t : Nat → Int32) (c k : Nat) : Int32 := match bes la c k with
  | some q => if lea la cu q = some c then t q else 0
  | none => 0
theorem inw_elim {la cu t : Nat → Int32} {c k : Nat} (ht : ∀ x, x < 60 → la x ≠ 0 → t x = 0) (hc : c < 60) : (nbr c k).elim 0 (fun x => if lea la cu x = some c then t x else 0) = inw la cu t c k := by
  unfold inw
  cases h : nbr c k with
  | none =>
    have : bes la c k = none := by unfold bes; rw [h]; rfl
    rw [this]; rfl
  | some q =>
    by_cases h0 : la q = 0
    · rw [bes_of h h0]; rfl
    · have : bes la c k = none := by
        unfold bes; rw [h, Option.filter_some, if_neg]
        intro z; exact h0 (of_decide_eq_true z)
      rw [this]
      show (if lea la cu q = some c then t q else 0) = 0
      rw [ht q (nbr_lt hc h) h0]; split <;> rfl
theorem lea_sum {la cu t : Nat → Int32} {c : Nat} (hcu : Cur cu) (ht : ∀ x, x < 60 → la x ≠ 0 → t x = 0) (hc : c < 60) : smf (fun x => if lea la cu x = some c then t x else 0) 60 = inw la cu t c 1 + inw la cu t c 2 + inw la cu t c 3 + inw la cu t c 4 := by
  rw [cov hc, inw_elim ht hc, inw_elim ht hc, inw_elim ht hc, inw_elim ht hc]
  intro x hx hno
  refine if_neg (fun z => ?_)
  obtain ⟨d, hd, h1, -⟩ := lea_nbr (hcu x hx) z
  obtain ⟨-, h2, h3, h4, -⟩ := nbr_op x hx d hd c hc h1
  exact hno _ h3 h4 h2
def onw (o : Option Nat) (t : Int32) : Int32 := if o ≠ none then t else 0
theorem own_sum {o : Nat → Option Nat} {t : Nat → Int32} {j : Nat} (hj : j < 60) : smf (fun c => if c = j ∧ o c ≠ none then t c else 0) 60 = onw (o j) (t j) := by
  have e : (fun c => if c = j ∧ o c ≠ none then t c else 0) = fun c => if c = j then onw (o j) (t j) else (0 : Int32) := by
    funext c
    unfold onw
    by_cases e : c = j
    · subst e
      rw [if_pos rfl]
      by_cases e2 : o c ≠ none
      · rw [if_pos ⟨rfl, e2⟩, if_pos e2]
      · rw [if_neg (fun z => e2 z.2), if_neg e2]
    · rw [if_neg (fun z => e z.1), if_neg e]
  rw [e, smf_pt hj]
/-- a day's flow, cell by cell -/
def flwd (la cu A : Nat → Int32) (c : Nat) : Int32 := A c - onw (lea la cu c) (A c / 10) + inw la cu (fun x => A x / 10) c 1 + inw la cu (fun x => A x / 10) c 2 + inw la cu (fun x => A x / 10) c 3 + inw la cu (fun x => A x / 10) c 4
theorem z10 : (0 : Int32) / 10 = 0 := by decide
theorem flow_gather {la cu A : Nat → Int32} {c : Nat} (hcu : Cur cu) (hA : ∀ x, x < 60 → la x ≠ 0 → A x = 0) (hc : c < 60) : fo (flw la cu A) A 60 c = flwd la cu A c := by
  have e : flw la cu A = fun c r => tr c (lea la cu c) (A c / 10) r := rfl
  rw [e, fo_tr]
  have e2 : smf (fun x => gvn x (lea la cu x) (A x / 10) c) 60 = smf (fun x => if lea la cu x = some c then A x / 10 else 0) 60 - smf (fun x => if x = c ∧ lea la cu x ≠ none then A x / 10 else 0) 60 := smf_sub (a := fun x => if lea la cu x = some c then A x / 10 else 0) (b := fun x => if x = c ∧ lea la cu x ≠ none then A x / 10 else 0)
  rw [e2, own_sum (o := lea la cu) (t := fun x => A x / 10) hc, lea_sum (t := fun x => A x / 10) hcu (fun x hx hl => by show A x / 10 = 0; rw [hA x hx hl, z10]) hc]
  unfold flwd
  rw [Int32.sub_eq_add_neg, Int32.sub_eq_add_neg]
  ac_rfl
/-! the chances -/
def gvb (la A : Nat → Int32) (c d x : Nat) : Int32 := if bes la x d = some c then A x / 10 else 0
theorem gvb_at {la A : Nat → Int32} {c k q : Nat} (hc : c < 60) (hl : la c = 0) (hk : 1 ≤ k ∧ k < 5) (h : nbr c k = some q) : gvb la A c 1 q + gvb la A c 2 q + gvb la A c 3 q + gvb la A c 4 q = A q / 10 := by
  have hq := nbr_lt hc h
  obtain ⟨-, h2, h3, h4, h5⟩ := nbr_op c hc k hk.2 q hq h
  have one (d : Nat) (hd : 1 ≤ d ∧ d < 5) : gvb la A c d q = if d = opd k then A q / 10 else 0 := by
    unfold gvb
    by_cases e : d = opd k
    · rw [if_pos e, e, if_pos (bes_of h2 hl)]
    · rw [if_neg e, if_neg]
      intro z
      exact nbr_dis h2 (fun y => e y.symm) (bes_nbr z).1
  rw [one 1 (by decide), one 2 (by decide), one 3 (by decide), one 4 (by decide)]
  rcases (show opd k = 1 ∨ opd k = 2 ∨ opd k = 3 ∨ opd k = 4 by omega) with e | e | e | e
  · rw [e, if_pos rfl, if_neg (by decide), if_neg (by decide), if_neg (by decide), Int32.add_zero, Int32.add_zero, Int32.add_zero]
  · rw [e, if_neg (by decide), if_pos rfl, if_neg (by decide), if_neg (by decide), Int32.add_zero, Int32.add_zero, Int32.zero_add]
  · rw [e, if_neg (by decide), if_neg (by decide), if_pos rfl, if_neg (by decide), Int32.add_zero, Int32.add_zero, Int32.zero_add]
  · rw [e, if_neg (by decide), if_neg (by decide), if_neg (by decide), if_pos rfl, Int32.add_zero, Int32.add_zero, Int32.zero_add]
/-- from one side, by being beside -/
def bsw (la A : Nat → Int32) (c k : Nat) : Int32 := match bes la c k with
  | some q => A q / 10
  | none => 0
theorem bes_sum {la A : Nat → Int32} {c : Nat} (hA : ∀ x, x < 60 → la x ≠ 0 → A x = 0) (hc : c < 60) (hl : la c = 0) : smf (gvb la A c 1) 60 + smf (gvb la A c 2) 60 + smf (gvb la A c 3) 60 + smf (gvb la A c 4) 60 = bsw la A c 1 + bsw la A c 2 + bsw la A c 3 + bsw la A c 4 := by
  rw [← smf_add, ← smf_add, ← smf_add, cov hc]
  · have one (k : Nat) (hk : 1 ≤ k ∧ k < 5) : (nbr c k).elim 0 (fun x => gvb la A c 1 x + gvb la A c 2 x + gvb la A c 3 x + gvb la A c 4 x) = bsw la A c k := by
      unfold bsw
      cases h : nbr c k with
      | none =>
        have : bes la c k = none := by unfold bes; rw [h]; rfl
        rw [this]; rfl
      | some q =>
        show gvb la A c 1 q + gvb la A c 2 q + gvb la A c 3 q + gvb la A c 4 q = _
        rw [gvb_at hc hl hk h]
        by_cases h0 : la q = 0
        · rw [bes_of h h0]
        · have : bes la c k = none := by
            unfold bes; rw [h, Option.filter_some, if_neg]
            intro z; exact h0 (of_decide_eq_true z)
          rw [this, hA q (nbr_lt hc h) h0, z10]
    rw [one 1 (by decide), one 2 (by decide), one 3 (by decide), one 4 (by decide)]
  · intro x hx hno
    have one (d : Nat) (hd : 1 ≤ d ∧ d < 5) : gvb la A c d x = 0 := by
      refine if_neg (fun z => ?_)
      obtain ⟨-, h2, h3, h4, -⟩ := nbr_op x hx d hd.2 c hc (bes_nbr z).1
      exact hno _ h3 h4 h2
    rw [one 1 (by decide), one 2 (by decide), one 3 (by decide), one 4 (by decide)]; rfl
def drfd (la cu A : Nat → Int32) (c : Nat) : Int32 :=
  let t := fun (k : Nat) => (bsw la A c k - onw (bes la c k) (A c / 10)) + inw la cu (fun x => 4 * A x / 10) c k
  A c - onw (lea la cu c) (4 * A c / 10) + t 1 + t 2 + t 3 + t 4
theorem fo_drs {la cu A R : Nat → Int32} {n j : Nat} : fo (drf la cu A) R n j = R j + ((((smf (fun x => gvn x (bes la x 1) (A x / 10) j) n + smf (fun x => gvn x (bes la x 2) (A x / 10) j) n) + smf (fun x => gvn x (bes la x 3) (A x / 10) j) n) + smf (fun x => gvn x (bes la x 4) (A x / 10) j) n) + smf (fun x => gvn x (lea la cu x) (4 * A x / 10) j) n) := by
  rw [← smf_add, ← smf_add, ← smf_add, ← smf_add]
  induction n with
  | zero => exact (Int32.add_zero _).symm
  | succ n ih =>
    rw [fo_succ]
    show tr n (lea la cu n) (4 * A n / 10) (tr n (bes la n 4) (A n / 10) (tr n (bes la n 3) (A n / 10) (tr n (bes la n 2) (A n / 10) (tr n (bes la n 1) (A n / 10) (fo (drf la cu A) R n))))) j = R j + (smf _ n + ((((gvn n (bes la n 1) (A n / 10) j + gvn n (bes la n 2) (A n / 10) j) + gvn n (bes la n 3) (A n / 10) j) + gvn n (bes la n 4) (A n / 10) j) + gvn n (lea la cu n) (4 * A n / 10) j))
    rw [tr_gv, tr_gv, tr_gv, tr_gv, tr_gv, ih]
    ac_rfl
theorem drift_gather {la cu A : Nat → Int32} {c : Nat} (hcu : Cur cu) (hA : ∀ x, x < 60 → la x ≠ 0 → A x = 0) (hc : c < 60) (hl : la c = 0) : fo (drf la cu A) A 60 c = drfd la cu A c := by
  have e2 (o : Nat → Option Nat) (t : Nat → Int32) : smf (fun x => gvn x (o x) (t x) c) 60 = smf (fun x => if o x = some c then t x else 0) 60 - onw (o c) (t c) := by
    rw [← own_sum (o := o) (t := t) hc]
    exact smf_sub (a := fun x => if o x = some c then t x else 0) (b := fun x => if x = c ∧ o x ≠ none then t x else 0)
  have hb := bes_sum hA hc hl
  rw [fo_drs, e2 (fun x => bes la x 1) (fun x => A x / 10), e2 (fun x => bes la x 2) (fun x => A x / 10), e2 (fun x => bes la x 3) (fun x => A x / 10), e2 (fun x => bes la x 4) (fun x => A x / 10), e2 (lea la cu) (fun x => 4 * A x / 10), lea_sum (t := fun x => 4 * A x / 10) hcu (fun x hx hl => by show 4 * A x / 10 = 0; rw [hA x hx hl]; decide) hc]
  have e3 : ∀ a1 a2 a3 a4 b1 b2 b3 b4 p1 p2 p3 p4 i1 i2 i3 i4 L x : Int32, a1 + a2 + a3 + a4 = p1 + p2 + p3 + p4 → x + ((((a1 - b1 + (a2 - b2)) + (a3 - b3)) + (a4 - b4)) + (i1 + i2 + i3 + i4 - L)) = x - L + (p1 - b1 + i1) + (p2 - b2 + i2) + (p3 - b3 + i3) + (p4 - b4 + i4) := by
    intro a1 a2 a3 a4 b1 b2 b3 b4 p1 p2 p3 p4 i1 i2 i3 i4 L x h
    have s1 : x + ((((a1 - b1 + (a2 - b2)) + (a3 - b3)) + (a4 - b4)) + (i1 + i2 + i3 + i4 - L)) = (a1 + a2 + a3 + a4) + (x + -b1 + -b2 + -b3 + -b4 + i1 + i2 + i3 + i4 + -L) := by
      simp only [Int32.sub_eq_add_neg]; ac_rfl
    have s2 : x - L + (p1 - b1 + i1) + (p2 - b2 + i2) + (p3 - b3 + i3) + (p4 - b4 + i4) = (p1 + p2 + p3 + p4) + (x + -b1 + -b2 + -b3 + -b4 + i1 + i2 + i3 + i4 + -L) := by
      simp only [Int32.sub_eq_add_neg]; ac_rfl
    rw [s1, s2, h]
  exact e3 _ _ _ _ _ _ _ _ _ _ _ _ _ _ _ _ _ _ hb
