/-! the relation of the class's contents K (layout h) to the model's contents m -/
def bu (h : MH) (k : Nat) : Nat := (hr h 13 k).getD 0
def rd (h : MH) (r : Nat) : Nat := (hr h 15 r).getD 0
def se (h : MH) (s : Nat) : Nat := (hr h 20 s).getD 0
def ca (h : MH) (s : Nat) : Nat := (hr h (se h s) 1).getD 0
def co (h : MH) (s : Nat) : Nat := (hr h (se h s) 2).getD 0
def pa (h : MH) (p : Nat) : Nat := (hr h 21 p).getD 0
/-- an array of references that is filled to n with objects of one kind -/
def Row (h : MH) (a len kd n : Nat) : Prop := (∀ k, k < n → ∃ b, hr h a k = some b ∧ hk h b = kd ∧ 37 < b) ∧ (∀ k, n ≤ k → k < len → hr h a k = none) ∧ (∀ k k', k < n → k' < n → hr h a k = hr h a k' → k = k')
def RowS (h : MH) (ns : Nat) : Prop := (∀ s, s < ns → (hr h (se h s) 1 = some (ca h s) ∧ hk h (ca h s) = 20 ∧ hl h (ca h s) = 60 ∧ 37 < ca h s) ∧ hr h (se h s) 2 = some (co h s) ∧ hk h (co h s) = 20 ∧ hl h (co h s) = 60 ∧ 37 < co h s) ∧ (∀ s s', s < ns → s' < ns → ca h s = ca h s' → s = s') ∧ (∀ s s', s < ns → s' < ns → ca h s ≠ co h s')
def Lay (h : MH) (nb nr ns np : Nat) : Prop := Fix h ∧ (nb ≤ 8 ∧ nr ≤ 100 ∧ ns ≤ 4 ∧ np ≤ 6) ∧ Row h 13 8 0 nb ∧ Row h 15 100 4 nr ∧ Row h 20 4 6 ns ∧ Row h 21 6 3 np ∧ RowS h ns
def lsum (la : Nat → Int32) : Nat → Int32 := fo (fun k z => z + (if la k = 0 then 0 else 1)) 0
def Csea (K m : Nat → Nat → Int32) : Prop := (K 11 = m 23 ∧ K 9 = m 24 ∧ K 10 = m 25) ∧ (∀ j, j < 60 → K 4 j = m 26 j ∧ K 7 j = m 26 (60 + j) ∧ K 5 j = m 27 j ∧ K 8 j = m 27 (60 + j)) ∧ K 2 4 = m 22 2 ∧ K 2 7 = lsum (m 23) 60 ∧ (∀ c, c < 60 → m 23 c ≠ 0 → m 26 c = 0 ∧ m 26 (60 + c) = 0 ∧ m 27 c = 0 ∧ m 27 (60 + c) = 0) ∧ Cur (m 24)
def Cct (K m : Nat → Nat → Int32) (nb nr ns np nsm d : Nat) : Prop := (K 1 6 = nI nb ∧ m 22 10 = nI nb) ∧ (K 1 7 = nI ns ∧ m 22 30 = nI ns) ∧ (K 1 8 = nI np ∧ m 22 33 = nI np) ∧ (K 14 1 = nI nr ∧ m 22 23 = nI nr) ∧ (K 16 4 = nI nsm ∧ m 22 20 = nI nsm) ∧ (K 1 9 = nI d ∧ m 22 1 = nI d) ∧ K 14 2 = m 22 29 ∧ d ≤ 1000 ∧ nsm ≤ 20
def cnt (by1 : Nat → Int32) (b : Int32) : Nat → Int32 := fo (fun k z => z + (if by1 k = b then 1 else 0)) 0
def Cbu (h : MH) (K m : Nat → Nat → Int32) (nb nr : Nat) : Prop := (∀ k, k < nb → (K (bu h k) 0 = nI k ∧ K (bu h k) 1 = m 31 k ∧ K (bu h k) 2 = m 34 k ∧ K (bu h k) 3 = m 30 k ∧ K (bu h k) 4 = m 32 k ∧ K (bu h k) 5 = m 33 k ∧ K (bu h k) 6 = m 35 k ∧ K (bu h k) 7 = cnt (m 43) (nI k) nr) ∧ (∃ c, c < 60 ∧ m 30 k = nI c) ∧ (∃ p, 0 < p ∧ p ≤ 20 ∧ m 31 k = nI p) ∧ ∃ b, b ≤ 100 ∧ m 33 k = nI b) ∧ ∀ k, nb ≤ k → k < 8 → m 35 k = 0
def Crd (h : MH) (K m : Nat → Nat → Int32) (nb nr : Nat) : Prop := ∀ r, r < nr → (K (rd h r) 0 = m 40 r ∧ K (rd h r) 1 = m 41 r ∧ K (rd h r) 2 = m 42 r ∧ K (rd h r) 4 = m 44 r) ∧ (∃ c, c < 60 ∧ m 41 r = nI c) ∧ ((m 43 r = -1 ∧ hr h (rd h r) 3 = none) ∨ ∃ f, f < nb ∧ m 43 r = nI f ∧ hr h (rd h r) 3 = some (bu h f))
/-- the last one by b below n -/
def lby (by1 : Nat → Int32) (b : Int32) : Nat → Option Nat
  | 0 => none
  | n + 1 => if by1 n = b then some n else lby by1 b n
/-- the first one by b behind r, below n -/
def nby (by1 : Nat → Int32) (b : Int32) (r : Nat) : Nat → Option Nat
  | 0 => none
  | n + 1 => match nby by1 b r n with
    | some k => some k
    | none => if r < n ∧ by1 n = b then some n else none
def Clk (h : MH) (m : Nat → Nat → Int32) (nb nr : Nat) : Prop := (∀ r, r < nr → (m 43 r = -1 ∧ hr h (rd h r) 5 = none) ∨ (m 43 r ≠ -1 ∧ hr h (rd h r) 5 = (lby (m 43) (m 43 r) r).map (rd h) ∧ hr h (rd h r) 6 = (nby (m 43) (m 43 r) r nr).map (rd h))) ∧ ∀ k, k < nb → hr h (bu h k) 8 = (lby (m 43) (nI k) nr).map (rd h)
abbrev STy : Type := Int32 → (Nat → Int32) → (Nat → Int32) → (Nat → Int32) → Int32 → (Nat → Int32) → (Nat → Int32) → (Nat → Int32) → (Nat → Int32) → Prop
def Cst (K m : Nat → Nat → Int32) (S : STy) : Prop := S (K 16 0) (K 17) (K 18) (K 19) (m 22 17) (m 36) (m 37) (m 38) (m 39)
/-- nst stations are to come, all behind day e: sorted codes on the one side, pairs in any order on the other -/
def Sst (nst e : Nat) : STy := fun k0 k17 k18 k19 n0 m36 m37 m38 m39 => (k0 = nI nst ∧ n0 = nI nst ∧ nst ≤ 30) ∧ (k18 = m38 ∧ k19 = m39) ∧ ∃ cd sd sc : Nat → Nat, (∀ i, i < nst → k17 i = nI (cd i) ∧ m36 i = nI (sd i) ∧ m37 i = nI (sc i) ∧ sc i < 60 ∧ e < sd i ∧ sd i ≤ 1000) ∧ (∀ i j, i < j → j < nst → cd i < cd j) ∧ ((List.range nst).map cd).Perm ((List.range nst).map fun k => sd k * 60 + sc k)
def Cse (h : MH) (K m : Nat → Nat → Int32) (ns : Nat) : Prop := (∀ s, s < ns → K (se h s) 0 = m 45 s ∧ ∀ c, c < 60 → K (ca h s) c = m 46 (60 * s + c)) ∧ ∀ j, 60 * ns ≤ j → j < 240 → m 46 j = 0
def Cpa (h : MH) (K m : Nat → Nat → Int32) (np : Nat) : Prop := ∀ p, p < np → (K (pa h p) 0 = m 47 p ∧ K (pa h p) 1 = m 48 p ∧ K (pa h p) 2 = m 49 p) ∧ ∃ q, 2 ≤ q ∧ q ≤ 60 ∧ m 47 p = nI q
def Cli (m : Nat → Nat → Int32) (nb : Nat) : Prop := ∀ k, k < nb → m 33 k ≠ 0 → ∃ l, 0 < l ∧ l ≤ 20 ∧ m 32 k = nI l
def Cco (h : MH) (B nr : Nat) : Prop := hc h ≤ 60 + 3 * B + nr ∧ hs h ≤ 3000 + 140 * B + 7 * nr
def Rel (h : MH) (K m : Nat → Nat → Int32) (B nb nr ns np nsm d : Nat) (S : STy) : Prop := Lay h nb nr ns np ∧ Csea K m ∧ Cct K m nb nr ns np nsm d ∧ Cbu h K m nb nr ∧ Crd h K m nb nr ∧ Clk h m nb nr ∧ Cst K m S ∧ Cse h K m ns ∧ Cpa h K m np ∧ Cco h B nr
/-! frames -/
theorem Cbu.fr {h : MH} {K m K1 m1 : Nat → Nat → Int32} {nb nr : Nat} (C : Cbu h K m nb nr) (R : Row h 13 8 0 nb) (hK : ∀ a, hk h a = 0 → 37 < a → K1 a = K a) (hm : ∀ a ∈ [30, 31, 32, 33, 34, 35, 43], m1 a = m a) : Cbu h K1 m1 nb nr := by
  have e (a : Nat) (ha : a ∈ [30, 31, 32, 33, 34, 35, 43]) := hm a ha
  refine ⟨fun k hk => ?_, fun k h1 h2 => by rw [e 35 (by decide)]; exact C.2 k h1 h2⟩
  obtain ⟨b, hb, hb2, hb3⟩ := R.1 k hk
  have hbu : bu h k = b := by unfold bu; rw [hb]; rfl
  have := C.1 k hk
  rw [hbu] at this ⊢
  rw [hK b hb2 hb3, e 30 (by decide), e 31 (by decide), e 32 (by decide), e 33 (by decide), e 34 (by decide), e 35 (by decide), e 43 (by decide)]
  exact this
theorem Crd.fr {h : MH} {K m K1 m1 : Nat → Nat → Int32} {nb nr : Nat} (C : Crd h K m nb nr) (R : Row h 15 100 4 nr) (hK : ∀ a, hk h a = 4 → 37 < a → K1 a = K a) (hm : ∀ a ∈ [40, 41, 42, 43, 44], m1 a = m a) : Crd h K1 m1 nb nr := by
  intro r hr1
  obtain ⟨b, hb, hb2, hb3⟩ := R.1 r hr1
  have hbu : rd h r = b := by unfold rd; rw [hb]; rfl
  have := C r hr1
  rw [hbu] at this ⊢
  rw [hK b hb2 hb3, hm 40 (by decide), hm 41 (by decide), hm 42 (by decide), hm 43 (by decide), hm 44 (by decide)]
  exact this
theorem Clk.fr {h : MH} {m m1 : Nat → Nat → Int32} {nb nr : Nat} (C : Clk h m nb nr) (hm : m1 43 = m 43) : Clk h m1 nb nr := by
  unfold Clk at C ⊢
  rw [hm]; exact C
theorem Cst.fr {K m K1 m1 : Nat → Nat → Int32} {S : STy} (C : Cst K m S) (hK : ∀ a ∈ [17, 18, 19], K1 a = K a) (hm : ∀ a ∈ [36, 37, 38, 39], m1 a = m a) (h1 : K1 16 0 = K 16 0) (h2 : m1 22 17 = m 22 17) : Cst K1 m1 S := by
  unfold Cst at C ⊢
  rw [hK 17 (by decide), hK 18 (by decide), hK 19 (by decide), hm 36 (by decide), hm 37 (by decide), hm 38 (by decide), hm 39 (by decide), h1, h2]
  exact C
theorem Cse.fr {h : MH} {K m K1 m1 : Nat → Nat → Int32} {ns : Nat} (C : Cse h K m ns) (R : Row h 20 4 6 ns) (S : RowS h ns) (hK : ∀ a, 37 < a → (hk h a = 6 ∨ ∃ s, s < ns ∧ a = ca h s) → K1 a = K a) (hm : m1 45 = m 45 ∧ m1 46 = m 46) : Cse h K1 m1 ns := by
  refine ⟨fun s hs => ?_, fun j h1 h2 => by rw [hm.2]; exact C.2 j h1 h2⟩
  obtain ⟨b, hb, hb2, hb3⟩ := R.1 s hs
  have hbu : se h s = b := by unfold se; rw [hb]; rfl
  have := C.1 s hs
  rw [hbu] at this ⊢
  rw [hK b hb3 (Or.inl hb2), hm.1, hm.2, hK (ca h s) (S.1 s hs).1.2.2.2 (Or.inr ⟨s, hs, rfl⟩)]
  exact this
theorem Cpa.fr {h : MH} {K m K1 m1 : Nat → Nat → Int32} {np : Nat} (C : Cpa h K m np) (R : Row h 21 6 3 np) (hK : ∀ a, hk h a = 3 → 37 < a → K1 a = K a) (hm : ∀ a ∈ [47, 48, 49], m1 a = m a) : Cpa h K1 m1 np := by
  intro r hr1
  obtain ⟨b, hb, hb2, hb3⟩ := R.1 r hr1
  have hbu : pa h r = b := by unfold pa; rw [hb]; rfl
  have := C r hr1
  rw [hbu] at this ⊢
  rw [hK b hb2 hb3, hm 47 (by decide), hm 48 (by decide), hm 49 (by decide)]
  exact this
theorem Csea.fr {K m K1 m1 : Nat → Nat → Int32} (C : Csea K m) (hK : ∀ a ∈ [2, 4, 5, 7, 8, 9, 10, 11], K1 a = K a) (hm : ∀ a ∈ [23, 24, 25, 26, 27], m1 a = m a) (h2 : m1 22 2 = m 22 2) : Csea K1 m1 := by
  unfold Csea at C ⊢
  rw [hK 2 (by decide), hK 4 (by decide), hK 5 (by decide), hK 7 (by decide), hK 8 (by decide), hK 9 (by decide), hK 10 (by decide), hK 11 (by decide), hm 23 (by decide), hm 24 (by decide), hm 25 (by decide), hm 26 (by decide), hm 27 (by decide), h2]
  exact C
theorem Row.at {h : MH} {a len kd n k : Nat} (R : Row h a len kd n) (hk1 : k < n) : hr h a k = some ((hr h a k).getD 0) ∧ hk h ((hr h a k).getD 0) = kd ∧ 37 < (hr h a k).getD 0 := by
  obtain ⟨b, e, h1, h2⟩ := R.1 k hk1
  rw [e]; exact ⟨rfl, h1, h2⟩
theorem Rel.F {h : MH} {K m : Nat → Nat → Int32} {B nb nr ns np nsm d : Nat} {S : STy} (R : Rel h K m B nb nr ns np nsm d S) : Fix h := R.1.1
