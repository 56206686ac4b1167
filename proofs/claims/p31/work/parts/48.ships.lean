/-! storms -/
def stB (f t : Nat → Int32) (d : Int32) : Nat → Bool
  | 0 => false
  | n + 1 => stB f t d n || decide (f n ≤ d ∧ d ≤ t n)
theorem s_hasStorm {h : MH} {K m : Nat → Nat → Int32} {nsm : Nat} (F : Fix h) (hc : K 16 4 = nI nsm) (hn1 : nsm ≤ 20) (d : Int32) : M_X7_hasStorm (some 16) d (st h K m) = rtI (if stB (K 18) (K 19) d nsm = true then 1 else 0) (st h K m) := by
  refine zlp (G := fun n i => L_X7_hasStorm_2 n (some 16) d (nI i) (st h K m)) (fun i => stB (K 18) (K 19) d i = false) nsm _ (fun n i hi hI => ?_) (fun n hI => ?_) nsm fuel 0 (by omega) (by have : fuel = 1000 := rfl; omega) rfl
  · show B_X7_hasStorm_2 (L_X7_hasStorm_2 n) (some 16) d (nI i) (st h K m) = _ ∨ (_ ∧ B_X7_hasStorm_2 (L_X7_hasStorm_2 n) (some 16) d (nI i) (st h K m) = _)
    unfold B_X7_hasStorm_2
    rw [g16 F, hc, if_neg (nI_ge hi (by omega)), if_neg (show ¬ (20 : Int32) ≤ nI i from nI_ge (b := 20) (by omega) (by decide)), r16_2 F, d18 F (by omega)]
    unfold B_X7_hasStorm_38
    by_cases h1 : d < K 18 i
    · rw [if_pos h1, x_bnd, nIs]
      refine Or.inr ⟨?_, rfl⟩
      unfold stB
      rw [hI, Bool.false_or, decide_eq_false]
      rintro ⟨z, -⟩
      rw [i_lt] at h1; rw [i_le] at z; omega
    · rw [if_neg h1, r16_3 F, d19 F (by omega)]
      by_cases h2 : K 19 i < d
      · rw [if_pos h2, x_bnd, nIs]
        refine Or.inr ⟨?_, rfl⟩
        unfold stB
        rw [hI, Bool.false_or, decide_eq_false]
        rintro ⟨-, z⟩
        rw [i_lt] at h2; rw [i_le] at z; omega
      · rw [if_neg h2]
        refine Or.inl ?_
        have e1 : stB (K 18) (K 19) d (i + 1) = true := by
          unfold stB
          rw [hI, Bool.false_or, decide_eq_true]
          exact ⟨by rwa [i_nlt] at h1, by rwa [i_nlt] at h2⟩
        have mono : ∀ q, stB (K 18) (K 19) d (i + 1 + q) = true := by
          intro q
          induction q with
          | zero => exact e1
          | succ q ih => show (stB _ _ d (i + 1 + q) || _) = true; rw [ih]; rfl
        have e2 := mono (nsm - (i + 1))
        rw [show i + 1 + (nsm - (i + 1)) = nsm by omega] at e2
        rw [e2, if_pos rfl, rtZ_1]
  · show B_X7_hasStorm_2 (L_X7_hasStorm_2 n) (some 16) d (nI nsm) (st h K m) = _
    unfold B_X7_hasStorm_2
    rw [g16 F, hc, if_pos (nI_le (Nat.le_refl _) (by omega)), hI, rtZ_0]
    rfl
/-! stations in the model -/
def lsp (p : Nat → Prop) [DecidablePred p] : Nat → Option Nat
  | 0 => none
  | n + 1 => if p n then some n else lsp p n
theorem lsp_some {p : Nat → Prop} [DecidablePred p] {n k : Nat} (h : lsp p n = some k) : k < n ∧ p k := by
  induction n with
  | zero => cases h
  | succ n ih =>
    unfold lsp at h
    by_cases e : p n
    · rw [if_pos e] at h; cases h; exact ⟨by omega, e⟩
    · rw [if_neg e] at h; have := ih h; exact ⟨by omega, this.2⟩
theorem lsp_none {p : Nat → Prop} [DecidablePred p] {n : Nat} (h : lsp p n = none) : ∀ k, k < n → ¬ p k := by
  induction n with
  | zero => intro k hk; omega
  | succ n ih =>
    unfold lsp at h
    by_cases e : p n
    · rw [if_pos e] at h; cases h
    · rw [if_neg e] at h
      intro k hk
      by_cases q : k = n
      · rw [q]; exact e
      · exact ih h k (by omega)
/-! lists of codes -/
theorem count_map {f : Nat → Nat} {n a : Nat} : ((List.range (n + 1)).map f).count a = ((List.range n).map f).count a + if f n = a then 1 else 0 := by
  rw [List.range_succ, List.map_append, List.count_append]
  congr 1
  show [f n].count a = _
  rw [List.count_singleton]
  by_cases h : f n = a
  · simp [h]
  · simp [h]
theorem count_upd {f : Nat → Nat} {n k v a : Nat} (hk1 : k < n) : ((List.range n).map (fun j => if j = k then v else f j)).count a + (if f k = a then 1 else 0) = ((List.range n).map f).count a + if v = a then 1 else 0 := by
  induction n with
  | zero => omega
  | succ n ih =>
    rw [count_map, count_map]
    by_cases h : k = n
    · subst h
      rw [if_pos rfl]
      have : (List.range k).map (fun j => if j = k then v else f j) = (List.range k).map f := by
        apply List.map_congr_left
        intro j hj
        rw [List.mem_range] at hj
        rw [if_neg (by omega)]
      rw [this]; omega
    · have := ih (by omega)
      rw [if_neg (show ¬ n = k from fun z => h z.symm)]; omega
/-- the last goes to the place of one that is taken out -/
theorem perm_out {f : Nat → Nat} {n k : Nat} (hk1 : k < n + 1) : ((List.range (n + 1)).map f).Perm (f k :: (List.range n).map fun j => if j = k then f n else f j) := by
  rw [List.perm_iff_count]
  intro a
  rw [count_map, List.count_cons]
  by_cases h : k < n
  · have := count_upd (f := f) (n := n) (k := k) (v := f n) (a := a) h
    by_cases e : f k = a
    · simp only [e, beq_self_eq_true, if_true] at this ⊢; omega
    · simp only [e, beq_iff_eq, if_false] at this ⊢; omega
  · have e : k = n := by omega
    subst e
    have : (List.range k).map (fun j => if j = k then f k else f j) = (List.range k).map f := by
      apply List.map_congr_left
      intro j hj
      rw [List.mem_range] at hj
      rw [if_neg (by omega)]
    rw [this]
    simp only [beq_iff_eq]
theorem filter_no {L : List Nat} {x : Nat} (h : x ∉ L) : L.filter (fun y => decide (x ≤ y)) = L.filter (fun y => decide (x + 1 ≤ y)) := by
  apply List.filter_congr
  intro y hy
  have : y ≠ x := fun e => h (by rw [← e]; exact hy)
  simp only [decide_eq_decide]; omega
theorem filter_yes {L : List Nat} {x : Nat} (hd : L.Nodup) (h : x ∈ L) : (L.filter (fun y => decide (x ≤ y))).Perm (x :: L.filter (fun y => decide (x + 1 ≤ y))) := by
  induction L with
  | nil => cases h
  | cons a L ih =>
    rw [List.nodup_cons] at hd
    by_cases e : a = x
    · subst e
      rw [List.filter_cons, List.filter_cons, if_pos (by simp), if_neg (by simp), filter_no hd.1]
    · have hx : x ∈ L := by
        rcases List.mem_cons.mp h with z | z
        · exact absurd z.symm e
        · exact z
      rw [List.filter_cons, List.filter_cons]
      by_cases hxa : x ≤ a
      · rw [if_pos (by simpa using hxa), if_pos (by simp; omega)]
        exact ((ih hd.2 hx).cons a).trans (List.Perm.swap x a _)
      · rw [if_neg (by simpa using hxa), if_neg (by simp; omega)]
        exact ih hd.2 hx
theorem nodup_inc {cd : Nat → Nat} {n : Nat} (h : ∀ i j, i < j → j < n → cd i < cd j) : ((List.range n).map cd).Nodup := by
  rw [List.Nodup, List.pairwise_map]
  refine List.Pairwise.imp_of_mem ?_ (List.pairwise_lt_range (n := n))
  intro a b _ hb hab
  have := h a b hab (List.mem_range.mp hb)
  omega
/-- how many codes of a rising row are below T -/
def fcn (cd : Nat → Nat) (T : Nat) : Nat → Nat
  | 0 => 0
  | n + 1 => if cd n < T then n + 1 else fcn cd T n
theorem fcn_le {cd : Nat → Nat} {T n : Nat} : fcn cd T n ≤ n := by
  induction n with
  | zero => exact Nat.le_refl _
  | succ n ih => unfold fcn; split <;> omega
theorem fcn_iff {cd : Nat → Nat} {T n : Nat} (h : ∀ i j, i < j → j < n → cd i < cd j) {i : Nat} (hi : i < n) : i < fcn cd T n ↔ cd i < T := by
  induction n with
  | zero => omega
  | succ n ih =>
    unfold fcn
    by_cases e : cd n < T
    · rw [if_pos e]
      refine ⟨fun _ => ?_, fun _ => hi⟩
      by_cases q : i = n
      · rw [q]; exact e
      · have := h i n (by omega) (by omega); omega
    · rw [if_neg e]
      by_cases q : i = n
      · subst q
        have := fcn_le (cd := cd) (T := T) (n := i)
        exact ⟨fun z => by omega, fun z => absurd z e⟩
      · exact ih (fun i j h1 h2 => h i j h1 (by omega)) (by omega)
theorem fcn_eq {cd : Nat → Nat} {T n q : Nat} (h : ∀ i j, i < j → j < n → cd i < cd j) (hq : q ≤ n) (h1 : ∀ i, i < q → cd i < T) (h2 : q < n → T ≤ cd q) : fcn cd T n = q := by
  by_cases a : fcn cd T n < q
  · have := (fcn_iff (T := T) h (i := fcn cd T n) (by omega)).mpr (h1 _ a); omega
  · by_cases b : q < fcn cd T n
    · have h3 := fcn_le (cd := cd) (T := T) (n := n)
      have := (fcn_iff (T := T) h (i := q) (by omega)).mp b
      have := h2 (by omega); omega
    · omega
theorem filter_drop {cd : Nat → Nat} {T n : Nat} (h : ∀ i j, i < j → j < n → cd i < cd j) : ((List.range n).map cd).filter (fun y => decide (T ≤ y)) = (List.range (n - fcn cd T n)).map fun i => cd (i + fcn cd T n) := by
  induction n with
  | zero => rfl
  | succ n ih =>
    rw [List.range_succ, List.map_append, List.filter_append]
    unfold fcn
    by_cases e : cd n < T
    · rw [if_pos e, Nat.sub_self]
      have e1 : ((List.range n).map cd).filter (fun y => decide (T ≤ y)) = [] := by
        rw [List.filter_eq_nil_iff]
        intro y hy
        obtain ⟨i, hi, rfl⟩ := List.mem_map.mp hy
        have := h i n (List.mem_range.mp hi) (by omega)
        simp; omega
      rw [e1]
      simp; omega
    · rw [if_neg e, ih (fun i j h1 h2 => h i j h1 (by omega))]
      have hle := fcn_le (cd := cd) (T := T) (n := n)
      rw [show n + 1 - fcn cd T n = (n - fcn cd T n) + 1 by omega, List.range_succ, List.map_append]
      congr 1
      have hT : T ≤ cd n := by omega
      simp [hT, show n - fcn cd T n + fcn cd T n = n by omega]
