/-! the layout grows -/
def Ext (h h1 : MH) : Prop := hn h ≤ hn h1 ∧ ∀ a, a ≤ hn h → hk h1 a = hk h a ∧ hl h1 a = hl h a
theorem Ext.rf {h : MH} : Ext h h := ⟨Nat.le_refl _, fun a _ => ⟨rfl, rfl⟩⟩
theorem Ext.tr {h h1 h2 : MH} (E : Ext h h1) (E2 : Ext h1 h2) : Ext h h2 := ⟨Nat.le_trans E.1 E2.1, fun a ha => ⟨((E2.2 a (Nat.le_trans ha E.1)).1).trans (E.2 a ha).1, ((E2.2 a (Nat.le_trans ha E.1)).2).trans (E.2 a ha).2⟩⟩
theorem Ext.alc {h : MH} {k n : Nat} : Ext h (alc h k n) := ⟨Nat.le_succ _, fun a ha => by rw [hk_alc, hl_alc, if_neg (by omega), if_neg (by omega)]; exact ⟨rfl, rfl⟩⟩
theorem Ext.sR {h : MH} {a j : Nat} {v : Option Nat} : Ext h (sR h a j v) := ⟨Nat.le_refl _, fun _ _ => ⟨rfl, rfl⟩⟩
theorem Row.ext {h h1 : MH} {a len kd n : Nat} (R : Row h a len kd n) (F : Fix h) (E : Ext h h1) (e : ∀ j, hr h1 a j = hr h a j) (hkd : kd < 40) : Row h1 a len kd n := by
  refine ⟨fun k hk1 => ?_, fun k h1 h2 => by rw [e]; exact R.2.1 k h1 h2, fun k k' h1 h2 h3 => R.2.2 k k' h1 h2 (by rw [← e, ← e]; exact h3)⟩
  obtain ⟨b, h1, h2, h3⟩ := R.1 k hk1
  refine ⟨b, by rw [e]; exact h1, ?_, h3⟩
  rw [(E.2 b (F.le (by omega))).1]; exact h2
theorem Row.push {h h1 : MH} {a len kd n b : Nat} (R : Row h a len kd n) (F : Fix h) (E : Ext h h1) (e : ∀ j, hr h1 a j = if j = n then some b else hr h a j) (hkd : kd < 40) (hb : hk h1 b = kd) (hb2 : hn h < b) : Row h1 a len kd (n + 1) := by
  have h50 := F.2.2.1
  refine ⟨fun k hk1 => ?_, fun k h1 h2 => by rw [e, if_neg (by omega)]; exact R.2.1 k (by omega) h2, fun k k' h1 h2 h3 => ?_⟩
  · rw [e]
    by_cases hn1 : k = n
    · rw [if_pos hn1]; exact ⟨b, rfl, hb, by omega⟩
    · rw [if_neg hn1]
      obtain ⟨c, h1, h2, h3⟩ := R.1 k (by omega)
      exact ⟨c, h1, by rw [(E.2 c (F.le (by omega))).1]; exact h2, h3⟩
  · rw [e, e] at h3
    have fr : ∀ q, q < n → hr h a q ≠ some b := by
      intro q hq z
      obtain ⟨c, h1, h2, -⟩ := R.1 q hq
      rw [h1] at z; cases z
      have := F.le (a := b) (by omega)
      omega
    by_cases hn1 : k = n
    · by_cases hn2 : k' = n
      · omega
      · rw [if_pos hn1, if_neg hn2] at h3
        exact absurd h3.symm (fr k' (by omega))
    · by_cases hn2 : k' = n
      · rw [if_neg hn1, if_pos hn2] at h3
        exact absurd h3 (fr k (by omega))
      · rw [if_neg hn1, if_neg hn2] at h3
        exact R.2.2 k k' (by omega) (by omega) h3
theorem RowS.ext {h h1 : MH} {ns : Nat} (R : RowS h ns) (Q : Row h 20 4 6 ns) (F : Fix h) (E : Ext h h1) (e : ∀ j, hr h1 20 j = hr h 20 j) (e2 : ∀ s j, s < ns → hr h1 (se h s) j = hr h (se h s) j) : RowS h1 ns := by
  have se1 : ∀ s, se h1 s = se h s := fun s => by unfold se; rw [e]
  have ca1 : ∀ s, s < ns → ca h1 s = ca h s := fun s hs => by unfold ca; rw [se1, e2 s 1 hs]
  have co1 : ∀ s, s < ns → co h1 s = co h s := fun s hs => by unfold co; rw [se1, e2 s 2 hs]
  refine ⟨fun s hs => ?_, fun s s' h1 h2 h3 => R.2.1 s s' h1 h2 (by rw [← ca1 s h1, ← ca1 s' h2]; exact h3), fun s s' h1 h2 => by rw [ca1 s h1, co1 s' h2]; exact R.2.2 s s' h1 h2⟩
  obtain ⟨⟨q1, q2, q3, q4⟩, q5, q6, q7, q8⟩ := R.1 s hs
  have l1 := E.2 _ (F.le (a := ca h s) (by omega))
  have l2 := E.2 _ (F.le (a := co h s) (by omega))
  rw [ca1 s hs, co1 s hs, se1, e2 s 1 hs, e2 s 2 hs]
  exact ⟨⟨q1, by rw [l1.1]; exact q2, by rw [l1.2]; exact q3, q4⟩, q5, by rw [l2.1]; exact q6, by rw [l2.2]; exact q7, q8⟩
theorem row_bu {h : MH} {n k : Nat} (R : Row h 13 8 0 n) (hk1 : k < n) : hr h 13 k = some (bu h k) ∧ hk h (bu h k) = 0 ∧ 37 < bu h k := R.at hk1
theorem row_rd {h : MH} {n k : Nat} (R : Row h 15 100 4 n) (hk1 : k < n) : hr h 15 k = some (rd h k) ∧ hk h (rd h k) = 4 ∧ 37 < rd h k := R.at hk1
theorem row_se {h : MH} {n k : Nat} (R : Row h 20 4 6 n) (hk1 : k < n) : hr h 20 k = some (se h k) ∧ hk h (se h k) = 6 ∧ 37 < se h k := R.at hk1
theorem row_pa {h : MH} {n k : Nat} (R : Row h 21 6 3 n) (hk1 : k < n) : hr h 21 k = some (pa h k) ∧ hk h (pa h k) = 3 ∧ 37 < pa h k := R.at hk1
theorem row_bui {h : MH} {n k k' : Nat} (R : Row h 13 8 0 n) (hk1 : k < n) (hk2 : k' < n) (e : bu h k = bu h k') : k = k' := R.2.2 k k' hk1 hk2 (by rw [(row_bu R hk1).1, (row_bu R hk2).1, e])
theorem row_rdi {h : MH} {n k k' : Nat} (R : Row h 15 100 4 n) (hk1 : k < n) (hk2 : k' < n) (e : rd h k = rd h k') : k = k' := R.2.2 k k' hk1 hk2 (by rw [(row_rd R hk1).1, (row_rd R hk2).1, e])
theorem row_sei {h : MH} {n k k' : Nat} (R : Row h 20 4 6 n) (hk1 : k < n) (hk2 : k' < n) (e : se h k = se h k') : k = k' := R.2.2 k k' hk1 hk2 (by rw [(row_se R hk1).1, (row_se R hk2).1, e])
/-! readings by one maker -/
theorem lby_some {by1 : Nat → Int32} {b : Int32} {n l : Nat} (h : lby by1 b n = some l) : l < n ∧ by1 l = b ∧ ∀ k, l < k → k < n → by1 k ≠ b := by
  induction n with
  | zero => cases h
  | succ n ih =>
    unfold lby at h
    by_cases e : by1 n = b
    · rw [if_pos e] at h; cases h
      exact ⟨by omega, e, fun k h1 h2 => by omega⟩
    · rw [if_neg e] at h
      obtain ⟨h1, h2, h3⟩ := ih h
      refine ⟨by omega, h2, fun k h4 h5 => ?_⟩
      by_cases q : k = n
      · rw [q]; exact e
      · exact h3 k h4 (by omega)
theorem lby_none {by1 : Nat → Int32} {b : Int32} {n : Nat} (h : lby by1 b n = none) : ∀ k, k < n → by1 k ≠ b := by
  induction n with
  | zero => intro k hk; omega
  | succ n ih =>
    unfold lby at h
    by_cases e : by1 n = b
    · rw [if_pos e] at h; cases h
    · rw [if_neg e] at h
      intro k hk
      by_cases q : k = n
      · rw [q]; exact e
      · exact ih h k (by omega)
theorem lby_congr {by1 by2 : Nat → Int32} {b : Int32} {n : Nat} (h : ∀ k, k < n → by1 k = by2 k) : lby by1 b n = lby by2 b n := by
  induction n with
  | zero => rfl
  | succ n ih =>
    unfold lby
    rw [h n (by omega), ih (fun k hk => h k (by omega))]
theorem nby_congr {by1 by2 : Nat → Int32} {b : Int32} {r n : Nat} (h : ∀ k, k < n → by1 k = by2 k) : nby by1 b r n = nby by2 b r n := by
  induction n with
  | zero => rfl
  | succ n ih =>
    unfold nby
    rw [h n (by omega), ih (fun k hk => h k (by omega))]
theorem nby_some {by1 : Nat → Int32} {b : Int32} {r n k : Nat} (h : nby by1 b r n = some k) : r < k ∧ k < n ∧ by1 k = b := by
  induction n with
  | zero => cases h
  | succ n ih =>
    unfold nby at h
    cases hq : nby by1 b r n with
    | some q =>
      rw [hq] at h; cases h
      have := ih hq
      exact ⟨this.1, by omega, this.2.2⟩
    | none =>
      rw [hq] at h
      by_cases e : r < n ∧ by1 n = b
      · simp only [if_pos e] at h; cases h; exact ⟨e.1, by omega, e.2⟩
      · simp only [if_neg e] at h; cases h
theorem nby_none {by1 : Nat → Int32} {b : Int32} {r n : Nat} (h : nby by1 b r n = none) : ∀ k, r < k → k < n → by1 k ≠ b := by
  induction n with
  | zero => intro k _ hk; omega
  | succ n ih =>
    unfold nby at h
    cases hq : nby by1 b r n with
    | some q => rw [hq] at h; cases h
    | none =>
      rw [hq] at h
      by_cases e : r < n ∧ by1 n = b
      · simp only [if_pos e] at h; cases h
      · intro k h1 h2
        by_cases q : k = n
        · subst q; exact fun z => e ⟨h1, z⟩
        · exact ih hq k h1 (by omega)
theorem cnt_congr {by1 by2 : Nat → Int32} {b : Int32} {n : Nat} (h : ∀ k, k < n → by1 k = by2 k) : cnt by1 b n = cnt by2 b n :=
  fo_congr fun i hi t => by rw [h i hi]
/-! the model makes a reading -/
def readM (m : Nat → Nat → Int32) (nr : Nat) (c b v : Int32) : Nat → Nat → Int32 := upw (upw (upw (upw (upw (upw m 40 (upd (m 40) nr (m 22 1))) 41 (upd (m 41) nr c)) 42 (upd (m 42) nr v)) 43 (upd (m 43) nr b)) 44 (upd (m 44) nr (-1))) 22 (upd (m 22) 23 (nI nr + 1))
