/-! the law's flag is the class's -/
theorem nby_no {by1 : Nat → Int32} {b : Int32} {r n : Nat} (h : ∀ j, r < j → j < n → by1 j ≠ b) : nby by1 b r n = none := by
  cases q : nby by1 b r n with
  | none => rfl
  | some k =>
    obtain ⟨h1, h2, h3⟩ := nby_some q
    exact absurd h3 (h k h1 h2)
theorem nby_hit {by1 : Nat → Int32} {b : Int32} {r n i : Nat} (h1 : r < i) (h2 : i < n) (h3 : by1 i = b) (h4 : ∀ j, r < j → j < i → by1 j ≠ b) : nby by1 b r n = some i := by
  induction n with
  | zero => omega
  | succ n ih =>
    unfold nby
    by_cases e : i = n
    · subst e
      rw [nby_no h4]
      exact if_pos ⟨h1, h3⟩
    · rw [ih (by omega)]
theorem lby_no {by1 : Nat → Int32} {b : Int32} {n : Nat} (h : ∀ j, j < n → by1 j ≠ b) : lby by1 b n = none := lby_0 h
theorem i_cancel (p q k : Int32) : p - k - (q - k) = p - q := by
  rw [Int32.sub_eq_add_neg (p - k), Int32.neg_sub, ← i_add_sub, Int32.sub_add_cancel]
theorem vI_toInt {x : Nat} (hx : x < 2 ^ 30) : (nI x - 50).toInt = (x : Int) - 50 := pk_sub_toInt (b := 50) hx (by decide)
theorem vI_sub {x y : Nat} (hx : x < 2 ^ 30) (hy : y < 2 ^ 30) : (nI x - 50 - (nI y - 50)).toInt = (x : Int) - y := by
  rw [i_cancel, pk_sub_toInt hx hy]
/-- the law's way to tell a spike -/
def spl (b v v1 v2 : Int32) : Int32 := if b < v - (if v1 ≤ v2 then v2 else v1) then 1 else if (if v2 ≤ v1 then v2 else v1) - v ≤ b then 0 else 1
theorem spl_spk {b x x1 x2 : Nat} (hb : b ≤ 1000) (hx : x < 2 ^ 30) (h1 : x1 < 2 ^ 30) (h2 : x2 < 2 ^ 30) : spl (nI b) (nI x - 50) (nI x1 - 50) (nI x2 - 50) = spk (nI b) (nI x - 50 - (nI x1 - 50)) (nI x - 50 - (nI x2 - 50)) := by
  have hbi : (nI b).toInt = (b : Int) := nI_toInt (by omega)
  have hnb : (-(nI b)).toInt = -(b : Int) := by
    have e : -(nI b) = nI 0 - nI b := by rw [show nI 0 = 0 from rfl, Int32.zero_sub]
    rw [e, pk_sub_toInt (by omega) (by omega)]; omega
  have e12 : (nI x1 - 50 ≤ nI x2 - 50) = (x1 ≤ x2) := by rw [i_le, vI_toInt h1, vI_toInt h2]; exact propext (by omega)
  have e21 : (nI x2 - 50 ≤ nI x1 - 50) = (x2 ≤ x1) := by rw [i_le, vI_toInt h1, vI_toInt h2]; exact propext (by omega)
  unfold spl spk s52
  simp only [e12, e21]
  by_cases q : x1 ≤ x2
  · by_cases q2 : x2 ≤ x1
    · simp only [if_pos q, if_pos q2, i_lt, i_le, hbi, hnb, vI_sub hx h1, vI_sub hx h2, vI_sub h1 hx, vI_sub h2 hx]
      (repeat' split) <;> first | rfl | omega
    · simp only [if_pos q, if_neg q2, i_lt, i_le, hbi, hnb, vI_sub hx h1, vI_sub hx h2, vI_sub h1 hx, vI_sub h2 hx]
      (repeat' split) <;> first | rfl | omega
  · by_cases q2 : x2 ≤ x1
    · simp only [if_neg q, if_pos q2, i_lt, i_le, hbi, hnb, vI_sub hx h1, vI_sub hx h2, vI_sub h1 hx, vI_sub h2 hx]
      (repeat' split) <;> first | rfl | omega
    · omega
theorem cor_sub {g : Nat → Nat → Int32} {r a : Nat} (h : g 43 a = g 43 r) : cor g r - cor g a = g 42 r - g 42 a := by
  unfold cor
  rw [h]
  split
  · rfl
  · rw [i_cancel]
theorem s_lflag {h : MH} {K g M : Nat → Nat → Int32} {nb nr ns nsm nst d r : Nat} (F : Fix h) (A : Abs g M nb nr ns nsm nst d) (hnb : nb ≤ 8) (hn : nr ≤ 63) (hd : d ≤ 1000) (hr1 : r < nr) : M_L_flag (nI r) (some 31) (some 32) (some 37) (st h K M) = rtI (flg g nr r) (st h K M) := by
  have LR := A.2.2.2.2.1
  have h5 : M 37 5 = nI nr := A.2.2.2.2.2.2.2.1.2.2.2.2.1
  obtain ⟨h7, bb, hbb, h29⟩ := A.2.2.2.2.2.2.2.2.1
  obtain ⟨dy, c, e, x, y1, y2, y3, y4, y5⟩ := LR.un hnb hr1
  have hx30 : ∀ z, z ≤ V0 d + 100 → z < 2 ^ 30 := by intro z hz; unfold V0 at hz; omega
  have ew : (nI e - 1 = (-1 : Int32)) = (e = 0) := by
    cases e with
    | zero => exact propext ⟨fun _ => rfl, fun _ => by decide⟩
    | succ e => rw [nI_pred, nI_nm1 (by omega)]; exact propext ⟨fun z => z.elim, fun z => by omega⟩
  have hW16 : ∀ i, i < nr → ∀ k, rdI (st h K M) (some 32) 20 (nI i) (fun z => rmI z 16 k) = k (nI (bn (g 43 i))) := by
    intro i hi k
    obtain ⟨_, _, e', _, z1, _, z3, _, z5⟩ := LR.un hnb hi
    rw [d32 F (by omega), z3.2.2, rm16 (by omega), show (bn (g 43 i) + 16 * e') % 16 = bn (g 43 i) by omega]
  have hWeq : ∀ i, i < nr → (nI (bn (g 43 i)) = nI (bn (g 43 r))) = (g 43 i = g 43 r) := by
    intro i hi
    obtain ⟨_, _, _, _, _, _, _, z4, z5⟩ := LR.un hnb hi
    rw [nI_inj (by omega) (by omega)]
    exact propext (isb_eq z4 y4 hnb)
  -- the end
  have h107 : ∀ (o : Option Nat) (i : Nat), (∀ a, o = some a → a < r ∧ g 43 a = g 43 r) → (i = nr ∨ (i < nr ∧ g 43 i = g 43 r)) → B_L_flag_107 (nI r) (some 31) (some 37) (oI o) (nI i) (st h K M) = rtI (match o, (if i = nr then none else some i) with
      | some a, some b => spk (g 22 29) (cor g r - cor g a) (cor g r - cor g b)
      | _, _ => 0) (st h K M) := by
    intro o i ho hi
    unfold B_L_flag_107
    cases o with
    | none => rw [oI_n, if_pos (by decide)]
    | some a =>
      obtain ⟨a1, a2⟩ := ho a rfl
      rw [oI_s, if_neg (show ¬ nI a < 0 from nI_nlt (b := 0) (Nat.zero_le _) (by omega)), rq5 F, h5]
      rcases hi with rfl | ⟨i1, i2⟩
      · rw [if_neg (fun z => z rfl), if_pos rfl]
      · obtain ⟨_, _, _, xa, za, zb, zc, _⟩ := LR.un hnb (show a < nr by omega)
        obtain ⟨_, _, _, xi, va, vb, vc, _⟩ := LR.un hnb i1
        have k1 := hx30 _ y1.2.2.2
        have k2 := hx30 _ za.2.2.2
        have k3 := hx30 _ va.2.2.2
        have hva : ∀ k, rdI (st h K M) (some 31) 20 (nI a) k = k (nI xa - 50) := fun k => by rw [d31 F (by omega), zc.2.1, zb.2.2.1]
        have hvi : ∀ k, rdI (st h K M) (some 31) 20 (nI i) k = k (nI xi - 50) := fun k => by rw [d31 F (by omega), vc.2.1, vb.2.2.1]
        have hvr : ∀ k, rdI (st h K M) (some 31) 20 (nI r) k = k (nI x - 50) := fun k => by rw [d31 F (by omega), y3.2.1, y2.2.2.1]
        have fin : rtI (spl (nI bb) (nI x - 50) (nI xa - 50) (nI xi - 50)) (st h K M) = rtI (spk (g 22 29) (cor g r - cor g a) (cor g r - cor g i)) (st h K M) := by
          rw [spl_spk hbb k1 k2 k3, cor_sub a2, cor_sub i2, h29, y2.2.2.1, zb.2.2.1, vb.2.2.1]
        have h168 : ∀ p q, B_L_flag_168 (nI r) (some 31) (some 37) p q (st h K M) = rtI (if nI bb < nI x - 50 - p then 1 else if q - (nI x - 50) ≤ nI bb then 0 else 1) (st h K M) := by
          intro p q
          unfold B_L_flag_168 B_L_flag_196
          rw [hvr, x_bnd, rq7 F, h7, h29, hvr, x_bnd, rq7 F, h7, h29]
          split
          · rfl
          · split <;> rfl
        have h144 : ∀ p, B_L_flag_144 (nI r) (some 31) (some 37) (nI a) (nI i) p (st h K M) = rtI (if nI bb < nI x - 50 - p then 1 else if (if nI xi - 50 ≤ nI xa - 50 then nI xi - 50 else nI xa - 50) - (nI x - 50) ≤ nI bb then 0 else 1) (st h K M) := by
          intro p
          unfold B_L_flag_144
          rw [hva, hvi, hvi, hva, h168, h168]
          by_cases q : nI xi - 50 ≤ nI xa - 50
          · rw [if_pos q, if_pos q]
          · rw [if_neg q, if_neg q]
        rw [if_pos (show nI i ≠ nI nr by intro z; rw [nI_inj (by omega) (by omega)] at z; omega), if_neg (show ¬ i = nr by omega), hva, hvi, hvi, hva, h144, h144]
        refine Eq.trans ?_ fin
        unfold spl
        by_cases q : nI xa - 50 ≤ nI xi - 50
        · rw [if_pos q, if_pos q]
        · rw [if_neg q, if_neg q]
  -- upwards
  have h77 : ∀ (o : Option Nat), (∀ a, o = some a → a < r ∧ g 43 a = g 43 r) → L_L_flag_77 fuel (nI r) (some 31) (some 32) (some 37) (oI o) (nI (r + 1)) (st h K M) = rtI (match o, nby (g 43) (g 43 r) r nr with
      | some a, some b => spk (g 22 29) (cor g r - cor g a) (cor g r - cor g b)
      | _, _ => 0) (st h K M) := by
    intro o ho
    refine zlp (G := fun n i => L_L_flag_77 n (nI r) (some 31) (some 32) (some 37) (oI o) (nI i) (st h K M)) (fun i => r < i ∧ ∀ j, r < j → j < i → g 43 j ≠ g 43 r) nr _ (fun n i hi I => ?_) (fun n I => ?_) (nr - (r + 1)) fuel (r + 1) (by omega) (by have : fuel = 1000 := rfl; omega) ⟨by omega, fun j h1 h2 => by omega⟩
    · show B_L_flag_77 (L_L_flag_77 n) (nI r) (some 31) (some 32) (some 37) (oI o) (nI i) (st h K M) = _ ∨ (_ ∧ B_L_flag_77 (L_L_flag_77 n) (nI r) (some 31) (some 32) (some 37) (oI o) (nI i) (st h K M) = _)
      unfold B_L_flag_77
      rw [rq5 F, h5, if_neg (nI_ge hi (by omega)), hW16 i hi, hW16 r hr1]
      by_cases q : g 43 i = g 43 r
      · rw [if_pos (by rw [hWeq i hi]; exact q), h107 o i ho (Or.inr ⟨hi, q⟩), nby_hit I.1 hi q I.2, if_neg (show ¬ i = nr by omega)]
        exact Or.inl rfl
      · rw [if_neg (by rw [hWeq i hi]; exact q), x_bnd, nIs]
        refine Or.inr ⟨⟨by omega, fun j h1 h2 => ?_⟩, rfl⟩
        by_cases e2 : j = i
        · rw [e2]; exact q
        · exact I.2 j h1 (by omega)
    · show B_L_flag_77 (L_L_flag_77 n) (nI r) (some 31) (some 32) (some 37) (oI o) (nI nr) (st h K M) = _
      unfold B_L_flag_77
      rw [rq5 F, h5, if_pos (nI_le (Nat.le_refl _) (by omega)), h107 o nr ho (Or.inl rfl), nby_no I.2, if_pos rfl]
  -- downwards
  have h50 : ∀ n k, n ≤ r → n < k → L_L_flag_50 k (nI r) (some 31) (some 32) (some 37) (nI n - 1) (nI (r + 1)) (st h K M) = L_L_flag_77 fuel (nI r) (some 31) (some 32) (some 37) (oI (lby (g 43) (g 43 r) n)) (nI (r + 1)) (st h K M) := by
    intro n
    induction n with
    | zero =>
      intro k _ hk1
      obtain ⟨k, rfl⟩ : ∃ q, k = q + 1 := ⟨k - 1, by omega⟩
      show B_L_flag_50 (L_L_flag_50 k) (nI r) (some 31) (some 32) (some 37) (nI 0 - 1) (nI (r + 1)) (st h K M) = _
      unfold B_L_flag_50
      rw [if_pos (by decide)]
      rfl
    | succ n ih =>
      intro k hn1 hk1
      obtain ⟨k, rfl⟩ : ∃ q, k = q + 1 := ⟨k - 1, by omega⟩
      show B_L_flag_50 (L_L_flag_50 k) (nI r) (some 31) (some 32) (some 37) (nI (n + 1) - 1) (nI (r + 1)) (st h K M) = _
      unfold B_L_flag_50
      rw [nI_pred, if_neg (show ¬ nI n < 0 from nI_nlt (b := 0) (Nat.zero_le _) (by omega)), hW16 n (by omega), hW16 r hr1]
      by_cases q : g 43 n = g 43 r
      · rw [if_pos (by rw [hWeq n (by omega)]; exact q), show lby (g 43) (g 43 r) (n + 1) = some n from if_pos q, oI_s]
      · rw [if_neg (by rw [hWeq n (by omega)]; exact q), show lby (g 43) (g 43 r) (n + 1) = lby (g 43) (g 43 r) n from if_neg q, x_bnd, ← Int32.sub_eq_add_neg]
        exact ih k (by omega) (by omega)
  have h18 : B_L_flag_18 (nI r) (some 32) (st h K M) = rtI (if e = 0 then 0 else nI e - 1) (st h K M) := by
    unfold B_L_flag_18
    rw [d32 F (by omega), y3.2.2, dv16 (by omega), d32 F (by omega), y3.2.2, dv16 (by omega), show (bn (g 43 r) + 16 * e) / 16 = e by omega, x_bnd]
    by_cases q : e = 0
    · rw [if_pos (by rw [q]; decide), if_pos q]
    · rw [if_neg (nI_nle (by omega) (by omega)), if_neg q]
  unfold M_L_flag flg
  rw [d32 F (by omega), y3.2.2, dv16 (by omega), show (bn (g 43 r) + 16 * e) / 16 = e by omega, y2.2.2.2, hW16 r hr1, h18]
  by_cases q : e = 0
  · rw [if_neg (show ¬ 0 < nI e by rw [q]; decide), if_neg (show ¬ nI e - 1 ≠ -1 by rw [ne_eq, ew]; exact fun z => z q), if_pos q]
    by_cases q2 : g 43 r = -1
    · rw [q2, bn_m1, if_neg (show ¬ nI 0 ≠ 0 from fun z => z rfl), if_pos rfl]
    · have hb0 : bn (g 43 r) ≠ 0 := by
        rcases y4 with z | ⟨f, hf, z⟩
        · exact absurd z q2
        · rw [z, bn_f (by omega)]; omega
      rw [if_pos (show nI (bn (g 43 r)) ≠ 0 from fun z => hb0 ((nI_eq (by omega) (by omega)).mp (show nI (bn (g 43 r)) = nI 0 from z))), if_neg q2, x_bnd, x_bnd, nIs, h50 r fuel (Nat.le_refl _) (by have : fuel = 1000 := rfl; omega)]
      exact h77 _ (fun a z => ⟨(lby_some z).1, (lby_some z).2.1⟩)
  · rw [if_pos (show 0 < nI e from nI_lt (a := 0) (by omega) (by omega)), if_pos (show nI e - 1 ≠ -1 by rw [ne_eq, ew]; exact q), if_neg q]
